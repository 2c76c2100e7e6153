/-! PURE: a split is taken -/
def RowRel (n r : Nat) (A D : Mm) : Prop := r ≤ 8 ∧ A 4 0 = nI r ∧ D 1 60 = nI r ∧ (∀ i, i < 8 → D 1 (61 + i) = A 5 i) ∧ ∀ i, i < r → ∃ p, 1 ≤ p ∧ p ≤ n ∧ A 5 i = nI p
def SorRel (n s : Nat) (A D : Mm) : Prop := s ≤ 8 ∧ A 4 1 = nI s ∧ D 1 70 = nI s ∧ (∀ i, i < 32 → D 1 (71 + i) = A 6 i) ∧ ∀ k, k < s → ∃ fl fr c at9 : Nat, fl ≤ 1 ∧ fr ≤ 9 ∧ 1 ≤ c ∧ c ≤ n ∧ at9 ≤ 9 ∧ A 6 (4 * k) = nI fl ∧ A 6 (4 * k + 1) = nI fr ∧ A 6 (4 * k + 2) = nI c ∧ A 6 (4 * k + 3) = nI at9
def PFr (A0 D0 A D : Mm) : Prop := (∀ c, c < 4 ∨ 6 < c → A c = A0 c) ∧ (∀ c, c ≠ 1 → D c = D0 c) ∧ ∀ i, i < 60 → D 1 i = D0 1 i
def cb (x : Nat) : Nat → Nat
  | 0 => 0
  | k + 1 => cb x k + (if x.testBit k then 1 else 0)
theorem cb_le (x : Nat) : ∀ k, cb x k ≤ k
  | 0 => Nat.le_refl _
  | k + 1 => by
    have := cb_le x k
    rw [cb]
    split <;> omega
theorem cb_mono (x k : Nat) : ∀ c, cb x k ≤ cb x (k + c)
  | 0 => Nat.le_refl _
  | c + 1 => by
    have := cb_mono x k c
    rw [← Nat.add_assoc, cb]
    omega
theorem cb8 : ∀ x, x < 256 → cb x 8 = pop x := by decide +kernel
section TAKE
variable {n : Nat} {o : Nat → Nat} {A0 D0 : Mm}
/-- one stop on the class's side -/
theorem t_stopA {A : Mm} {r c : Nat} (h : A 4 0 = nI r) (hr : r < 8) : pX4_addStop 4 (nI c) A = some (1, mset (mset A 5 r (nI c)) 4 0 (nI (r + 1))) := by
  unfold pX4_addStop
  rw [h, if_pos (show nI r < 8 by show nI r < nI 8; rw [lt_nI] <;> omega), ast_nI (by omega) (by omega), Option.bind_some, mset_cell (by omega), h, bnd_eq, show nI r + 1 = nI (r + 1) from nI_add r 1]
theorem t_stopD {D : Mm} {r : Nat} {c : Int32} (h : D 1 60 = nI r) (hr : r < 8) : pX9_stopsAt c D = some (mset (mset D 1 (61 + r) c) 1 60 (nI (r + 1))) := by
  unfold pX9_stopsAt
  rw [show ald D 1 160 60 = some (D 1 60) from ald_nI (i := 60) (by omega) (by omega), h, Option.bind_some, show (61 : Int32) + nI r = nI (61 + r) from nI_add 61 r, ast_nI (by omega) (by omega), Option.bind_some, show ∀ N : Mm, ald N 1 160 60 = some (N 1 60) from fun N => ald_nI (i := 60) (by omega) (by omega), Option.bind_some, mset_slot (by omega), h, show nI r + 1 = nI (r + 1) from nI_add r 1, show ∀ (N : Mm) (v : Int32), ast N 1 160 60 v = some (mset N 1 60 v) from fun N v => ast_nI (i := 60) (by omega) (by omega), Option.bind_some]
theorem RowRel_add {A D : Mm} {r c : Nat} (h : RowRel n r A D) (hr : r < 8) (h1 : 1 ≤ c) (h2 : c ≤ n) : RowRel n (r + 1) (mset (mset A 5 r (nI c)) 4 0 (nI (r + 1))) (mset (mset D 1 (61 + r) (nI c)) 1 60 (nI (r + 1))) := by
  obtain ⟨a, b, d, e, f⟩ := h
  refine ⟨by omega, mset_same _ _ _ _, mset_same _ _ _ _, fun i hi => ?_, fun i hi => ?_⟩
  · rw [mset_slot (by omega), mset_cell (show 5 ≠ 4 by omega)]
    by_cases c1 : i = r
    · rw [c1, mset_same, mset_same]
    · rw [mset_slot (by omega), mset_slot c1]
      exact e i hi
  · rw [mset_cell (by omega)]
    by_cases c1 : i = r
    · rw [c1, mset_same]
      exact ⟨c, h1, h2, rfl⟩
    · rw [mset_slot c1]
      exact f i (by omega)
theorem SorRel_c {A D A' D' : Mm} {s : Nat} (h : SorRel n s A D) (e1 : A' 4 1 = A 4 1) (e2 : A' 6 = A 6) (e3 : ∀ i, 70 ≤ i → i < 103 → D' 1 i = D 1 i) : SorRel n s A' D' := by
  obtain ⟨a, b, c, d, e⟩ := h
  refine ⟨a, by rw [e1, b], by rw [e3 70 (by omega) (by omega), c], fun i hi => by rw [e3 _ (by omega) (by omega), d i hi, e2], ?_⟩
  rw [e2]
  exact e
theorem RowRel_c {A D A' D' : Mm} {r : Nat} (h : RowRel n r A D) (e1 : A' 4 0 = A 4 0) (e2 : A' 5 = A 5) (e3 : ∀ i, 60 ≤ i → i < 70 → D' 1 i = D 1 i) : RowRel n r A' D' := by
  obtain ⟨a, b, c, d, e⟩ := h
  refine ⟨a, by rw [e1, b], by rw [e3 60 (by omega) (by omega), c], fun i hi => by rw [e3 _ (by omega) (by omega), d i hi, e2], ?_⟩
  rw [e2]
  exact e
theorem t_sendA {A : Mm} {s : Nat} {a b c d : Int32} (h : A 4 1 = nI s) (hs : s < 8) : pX4_addSortie 4 a b c d A = some (1, mset (mset (mset (mset (mset A 6 (4 * s) a) 6 (4 * s + 1) b) 6 (4 * s + 2) c) 6 (4 * s + 3) d) 4 1 (nI (s + 1))) := by
  unfold pX4_addSortie
  rw [h, if_pos (show nI s < 8 by show nI s < nI 8; rw [lt_nI] <;> omega), bnd_eq, show nI s * 4 + 0 = nI (4 * s) by simp (disch := omega) only [bnd_eq, Option.bind_some, lit_nI, nI_add, pk_mul, ald_nI, ast_nI, lt_nI, le_nI, eq_nI, sub_nI, Sum.elim_inl, Sum.elim_inr, if_pos, if_neg, if_true, if_false]; congr 1; omega, show nI s * 4 + 1 = nI (4 * s + 1) by simp (disch := omega) only [bnd_eq, Option.bind_some, lit_nI, nI_add, pk_mul, ald_nI, ast_nI, lt_nI, le_nI, eq_nI, sub_nI, Sum.elim_inl, Sum.elim_inr, if_pos, if_neg, if_true, if_false]; congr 1; omega, show nI s * 4 + 2 = nI (4 * s + 2) by simp (disch := omega) only [bnd_eq, Option.bind_some, lit_nI, nI_add, pk_mul, ald_nI, ast_nI, lt_nI, le_nI, eq_nI, sub_nI, Sum.elim_inl, Sum.elim_inr, if_pos, if_neg, if_true, if_false]; congr 1; omega, show nI s * 4 + 3 = nI (4 * s + 3) by simp (disch := omega) only [bnd_eq, Option.bind_some, lit_nI, nI_add, pk_mul, ald_nI, ast_nI, lt_nI, le_nI, eq_nI, sub_nI, Sum.elim_inl, Sum.elim_inr, if_pos, if_neg, if_true, if_false]; congr 1; omega]
  rw [ast_nI (by omega) (by omega), Option.bind_some, ast_nI (by omega) (by omega), Option.bind_some, ast_nI (by omega) (by omega), Option.bind_some, ast_nI (by omega) (by omega), Option.bind_some, bnd_eq, mset_cell (by omega), mset_cell (by omega), mset_cell (by omega), mset_cell (by omega), h, show nI s + 1 = nI (s + 1) from nI_add s 1]
theorem t_sendD {D : Mm} {s : Nat} {a b c d : Int32} (h : D 1 70 = nI s) (hs : s < 8) : pX9_sends a b c d D = some (mset (mset (mset (mset (mset D 1 (71 + 4 * s) a) 1 (71 + 4 * s + 1) b) 1 (71 + 4 * s + 2) c) 1 (71 + 4 * s + 3) d) 1 70 (nI (s + 1))) := by
  unfold pX9_sends
  rw [show ∀ N : Mm, ald N 1 160 70 = some (N 1 70) from fun N => ald_nI (i := 70) (by omega) (by omega), h, Option.bind_some, bnd_eq, show (71 : Int32) + 4 * nI s = nI (71 + 4 * s) by simp (disch := omega) only [bnd_eq, Option.bind_some, lit_nI, nI_add, pk_mul, ald_nI, ast_nI, lt_nI, le_nI, eq_nI, sub_nI, Sum.elim_inl, Sum.elim_inr, if_pos, if_neg, if_true, if_false], show nI (71 + 4 * s) + 1 = nI (71 + 4 * s + 1) from nI_add _ 1, show nI (71 + 4 * s) + 2 = nI (71 + 4 * s + 2) from nI_add _ 2, show nI (71 + 4 * s) + 3 = nI (71 + 4 * s + 3) from nI_add _ 3]
  rw [ast_nI (by omega) (by omega), Option.bind_some, ast_nI (by omega) (by omega), Option.bind_some, ast_nI (by omega) (by omega), Option.bind_some, ast_nI (by omega) (by omega), Option.bind_some, show ∀ N : Mm, ald N 1 160 70 = some (N 1 70) from fun N => ald_nI (i := 70) (by omega) (by omega), Option.bind_some, mset_slot (by omega), mset_slot (by omega), mset_slot (by omega), mset_slot (by omega), h, show nI s + 1 = nI (s + 1) from nI_add s 1, show ∀ (N : Mm) (v : Int32), ast N 1 160 70 v = some (mset N 1 70 v) from fun N v => ast_nI (i := 70) (by omega) (by omega), Option.bind_some]
theorem SorRel_add {A D : Mm} {s fl fr c at9 : Nat} (h : SorRel n s A D) (hs : s < 8) (h1 : fl ≤ 1) (h2 : fr ≤ 9) (h3 : 1 ≤ c) (h4 : c ≤ n) (h5 : at9 ≤ 9) : SorRel n (s + 1) (mset (mset (mset (mset (mset A 6 (4 * s) (nI fl)) 6 (4 * s + 1) (nI fr)) 6 (4 * s + 2) (nI c)) 6 (4 * s + 3) (nI at9)) 4 1 (nI (s + 1))) (mset (mset (mset (mset (mset D 1 (71 + 4 * s) (nI fl)) 1 (71 + 4 * s + 1) (nI fr)) 1 (71 + 4 * s + 2) (nI c)) 1 (71 + 4 * s + 3) (nI at9)) 1 70 (nI (s + 1))) := by
  obtain ⟨a, b, d, e, f⟩ := h
  refine ⟨by omega, mset_same _ _ _ _, mset_same _ _ _ _, fun i hi => ?_, fun k hk => ?_⟩
  · rw [mset_slot (by omega), mset_cell (show 6 ≠ 4 by omega)]
    by_cases c3 : i = 4 * s + 3
    · rw [c3, show 71 + (4 * s + 3) = 71 + 4 * s + 3 by omega, mset_same, mset_same]
    rw [mset_slot (by omega), mset_slot c3]
    by_cases c2 : i = 4 * s + 2
    · rw [c2, show 71 + (4 * s + 2) = 71 + 4 * s + 2 by omega, mset_same, mset_same]
    rw [mset_slot (by omega), mset_slot c2]
    by_cases c1 : i = 4 * s + 1
    · rw [c1, show 71 + (4 * s + 1) = 71 + 4 * s + 1 by omega, mset_same, mset_same]
    rw [mset_slot (by omega), mset_slot c1]
    by_cases c0 : i = 4 * s
    · rw [c0, mset_same, mset_same]
    rw [mset_slot (by omega), mset_slot c0]
    exact e i hi
  · rw [mset_cell (by omega)]
    by_cases ck : k = s
    · subst ck
      refine ⟨fl, fr, c, at9, h1, h2, h3, h4, h5, ?_, ?_, ?_, ?_⟩
      · rw [mset_slot (by omega), mset_slot (by omega), mset_slot (by omega), mset_same]
      · rw [mset_slot (by omega), mset_slot (by omega), mset_same]
      · rw [mset_slot (by omega), mset_same]
      · rw [mset_same]
    · obtain ⟨a1, a2, a3, a4, q1, q2, q3, q4, q5, q6, q7, q8, q9⟩ := f k (by omega)
      refine ⟨a1, a2, a3, a4, q1, q2, q3, q4, q5, ?_, ?_, ?_, ?_⟩
      · rw [mset_slot (by omega), mset_slot (by omega), mset_slot (by omega), mset_slot (by omega)]; exact q6
      · rw [mset_slot (by omega), mset_slot (by omega), mset_slot (by omega), mset_slot (by omega)]; exact q7
      · rw [mset_slot (by omega), mset_slot (by omega), mset_slot (by omega), mset_slot (by omega)]; exact q8
      · rw [mset_slot (by omega), mset_slot (by omega), mset_slot (by omega), mset_slot (by omega)]; exact q9
/-- what stands fast while a plan is written -/
def TF (n : Nat) (o : Nat → Nat) (b j s : Nat) (A0 D0 : Mm) : Prop := n ≤ 8 ∧ (∀ k, 1 ≤ k → k ≤ n → 1 ≤ o k ∧ o k ≤ n) ∧ (∀ k, k ≤ n + 1 → A0 22 k = nI (o k) ∧ D0 13 k = nI (o k)) ∧ D0 1 0 = nI n ∧ A0 27 j = nI s ∧ D0 17 j = nI s ∧ s < 256 ∧ b < j ∧ j ≤ n + 1 ∧ (∀ k, j - b - 1 ≤ k → k < 10 → s.testBit k = false) ∧ cb s 8 ≤ 2
theorem t_flown {b j s k : Nat} {A D : Mm} (h : TF n o b j s A0 D0) (hA : ∀ c, c < 4 ∨ 6 < c → A c = A0 c) (hk : k < j - b - 1) : pX5_isFlown (nI b) (nI j) (nI (b + 1 + k)) A = some (if s.testBit k then 1 else 0) := by
  obtain ⟨h1, h2, h3, h4, h5, h6, h7, h8, h9, h10, h11⟩ := h
  unfold pX5_isFlown
  rw [ald_nI (by omega) (by omega), hA 27 (by omega), h5, Option.bind_some, bitq (by omega)]
  by_cases c : s.testBit k = true
  · rw [if_neg (by rw [fa_bit (by omega), c]; decide), if_pos c]
  · rw [if_pos (by rw [fa_bit (by omega)]; simpa using c), if_neg c]
/-- stops between -/
theorem t_stops {b j s sr : Nat} (h : TF n o b j s A0 D0) {x4 x2 x3 x6 : Int32} : ∀ (c k r fu gu : Nat) (A D : Mm), k + c = j - b - 1 → RowRel n r A D → SorRel n sr A D → PFr A0 D0 A D → r + (j - b - 1 - k) ≤ 8 → c < fu → c < gu → ∃ (A' D' : Mm) (r' : Nat), itr (pX5_writeBlock_L11 (nI b) (nI j) x4) fu (nI (b + 1 + k), A) = some A' ∧ (∃ g, g + c = gu ∧ itr (pX9_take_L125 x2 x3 (nI b) (nI j) x6) gu (nI k, D) = itr (pX9_take_L125 x2 x3 (nI b) (nI j) x6) g (nI (j - b - 1), D')) ∧ RowRel n r' A' D' ∧ SorRel n sr A' D' ∧ PFr A0 D0 A' D' ∧ r' + cb s (j - b - 1) = r + c + cb s k
  | 0, k, r, fu, gu, A, D, hk, hR, hS, hF, hr, hfu, hgu => by
    obtain ⟨fu, rfl⟩ : ∃ g, fu = g + 1 := ⟨fu - 1, by omega⟩
    have n8 := h.1
    have hj := h.2.2.2.2.2.2.2.2.1
    have hb := h.2.2.2.2.2.2.2.1
    refine ⟨A, D, r, itr_e ?_, ⟨gu, rfl, by rw [show j - b - 1 = k by omega]⟩, hR, hS, hF, by rw [show j - b - 1 = k by omega]; omega⟩
    unfold pX5_writeBlock_L11
    rw [if_pos (show nI j ≤ nI (b + 1 + k) by rw [le_nI] <;> omega)]
  | c + 1, k, r, fu, gu, A, D, hk, hR, hS, hF, hr, hfu, hgu => by
    obtain ⟨fu, rfl⟩ : ∃ g, fu = g + 1 := ⟨fu - 1, by omega⟩
    obtain ⟨gu, rfl⟩ : ∃ g, gu = g + 1 := ⟨gu - 1, by omega⟩
    have fl := t_flown (A := A) (D := D) h hF.1 (show k < j - b - 1 by omega)
    obtain ⟨h1, h2, h3, h4, h5, h6, h7, h8, h9, h10, h11⟩ := h
    have q := h3 (b + 1 + k) (by omega)
    have oq := h2 (b + 1 + k) (by omega) (by omega)
    have d17 : ald D 17 10 (nI j) = some (nI s) := by rw [ald_nI (by omega) (by omega), hF.2.1 17 (by omega), h6]
    have d13 : ald D 13 10 (nI (b + 1 + k)) = some (nI (o (b + 1 + k))) := by rw [ald_nI (by omega) (by omega), hF.2.1 13 (by omega), q.2]
    have a22 : ald A 22 10 (nI (b + 1 + k)) = some (nI (o (b + 1 + k))) := by rw [ald_nI (by omega) (by omega), hF.1 22 (by omega), q.1]
    have lt1 : ¬ nI j - nI b ≤ nI k := by rw [sub_nI (by omega), le_nI (by omega) (by omega)]; omega
    by_cases ct : s.testBit k = true
    · rw [if_pos ct] at fl
      obtain ⟨A', D', r', e1, ⟨g, eg, e2⟩, k1, k2, k3, k4⟩ := t_stops ⟨h1, h2, h3, h4, h5, h6, h7, h8, h9, h10, h11⟩ (x4 := x4) (x2 := x2) (x3 := x3) (x6 := x6) c (k + 1) r fu gu A D (by omega) hR hS hF (by omega) (by omega) (by omega)
      refine ⟨A', D', r', ?_, ⟨g, by omega, ?_⟩, k1, k2, k3, ?_⟩
      · rw [itr_s (s' := (nI (b + 1 + (k + 1)), A))]
        · exact e1
        · unfold pX5_writeBlock_L11
          dsimp only
          rw [if_neg (show ¬ nI j ≤ nI (b + 1 + k) by rw [le_nI] <;> omega), fl, Option.bind_some, if_neg one_ne]
          simp (disch := omega) only [bnd_eq, Option.bind_some, lit_nI, nI_add, pk_mul, ald_nI, ast_nI, lt_nI, le_nI, eq_nI, sub_nI, Sum.elim_inl, Sum.elim_inr, if_pos, if_neg, if_true, if_false]
          rfl
      · rw [itr_s (s' := (nI (k + 1), D))]
        · exact e2
        · unfold pX9_take_L125
          dsimp only
          rw [if_neg lt1, d17, Option.bind_some, bq1 s h7 k (by omega), if_pos ct, if_neg one_ne]
          simp (disch := omega) only [bnd_eq, Option.bind_some, lit_nI, nI_add, pk_mul, ald_nI, ast_nI, lt_nI, le_nI, eq_nI, sub_nI, Sum.elim_inl, Sum.elim_inr, if_pos, if_neg, if_true, if_false]
      · rw [cb, if_pos ct] at k4
        omega
    · rw [if_neg ct] at fl
      obtain ⟨A', D', r', e1, ⟨g, eg, e2⟩, k1, k2, k3, k4⟩ := t_stops ⟨h1, h2, h3, h4, h5, h6, h7, h8, h9, h10, h11⟩ (x4 := x4) (x2 := x2) (x3 := x3) (x6 := x6) c (k + 1) (r + 1) fu gu _ _ (by omega) (RowRel_add hR (by omega) oq.1 oq.2) (SorRel_c hS (by rw [mset_slot (by omega), mset_cell (by omega)]) (by rw [mset_cell (by omega), mset_cell (by omega)]) (fun i a b => by rw [mset_slot (by omega), mset_slot (by omega)])) ⟨fun c hc => by rw [mset_cell (by omega), mset_cell (by omega)]; exact hF.1 c hc, fun c hc => by rw [mset_cell hc, mset_cell hc]; exact hF.2.1 c hc, fun i hi => by rw [mset_slot (by omega), mset_slot (by omega)]; exact hF.2.2 i hi⟩ (by omega) (by omega) (by omega)
      refine ⟨A', D', r', ?_, ⟨g, by omega, ?_⟩, k1, k2, k3, ?_⟩
      · rw [itr_s]
        · exact e1
        · unfold pX5_writeBlock_L11
          dsimp only
          rw [if_neg (show ¬ nI j ≤ nI (b + 1 + k) by rw [le_nI] <;> omega), fl, Option.bind_some, if_pos rfl, a22, Option.bind_some, t_stopA hR.2.1 (by omega), Option.bind_some]
          simp (disch := omega) only [bnd_eq, Option.bind_some, lit_nI, nI_add, pk_mul, ald_nI, ast_nI, lt_nI, le_nI, eq_nI, sub_nI, Sum.elim_inl, Sum.elim_inr, if_pos, if_neg, if_true, if_false]
          rfl
      · rw [itr_s]
        · exact e2
        · unfold pX9_take_L125
          dsimp only
          rw [if_neg lt1, d17, Option.bind_some, bq1 s h7 k (by omega), if_neg ct, if_pos rfl, r_customers, hF.2.2 0 (by omega), h4, Option.bind_some, show nI b + 1 + nI k = nI (b + 1 + k) by simp (disch := omega) only [bnd_eq, Option.bind_some, lit_nI, nI_add, pk_mul, ald_nI, ast_nI, lt_nI, le_nI, eq_nI, sub_nI, Sum.elim_inl, Sum.elim_inr, if_pos, if_neg, if_true, if_false], if_neg (show ¬ nI n < nI (b + 1 + k) by rw [lt_nI] <;> omega), d13, Option.bind_some, t_stopD hR.2.2.1 (by omega), Option.bind_some]
          simp (disch := omega) only [bnd_eq, Option.bind_some, lit_nI, nI_add, pk_mul, ald_nI, ast_nI, lt_nI, le_nI, eq_nI, sub_nI, Sum.elim_inl, Sum.elim_inr, if_pos, if_neg, if_true, if_false]
      · rw [cb, if_neg ct] at k4
        omega
/-- flights between -/
theorem t_sends {b j s fr at9 : Nat} (h : TF n o b j s A0 D0) (hfr : fr ≤ 9) (hat : at9 ≤ 9) {x2 x3 : Int32} : ∀ (c k sr fu : Nat) (A D : Mm), k + c = j - b - 1 → SorRel n sr A D → PFr A0 D0 A D → sr + (cb s (j - b - 1) - cb s k) ≤ 8 → c < fu → ∃ (A' D' : Mm), itr (pX5_writeBlock_L62 (nI b) (nI j) (nI fr) (nI at9)) fu (nI (cb s k), nI (b + 1 + k), A) = some A' ∧ itr (pX9_take_L219 x2 x3 (nI b) (nI j) (nI fr) (nI at9)) fu (nI (cb s k), nI k, D) = some D' ∧ SorRel n (sr + (cb s (j - b - 1) - cb s k)) A' D' ∧ PFr A0 D0 A' D' ∧ A' 4 0 = A 4 0 ∧ A' 5 = A 5 ∧ ∀ i, 60 ≤ i → i < 70 → D' 1 i = D 1 i
  | 0, k, sr, fu, A, D, hk, hS, hF, hr, hfu => by
    obtain ⟨fu, rfl⟩ : ∃ g, fu = g + 1 := ⟨fu - 1, by omega⟩
    have n8 := h.1
    have hj := h.2.2.2.2.2.2.2.2.1
    have hb := h.2.2.2.2.2.2.2.1
    refine ⟨A, D, itr_e ?_, itr_e ?_, by rw [show j - b - 1 = k by omega, Nat.sub_self]; exact hS, hF, rfl, rfl, fun _ _ _ => rfl⟩
    · unfold pX5_writeBlock_L62
      rw [if_pos (show nI j ≤ nI (b + 1 + k) by rw [le_nI] <;> omega)]
    · unfold pX9_take_L219
      rw [if_pos (show nI j - nI b - 1 ≤ nI k by rw [sub_nI (by omega), show (1 : Int32) = nI 1 from rfl, sub_nI (by omega), le_nI (by omega) (by omega)]; omega)]
  | c + 1, k, sr, fu, A, D, hk, hS, hF, hr, hfu => by
    obtain ⟨fu, rfl⟩ : ∃ g, fu = g + 1 := ⟨fu - 1, by omega⟩
    have fl := t_flown (A := A) (D := D) h hF.1 (show k < j - b - 1 by omega)
    obtain ⟨h1, h2, h3, h4, h5, h6, h7, h8, h9, h10, h11⟩ := h
    have q := h3 (b + 1 + k) (by omega)
    have oq := h2 (b + 1 + k) (by omega) (by omega)
    have d17 : ald D 17 10 (nI j) = some (nI s) := by rw [ald_nI (by omega) (by omega), hF.2.1 17 (by omega), h6]
    have d13 : ald D 13 10 (nI (b + 1 + k)) = some (nI (o (b + 1 + k))) := by rw [ald_nI (by omega) (by omega), hF.2.1 13 (by omega), q.2]
    have a22 : ald A 22 10 (nI (b + 1 + k)) = some (nI (o (b + 1 + k))) := by rw [ald_nI (by omega) (by omega), hF.1 22 (by omega), q.1]
    have lt1 : ¬ nI j - nI b - 1 ≤ nI k := by rw [sub_nI (by omega), show (1 : Int32) = nI 1 from rfl, sub_nI (by omega), le_nI (by omega) (by omega)]; omega
    have m1 := cb_mono s (k + 1) (j - b - 1 - (k + 1))
    rw [show k + 1 + (j - b - 1 - (k + 1)) = j - b - 1 by omega] at m1
    have m2 := cb_mono s (j - b - 1) (8 - (j - b - 1))
    rw [show j - b - 1 + (8 - (j - b - 1)) = 8 by omega] at m2
    by_cases ct : s.testBit k = true
    · rw [if_pos ct] at fl
      have ck : cb s (k + 1) = cb s k + 1 := by rw [cb, if_pos ct]
      obtain ⟨A', D', e1, e2, k1, k2, k3, k4, k5⟩ := t_sends ⟨h1, h2, h3, h4, h5, h6, h7, h8, h9, h10, h11⟩ hfr hat (x2 := x2) (x3 := x3) c (k + 1) (sr + 1) fu _ _ (by omega) (SorRel_add hS (show sr < 8 by omega) (show cb s k ≤ 1 by omega) hfr oq.1 oq.2 hat) ⟨fun c hc => by rw [mset_cell (by omega), mset_cell (by omega), mset_cell (by omega), mset_cell (by omega), mset_cell (by omega)]; exact hF.1 c hc, fun c hc => by rw [mset_cell hc, mset_cell hc, mset_cell hc, mset_cell hc, mset_cell hc]; exact hF.2.1 c hc, fun i hi => by rw [mset_slot (by omega), mset_slot (by omega), mset_slot (by omega), mset_slot (by omega), mset_slot (by omega)]; exact hF.2.2 i hi⟩ (by omega) (by omega)
      refine ⟨A', D', ?_, ?_, by rw [show sr + (cb s (j - b - 1) - cb s k) = sr + 1 + (cb s (j - b - 1) - cb s (k + 1)) by omega]; exact k1, k2, by rw [k3, mset_slot (by omega), mset_cell (by omega), mset_cell (by omega), mset_cell (by omega), mset_cell (by omega)], by rw [k4, mset_cell (by omega), mset_cell (by omega), mset_cell (by omega), mset_cell (by omega), mset_cell (by omega)], fun i a b => by rw [k5 i a b, mset_slot (by omega), mset_slot (by omega), mset_slot (by omega), mset_slot (by omega), mset_slot (by omega)]⟩
      · rw [itr_s]
        · exact e1
        · unfold pX5_writeBlock_L62
          dsimp only
          rw [if_neg (show ¬ nI j ≤ nI (b + 1 + k) by rw [le_nI] <;> omega), fl, Option.bind_some, if_neg one_ne, a22, Option.bind_some, t_sendA hS.2.1 (by omega), Option.bind_some, ck, show nI (cb s k) + 1 = nI (cb s k + 1) from nI_add _ 1, show nI (b + 1 + k) + 1 = nI (b + 1 + (k + 1)) from nI_add _ 1]
      · rw [itr_s]
        · exact e2
        · unfold pX9_take_L219
          dsimp only
          rw [if_neg lt1, d17, Option.bind_some, bq1 s h7 k (by omega), if_pos ct, if_neg one_ne, show nI b + 1 + nI k = nI (b + 1 + k) by simp (disch := omega) only [bnd_eq, Option.bind_some, lit_nI, nI_add, pk_mul, ald_nI, ast_nI, lt_nI, le_nI, eq_nI, sub_nI, Sum.elim_inl, Sum.elim_inr, if_pos, if_neg, if_true, if_false], d13, Option.bind_some, t_sendD hS.2.2.1 (by omega), Option.bind_some, ck, show nI (cb s k) + 1 = nI (cb s k + 1) from nI_add _ 1, show nI k + 1 = nI (k + 1) from nI_add _ 1]
    · rw [if_neg ct] at fl
      have ck : cb s (k + 1) = cb s k := by rw [cb, if_neg ct]; rfl
      obtain ⟨A', D', e1, e2, k1, k2, k3, k4, k5⟩ := t_sends ⟨h1, h2, h3, h4, h5, h6, h7, h8, h9, h10, h11⟩ hfr hat (x2 := x2) (x3 := x3) c (k + 1) sr fu A D (by omega) hS hF (by omega) (by omega)
      rw [ck] at e1 e2 k1
      refine ⟨A', D', ?_, ?_, k1, k2, k3, k4, k5⟩
      · rw [itr_s]
        · exact e1
        · unfold pX5_writeBlock_L62
          dsimp only
          rw [if_neg (show ¬ nI j ≤ nI (b + 1 + k) by rw [le_nI] <;> omega), fl, Option.bind_some, if_pos rfl, show nI (b + 1 + k) + 1 = nI (b + 1 + (k + 1)) from nI_add _ 1]
      · rw [itr_s]
        · exact e2
        · unfold pX9_take_L219
          dsimp only
          rw [if_neg lt1, d17, Option.bind_some, bq1 s h7 k (by omega), if_neg ct, if_pos rfl, show nI k + 1 = nI (k + 1) from nI_add _ 1]
end TAKE
