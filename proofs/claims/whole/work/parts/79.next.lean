/-! PURE: the next order, on both sides -/
def gsw (c : Nat) (x1 : Int32) (x2 : Int32) (M : Mm) : Option (Mm) :=
  (ald M c 10 x1).bind fun v1 => (ald M c 10 x2).bind fun v3 => (ast M c 10 x1 v3).bind fun M5 => (ast M5 c 10 x2 v1).bind fun M7 => some M7
section NEXT
variable {n : Nat} {o : Nat → Nat}
theorem gsw_c {c a b : Nat} {M : Mm} (hn : n ≤ 8) (h : ∀ k, k ≤ n + 1 → M c k = nI (o k)) (ha : a ≤ n + 1) (hb : b ≤ n + 1) : ∃ M', gsw c (nI a) (nI b) M = some M' ∧ (∀ d, d ≠ c → M' d = M d) ∧ ∀ k, k ≤ n + 1 → M' c k = nI (sw o a b k) := by
  refine ⟨mset (mset M c a (nI (o b))) c b (nI (o a)), ?_, fun d hd => by rw [mset_cell hd, mset_cell hd], fun k hk => ?_⟩
  · unfold gsw
    rw [ald_nI (by omega) (by omega), h a ha, Option.bind_some, ald_nI (by omega) (by omega), h b hb, Option.bind_some, ast_nI (by omega) (by omega), Option.bind_some, ast_nI (by omega) (by omega), Option.bind_some]
  · unfold sw
    by_cases c1 : k = b
    · rw [c1, mset_same, if_pos rfl]
    · rw [mset_slot c1, if_neg c1]
      by_cases c2 : k = a
      · rw [c2, mset_same, if_pos rfl]
      · rw [mset_slot c2, if_neg c2]
        exact h k hk
theorem c_rev (hn : n ≤ 8) {x : Int32} : ∀ (f l h fu : Nat) (o : Nat → Nat) (M : Mm), h ≤ l + f → 1 ≤ l → l ≤ 100 → h ≤ n → f < fu → (∀ k, k ≤ n + 1 → M 22 k = nI (o k)) → ∃ M', itr (pX5_nextOrder_L95 x) fu (nI l, nI h, M) = some M' ∧ (∀ d, d ≠ 22 → M' d = M d) ∧ ∀ k, k ≤ n + 1 → M' 22 k = nI (rv f o l h k)
  | 0, l, h, fu, o, M, h1, h2, h4, h3, hfu, hM => by
    obtain ⟨fu, rfl⟩ : ∃ g, fu = g + 1 := ⟨fu - 1, by omega⟩
    refine ⟨M, itr_e ?_, fun _ _ => rfl, hM⟩
    unfold pX5_nextOrder_L95
    dsimp only
    rw [if_pos (show nI h ≤ nI l by rw [le_nI] <;> omega)]
  | f + 1, l, h, fu, o, M, h1, h2, h4, h3, hfu, hM => by
    obtain ⟨fu, rfl⟩ : ∃ g, fu = g + 1 := ⟨fu - 1, by omega⟩
    rw [rv]
    by_cases c : l < h
    · obtain ⟨M1, e1, e2, e3⟩ := gsw_c (c := 22) (a := l) (b := h) hn hM (by omega) (by omega)
      obtain ⟨M', g1, g2, g3⟩ := c_rev hn (x := x) f (l + 1) (h - 1) fu (sw o l h) M1 (by omega) (by omega) (by omega) (by omega) (by omega) e3
      refine ⟨M', ?_, fun d hd => by rw [g2 d hd, e2 d hd], fun k hk => by rw [if_pos c]; exact g3 k hk⟩
      rw [itr_s (s' := (nI (l + 1), nI (h - 1), M1))]
      · exact g1
      · unfold pX5_nextOrder_L95
        dsimp only
        rw [if_neg (show ¬ nI h ≤ nI l by rw [le_nI] <;> omega), show pX5_swap (nI l) (nI h) M = some M1 from e1, Option.bind_some, show nI h + (-1) = nI (h - 1) by have := nI_m1 (h - 1); rw [show h - 1 + 1 = h by omega] at this; exact this]
        simp (disch := omega) only [bnd_eq, Option.bind_some, lit_nI, nI_add, pk_mul, ald_nI, ast_nI, lt_nI, le_nI, eq_nI, sub_nI, Sum.elim_inl, Sum.elim_inr, if_pos, if_neg, if_true, if_false]
    · refine ⟨M, itr_e ?_, fun _ _ => rfl, by rw [if_neg c]; exact hM⟩
      unfold pX5_nextOrder_L95
      dsimp only
      rw [if_pos (show nI h ≤ nI l by rw [le_nI] <;> omega)]
theorem r_rev (hn : n ≤ 8) : ∀ (f l h fu : Nat) (o : Nat → Nat) (M : Mm), h ≤ l + f → 1 ≤ l → l ≤ 100 → h ≤ n → f < fu → (∀ k, k ≤ n + 1 → M 13 k = nI (o k)) → ∃ M', itr pX9_goesOn_L79 fu (nI l, nI h, M) = some M' ∧ (∀ d, d ≠ 13 → M' d = M d) ∧ ∀ k, k ≤ n + 1 → M' 13 k = nI (rv f o l h k)
  | 0, l, h, fu, o, M, h1, h2, h4, h3, hfu, hM => by
    obtain ⟨fu, rfl⟩ : ∃ g, fu = g + 1 := ⟨fu - 1, by omega⟩
    refine ⟨M, itr_e ?_, fun _ _ => rfl, hM⟩
    unfold pX9_goesOn_L79
    dsimp only
    rw [if_pos (show nI h ≤ nI l by rw [le_nI] <;> omega)]
  | f + 1, l, h, fu, o, M, h1, h2, h4, h3, hfu, hM => by
    obtain ⟨fu, rfl⟩ : ∃ g, fu = g + 1 := ⟨fu - 1, by omega⟩
    rw [rv]
    by_cases c : l < h
    · obtain ⟨M1, e1, e2, e3⟩ := gsw_c (c := 13) (a := l) (b := h) hn hM (by omega) (by omega)
      obtain ⟨M', g1, g2, g3⟩ := r_rev hn f (l + 1) (h - 1) fu (sw o l h) M1 (by omega) (by omega) (by omega) (by omega) (by omega) e3
      refine ⟨M', ?_, fun d hd => by rw [g2 d hd, e2 d hd], fun k hk => by rw [if_pos c]; exact g3 k hk⟩
      rw [itr_s (s' := (nI (l + 1), nI (h - 1), M1))]
      · exact g1
      · unfold pX9_goesOn_L79
        dsimp only
        rw [if_neg (show ¬ nI h ≤ nI l by rw [le_nI] <;> omega), show pX9_swaps (nI l) (nI h) M = some M1 from e1, Option.bind_some, show nI h + (-1) = nI (h - 1) by have := nI_m1 (h - 1); rw [show h - 1 + 1 = h by omega] at this; exact this]
        simp (disch := omega) only [bnd_eq, Option.bind_some, lit_nI, nI_add, pk_mul, ald_nI, ast_nI, lt_nI, le_nI, eq_nI, sub_nI, Sum.elim_inl, Sum.elim_inr, if_pos, if_neg, if_true, if_false]
    · refine ⟨M, itr_e ?_, fun _ _ => rfl, by rw [if_neg c]; exact hM⟩
      unfold pX9_goesOn_L79
      dsimp only
      rw [if_pos (show nI h ≤ nI l by rw [le_nI] <;> omega)]
theorem c_piv {M : Mm} (hn : n ≤ 8) (ho : ∀ k, o k ≤ n) (h : ∀ k, k ≤ n + 1 → M 22 k = nI (o k)) : ∀ (m fu : Nat), m ≤ n → m < fu → itr (pX5_nextOrder_L7 M) fu (nI m) = some (nI (pv o m))
  | 0, fu, hm, hfu => by
    obtain ⟨fu, rfl⟩ : ∃ g, fu = g + 1 := ⟨fu - 1, by omega⟩
    rw [itr_e]
    unfold pX5_nextOrder_L7
    rw [if_pos (show nI 0 < 1 by decide)]
    rfl
  | m + 1, fu, hm, hfu => by
    obtain ⟨fu, rfl⟩ : ∃ g, fu = g + 1 := ⟨fu - 1, by omega⟩
    have o1 := ho (m + 1)
    have o2 := ho (m + 2)
    have st : pX5_nextOrder_L7 M (nI (m + 1)) = if nI (o (m + 1)) ≤ nI (o (m + 2)) then some (.inr (nI (m + 1))) else some (.inl (nI (m + 1) + (-1))) := by
      unfold pX5_nextOrder_L7
      rw [if_neg (show ¬ nI (m + 1) < 1 by show ¬ nI (m + 1) < nI 1; rw [lt_nI] <;> omega), ald_nI (by omega) (by omega), h (m + 1) (by omega), Option.bind_some, show nI (m + 1) + 1 = nI (m + 2) from nI_add (m + 1) 1, ald_nI (by omega) (by omega), h (m + 2) (by omega), Option.bind_some]
    rw [pv]
    by_cases c : o (m + 2) < o (m + 1)
    · rw [if_neg (show ¬ nI (o (m + 1)) ≤ nI (o (m + 2)) by rw [le_nI] <;> omega), nI_m1] at st
      rw [if_pos c, itr_s st]
      exact c_piv hn ho h m fu (by omega) (by omega)
    · rw [if_pos (show nI (o (m + 1)) ≤ nI (o (m + 2)) by rw [le_nI] <;> omega)] at st
      rw [if_neg c, itr_e st]
theorem r_piv {M : Mm} {x : Int32} (hn : n ≤ 8) (ho : ∀ k, o k ≤ n) (h : ∀ k, k ≤ n + 1 → M 13 k = nI (o k)) : ∀ (m fu : Nat), m ≤ n → m < fu → itr (pX9_goesOn_L9 x M) fu (nI m) = some (nI (pv o m))
  | 0, fu, hm, hfu => by
    obtain ⟨fu, rfl⟩ : ∃ g, fu = g + 1 := ⟨fu - 1, by omega⟩
    rw [itr_e]
    unfold pX9_goesOn_L9
    rw [if_pos (show nI 0 ≤ 0 by decide)]
    rfl
  | m + 1, fu, hm, hfu => by
    obtain ⟨fu, rfl⟩ : ∃ g, fu = g + 1 := ⟨fu - 1, by omega⟩
    have o1 := ho (m + 1)
    have o2 := ho (m + 2)
    have st : pX9_goesOn_L9 x M (nI (m + 1)) = if nI (o (m + 1)) ≤ nI (o (m + 2)) then some (.inr (nI (m + 1))) else some (.inl (nI (m + 1) + (-1))) := by
      unfold pX9_goesOn_L9
      rw [if_neg (show ¬ nI (m + 1) ≤ 0 by show ¬ nI (m + 1) ≤ nI 0; rw [le_nI] <;> omega), ald_nI (by omega) (by omega), h (m + 1) (by omega), Option.bind_some, show nI (m + 1) + 1 = nI (m + 2) from nI_add (m + 1) 1, ald_nI (by omega) (by omega), h (m + 2) (by omega), Option.bind_some]
    rw [pv]
    by_cases c : o (m + 2) < o (m + 1)
    · rw [if_neg (show ¬ nI (o (m + 1)) ≤ nI (o (m + 2)) by rw [le_nI] <;> omega), nI_m1] at st
      rw [if_pos c, itr_s st]
      exact r_piv hn ho h m fu (by omega) (by omega)
    · rw [if_pos (show nI (o (m + 1)) ≤ nI (o (m + 2)) by rw [le_nI] <;> omega)] at st
      rw [if_neg c, itr_e st]
theorem c_grr {M : Mm} {c : Nat} (hn : n ≤ 8) (ho : ∀ k, o k ≤ n) (hc : c ≤ n) (h : ∀ k, k ≤ n + 1 → M 22 k = nI (o k)) : ∀ (i fu : Nat), i ≤ n → i < fu → itr (pX5_nextOrder_L49 (nI c) M) fu (nI i) = some (nI (grr o c i))
  | 0, fu, hi, hfu => by
    obtain ⟨fu, rfl⟩ : ∃ g, fu = g + 1 := ⟨fu - 1, by omega⟩
    rw [itr_e]
    unfold pX5_nextOrder_L49
    rw [show nI c + 1 = nI (c + 1) from nI_add c 1, if_pos (show nI 0 ≤ nI (c + 1) by rw [le_nI] <;> omega)]
    rfl
  | i + 1, fu, hi, hfu => by
    obtain ⟨fu, rfl⟩ : ∃ g, fu = g + 1 := ⟨fu - 1, by omega⟩
    have o1 := ho (i + 1)
    have o2 := ho c
    rw [grr]
    by_cases c1 : i + 1 ≤ c + 1
    · rw [if_pos c1, itr_e]
      unfold pX5_nextOrder_L49
      rw [show nI c + 1 = nI (c + 1) from nI_add c 1, if_pos (show nI (i + 1) ≤ nI (c + 1) by rw [le_nI] <;> omega)]
    · have st : pX5_nextOrder_L49 (nI c) M (nI (i + 1)) = if nI (o c) ≤ nI (o (i + 1)) then some (.inr (nI (i + 1))) else some (.inl (nI (i + 1) + (-1))) := by
        unfold pX5_nextOrder_L49
        rw [show nI c + 1 = nI (c + 1) from nI_add c 1, if_neg (show ¬ nI (i + 1) ≤ nI (c + 1) by rw [le_nI] <;> omega), ald_nI (by omega) (by omega), h (i + 1) (by omega), Option.bind_some, ald_nI (by omega) (by omega), h c (by omega), Option.bind_some]
      rw [if_neg c1]
      by_cases c2 : o (i + 1) < o c
      · rw [if_neg (show ¬ nI (o c) ≤ nI (o (i + 1)) by rw [le_nI] <;> omega), nI_m1] at st
        rw [if_pos c2, itr_s st]
        exact c_grr hn ho hc h i fu (by omega) (by omega)
      · rw [if_pos (show nI (o c) ≤ nI (o (i + 1)) by rw [le_nI] <;> omega)] at st
        rw [if_neg c2, itr_e st]
theorem r_grr {M : Mm} {c : Nat} {x : Int32} (hn : n ≤ 8) (ho : ∀ k, o k ≤ n) (hc : c ≤ n) (hup : o c ≤ o (c + 1)) (h : ∀ k, k ≤ n + 1 → M 13 k = nI (o k)) : ∀ (i fu : Nat), c + 1 ≤ i → i ≤ n → i < fu → itr (pX9_goesOn_L44 x (nI c) M) fu (nI i) = some (nI (grr o c i))
  | 0, fu, h0, hi, hfu => absurd h0 (by omega)
  | i + 1, fu, h0, hi, hfu => by
    obtain ⟨fu, rfl⟩ : ∃ g, fu = g + 1 := ⟨fu - 1, by omega⟩
    have o1 := ho (i + 1)
    have o2 := ho c
    have st : pX9_goesOn_L44 x (nI c) M (nI (i + 1)) = if nI (o c) ≤ nI (o (i + 1)) then some (.inr (nI (i + 1))) else some (.inl (nI (i + 1) + (-1))) := by
      unfold pX9_goesOn_L44
      rw [ald_nI (by omega) (by omega), h (i + 1) (by omega), Option.bind_some, ald_nI (by omega) (by omega), h c (by omega), Option.bind_some]
    rw [grr]
    by_cases c1 : i + 1 ≤ c + 1
    · have : i = c := by omega
      subst this
      rw [if_pos (show nI (o i) ≤ nI (o (i + 1)) by rw [le_nI] <;> omega)] at st
      rw [if_pos c1, itr_e st]
    · rw [if_neg c1]
      by_cases c2 : o (i + 1) < o c
      · rw [if_neg (show ¬ nI (o c) ≤ nI (o (i + 1)) by rw [le_nI] <;> omega), nI_m1] at st
        rw [if_pos c2, itr_s st]
        exact r_grr hn ho hc hup h i fu (by omega) (by omega) (by omega)
      · rw [if_pos (show nI (o c) ≤ nI (o (i + 1)) by rw [le_nI] <;> omega)] at st
        rw [if_neg c2, itr_e st]
theorem c_next {A : Mm} (hn : n ≤ 8) (ho : ∀ k, o k ≤ n) (h : ∀ k, k ≤ n + 1 → A 22 k = nI (o k)) (h17 : A 17 6 = nI (n + 1)) : (pv o (n - 1) = 0 → pX5_nextOrder A = some (-1, A)) ∧ (1 ≤ pv o (n - 1) → ∃ A', pX5_nextOrder A = some (nI (pv o (n - 1)), A') ∧ (∀ d, d ≠ 22 → A' d = A d) ∧ ∀ k, k ≤ n + 1 → A' 22 k = nI (nxo n o k)) := by
  by_cases c0 : n = 0
  · subst c0
    refine ⟨fun _ => ?_, fun h => absurd h (by show ¬ 1 ≤ 0; omega)⟩
    unfold pX5_nextOrder
    rw [bnd_eq, h17, show fuel = 5999 + 1 from rfl, itr_e (r := nI (0 + 1) - 2)]
    · rw [Option.bind_some, if_neg (show ¬ (1 : Int32) ≤ nI (0 + 1) - 2 by decide)]
    · unfold pX5_nextOrder_L7
      rw [if_pos (show nI (0 + 1) - 2 < 1 by decide)]
  have e1 : itr (pX5_nextOrder_L7 A) fuel (A 17 6 - 2) = some (nI (pv o (n - 1))) := by
    rw [h17, show nI (n + 1) - 2 = nI (n - 1) by rw [show (2 : Int32) = nI 2 from rfl, sub_nI (by omega)]; congr 1]
    exact c_piv hn ho h (n - 1) fuel (by omega) (by unfold fuel; omega)
  have pl := pv_le o (n - 1)
  refine ⟨fun hz => ?_, fun hz => ?_⟩
  · unfold pX5_nextOrder
    rw [bnd_eq, e1, Option.bind_some, hz, if_neg (show ¬ (1 : Int32) ≤ nI 0 by decide)]
  · have gb := grr_b o (pv o (n - 1)) n (by omega)
    have e2 := c_grr (c := pv o (n - 1)) hn ho (by omega) h n fuel (by omega) (by unfold fuel; omega)
    obtain ⟨A1, k1, k2, k3⟩ := gsw_c (c := 22) (a := pv o (n - 1)) (b := grr o (pv o (n - 1)) n) hn h (by omega) (by omega)
    obtain ⟨A', g1, g2, g3⟩ := c_rev hn (x := nI (pv o (n - 1))) n (pv o (n - 1) + 1) n fuel _ A1 (by omega) (by omega) (by omega) (by omega) (by unfold fuel; omega) k3
    refine ⟨A', ?_, fun d hd => by rw [g2 d hd, k2 d hd], g3⟩
    have a6 : nI (n + 1) - 1 = nI n := sub_nI (a := n + 1) (b := 1) (by omega)
    unfold pX5_nextOrder
    rw [bnd_eq, e1, Option.bind_some, if_pos (show (1 : Int32) ≤ nI (pv o (n - 1)) by show nI 1 ≤ nI (pv o (n - 1)); rw [le_nI] <;> omega), bnd_eq, h17, a6, e2, Option.bind_some, show pX5_swap (nI (pv o (n - 1))) (nI (grr o (pv o (n - 1)) n)) A = some A1 from k1, Option.bind_some, bnd_eq, bnd_eq, k2 17 (by omega), h17, a6, show nI (pv o (n - 1)) + 1 = nI (pv o (n - 1) + 1) from nI_add _ 1, g1, Option.bind_some]
theorem r_next {D : Mm} (hn : n ≤ 8) (ho : ∀ k, o k ≤ n) (h : ∀ k, k ≤ n + 1 → D 13 k = nI (o k)) (h1 : D 1 0 = nI n) : (pv o (n - 1) = 0 → pX9_goesOn D = some (0, D)) ∧ (1 ≤ pv o (n - 1) → ∃ D', pX9_goesOn D = some (1, D') ∧ (∀ d, d ≠ 13 → D' d = D d) ∧ ∀ k, k ≤ n + 1 → D' 13 k = nI (nxo n o k)) := by
  by_cases c0 : n = 0
  · subst c0
    refine ⟨fun _ => ?_, fun h => absurd h (by show ¬ 1 ≤ 0; omega)⟩
    unfold pX9_goesOn
    rw [r_customers, h1, Option.bind_some, bnd_eq, show fuel = 5999 + 1 from rfl, itr_e (r := nI 0 - 1)]
    · rw [Option.bind_some, if_neg (show ¬ (0 : Int32) < nI 0 - 1 by decide)]
    · unfold pX9_goesOn_L9
      rw [if_pos (show nI 0 - 1 ≤ 0 by decide)]
  have e1 : itr (pX9_goesOn_L9 (nI n) D) fuel (nI n - 1) = some (nI (pv o (n - 1))) := by
    rw [show nI n - 1 = nI (n - 1) from sub_nI (b := 1) (by omega)]
    exact r_piv hn ho h (n - 1) fuel (by omega) (by unfold fuel; omega)
  have pl := pv_le o (n - 1)
  refine ⟨fun hz => ?_, fun hz => ?_⟩
  · unfold pX9_goesOn
    rw [r_customers, h1, Option.bind_some, bnd_eq, e1, Option.bind_some, hz, if_neg (show ¬ (0 : Int32) < nI 0 by decide)]
  · have gb := grr_b o (pv o (n - 1)) n (by omega)
    have e2 := r_grr (c := pv o (n - 1)) (x := nI n) hn ho (by omega) (pv_up o (n - 1) hz) h n fuel (by omega) (by omega) (by unfold fuel; omega)
    obtain ⟨D1, k1, k2, k3⟩ := gsw_c (c := 13) (a := pv o (n - 1)) (b := grr o (pv o (n - 1)) n) hn h (by omega) (by omega)
    obtain ⟨D', g1, g2, g3⟩ := r_rev hn n (pv o (n - 1) + 1) n fuel _ D1 (by omega) (by omega) (by omega) (by omega) (by unfold fuel; omega) k3
    refine ⟨D', ?_, fun d hd => by rw [g2 d hd, k2 d hd], g3⟩
    unfold pX9_goesOn
    rw [r_customers, h1, Option.bind_some, bnd_eq, e1, Option.bind_some, if_pos (show (0 : Int32) < nI (pv o (n - 1)) by show nI 0 < nI (pv o (n - 1)); rw [lt_nI] <;> omega), e2, Option.bind_some, show pX9_swaps (nI (pv o (n - 1))) (nI (grr o (pv o (n - 1)) n)) D = some D1 from k1, Option.bind_some, bnd_eq, show nI (pv o (n - 1)) + 1 = nI (pv o (n - 1) + 1) from nI_add _ 1, g1, Option.bind_some]
end NEXT
