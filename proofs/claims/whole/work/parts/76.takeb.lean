/-! PURE: a split is taken, block by block -/
section TAKF
variable {n : Nat} {o : Nat → Nat} {A0 D0 : Mm}
theorem t_block {b j s r sr : Nat} {x2 : Int32} {A D : Mm} (h : TF n o b j s A0 D0) (h17 : A0 17 6 = nI (n + 1)) (hR : RowRel n r A D) (hS : SorRel n sr A D) (hF : PFr A0 D0 A D) (hc : r + sr = b) (h18 : D0 18 j = 1) : ∃ (A' D' : Mm) (r' sr' : Nat), pX5_writeBlock (nI b) (nI j) A = some A' ∧ pX9_take_L94 x2 (nI (n + 1)) (nI b, nI j, D) = some (.inl (nI j, nI (j + 1), D')) ∧ RowRel n r' A' D' ∧ SorRel n sr' A' D' ∧ PFr A0 D0 A' D' ∧ (j ≤ n → r' + sr' = j) := by
  have hh := h
  obtain ⟨h1, h2, h3, h4, h5, h6, h7, h8, h9, h10, h11⟩ := hh
  obtain ⟨A1, D1, r1, e1, ⟨g, eg, e2⟩, k1, k2, k3, k4⟩ := t_stops h (x4 := nI r) (x2 := x2) (x3 := nI (n + 1)) (x6 := nI r) (j - b - 1) 0 r fuel fuel A D (by omega) hR hS hF (by omega) (by unfold fuel; omega) (by unfold fuel; omega)
  rw [show cb s 0 = 0 from rfl] at k4
  have cl1 := cb_le s (j - b - 1)
  obtain ⟨g, rfl⟩ : ∃ g', g = g' + 1 + 1 := ⟨g - 2, by unfold fuel at eg; omega⟩
  have d17 : ald D1 17 10 (nI j) = some (nI s) := by rw [ald_nI (by omega) (by omega), k3.2.1 17 (by omega), h6]
  have bw : s.testBit (j - b - 1) = false := h10 _ (by omega) (by omega)
  have lt0 : ¬ nI j - nI b ≤ nI (j - b - 1) := by rw [sub_nI (by omega), le_nI (by omega) (by omega)]; omega
  have lt1 : nI j - nI b ≤ nI (j - b - 1 + 1) := by rw [sub_nI (by omega), le_nI (by omega) (by omega)]; omega
  have cu : ∀ N : Mm, (∀ i, i < 60 → N 1 i = D0 1 i) → pX9_customers N = some (nI n) := fun N hN => by rw [r_customers, hN 0 (by omega), h4]
  have e60 : ∀ N : Mm, ald N 1 160 60 = some (N 1 60) := fun N => ald_nI (i := 60) (by omega) (by omega)
  have a18 : ald D 18 10 (nI j) = some 1 := by rw [ald_nI (by omega) (by omega), hF.2.1 18 (by omega), h18]
  have m2 := cb_mono s (j - b - 1) (8 - (j - b - 1))
  rw [show j - b - 1 + (8 - (j - b - 1)) = 8 by omega] at m2
  by_cases cj : j ≤ n
  · have oj := h2 j (by omega) cj
    obtain ⟨D2, hD2⟩ : ∃ D2, D2 = mset (mset D1 1 (61 + r1) (nI (o j))) 1 60 (nI (r1 + 1)) := ⟨_, rfl⟩
    have d2f : ∀ i, i < 60 ∨ (70 ≤ i) → D2 1 i = D1 1 i := fun i hi => by
      have := k1.1
      rw [hD2, mset_slot (by omega), mset_slot (by omega)]
    have d2c : ∀ c, c ≠ 1 → D2 c = D1 c := fun c hc => by rw [hD2, mset_cell hc, mset_cell hc]
    have sD : itr (pX9_take_L125 x2 (nI (n + 1)) (nI b) (nI j) (nI r)) fuel (0, D) = some D2 := by
      rw [show ((0 : Int32), D) = (nI 0, D) from rfl, e2, itr_s (s' := (nI (j - b - 1 + 1), D2)), itr_e]
      · unfold pX9_take_L125
        rw [if_pos lt1]
      · unfold pX9_take_L125
        dsimp only
        rw [if_neg lt0, d17, Option.bind_some, bq1 s h7 _ (by omega), bw, if_neg (show ¬ false = true by decide), if_pos rfl, cu D1 k3.2.2, Option.bind_some, show nI b + 1 + nI (j - b - 1) = nI j by simp (disch := omega) only [bnd_eq, Option.bind_some, lit_nI, nI_add, pk_mul, ald_nI, ast_nI, lt_nI, le_nI, eq_nI, sub_nI, Sum.elim_inl, Sum.elim_inr, if_pos, if_neg, if_true, if_false]; congr 1; omega, if_neg (show ¬ nI n < nI j by rw [lt_nI] <;> omega), ald_nI (by omega) (by omega), k3.2.1 13 (by omega), (h3 j (by omega)).2, Option.bind_some, t_stopD k1.2.2.1 (by omega), Option.bind_some, ← hD2]
        simp (disch := omega) only [bnd_eq, Option.bind_some, lit_nI, nI_add, pk_mul, ald_nI, ast_nI, lt_nI, le_nI, eq_nI, sub_nI, Sum.elim_inl, Sum.elim_inr, if_pos, if_neg, if_true, if_false]
    obtain ⟨A2, D3, g1, g2, g3, g4, g5, g6, g7⟩ := t_sends h (fr := r) (at9 := r1 + 1) (by omega) (by omega) (x2 := x2) (x3 := nI (n + 1)) (j - b - 1) 0 sr fuel A1 D2 (by omega) (SorRel_c k2 rfl rfl (fun i a b => d2f i (by omega))) ⟨k3.1, fun c hc => by rw [d2c c hc]; exact k3.2.1 c hc, fun i hi => by rw [d2f i (by omega)]; exact k3.2.2 i hi⟩ (by rw [show cb s 0 = 0 from rfl]; omega) (by unfold fuel; omega)
    rw [show cb s 0 = 0 from rfl, Nat.sub_zero] at g3
    refine ⟨mset (mset A2 5 r1 (nI (o j))) 4 0 (nI (r1 + 1)), D3, r1 + 1, sr + cb s (j - b - 1), ?_, ?_, ?_, SorRel_c g3 (by rw [mset_slot (by omega), mset_cell (by omega)]) (by rw [mset_cell (by omega), mset_cell (by omega)]) (fun _ _ _ => rfl), ⟨fun c hc => by rw [mset_cell (by omega), mset_cell (by omega)]; exact g4.1 c hc, g4.2.1, g4.2.2⟩, fun _ => by omega⟩
    · unfold pX5_writeBlock
      rw [bnd_eq, bnd_eq, hR.2.1, show nI b + 1 = nI (b + 1 + 0) from nI_add b 1, e1, Option.bind_some, bnd_eq, bnd_eq, k1.2.1, show nI r1 + 1 = nI (r1 + 1) from nI_add r1 1, show itr (pX5_writeBlock_L62 (nI b) (nI j) (nI r) (nI (r1 + 1))) fuel (0, nI (b + 1 + 0), A1) = _ from g1, Option.bind_some]
      rw [if_neg (show ¬ A2 17 6 ≤ nI j by rw [g4.1 17 (by omega), h17, le_nI] <;> omega), ald_nI (by omega) (by omega), g4.1 22 (by omega), (h3 j (by omega)).1, Option.bind_some, t_stopA (r := r1) (by rw [g5]; exact k1.2.1) (by omega), Option.bind_some]
    · unfold pX9_take_L94
      dsimp only
      rw [if_neg (show ¬ nI (n + 1) < nI j by rw [lt_nI] <;> omega), a18, Option.bind_some, if_neg one_ne, e60, hR.2.2.1, Option.bind_some, sD, Option.bind_some, if_neg (show ¬ nI j = nI (n + 1) by rw [eq_nI] <;> omega), e60, Option.bind_some, Option.bind_some, show D2 1 60 = nI (r1 + 1) by rw [hD2, mset_same], show itr (pX9_take_L219 x2 (nI (n + 1)) (nI b) (nI j) (nI r) (nI (r1 + 1))) fuel (0, 0, D2) = _ from g2, Option.bind_some, bnd_eq]
      simp (disch := omega) only [bnd_eq, Option.bind_some, lit_nI, nI_add, pk_mul, ald_nI, ast_nI, lt_nI, le_nI, eq_nI, sub_nI, Sum.elim_inl, Sum.elim_inr, if_pos, if_neg, if_true, if_false]
    · refine RowRel_c (RowRel_add k1 (show r1 < 8 by omega) oj.1 oj.2) (by rw [mset_same, mset_same]) (by funext i; rw [mset_cell (show 5 ≠ 4 by omega), mset_cell (show 5 ≠ 4 by omega), mset_get, mset_get, g6]) (fun i a b => by rw [g7 i a b, hD2])
  · have j1 : j = n + 1 := by omega
    have sD : itr (pX9_take_L125 x2 (nI (n + 1)) (nI b) (nI j) (nI r)) fuel (0, D) = some D1 := by
      rw [show ((0 : Int32), D) = (nI 0, D) from rfl, e2, itr_s (s' := (nI (j - b - 1 + 1), D1)), itr_e]
      · unfold pX9_take_L125
        rw [if_pos lt1]
      · unfold pX9_take_L125
        dsimp only
        rw [if_neg lt0, d17, Option.bind_some, bq1 s h7 _ (by omega), bw, if_neg (show ¬ false = true by decide), if_pos rfl, cu D1 k3.2.2, Option.bind_some, show nI b + 1 + nI (j - b - 1) = nI j by simp (disch := omega) only [bnd_eq, Option.bind_some, lit_nI, nI_add, pk_mul, ald_nI, ast_nI, lt_nI, le_nI, eq_nI, sub_nI, Sum.elim_inl, Sum.elim_inr, if_pos, if_neg, if_true, if_false]; congr 1; omega, if_pos (show nI n < nI j by rw [lt_nI] <;> omega)]
        simp (disch := omega) only [bnd_eq, Option.bind_some, lit_nI, nI_add, pk_mul, ald_nI, ast_nI, lt_nI, le_nI, eq_nI, sub_nI, Sum.elim_inl, Sum.elim_inr, if_pos, if_neg, if_true, if_false]
    obtain ⟨A2, D3, g1, g2, g3, g4, g5, g6, g7⟩ := t_sends h (fr := r) (at9 := r1 + 1) (by omega) (by omega) (x2 := x2) (x3 := nI (n + 1)) (j - b - 1) 0 sr fuel A1 D1 (by omega) k2 k3 (by rw [show cb s 0 = 0 from rfl]; omega) (by unfold fuel; omega)
    rw [show cb s 0 = 0 from rfl, Nat.sub_zero] at g3
    refine ⟨A2, D3, r1, sr + cb s (j - b - 1), ?_, ?_, RowRel_c k1 g5 g6 g7, g3, g4, fun c => absurd c cj⟩
    · unfold pX5_writeBlock
      rw [bnd_eq, bnd_eq, hR.2.1, show nI b + 1 = nI (b + 1 + 0) from nI_add b 1, e1, Option.bind_some, bnd_eq, bnd_eq, k1.2.1, show nI r1 + 1 = nI (r1 + 1) from nI_add r1 1, show itr (pX5_writeBlock_L62 (nI b) (nI j) (nI r) (nI (r1 + 1))) fuel (0, nI (b + 1 + 0), A1) = _ from g1, Option.bind_some]
      rw [if_pos (show A2 17 6 ≤ nI j by rw [g4.1 17 (by omega), h17, le_nI] <;> omega)]
    · unfold pX9_take_L94
      dsimp only
      rw [if_neg (show ¬ nI (n + 1) < nI j by rw [lt_nI] <;> omega), a18, Option.bind_some, if_neg one_ne, e60, hR.2.2.1, Option.bind_some, sD, Option.bind_some, if_pos (show nI j = nI (n + 1) by rw [j1]), e60, Option.bind_some, Option.bind_some, k1.2.2.1, show nI r1 + 1 = nI (r1 + 1) from nI_add r1 1, show itr (pX9_take_L219 x2 (nI (n + 1)) (nI b) (nI j) (nI r) (nI (r1 + 1))) fuel (0, 0, D1) = _ from g2, Option.bind_some, bnd_eq]
      simp (disch := omega) only [bnd_eq, Option.bind_some, lit_nI, nI_add, pk_mul, ald_nI, ast_nI, lt_nI, le_nI, eq_nI, sub_nI, Sum.elim_inl, Sum.elim_inr, if_pos, if_neg, if_true, if_false]
/-! the chain of blocks -/
def chs (T : Nat → En) (l : Nat) : Nat → Nat
  | 0 => l
  | m + 1 => (T (chs T l m)).2.2.1
theorem least_n (p : Nat → Bool) : ∀ N, (∃ m, m ≤ N ∧ p m = true) → ∃ m, m ≤ N ∧ p m = true ∧ ∀ k, k < m → p k = false
  | 0, ⟨m, h1, h2⟩ => ⟨0, by omega, by rw [show 0 = m by omega]; exact h2, fun k hk => absurd hk (by omega)⟩
  | N + 1, ⟨m, h1, h2⟩ => by
    by_cases c : ∃ m, m ≤ N ∧ p m = true
    · obtain ⟨m', a, b, d⟩ := least_n p N c
      exact ⟨m', by omega, b, d⟩
    · refine ⟨N + 1, by omega, ?_, fun k hk => ?_⟩
      · have : m = N + 1 := Classical.byContradiction fun hn => c ⟨m, by omega, h2⟩
        rw [← this]
        exact h2
      · cases e : p k with
        | false => rfl
        | true => exact absurd ⟨k, by omega, e⟩ c
/-- what is known of the table for its chain -/
def TC (n : Nat) (T : Nat → En) : Prop := (∀ k, 1 ≤ k → k ≤ n + 1 → EnOk k (T k)) ∧ T 0 = (0, 0, 0, 0)
section CHN
variable {T : Nat → En}
theorem ch_le (h : TC n T) : ∀ m, chs T (n + 1) m ≤ n + 1
  | 0 => Nat.le_refl _
  | m + 1 => by
    have := ch_le h m
    rw [chs]
    by_cases c : chs T (n + 1) m = 0
    · rw [c, h.2]
      exact Nat.zero_le _
    · have := (h.1 _ (by omega) this).2.2.1
      omega
theorem ch_dec (h : TC n T) (m : Nat) : (0 < chs T (n + 1) m → chs T (n + 1) (m + 1) < chs T (n + 1) m) ∧ chs T (n + 1) (m + 1) ≤ chs T (n + 1) m := by
  have := ch_le h m
  rw [chs]
  by_cases c : chs T (n + 1) m = 0
  · rw [c, h.2]
    exact ⟨fun h => absurd h (by omega), Nat.le_refl _⟩
  · have := (h.1 _ (by omega) this).2.2.1
    exact ⟨fun _ => this, by omega⟩
theorem ch_mono (h : TC n T) (m : Nat) : ∀ c, chs T (n + 1) (m + c) ≤ chs T (n + 1) m
  | 0 => Nat.le_refl _
  | c + 1 => Nat.le_trans (ch_dec h (m + c)).2 (ch_mono h m c)
theorem ch_small (h : TC n T) : ∀ m, chs T (n + 1) m = 0 ∨ chs T (n + 1) m + m ≤ n + 1
  | 0 => Or.inr (Nat.le_refl _)
  | m + 1 => by
    have d := ch_dec h m
    rcases ch_small h m with e | e
    · exact Or.inl (by omega)
    · by_cases c : chs T (n + 1) m = 0
      · exact Or.inl (by omega)
      · exact Or.inr (by have := d.1 (by omega); omega)
/-- where the chain ends -/
theorem ch_end (h : TC n T) : ∃ m0, m0 ≤ n + 1 ∧ 1 ≤ m0 ∧ chs T (n + 1) m0 = 0 ∧ ∀ k, k < m0 → 0 < chs T (n + 1) k := by
  obtain ⟨m, h1, h2, h3⟩ := least_n (fun m => chs T (n + 1) m == 0) (n + 1) ⟨n + 1, by omega, by
    have := ch_small h (n + 1)
    simpa using (by omega : chs T (n + 1) (n + 1) = 0)⟩
  have h2' : chs T (n + 1) m = 0 := by simpa using h2
  have h3' : ∀ k, k < m → 0 < chs T (n + 1) k := fun k hk => by
    have := h3 k hk
    have : chs T (n + 1) k ≠ 0 := by simpa using this
    omega
  refine ⟨m, h1, ?_, h2', h3'⟩
  by_cases c : m = 0
  · subst c
    exact absurd h2' (by show ¬ n + 1 = 0; omega)
  · omega
theorem ch_lt (h : TC n T) {m0 k l : Nat} (h0 : ∀ k, k < m0 → 0 < chs T (n + 1) k) (hk : k < l) (hl : l ≤ m0) : chs T (n + 1) l < chs T (n + 1) k := by
  have a := (ch_dec h k).1 (h0 k (by omega))
  have b := ch_mono h (k + 1) (l - k - 1)
  rw [show k + 1 + (l - k - 1) = l by omega] at b
  omega
/-! the class links -/
def LkI (n : Nat) (T : Nat → En) (m : Nat) (B A : Mm) : Prop := (∀ k, k < m → A 28 (chs T (n + 1) (k + 1)) = nI (chs T (n + 1) k)) ∧ (∀ i, i ≤ n + 1 → (∀ k, k < m → i ≠ chs T (n + 1) (k + 1)) → A 28 i = -1) ∧ ∀ c, c ≠ 28 → A c = B c
theorem c_link (h : TC n T) (hn : n ≤ 8) {B : Mm} (hb : ∀ k, 1 ≤ k → k ≤ n + 1 → B 26 k = nI (T k).2.2.1) {m0 : Nat} (h1 : m0 ≤ n + 1) (h2 : chs T (n + 1) m0 = 0) (h0 : ∀ k, k < m0 → 0 < chs T (n + 1) k) : ∀ (c m fu : Nat) (A : Mm), m + c = m0 → LkI n T m B A → c < fu → ∃ A', itr pX5_linkBlocks_L30 fu (nI (chs T (n + 1) m), nI m, A) = some A' ∧ LkI n T m0 B A'
  | 0, m, fu, A, hm, hA, hfu => by
    obtain ⟨fu, rfl⟩ : ∃ g, fu = g + 1 := ⟨fu - 1, by omega⟩
    refine ⟨A, itr_e ?_, by rw [show m0 = m by omega]; exact hA⟩
    unfold pX5_linkBlocks_L30
    dsimp only
    rw [if_neg (show ¬ (10 : Int32) ≤ nI m by show ¬ nI 10 ≤ nI m; rw [le_nI] <;> omega), show m = m0 by omega, h2, if_pos (show nI 0 ≤ 0 by decide)]
  | c + 1, m, fu, A, hm, hA, hfu => by
    obtain ⟨fu, rfl⟩ : ∃ g, fu = g + 1 := ⟨fu - 1, by omega⟩
    have le := ch_le h m
    have le1 := ch_le h (m + 1)
    have ps := h0 m (by omega)
    have e26 : ∀ N : Mm, (∀ c, c ≠ 28 → N c = B c) → ald N 26 10 (nI (chs T (n + 1) m)) = some (nI (chs T (n + 1) (m + 1))) := fun N hN => by
      rw [ald_nI (by omega) (by omega), hN 26 (by omega), hb _ ps le]
      rfl
    have fr : ∀ c, c ≠ 28 → (mset A 28 (chs T (n + 1) (m + 1)) (nI (chs T (n + 1) m))) c = B c := fun c hc => by rw [mset_cell hc]; exact hA.2.2 c hc
    rw [itr_s (s' := (nI (chs T (n + 1) (m + 1)), nI (m + 1), mset A 28 (chs T (n + 1) (m + 1)) (nI (chs T (n + 1) m))))]
    · refine c_link h hn hb h1 h2 h0 c (m + 1) fu _ (by omega) ⟨fun k hk => ?_, fun i hi hk => ?_, fr⟩ (by omega)
      · by_cases ck : k = m
        · rw [ck, mset_same]
        · have := ch_lt h h0 (k := k + 1) (l := m + 1) (by omega) (by omega)
          rw [mset_slot (by omega)]
          exact hA.1 k (by omega)
      · rw [mset_slot (hk m (by omega))]
        exact hA.2.1 i hi (fun k hk' => hk k (by omega))
    · unfold pX5_linkBlocks_L30
      dsimp only
      rw [if_neg (show ¬ (10 : Int32) ≤ nI m by show ¬ nI 10 ≤ nI m; rw [le_nI] <;> omega), if_neg (show ¬ nI (chs T (n + 1) m) ≤ 0 by show ¬ nI (chs T (n + 1) m) ≤ nI 0; rw [le_nI] <;> omega), e26 A hA.2.2, Option.bind_some, ast_nI (by omega) (by omega), Option.bind_some, e26 _ fr, Option.bind_some]
      simp (disch := omega) only [bnd_eq, Option.bind_some, lit_nI, nI_add, pk_mul, ald_nI, ast_nI, lt_nI, le_nI, eq_nI, sub_nI, Sum.elim_inl, Sum.elim_inr, if_pos, if_neg, if_true, if_false]
theorem c_link0 (hn : n ≤ 8) {B : Mm} (h17 : B 17 6 = nI (n + 1)) : ∀ (c i fu : Nat) (A : Mm), i + c = n + 2 → (∀ c, c ≠ 28 → A c = B c) → (∀ k, k < i → A 28 k = -1) → c < fu → ∃ A', itr pX5_linkBlocks_L2 fu (nI i, A) = some A' ∧ LkI n T 0 B A'
  | 0, i, fu, A, hi, h1, h2, hfu => by
    obtain ⟨fu, rfl⟩ : ∃ g, fu = g + 1 := ⟨fu - 1, by omega⟩
    refine ⟨A, itr_e ?_, fun k hk => absurd hk (by omega), fun k hk _ => h2 k (by omega), h1⟩
    unfold pX5_linkBlocks_L2
    dsimp only
    rw [if_pos (show A 17 6 < nI i by rw [h1 17 (by omega), h17, lt_nI] <;> omega)]
  | c + 1, i, fu, A, hi, h1, h2, hfu => by
    obtain ⟨fu, rfl⟩ : ∃ g, fu = g + 1 := ⟨fu - 1, by omega⟩
    rw [itr_s (s' := (nI (i + 1), mset A 28 i (-1)))]
    · refine c_link0 hn h17 c (i + 1) fu _ (by omega) (fun c hc => by rw [mset_cell hc]; exact h1 c hc) (fun k hk => ?_) (by omega)
      by_cases ck : k = i
      · rw [ck, mset_same]
      · rw [mset_slot ck]
        exact h2 k (by omega)
    · unfold pX5_linkBlocks_L2
      dsimp only
      rw [if_neg (show ¬ A 17 6 < nI i by rw [h1 17 (by omega), h17, lt_nI] <;> omega), ast_nI (by omega) (by omega), Option.bind_some]
      simp (disch := omega) only [bnd_eq, Option.bind_some, lit_nI, nI_add, pk_mul, ald_nI, ast_nI, lt_nI, le_nI, eq_nI, sub_nI, Sum.elim_inl, Sum.elim_inr, if_pos, if_neg, if_true, if_false]
/-! the reference marks -/
def EdI (n : Nat) (T : Nat → En) (m : Nat) (B D : Mm) : Prop := (∀ k, k < m → D 18 (chs T (n + 1) k) = 1) ∧ (∀ i, i ≤ n + 1 → (∀ k, k < m → i ≠ chs T (n + 1) k) → D 18 i = 0) ∧ ∀ c, c ≠ 18 → D c = B c
theorem r_mark (h : TC n T) (hn : n ≤ 8) {B : Mm} {x2 x3 : Int32} (hb : ∀ k, 1 ≤ k → k ≤ n + 1 → B 16 k = nI (T k).2.2.1) {m0 : Nat} (h1 : m0 ≤ n + 1) (h2 : chs T (n + 1) m0 = 0) (h0 : ∀ k, k < m0 → 0 < chs T (n + 1) k) : ∀ (c m fu : Nat) (D : Mm), m + c = m0 → EdI n T m B D → c < fu → ∃ D', itr (pX9_take_L59 x2 x3) fu (nI (chs T (n + 1) m), D) = some D' ∧ EdI n T m0 B D'
  | 0, m, fu, D, hm, hD, hfu => by
    obtain ⟨fu, rfl⟩ : ∃ g, fu = g + 1 := ⟨fu - 1, by omega⟩
    refine ⟨D, itr_e ?_, by rw [show m0 = m by omega]; exact hD⟩
    unfold pX9_take_L59
    dsimp only
    rw [show m = m0 by omega, h2, if_pos (show nI 0 ≤ 0 by decide)]
  | c + 1, m, fu, D, hm, hD, hfu => by
    obtain ⟨fu, rfl⟩ : ∃ g, fu = g + 1 := ⟨fu - 1, by omega⟩
    have le := ch_le h m
    have ps := h0 m (by omega)
    have fr : ∀ c, c ≠ 18 → (mset D 18 (chs T (n + 1) m) 1) c = B c := fun c hc => by rw [mset_cell hc]; exact hD.2.2 c hc
    rw [itr_s (s' := (nI (chs T (n + 1) (m + 1)), mset D 18 (chs T (n + 1) m) 1))]
    · refine r_mark h hn hb h1 h2 h0 c (m + 1) fu _ (by omega) ⟨fun k hk => ?_, fun i hi hk => ?_, fr⟩ (by omega)
      · by_cases ck : k = m
        · rw [ck, mset_same]
        · have := ch_lt h h0 (k := k) (l := m) (by omega) (by omega)
          rw [mset_slot (by omega)]
          exact hD.1 k (by omega)
      · rw [mset_slot (hk m (by omega))]
        exact hD.2.1 i hi (fun k hk' => hk k (by omega))
    · unfold pX9_take_L59
      dsimp only
      rw [if_neg (show ¬ nI (chs T (n + 1) m) ≤ 0 by show ¬ nI (chs T (n + 1) m) ≤ nI 0; rw [le_nI] <;> omega), ast_nI (by omega) (by omega), Option.bind_some, nar_b1, ald_nI (by omega) (by omega), fr 16 (by omega), hb _ ps le, Option.bind_some]
      rfl
theorem r_mark0 (hn : n ≤ 8) {B : Mm} {x2 : Int32} : ∀ (c i fu : Nat) (D : Mm), i + c = n + 2 → (∀ c, c ≠ 18 → D c = B c) → (∀ k, k < i → D 18 k = 0) → c < fu → ∃ D', itr (pX9_take_L36 x2 (nI (n + 1))) fu (nI i, D) = some D' ∧ EdI n T 0 B D'
  | 0, i, fu, D, hi, h1, h2, hfu => by
    obtain ⟨fu, rfl⟩ : ∃ g, fu = g + 1 := ⟨fu - 1, by omega⟩
    refine ⟨D, itr_e ?_, fun k hk => absurd hk (by omega), fun k hk _ => h2 k (by omega), h1⟩
    unfold pX9_take_L36
    dsimp only
    rw [if_pos (show nI (n + 1) < nI i by rw [lt_nI] <;> omega)]
  | c + 1, i, fu, D, hi, h1, h2, hfu => by
    obtain ⟨fu, rfl⟩ : ∃ g, fu = g + 1 := ⟨fu - 1, by omega⟩
    rw [itr_s (s' := (nI (i + 1), mset D 18 i 0))]
    · refine r_mark0 hn c (i + 1) fu _ (by omega) (fun c hc => by rw [mset_cell hc]; exact h1 c hc) (fun k hk => ?_) (by omega)
      by_cases ck : k = i
      · rw [ck, mset_same]
      · rw [mset_slot ck]
        exact h2 k (by omega)
    · unfold pX9_take_L36
      dsimp only
      rw [if_neg (show ¬ nI (n + 1) < nI i by rw [lt_nI] <;> omega), nar_b0, ast_nI (by omega) (by omega), Option.bind_some]
      simp (disch := omega) only [bnd_eq, Option.bind_some, lit_nI, nI_add, pk_mul, ald_nI, ast_nI, lt_nI, le_nI, eq_nI, sub_nI, Sum.elim_inl, Sum.elim_inr, if_pos, if_neg, if_true, if_false]
/-! both walk the chain from the front -/
theorem c_skip (hn : n ≤ 8) {j : Nat} (hj : j ≤ n + 1) : ∀ (c i fu : Nat) (A : Mm), i + c = j → A 17 6 = nI (n + 1) → (∀ k, i ≤ k → k < j → A 28 k = -1) → itr pX5_writePlan_L10 (fu + c) (nI i, A) = itr pX5_writePlan_L10 fu (nI j, A)
  | 0, i, fu, A, hi, h17, h => by rw [show i = j by omega, Nat.add_zero]
  | c + 1, i, fu, A, hi, h17, h => by
    rw [← Nat.add_assoc, itr_s (s' := (nI (i + 1), A))]
    · exact c_skip hn hj c (i + 1) fu A (by omega) h17 (fun k a b => h k (by omega) b)
    · unfold pX5_writePlan_L10
      dsimp only
      rw [if_neg (show ¬ A 17 6 ≤ nI i by rw [h17, le_nI] <;> omega), ald_nI (by omega) (by omega), h i (by omega) (by omega), Option.bind_some, if_pos rfl]
      simp (disch := omega) only [bnd_eq, Option.bind_some, lit_nI, nI_add, pk_mul, ald_nI, ast_nI, lt_nI, le_nI, eq_nI, sub_nI, Sum.elim_inl, Sum.elim_inr, if_pos, if_neg, if_true, if_false]
theorem r_skp (hn : n ≤ 8) {j b : Nat} {x2 : Int32} (hj : j ≤ n + 1) : ∀ (c i fu : Nat) (D : Mm), i + c = j → (∀ k, i ≤ k → k < j → D 18 k = 0) → itr (pX9_take_L94 x2 (nI (n + 1))) (fu + c) (nI b, nI i, D) = itr (pX9_take_L94 x2 (nI (n + 1))) fu (nI b, nI j, D)
  | 0, i, fu, D, hi, h => by
    have e : i = j := by omega
    subst e
    rfl
  | c + 1, i, fu, D, hi, h => by
    rw [← Nat.add_assoc, itr_s (s' := (nI b, nI (i + 1), D))]
    · exact r_skp hn hj c (i + 1) fu D (by omega) (fun k a b => h k (by omega) b)
    · unfold pX9_take_L94
      dsimp only
      rw [if_neg (show ¬ nI (n + 1) < nI i by rw [lt_nI] <;> omega), ald_nI (by omega) (by omega), h i (by omega) (by omega), Option.bind_some, if_pos rfl]
      simp (disch := omega) only [bnd_eq, Option.bind_some, lit_nI, nI_add, pk_mul, ald_nI, ast_nI, lt_nI, le_nI, eq_nI, sub_nI, Sum.elim_inl, Sum.elim_inr, if_pos, if_neg, if_true, if_false]
theorem tf_of (h : TC n T) (hn : n ≤ 8) {j : Nat} (h1 : 1 ≤ j) (h2 : j ≤ n + 1) (ho : ∀ k, 1 ≤ k → k ≤ n → 1 ≤ o k ∧ o k ≤ n) (h3 : ∀ k, k ≤ n + 1 → A0 22 k = nI (o k) ∧ D0 13 k = nI (o k)) (h4 : D0 1 0 = nI n) (h5 : A0 27 j = nI (T j).2.2.2) (h6 : D0 17 j = nI (T j).2.2.2) : TF n o (T j).2.2.1 j (T j).2.2.2 A0 D0 := by
  obtain ⟨e1, e2, e3, e4⟩ := h.1 j h1 h2
  generalize (T j).2.2.1 = b at *
  generalize (T j).2.2.2 = s at *
  suffices hs : s < 256 ∧ (∀ k, j - b - 1 ≤ k → k < 10 → s.testBit k = false) ∧ cb s 8 ≤ 2 from ⟨hn, ho, h3, h4, h5, h6, hs.1, e3, h2, hs.2.1, hs.2.2⟩
  rcases e4 with ⟨rfl, e⟩ | ⟨p, e, rfl⟩ | ⟨p, q, e0, e, rfl⟩
  · exact ⟨by omega, fun k _ _ => by simp, by decide⟩
  · have x8 : 2 ^ p < 2 ^ 8 := Nat.pow_lt_pow_right (by omega) (by omega)
    refine ⟨x8, fun k a b => ?_, ?_⟩
    · rw [tbq1 p (by omega) k b, one_no (by omega)]
    · rw [cb8 _ x8, pop1 p (by omega)]
      omega
  · have x8 : 2 ^ p + 2 ^ q < 2 ^ 8 := by
      have e : 2 ^ p < 2 ^ q := Nat.pow_lt_pow_right (by omega) e0
      have e1 : 2 ^ (q + 1) ≤ 2 ^ 8 := Nat.pow_le_pow_right (by omega) (by omega)
      rw [Nat.pow_succ] at e1
      omega
    refine ⟨x8, fun k a b => ?_, ?_⟩
    · rw [tbq2 q (by omega) p e0 k b, two_no (by omega) (by omega)]
    · rw [cb8 _ x8, pop2 q (by omega) p e0]
      omega
theorem t_walk (h : TC n T) (hn : n ≤ 8) {x2 : Int32} (ho : ∀ k, 1 ≤ k → k ≤ n → 1 ≤ o k ∧ o k ≤ n) (h3 : ∀ k, k ≤ n + 1 → A0 22 k = nI (o k) ∧ D0 13 k = nI (o k)) (h4 : D0 1 0 = nI n) (h5 : ∀ j, 1 ≤ j → j ≤ n + 1 → A0 27 j = nI (T j).2.2.2 ∧ D0 17 j = nI (T j).2.2.2) (h17 : A0 17 6 = nI (n + 1)) {m0 : Nat} (h0 : ∀ k, k < m0 → 0 < chs T (n + 1) k) (lk : (∀ k, k < m0 → A0 28 (chs T (n + 1) (k + 1)) = nI (chs T (n + 1) k)) ∧ (∀ i, i ≤ n + 1 → (∀ k, k < m0 → i ≠ chs T (n + 1) (k + 1)) → A0 28 i = -1)) (ed : (∀ k, k < m0 → D0 18 (chs T (n + 1) k) = 1) ∧ (∀ i, i ≤ n + 1 → (∀ k, k < m0 → i ≠ chs T (n + 1) k) → D0 18 i = 0)) : ∀ (m r sr fu gu : Nat) (A D : Mm), m ≤ m0 → RowRel n r A D → SorRel n sr A D → PFr A0 D0 A D → (1 ≤ m → r + sr = chs T (n + 1) m) → n + 1 - chs T (n + 1) m < fu → n + 1 - chs T (n + 1) m < gu → ∃ (A' D' : Mm) (r' sr' : Nat), itr pX5_writePlan_L10 fu (nI (chs T (n + 1) m), A) = some A' ∧ itr (pX9_take_L94 x2 (nI (n + 1))) gu (nI (chs T (n + 1) m), nI (chs T (n + 1) m + 1), D) = some D' ∧ RowRel n r' A' D' ∧ SorRel n sr' A' D' ∧ PFr A0 D0 A' D'
  | 0, r, sr, fu, gu, A, D, hm, hR, hS, hF, hc, hfu, hgu => by
    obtain ⟨fu, rfl⟩ : ∃ g, fu = g + 1 := ⟨fu - 1, by omega⟩
    obtain ⟨gu, rfl⟩ : ∃ g, gu = g + 1 := ⟨gu - 1, by omega⟩
    refine ⟨A, D, r, sr, itr_e ?_, itr_e ?_, hR, hS, hF⟩
    · unfold pX5_writePlan_L10
      dsimp only
      rw [show chs T (n + 1) 0 = n + 1 from rfl, if_pos (show A 17 6 ≤ nI (n + 1) by rw [hF.1 17 (by omega), h17, le_nI] <;> omega)]
    · unfold pX9_take_L94
      dsimp only
      rw [show chs T (n + 1) 0 = n + 1 from rfl, if_pos (show nI (n + 1) < nI (n + 1 + 1) by rw [lt_nI] <;> omega)]
  | m + 1, r, sr, fu, gu, A, D, hm, hR, hS, hF, hc, hfu, hgu => by
    have le := ch_le h m
    have ps := h0 m (by omega)
    have dc := (ch_dec h m).1 ps
    have bm := fun l (hl : m + 1 ≤ l) => (show chs T (n + 1) l ≤ chs T (n + 1) (m + 1) from by
      have := ch_mono h (m + 1) (l - (m + 1))
      rw [show m + 1 + (l - (m + 1)) = l by omega] at this
      exact this)
    have am := fun l (hl : l ≤ m) => (show chs T (n + 1) m ≤ chs T (n + 1) l from by
      have := ch_mono h l (m - l)
      rw [show l + (m - l) = m by omega] at this
      exact this)
    have tf := tf_of (A0 := A0) (D0 := D0) h hn (j := chs T (n + 1) m) (by omega) le ho h3 h4 (h5 _ (by omega) le).1 (h5 _ (by omega) le).2
    obtain ⟨A1, D1, r', sr', e1, e2, k1, k2, k3, k4⟩ := t_block (x2 := x2) tf h17 hR hS hF (hc (by omega)) (ed.1 m (by omega))
    obtain ⟨fu', hfu'⟩ : ∃ g, fu = g + (chs T (n + 1) m - (chs T (n + 1) (m + 1) + 1)) + 1 := ⟨fu - (chs T (n + 1) m - (chs T (n + 1) (m + 1) + 1)) - 1, by omega⟩
    obtain ⟨gu', hgu'⟩ : ∃ g, gu = g + 1 + (chs T (n + 1) m - (chs T (n + 1) (m + 1) + 1)) := ⟨gu - (chs T (n + 1) m - (chs T (n + 1) (m + 1) + 1)) - 1, by omega⟩
    obtain ⟨A', D', r2, s2, g1, g2, g3, g4, g5⟩ := t_walk h hn (x2 := x2) ho h3 h4 h5 h17 h0 lk ed m r' sr' fu' gu' A1 D1 (by omega) k1 k2 k3 (fun hm1 => k4 (by have := ch_lt h h0 (k := 0) (l := m) (by omega) (by omega); have e : chs T (n + 1) 0 = n + 1 := rfl; omega)) (by omega) (by omega)
    refine ⟨A', D', r2, s2, ?_, ?_, g3, g4, g5⟩
    · rw [hfu', itr_s (s' := (nI (chs T (n + 1) (m + 1) + 1), A1)), c_skip hn le _ _ fu' A1 (by omega) (by rw [k3.1 17 (by omega)]; exact h17) (fun k a b => by
        rw [k3.1 28 (by omega)]
        refine lk.2 k (by omega) (fun l hl => ?_)
        by_cases c : m ≤ l
        · have := bm (l + 1) (by omega); omega
        · have := am (l + 1) (by omega); omega)]
      · exact g1
      · unfold pX5_writePlan_L10
        dsimp only
        rw [if_neg (show ¬ A 17 6 ≤ nI (chs T (n + 1) (m + 1)) by rw [hF.1 17 (by omega), h17, le_nI] <;> omega), ald_nI (by omega) (by omega), hF.1 28 (by omega), lk.1 m (by omega), Option.bind_some, if_neg (ne_nI (by omega)), Option.bind_some]
        rw [show chs T (n + 1) (m + 1) = (T (chs T (n + 1) m)).2.2.1 from rfl, e1, Option.bind_some]
        simp (disch := omega) only [bnd_eq, Option.bind_some, lit_nI, nI_add, pk_mul, ald_nI, ast_nI, lt_nI, le_nI, eq_nI, sub_nI, Sum.elim_inl, Sum.elim_inr, if_pos, if_neg, if_true, if_false]
    · rw [hgu', r_skp hn le _ _ (gu' + 1) D (by omega) (fun k a b => by
        rw [hF.2.1 18 (by omega)]
        refine ed.2 k (by omega) (fun l hl => ?_)
        by_cases c : m + 1 ≤ l
        · have := bm l c; omega
        · have := am l (by omega); omega)]
      rw [itr_s (s' := (nI (chs T (n + 1) m), nI (chs T (n + 1) m + 1), D1))]
      · exact g2
      · exact e2
end CHN
end TAKF
