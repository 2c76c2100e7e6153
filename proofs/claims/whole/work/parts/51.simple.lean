/-! PURE: the simple methods -/
theorem LandR_c {n : Nat} {M1 M2 M1' M2' : Mm} (h : LandR n M1 M2) (e1 : M1' 1 0 = M1 1 0) (e2 : M1' 2 = M1 2) (e3 : M1' 3 = M1 3) (g : ∀ i, i < 60 → M2' 1 i = M2 1 i) : LandR n M1' M2' := by
  obtain ⟨h1, h2, h3, h4, h5⟩ := h
  exact ⟨h1, by rw [e1, h2], by rw [g 0 (by omega), h3], fun i hi => by rw [g _ (by omega), h4 i hi, e2], fun i hi => by rw [g _ (by omega), h5 i hi, e3]⟩
theorem LandB_c {M1 M1' : Mm} (h : LandB M1) (e2 : M1' 2 = M1 2) (e3 : M1' 3 = M1 3) : LandB M1' := by
  unfold LandB at h ⊢
  rw [e2, e3]
  exact h
theorem PlanR_c {n r s : Nat} {M1 M2 M1' M2' : Mm} (h : PlanR n r s M1 M2) (e4 : M1' 4 = M1 4) (e5 : M1' 5 = M1 5) (e6 : M1' 6 = M1 6) (g : ∀ i, 60 ≤ i → i < 103 → M2' 1 i = M2 1 i) : PlanR n r s M1' M2' := by
  obtain ⟨h1, h2, h3, h4, h5, h6, h7, h8, h9, h10⟩ := h
  refine ⟨h1, h2, by rw [e4, h3], by rw [e4, h4], by rw [g _ (by omega) (by omega), h5], by rw [g _ (by omega) (by omega), h6], fun i hi => by rw [g _ (by omega) (by omega), h7 i hi, e5], fun i hi => by rw [g _ (by omega) (by omega), h8 i hi, e6], ?_, ?_⟩
  · rw [e5]; exact h9
  · rw [e6]; exact h10
theorem TapeR_c {t : Nat} {M1 M2 M1' M2' : Mm} (h : TapeR t M1 M2) (e1 : M1' 29 0 = M1 29 0) (e2 : M1' 30 = M1 30) (g4 : M2' 0 4 = M2 0 4) (g3 : M2' 3 = M2 3) : TapeR t M1' M2' := by
  unfold TapeR at h ⊢
  rw [e1, e2, g4, g3]
  exact h
theorem isBest_c {M1 M1' : Mm} {fl e o : Int32} (h : isBest M1 fl e o) (e1 : M1' 1 0 = M1 1 0) (e2 : M1' 2 = M1 2) (e3 : M1' 3 = M1 3) : isBest M1' fl e o := by
  intro n M2 hL hn
  exact h n M2 (LandR_c hL e1.symm e2.symm e3.symm (fun _ _ => rfl)) hn
theorem CacheR_c {M1 M1' : Mm} (h : CacheR M1) (e1 : M1' 1 0 = M1 1 0) (e2 : M1' 2 = M1 2) (e3 : M1' 3 = M1 3) (e39 : M1' 39 = M1 39) (e40 : M1' 40 = M1 40) (ez : M1' 23 0 = M1 23 0 ∧ M1' 24 0 = M1 24 0 ∧ M1' 25 0 = M1 25 0 := by exact ⟨rfl, rfl, rfl⟩) : CacheR M1' := by
  unfold CacheR at h ⊢
  rw [e3, e39, e40, ez.1, ez.2.1, ez.2.2]
  refine ⟨?_, ?_, h.2.2⟩
  · rcases h.1 with h | ⟨h, hb⟩
    · exact Or.inl h
    · exact Or.inr ⟨h, isBest_c hb e1 e2 e3⟩
  · rcases h.2.1 with h | ⟨h, hb⟩
    · exact Or.inl h
    · exact Or.inr ⟨h, isBest_c hb e1 e2 e3⟩
theorem Rel_c {M1 M2 M1' M2' : Mm} (h : Rel M1 M2) (e1 : M1' 1 0 = M1 1 0) (e2 : M1' 2 = M1 2) (e3 : M1' 3 = M1 3) (e4 : M1' 4 = M1 4) (e5 : M1' 5 = M1 5) (e6 : M1' 6 = M1 6) (e29 : M1' 29 0 = M1 29 0) (e30 : M1' 30 = M1 30) (e31 : M1' 31 5 = M1 31 5) (e39 : M1' 39 = M1 39) (e40 : M1' 40 = M1 40) (g1 : M2' 1 = M2 1) (g3 : M2' 3 = M2 3) (g4 : M2' 0 4 = M2 0 4) (g5 : M2' 0 5 = M2 0 5) (ez : M1' 23 0 = M1 23 0 ∧ M1' 24 0 = M1 24 0 ∧ M1' 25 0 = M1 25 0 := by exact ⟨rfl, rfl, rfl⟩) : Rel M1' M2' := by
  obtain ⟨n, r, s, t, hL, hB, hP, hT, hF, hC⟩ := h
  exact ⟨n, r, s, t, LandR_c hL e1 e2 e3 (fun i _ => by rw [g1]), LandB_c hB e2 e3, PlanR_c hP e4 e5 e6 (fun i _ _ => by rw [g1]), TapeR_c hT e29 e30 g4 g3, by rw [g5, e31, hF], CacheR_c hC e1 e2 e3 e39 e40 ez⟩
/-- the reference alone sets what no answer shows -/
theorem Rel_2 {M1 M2 M2' : Mm} (h : Rel M1 M2) (g1 : M2' 1 = M2 1) (g3 : M2' 3 = M2 3) (g4 : M2' 0 4 = M2 0 4) (g5 : M2' 0 5 = M2 0 5) : Rel M1 M2' := Rel_c h rfl rfl rfl rfl rfl rfl rfl rfl rfl rfl rfl g1 g3 g4 g5
theorem Rel_t {M1 M2 : Mm} (h : Rel M1 M2) (v : Int32) : Rel M1 (mset M2 0 0 v) := Rel_2 h rfl rfl rfl rfl
theorem ix_cases (x : Int32) {n : Nat} (hn : n < 2147483648) : x < 0 ∨ nI n < x ∨ ∃ j : Nat, j ≤ n ∧ x = nI j := by
  by_cases h : x < 0
  · exact Or.inl h
  · obtain ⟨j, hj, e⟩ := nI_of h
    subst e
    by_cases h2 : j ≤ n
    · exact Or.inr (Or.inr ⟨j, h2, rfl⟩)
    · exact Or.inr (Or.inl (by rw [lt_nI] <;> omega))
theorem isIn_lo {x a b : Int32} (h : x < a) : pX9_isIn x a b = 0 := by
  unfold pX9_isIn
  rw [if_pos h]
theorem isIn_hi {x a b : Int32} (h : b < x) : pX9_isIn x a b = 0 := by
  unfold pX9_isIn
  by_cases h2 : x < a
  · rw [if_pos h2]
  · rw [if_neg h2, if_pos h]
theorem isIn_in {x a b : Int32} (h : ¬ x < a) (h2 : ¬ b < x) : pX9_isIn x a b = 1 := by
  unfold pX9_isIn
  rw [if_neg h, if_neg h2]
theorem isIn_nI {x a b : Nat} (h : a ≤ x) (h2 : x ≤ b) (hb : b < 2147483648) : pX9_isIn (nI x) (nI a) (nI b) = 1 := isIn_in (by rw [lt_nI] <;> omega) (by rw [lt_nI] <;> omega)
theorem isIn_lo_nI {x a : Nat} {b : Int32} (h : x < a) (hb : a < 2147483648) : pX9_isIn (nI x) (nI a) b = 0 := isIn_lo (by rw [lt_nI] <;> omega)
theorem isIn_hi_nI {x b : Nat} {a : Int32} (h : b < x) (hb : x < 2147483648) : pX9_isIn (nI x) a (nI b) = 0 := isIn_hi (by rw [lt_nI] <;> omega)
theorem and_0 : (0 : Int32) &&& 1 = 0 := by decide
theorem and_1 : (1 : Int32) &&& 1 = 1 := by decide
theorem one_ne : ¬ (1 : Int32) = 0 := by decide
/-! the reference's accessors -/
theorem r_customers (M : Mm) : pX9_customers M = some (M 1 0) := by
  unfold pX9_customers
  simp (disch := omega) only [bnd_eq, Option.bind_some, lit_nI, nI_add, pk_mul, ald_nI, ast_nI, lt_nI, le_nI, eq_nI, sub_nI, Sum.elim_inl, Sum.elim_inr, if_pos, if_neg, if_true, if_false]
theorem r_of {M : Mm} {i : Nat} (h : i < 110) : pX9_of (nI i) M = some (M 1 (50 + i)) := by
  unfold pX9_of
  simp (disch := omega) only [bnd_eq, Option.bind_some, lit_nI, nI_add, pk_mul, ald_nI, ast_nI, lt_nI, le_nI, eq_nI, sub_nI, Sum.elim_inl, Sum.elim_inr, if_pos, if_neg, if_true, if_false]
theorem r_placeOf {M : Mm} {p w : Nat} (h : 1 + 5 * p + w < 160) : pX9_placeOf (nI p) (nI w) M = some (M 1 (1 + 5 * p + w)) := by
  unfold pX9_placeOf
  simp (disch := omega) only [bnd_eq, Option.bind_some, lit_nI, nI_add, pk_mul, ald_nI, ast_nI, lt_nI, le_nI, eq_nI, sub_nI, Sum.elim_inl, Sum.elim_inr, if_pos, if_neg, if_true, if_false]
theorem r_stops (M : Mm) : pX9_stops M = some (M 1 60 + 2) := by
  unfold pX9_stops
  rw [show (60 : Int32) = nI 60 from rfl, ald_nI (by omega) (by omega)]
  rfl
theorem r_sorties (M : Mm) : pX9_sorties M = some (M 1 70) := by
  unfold pX9_sorties
  simp (disch := omega) only [bnd_eq, Option.bind_some, lit_nI, nI_add, pk_mul, ald_nI, ast_nI, lt_nI, le_nI, eq_nI, sub_nI, Sum.elim_inl, Sum.elim_inr, if_pos, if_neg, if_true, if_false]
theorem r_sortieOf {M : Mm} {k w : Nat} (h : 71 + 4 * k + w < 160) : pX9_sortieOf (nI k) (nI w) M = some (M 1 (71 + 4 * k + w)) := by
  unfold pX9_sortieOf
  simp (disch := omega) only [bnd_eq, Option.bind_some, lit_nI, nI_add, pk_mul, ald_nI, ast_nI, lt_nI, le_nI, eq_nI, sub_nI, Sum.elim_inl, Sum.elim_inr, if_pos, if_neg, if_true, if_false]
theorem r_ald {M : Mm} {i : Nat} (h : i < 160) : ald M 1 160 (nI i) = some (M 1 i) := ald_nI h (by omega)
theorem cust_c {b n : Nat} {x : Int32} {M1 M2 : Mm} (h1 : M1 b 0 = nI n) (h2 : M2 1 0 = nI n) (hn : n ≤ 8) : (pX3_isCustomer b x M1 = 0 ∧ pX9_isCustomer x M2 = some 0) ∨ ∃ c : Nat, 1 ≤ c ∧ c ≤ n ∧ x = nI c ∧ pX3_isCustomer b x M1 = 1 ∧ pX9_isCustomer x M2 = some 1 := by
  unfold pX3_isCustomer pX9_isCustomer
  rw [r_customers, h1, h2]
  by_cases c1 : x < 1
  · rw [if_pos c1, Option.bind_some, isIn_lo c1, and_0]
    exact Or.inl ⟨rfl, rfl⟩
  · rw [if_neg c1]
    by_cases c2 : nI n < x
    · rw [if_pos c2, Option.bind_some, isIn_hi c2, and_0]
      exact Or.inl ⟨rfl, rfl⟩
    · rw [if_neg c2, Option.bind_some, isIn_in c1 c2, and_1]
      rcases ix_cases x (n := n) (by omega) with h | h | ⟨j, hj, e⟩
      · exact absurd (Int32.lt_trans h (by decide)) c1
      · exact absurd h c2
      · refine Or.inr ⟨j, ?_, hj, e, rfl, rfl⟩
        rw [e, show (1 : Int32) = nI 1 from rfl, lt_nI (by omega) (by omega)] at c1
        omega
theorem place_c {b n : Nat} {x : Int32} {M1 M2 : Mm} (h1 : M1 b 0 = nI n) (h2 : M2 1 0 = nI n) (hn : n ≤ 8) : (pX3_isPlace b x M1 = 0 ∧ pX9_isPlace x M2 = some 0) ∨ ∃ c : Nat, c ≤ n ∧ x = nI c ∧ pX3_isPlace b x M1 = 1 ∧ pX9_isPlace x M2 = some 1 := by
  unfold pX3_isPlace pX9_isPlace
  rw [r_customers, h1, h2]
  by_cases c1 : x < 0
  · rw [if_pos c1, Option.bind_some, isIn_lo c1, and_0]
    exact Or.inl ⟨rfl, rfl⟩
  · rw [if_neg c1]
    by_cases c2 : nI n < x
    · rw [if_pos c2, Option.bind_some, isIn_hi c2, and_0]
      exact Or.inl ⟨rfl, rfl⟩
    · rw [if_neg c2, Option.bind_some, isIn_in c1 c2, and_1]
      rcases ix_cases x (n := n) (by omega) with h | h | ⟨j, hj, e⟩
      · exact absurd h c1
      · exact absurd h c2
      · exact Or.inr ⟨j, hj, e, rfl, rfl⟩
theorem pr_fault : PR_fault Rel := by
  intro M1 M2 hR
  refine ⟨M1 31 5, M1, mset M2 0 0 0, ⟨rfl, rfl⟩, ?_, Rel_t hR 0⟩
  obtain ⟨n, r, s, t, hL, hB, hP, hT, hF, hC⟩ := hR
  show (M2 0 5, _) = _
  rw [hF]
theorem pr_end : PR_end Rel := by
  intro M1 M2 x hR
  have hR0 := Rel_t hR 0
  obtain ⟨n, r, s, t, hL, hB, hP, hT, hF, hC⟩ := hR
  obtain ⟨t1, t2, t3, t4⟩ := hT
  unfold pX8_end pX9_end
  simp only [bnd_eq]
  rw [show mset M2 0 0 0 0 4 = nI t from t3, t2]
  by_cases c1 : x < 0
  · rw [if_pos c1, if_pos (isIn_lo c1)]
    exact ⟨_, _, _, rfl, rfl, hR0⟩
  · rw [if_neg c1]
    by_cases c2 : nI t < x
    · rw [if_neg (by intro h; exact Int32.lt_irrefl (Int32.lt_of_lt_of_le c2 h)), if_pos (isIn_hi c2)]
      exact ⟨_, _, _, rfl, rfl, hR0⟩
    · rw [if_pos (Int32.not_lt.mp c2), if_neg (by rw [isIn_in c1 c2]; exact one_ne)]
      rcases ix_cases x (n := t) (by omega) with h | h | ⟨j, hj, e⟩
      · exact absurd h c1
      · exact absurd h c2
      · subst e
        refine ⟨_, _, _, rfl, rfl, ?_⟩
        refine ⟨n, r, s, j, LandR_c hL rfl rfl rfl (fun _ _ => rfl), LandB_c hB rfl rfl, PlanR_c hP rfl rfl rfl (fun _ _ _ => rfl), ?_, hF, CacheR_c hC rfl rfl rfl rfl rfl⟩
        exact ⟨by omega, rfl, rfl, fun i hi => t4 i (by omega)⟩
theorem pr_clear : PR_clear Rel := by
  intro M1 M2 hR
  obtain ⟨n, r, s, t, hL, hB, hP, hT, hF, hC⟩ := hR
  obtain ⟨hr8, hs8, p1, p2, p3, p4, p5, p6, p7, p8⟩ := hP
  unfold pX8_clear pX9_clear pX9_clears pX4_empty
  simp (disch := omega) only [bnd_eq, Option.bind_some, lit_nI, nI_add, pk_mul, ald_nI, ast_nI, lt_nI, le_nI, eq_nI, sub_nI, Sum.elim_inl, Sum.elim_inr, if_pos, if_neg, if_true, if_false]
  refine ⟨_, _, rfl, rfl, ?_⟩
  refine ⟨n, 0, 0, t, LandR_c hL rfl rfl rfl (fun i hi => ?_), LandB_c hB rfl rfl, ⟨by omega, by omega, rfl, rfl, rfl, rfl, fun i hi => ?_, fun i hi => ?_, fun i hi => absurd hi (by omega), fun i hi => absurd hi (by omega)⟩, TapeR_c hT rfl rfl rfl rfl, hF, CacheR_c hC rfl rfl rfl rfl rfl⟩
  · simp (disch := omega) only [mset_get, mset_cell, mrow_cell, mrow_same, if_pos, if_neg, true_and, false_and, and_true, and_false, if_true, if_false, ite_true, ite_false]
  · simp (disch := omega) only [mset_get, mset_cell, mrow_cell, mrow_same, if_pos, if_neg, true_and, false_and, and_true, and_false, if_true, if_false, ite_true, ite_false]
    exact p5 i hi
  · simp (disch := omega) only [mset_get, mset_cell, mrow_cell, mrow_same, if_pos, if_neg, true_and, false_and, and_true, and_false, if_true, if_false, ite_true, ite_false]
    exact p6 i hi
theorem pr_undo : PR_undo Rel := by
  intro M1 M2 x hR hx
  have hR0 := Rel_t hR 0
  obtain ⟨n, r, s, t, hL, hB, hP, hT, hF, hC⟩ := hR
  obtain ⟨hr8, hs8, p1, p2, p3, p4, p5, p6, p7, p8⟩ := hP
  have q60 : mset M2 0 0 0 1 60 = nI r := p3
  have q70 : mset M2 0 0 0 1 70 = nI s := p4
  unfold pX8_undo pX9_undo
  rcases hx with rfl | rfl
  · rw [if_pos rfl, p2]
    simp only [bnd_eq, if_true]
    rw [show (70 : Int32) = nI 70 from rfl, r_ald (by omega), q70]
    simp only [Option.bind_some]
    by_cases c : s = 0
    · subst c
      rw [if_pos (by rfl), if_pos (by rfl)]
      exact ⟨_, _, _, rfl, rfl, hR0⟩
    · have e : ¬ nI s = 0 := nI_ne0 (by omega) (by omega)
      rw [if_neg e, if_neg e]
      simp (disch := omega) only [bnd_eq, Option.bind_some, lit_nI, nI_add, pk_mul, ald_nI, ast_nI, lt_nI, le_nI, eq_nI, sub_nI, Sum.elim_inl, Sum.elim_inr, if_pos, if_neg, if_true, if_false]
      refine ⟨nI (s - 1), _, _, rfl, rfl, ?_⟩
      refine ⟨n, r, s - 1, t, LandR_c hL rfl rfl rfl (fun i hi => ?_), LandB_c hB rfl rfl, ⟨by omega, by omega, ?_, ?_, ?_, ?_, fun i hi => ?_, fun i hi => ?_, p7, fun i hi => p8 i (by omega)⟩, TapeR_c hT rfl rfl rfl rfl, hF, CacheR_c hC rfl rfl rfl rfl rfl⟩
      · simp (disch := omega) only [mset_get, mset_cell, mrow_cell, mrow_same, if_pos, if_neg, true_and, false_and, and_true, and_false, if_true, if_false, ite_true, ite_false]
      · exact p1
      · rfl
      · exact p3
      · rfl
      · simp (disch := omega) only [mset_get, mset_cell, mrow_cell, mrow_same, if_pos, if_neg, true_and, false_and, and_true, and_false, if_true, if_false, ite_true, ite_false]
        exact p5 i hi
      · simp (disch := omega) only [mset_get, mset_cell, mrow_cell, mrow_same, if_pos, if_neg, true_and, false_and, and_true, and_false, if_true, if_false, ite_true, ite_false]
        exact p6 i hi
  · rw [if_neg one_ne, p1]
    simp only [bnd_eq, if_neg one_ne]
    rw [show (60 : Int32) = nI 60 from rfl, r_ald (by omega), q60]
    simp only [Option.bind_some]
    by_cases c : r = 0
    · subst c
      rw [if_pos (by rfl), if_pos (by rfl)]
      exact ⟨_, _, _, rfl, rfl, hR0⟩
    · have e : ¬ nI r = 0 := nI_ne0 (by omega) (by omega)
      rw [if_neg e, if_neg e]
      simp (disch := omega) only [bnd_eq, Option.bind_some, lit_nI, nI_add, pk_mul, ald_nI, ast_nI, lt_nI, le_nI, eq_nI, sub_nI, Sum.elim_inl, Sum.elim_inr, if_pos, if_neg, if_true, if_false]
      refine ⟨nI (r - 1), _, _, rfl, rfl, ?_⟩
      refine ⟨n, r - 1, s, t, LandR_c hL rfl rfl rfl (fun i hi => ?_), LandB_c hB rfl rfl, ⟨by omega, by omega, ?_, ?_, ?_, ?_, fun i hi => ?_, fun i hi => ?_, fun i hi => p7 i (by omega), p8⟩, TapeR_c hT rfl rfl rfl rfl, hF, CacheR_c hC rfl rfl rfl rfl rfl⟩
      · simp (disch := omega) only [mset_get, mset_cell, mrow_cell, mrow_same, if_pos, if_neg, true_and, false_and, and_true, and_false, if_true, if_false, ite_true, ite_false]
      · rfl
      · exact p2
      · rfl
      · exact p4
      · simp (disch := omega) only [mset_get, mset_cell, mrow_cell, mrow_same, if_pos, if_neg, true_and, false_and, and_true, and_false, if_true, if_false, ite_true, ite_false]
        exact p5 i hi
      · simp (disch := omega) only [mset_get, mset_cell, mrow_cell, mrow_same, if_pos, if_neg, true_and, false_and, and_true, and_false, if_true, if_false, ite_true, ite_false]
        exact p6 i hi
theorem pr_drop : PR_drop Rel := by
  intro M1 M2 hR
  replace hR := Rel_t hR 0
  unfold pX8_drop pX9_drop pX9_clears pX4_empty pX8_forgetSearches
  simp only [bnd_eq]
  generalize mset M2 0 0 0 = N at hR ⊢
  have hR0 := hR
  obtain ⟨n, r, s, t, hL, hB, hP, hT, hF, hC⟩ := hR
  obtain ⟨hn8, l1, l2, l3, l4⟩ := hL
  obtain ⟨hr8, hs8, p1, p2, p3, p4, p5, p6, p7, p8⟩ := hP
  simp only [r_customers, Option.bind_some, l1, l2]
  by_cases c : n = 0
  · subst c
    rw [if_pos (by rfl), if_pos (by rfl)]
    exact ⟨_, _, _, rfl, rfl, hR0⟩
  · have e : ¬ nI n = 0 := nI_ne0 (by omega) (by omega)
    rw [if_neg e, if_neg e]
    simp (disch := omega) only [bnd_eq, Option.bind_some, lit_nI, nI_add, pk_mul, ald_nI, ast_nI, lt_nI, le_nI, eq_nI, sub_nI, Sum.elim_inl, Sum.elim_inr, if_pos, if_neg, if_true, if_false, mset_get, mset_cell, mrow_cell, mrow_same, true_and, false_and, and_true, and_false, if_true, if_false, ite_true, ite_false, l2]
    refine ⟨nI (n - 1), _, _, rfl, rfl, ?_⟩
    refine ⟨n - 1, 0, 0, t, ⟨by omega, rfl, rfl, fun i hi => ?_, fun i hi => ?_⟩, LandB_c hB rfl rfl, ⟨by omega, by omega, rfl, rfl, rfl, rfl, fun i hi => ?_, fun i hi => ?_, fun i hi => absurd hi (by omega), fun i hi => absurd hi (by omega)⟩, TapeR_c hT rfl rfl rfl rfl, hF, ⟨Or.inl rfl, Or.inl rfl, hC.2.2⟩⟩
    · simp (disch := omega) only [mset_get, mset_cell, mrow_cell, mrow_same, if_pos, if_neg, true_and, false_and, and_true, and_false, if_true, if_false, ite_true, ite_false]
      exact l3 i hi
    · simp (disch := omega) only [mset_get, mset_cell, mrow_cell, mrow_same, if_pos, if_neg, true_and, false_and, and_true, and_false, if_true, if_false, ite_true, ite_false]
      exact l4 i hi
    · simp (disch := omega) only [mset_get, mset_cell, mrow_cell, mrow_same, if_pos, if_neg, true_and, false_and, and_true, and_false, if_true, if_false, ite_true, ite_false]
      exact p5 i hi
    · simp (disch := omega) only [mset_get, mset_cell, mrow_cell, mrow_same, if_pos, if_neg, true_and, false_and, and_true, and_false, if_true, if_false, ite_true, ite_false]
      exact p6 i hi
theorem pr_go : PR_go Rel := by
  intro M1 M2 x hR
  replace hR := Rel_t hR 0
  unfold pX8_go pX9_go
  simp only [bnd_eq]
  generalize mset M2 0 0 0 = N at hR ⊢
  have hR0 := hR
  obtain ⟨n, r, s, t, hL, hB, hP, hT, hF, hC⟩ := hR
  obtain ⟨hn8, l1, l2, l3, l4⟩ := hL
  obtain ⟨hr8, hs8, p1, p2, p3, p4, p5, p6, p7, p8⟩ := hP
  rcases cust_c (x := x) l1 l2 hn8 with ⟨a, b⟩ | ⟨c, hc1, hc2, rfl, a, b⟩
  · simp only [a, b, Option.bind_some, if_true]
    exact ⟨_, _, _, rfl, rfl, hR0⟩
  · simp only [a, b, Option.bind_some, if_neg one_ne, r_stops, p3]
    unfold pX4_addStop pX9_stopsAt
    simp (disch := omega) only [bnd_eq, Option.bind_some, lit_nI, nI_add, pk_mul, ald_nI, ast_nI, lt_nI, le_nI, eq_nI, sub_nI, Sum.elim_inl, Sum.elim_inr, if_pos, if_neg, if_true, if_false, p1, p3]
    by_cases c8 : r = 8
    · subst c8
      simp (disch := omega) only [bnd_eq, Option.bind_some, lit_nI, nI_add, pk_mul, ald_nI, ast_nI, lt_nI, le_nI, eq_nI, sub_nI, Sum.elim_inl, Sum.elim_inr, if_pos, if_neg, if_true, if_false]
      exact ⟨_, _, _, rfl, rfl, hR0⟩
    · simp (disch := omega) only [bnd_eq, Option.bind_some, lit_nI, nI_add, pk_mul, ald_nI, ast_nI, lt_nI, le_nI, eq_nI, sub_nI, Sum.elim_inl, Sum.elim_inr, if_pos, if_neg, if_true, if_false, mset_get, mset_cell, mrow_cell, mrow_same, true_and, false_and, and_true, and_false, if_true, if_false, ite_true, ite_false, r_stops, p1, p3, pX4_stops]
      refine ⟨_, _, _, rfl, rfl, ?_⟩
      refine ⟨n, r + 1, s, t, ⟨by omega, l1, ?_, fun i hi => ?_, fun i hi => ?_⟩, LandB_c hB rfl rfl, ⟨by omega, by omega, ?_, ?_, ?_, ?_, fun i hi => ?_, fun i hi => ?_, fun i hi => ?_, ?_⟩, TapeR_c hT rfl rfl rfl rfl, hF, CacheR_c hC rfl rfl rfl rfl rfl⟩
      · simp (disch := omega) only [mset_get, mset_cell, mrow_cell, mrow_same, if_pos, if_neg, true_and, false_and, and_true, and_false, if_true, if_false, ite_true, ite_false]
        exact l2
      · simp (disch := omega) only [mset_get, mset_cell, mrow_cell, mrow_same, if_pos, if_neg, true_and, false_and, and_true, and_false, if_true, if_false, ite_true, ite_false]
        exact l3 i hi
      · simp (disch := omega) only [mset_get, mset_cell, mrow_cell, mrow_same, if_pos, if_neg, true_and, false_and, and_true, and_false, if_true, if_false, ite_true, ite_false]
        exact l4 i hi
      · rfl
      · exact p2
      · rfl
      · simp (disch := omega) only [mset_get, mset_cell, mrow_cell, mrow_same, if_pos, if_neg, true_and, false_and, and_true, and_false, if_true, if_false, ite_true, ite_false]
        exact p4
      · by_cases ci : i = r
        · subst ci
          simp (disch := omega) only [mset_get, mset_cell, mrow_cell, mrow_same, if_pos, if_neg, true_and, false_and, and_true, and_false, if_true, if_false, ite_true, ite_false]
        · simp (disch := omega) only [mset_get, mset_cell, mrow_cell, mrow_same, if_pos, if_neg, true_and, false_and, and_true, and_false, if_true, if_false, ite_true, ite_false]
          exact p5 i hi
      · simp (disch := omega) only [mset_get, mset_cell, mrow_cell, mrow_same, if_pos, if_neg, true_and, false_and, and_true, and_false, if_true, if_false, ite_true, ite_false]
        exact p6 i hi
      · by_cases ci : i = r
        · subst ci
          exact ⟨c, hc1, hc2, by simp (disch := omega) only [mset_get, mset_cell, mrow_cell, mrow_same, if_pos, if_neg, true_and, false_and, and_true, and_false, if_true, if_false, ite_true, ite_false]⟩
        · simp (disch := omega) only [mset_get, mset_cell, mrow_cell, mrow_same, if_pos, if_neg, true_and, false_and, and_true, and_false, if_true, if_false, ite_true, ite_false]
          exact p7 i (by omega)
      · exact p8
theorem flyer_c (x : Int32) : (pX4_mayBeFlyer x = 0 ∧ pX9_isIn x 0 1 = 0) ∨ ∃ c : Nat, c ≤ 1 ∧ x = nI c ∧ pX4_mayBeFlyer x = 1 ∧ pX9_isIn x 0 1 = 1 := by
  unfold pX4_mayBeFlyer
  rcases ix_cases x (n := 1) (by omega) with h | h | ⟨j, hj, rfl⟩
  · refine Or.inl ⟨?_, isIn_lo h⟩
    rw [if_neg (by rintro rfl; exact absurd h (by decide)), if_neg (by rintro rfl; exact absurd h (by decide))]
  · refine Or.inl ⟨?_, isIn_hi h⟩
    rw [if_neg (by rintro rfl; exact absurd h (by decide)), if_neg (by rintro rfl; exact absurd h (by decide))]
  · have : j = 0 ∨ j = 1 := by omega
    rcases this with rfl | rfl
    · exact Or.inr ⟨0, by omega, rfl, rfl, rfl⟩
    · exact Or.inr ⟨1, by omega, rfl, rfl, rfl⟩
theorem index_c (x : Int32) : (pX4_mayBeIndex x = 0 ∧ pX9_isIn x 0 9 = 0) ∨ ∃ c : Nat, c ≤ 9 ∧ x = nI c ∧ pX4_mayBeIndex x = 1 ∧ pX9_isIn x 0 9 = 1 := by
  unfold pX4_mayBeIndex
  rcases ix_cases x (n := 9) (by omega) with h | h | ⟨j, hj, rfl⟩
  · exact Or.inl ⟨by rw [if_pos h], isIn_lo h⟩
  · have h0 : ¬ x < 0 := fun h1 => absurd (Int32.lt_trans h h1) (by decide)
    refine Or.inl ⟨?_, isIn_hi h⟩
    rw [if_neg h0]
    obtain ⟨j, hj, rfl⟩ := nI_of h0
    rw [lt_nI (by omega) (by omega)] at h
    simp (disch := omega) only [bnd_eq, Option.bind_some, lit_nI, nI_add, pk_mul, ald_nI, ast_nI, lt_nI, le_nI, eq_nI, sub_nI, Sum.elim_inl, Sum.elim_inr, if_pos, if_neg, if_true, if_false]
  · refine Or.inr ⟨j, hj, rfl, ?_, isIn_nI (a := 0) (b := 9) (by omega) (by omega) (by omega)⟩
    simp (disch := omega) only [bnd_eq, Option.bind_some, lit_nI, nI_add, pk_mul, ald_nI, ast_nI, lt_nI, le_nI, eq_nI, sub_nI, Sum.elim_inl, Sum.elim_inr, if_pos, if_neg, if_true, if_false]
theorem pr_fly : PR_fly Rel := by
  intro M1 M2 x1 x2 x3 x4 hR
  replace hR := Rel_t hR 0
  unfold pX8_fly pX9_fly pX9_maySend
  simp only [bnd_eq]
  generalize mset M2 0 0 0 = N at hR ⊢
  have hR0 := hR
  obtain ⟨n, r, s, t, hL, hB, hP, hT, hF, hC⟩ := hR
  obtain ⟨hn8, l1, l2, l3, l4⟩ := hL
  obtain ⟨hr8, hs8, p1, p2, p3, p4, p5, p6, p7, p8⟩ := hP
  rcases flyer_c x1 with ⟨a1, b1⟩ | ⟨fl, hfl, rfl, a1, b1⟩
  · simp only [a1, b1, if_true, Option.bind_some]
    exact ⟨_, _, _, rfl, rfl, hR0⟩
  rcases index_c x2 with ⟨a2, b2⟩ | ⟨fr, hfr, rfl, a2, b2⟩
  · simp only [a1, b1, a2, b2, if_true, Option.bind_some, if_neg one_ne]
    exact ⟨_, _, _, rfl, rfl, hR0⟩
  rcases cust_c (x := x3) l1 l2 hn8 with ⟨a3, b3⟩ | ⟨c, hc1, hc2, rfl, a3, b3⟩
  · simp only [a1, b1, a2, b2, a3, b3, if_true, Option.bind_some, if_neg one_ne, ite_self]
    exact ⟨_, _, _, rfl, rfl, hR0⟩
  rcases index_c x4 with ⟨a4, b4⟩ | ⟨at9, hat, rfl, a4, b4⟩
  · simp only [a1, b1, a2, b2, a3, b3, a4, b4, if_true, Option.bind_some, if_neg one_ne]
    exact ⟨_, _, _, rfl, rfl, hR0⟩
  simp only [a1, b1, a2, b2, a3, b3, a4, b4, Option.bind_some, if_neg one_ne, r_sorties, p4]
  unfold pX4_addSortie pX9_sends
  simp (disch := omega) only [bnd_eq, Option.bind_some, lit_nI, nI_add, pk_mul, ald_nI, ast_nI, lt_nI, le_nI, eq_nI, sub_nI, Sum.elim_inl, Sum.elim_inr, if_pos, if_neg, if_true, if_false, p2, p4]
  by_cases c8 : s = 8
  · subst c8
    simp (disch := omega) only [bnd_eq, Option.bind_some, lit_nI, nI_add, pk_mul, ald_nI, ast_nI, lt_nI, le_nI, eq_nI, sub_nI, Sum.elim_inl, Sum.elim_inr, if_pos, if_neg, if_true, if_false]
    exact ⟨_, _, _, rfl, rfl, hR0⟩
  · simp (disch := omega) only [bnd_eq, Option.bind_some, lit_nI, nI_add, pk_mul, ald_nI, ast_nI, lt_nI, le_nI, eq_nI, sub_nI, Sum.elim_inl, Sum.elim_inr, if_pos, if_neg, if_true, if_false, mset_get, mset_cell, mrow_cell, mrow_same, true_and, false_and, and_true, and_false, if_true, if_false, ite_true, ite_false, p2, p4, r_sorties]
    refine ⟨_, _, _, rfl, rfl, ?_⟩
    refine ⟨n, r, s + 1, t, ⟨by omega, l1, ?_, fun i hi => ?_, fun i hi => ?_⟩, LandB_c hB rfl rfl, ⟨by omega, by omega, ?_, ?_, ?_, ?_, fun i hi => ?_, fun i hi => ?_, fun i hi => ?_, fun k hk => ?_⟩, TapeR_c hT rfl rfl rfl rfl, hF, CacheR_c hC rfl rfl rfl rfl rfl⟩
    · simp (disch := omega) only [mset_get, mset_cell, mrow_cell, mrow_same, if_pos, if_neg, true_and, false_and, and_true, and_false, if_true, if_false, ite_true, ite_false]
      exact l2
    · simp (disch := omega) only [mset_get, mset_cell, mrow_cell, mrow_same, if_pos, if_neg, true_and, false_and, and_true, and_false, if_true, if_false, ite_true, ite_false]
      exact l3 i hi
    · simp (disch := omega) only [mset_get, mset_cell, mrow_cell, mrow_same, if_pos, if_neg, true_and, false_and, and_true, and_false, if_true, if_false, ite_true, ite_false]
      exact l4 i hi
    · exact p1
    · rfl
    · simp (disch := omega) only [mset_get, mset_cell, mrow_cell, mrow_same, if_pos, if_neg, true_and, false_and, and_true, and_false, if_true, if_false, ite_true, ite_false]
      exact p3
    · rfl
    · simp (disch := omega) only [mset_get, mset_cell, mrow_cell, mrow_same, if_pos, if_neg, true_and, false_and, and_true, and_false, if_true, if_false, ite_true, ite_false]
      exact p5 i hi
    · have q := p6 i hi
      have z : i < 4 * s ∨ i = 4 * s ∨ i = 4 * s + 1 ∨ i = 4 * s + 2 ∨ i = 4 * s + 3 ∨ 4 * s + 3 < i := by omega
      rcases z with z | rfl | rfl | rfl | rfl | z <;> simp (disch := omega) only [mset_get, mset_cell, mrow_cell, mrow_same, if_pos, if_neg, true_and, false_and, and_true, and_false, if_true, if_false, ite_true, ite_false]
      · exact q
      · exact q
    · exact p7 i hi
    · by_cases ck : k = s
      · subst ck
        exact ⟨fl, fr, c, at9, hfl, hfr, hc1, hc2, hat, by simp (disch := omega) only [mset_get, mset_cell, mrow_cell, mrow_same, if_pos, if_neg, true_and, false_and, and_true, and_false, if_true, if_false, ite_true, ite_false], by simp (disch := omega) only [mset_get, mset_cell, mrow_cell, mrow_same, if_pos, if_neg, true_and, false_and, and_true, and_false, if_true, if_false, ite_true, ite_false], by simp (disch := omega) only [mset_get, mset_cell, mrow_cell, mrow_same, if_pos, if_neg, true_and, false_and, and_true, and_false, if_true, if_false, ite_true, ite_false], by simp (disch := omega) only [mset_get, mset_cell, mrow_cell, mrow_same, if_pos, if_neg, true_and, false_and, and_true, and_false, if_true, if_false, ite_true, ite_false]⟩
      · obtain ⟨f9, r9, c9, a9, h1, h2, h3, h4, h5, h6, h7, h8, h9⟩ := p8 k (by omega)
        exact ⟨f9, r9, c9, a9, h1, h2, h3, h4, h5, by simp (disch := omega) only [mset_get, mset_cell, mrow_cell, mrow_same, if_pos, if_neg, true_and, false_and, and_true, and_false, if_true, if_false, ite_true, ite_false]; exact h6, by simp (disch := omega) only [mset_get, mset_cell, mrow_cell, mrow_same, if_pos, if_neg, true_and, false_and, and_true, and_false, if_true, if_false, ite_true, ite_false]; exact h7, by simp (disch := omega) only [mset_get, mset_cell, mrow_cell, mrow_same, if_pos, if_neg, true_and, false_and, and_true, and_false, if_true, if_false, ite_true, ite_false]; exact h8, by simp (disch := omega) only [mset_get, mset_cell, mrow_cell, mrow_same, if_pos, if_neg, true_and, false_and, and_true, and_false, if_true, if_false, ite_true, ite_false]; exact h9⟩
theorem pr_count : PR_count Rel := by
  intro M1 M2 x hR
  replace hR := Rel_t hR 0
  unfold pX8_count pX9_count
  simp only [bnd_eq]
  generalize mset M2 0 0 0 = N at hR ⊢
  have hR0 := hR
  obtain ⟨n, r, s, t, hL, hB, hP, hT, hF, hC⟩ := hR
  obtain ⟨hn8, l1, l2, l3, l4⟩ := hL
  obtain ⟨hr8, hs8, p1, p2, p3, p4, p5, p6, p7, p8⟩ := hP
  obtain ⟨t1, t2, t3, t4⟩ := hT
  simp only [r_customers, r_stops, r_sorties, Option.bind_some, pX4_stops, l1, l2, p1, p2, p3, p4, t2, t3]
  by_cases c0 : x = 0
  · rw [if_pos c0, if_pos c0]; exact ⟨_, _, _, ⟨rfl, rfl⟩, rfl, hR0⟩
  rw [if_neg c0, if_neg c0]
  by_cases c1 : x = 1
  · rw [if_pos c1, if_pos c1]; exact ⟨_, _, _, ⟨rfl, rfl⟩, rfl, hR0⟩
  rw [if_neg c1, if_neg c1]
  by_cases c2 : x = 2
  · rw [if_pos c2, if_pos c2]; exact ⟨_, _, _, ⟨rfl, rfl⟩, rfl, hR0⟩
  rw [if_neg c2, if_neg c2]
  by_cases c3 : x = 3
  · rw [if_pos c3, if_pos c3]; exact ⟨_, _, _, ⟨rfl, rfl⟩, rfl, hR0⟩
  rw [if_neg c3, if_neg c3]
  rcases ix_cases x (n := 19) (by omega) with h | h | ⟨j, hj, rfl⟩
  · have h10 : x < 10 := Int32.lt_trans h (by decide)
    rw [if_pos h10, if_pos (isIn_lo h10)]
    exact ⟨_, _, _, ⟨rfl, rfl⟩, rfl, hR0⟩
  · have h0 : ¬ x < 0 := fun h1 => absurd (Int32.lt_trans h h1) (by decide)
    obtain ⟨j, hj, rfl⟩ := nI_of h0
    rw [lt_nI (by omega) (by omega)] at h
    rw [show (10 : Int32) = nI 10 from rfl, show (19 : Int32) = nI 19 from rfl, show (20 : Int32) = nI 20 from rfl, if_neg (by rw [lt_nI] <;> omega), if_pos (by rw [le_nI] <;> omega), if_pos (isIn_hi_nI (by omega) (by omega))]
    exact ⟨_, _, _, ⟨rfl, rfl⟩, rfl, hR0⟩
  · by_cases c : j < 10
    · rw [show (10 : Int32) = nI 10 from rfl, if_pos (by rw [lt_nI] <;> omega), if_pos (isIn_lo_nI (by omega) (by omega))]
      exact ⟨_, _, _, ⟨rfl, rfl⟩, rfl, hR0⟩
    · rw [show (10 : Int32) = nI 10 from rfl, show (19 : Int32) = nI 19 from rfl, show (20 : Int32) = nI 20 from rfl, if_neg (by rw [lt_nI] <;> omega), if_neg (by rw [le_nI] <;> omega), if_neg (by rw [isIn_nI (by omega) (by omega) (by omega)]; exact one_ne), sub_nI (by omega), c_setting (by omega), r_of (by omega), l4 _ (by omega)]
      exact ⟨_, _, _, ⟨rfl, rfl⟩, rfl, hR0⟩
theorem pr_place : PR_place Rel := by
  intro M1 M2 x w hR
  replace hR := Rel_t hR 0
  unfold pX8_place pX9_place
  simp only [bnd_eq]
  generalize mset M2 0 0 0 = N at hR ⊢
  have hR0 := hR
  obtain ⟨n, r, s, t, hL, hB, hP, hT, hF, hC⟩ := hR
  obtain ⟨hn8, l1, l2, l3, l4⟩ := hL
  rcases place_c (x := x) l1 l2 hn8 with ⟨a, b⟩ | ⟨p, hp, rfl, a, b⟩
  · simp only [b, Option.bind_some, if_true]
    unfold pX3_fact
    unfold pX3_isPlace at a
    by_cases c1 : x < 0
    · rw [if_pos c1]
      exact ⟨_, _, _, ⟨rfl, rfl⟩, rfl, hR0⟩
    · rw [if_neg c1] at a ⊢
      by_cases c2 : M1 1 0 < x
      · rw [if_pos c2]
        exact ⟨_, _, _, ⟨rfl, rfl⟩, rfl, hR0⟩
      · rw [if_neg c2] at a
        exact absurd a one_ne
  · simp only [b, Option.bind_some, if_neg one_ne]
    rcases ix_cases w (n := 4) (by omega) with h | h | ⟨j, hj, rfl⟩
    · rw [if_pos (isIn_lo h)]
      unfold pX3_fact
      rw [l1, if_neg (nI_pos (by omega)), if_neg (by rw [lt_nI] <;> omega), if_pos h]
      exact ⟨_, _, _, ⟨rfl, rfl⟩, rfl, hR0⟩
    · rw [show (4 : Int32) = nI 4 from rfl, if_pos (isIn_hi h)]
      unfold pX3_fact
      have h0 : ¬ w < 0 := fun h1 => absurd (Int32.lt_trans h h1) (by decide)
      obtain ⟨j, hj, rfl⟩ := nI_of h0
      rw [lt_nI (by omega) (by omega)] at h
      rw [l1, if_neg (nI_pos (by omega)), if_neg (by rw [lt_nI] <;> omega), if_neg h0, if_pos (show (5 : Int32) ≤ nI j by show nI 5 ≤ nI j; rw [le_nI] <;> omega)]
      exact ⟨_, _, _, ⟨rfl, rfl⟩, rfl, hR0⟩
    · rw [show (0 : Int32) = nI 0 from rfl, show (4 : Int32) = nI 4 from rfl, if_neg (by rw [isIn_nI (by omega) (by omega) (by omega)]; exact one_ne), c_fact l1 hn8 hp (by omega), r_placeOf (by omega), Nat.add_assoc, l3 _ (by omega)]
      exact ⟨_, _, _, ⟨rfl, rfl⟩, rfl, hR0⟩
theorem pr_sortie : PR_sortie Rel := by
  intro M1 M2 x w hR
  have hR0 := hR
  obtain ⟨n, r, s, t, hL, hB, hP, hT, hF, hC⟩ := hR
  obtain ⟨hr8, hs8, p1, p2, p3, p4, p5, p6, p7, p8⟩ := hP
  unfold pX8_sortie pX9_sortie pX4_hasSortie
  simp only [bnd_eq, r_sorties, Option.bind_some, p2, p4]
  have e1 : ∀ v : Int32, mset M2 0 0 v 0 0 = v := fun v => rfl
  have c : (x < 0 ∨ nI s ≤ x) ∨ ∃ k : Nat, k < s ∧ x = nI k := by
    by_cases h : x < 0
    · exact Or.inl (Or.inl h)
    · obtain ⟨k, hk, rfl⟩ := nI_of h
      by_cases h2 : k < s
      · exact Or.inr ⟨k, h2, rfl⟩
      · exact Or.inl (Or.inr (by rw [le_nI] <;> omega))
  have d : (w < 0 ∨ 4 ≤ w) ∨ ∃ k : Nat, k < 4 ∧ w = nI k := by
    by_cases h : w < 0
    · exact Or.inl (Or.inl h)
    · obtain ⟨k, hk, rfl⟩ := nI_of h
      by_cases h2 : k < 4
      · exact Or.inr ⟨k, h2, rfl⟩
      · exact Or.inl (Or.inr (by show nI 4 ≤ nI k; rw [le_nI] <;> omega))
  have no : ∀ q : Option Int32, q = none → ∃ (q' : Option Int32) (r2 : Int32) (M2' : Mm), some q = some q' ∧ (some ((0 : Int32), mset M2 0 0 1) : Option (Int32 × Mm)) = some (r2, M2') ∧ (∀ v, q' = some v → M2' 0 0 = 0 ∧ r2 = v) ∧ (q' = none → M2' 0 0 = 1) ∧ Rel M1 M2' := by
    rintro q rfl
    exact ⟨none, 0, _, rfl, rfl, (by intro v h; cases h), fun _ => rfl, Rel_t hR0 1⟩
  rcases c with c | ⟨k, hk, rfl⟩
  · have h1 : (if (if x < 0 then (0 : Int32) else if nI s ≤ x then 0 else 1) = 0 then (some none : Option (Option Int32)) else if w < 0 then some none else if w < 4 then (pX4_part 4 x w M1).bind fun v => some (some v) else some none) = some none := by
      rcases c with c | c
      · rw [if_pos c, if_pos rfl]
      · rw [if_pos c, ite_self, if_pos rfl]
    have h2 : pX9_isIn x 0 (nI s - 1) = 0 := by
      rcases c with c | c
      · exact isIn_lo c
      · by_cases h0 : x < 0
        · exact isIn_lo h0
        · obtain ⟨k, hk, rfl⟩ := nI_of h0
          rw [le_nI (by omega) (by omega)] at c
          refine isIn_hi ?_
          rw [Int32.lt_iff_toInt_lt, show (1 : Int32) = nI 1 from rfl, pk_sub_toInt (by omega) (by omega), nI_toInt hk]
          omega
    rw [h1, h2, if_pos rfl, e1, if_pos rfl]
    exact no none rfl
  · have h2 : pX9_isIn (nI k) 0 (nI s - 1) = 1 := by
      rw [show nI s - 1 = nI (s - 1) from sub_nI (b := 1) (by omega)]
      exact isIn_nI (a := 0) (by omega) (by omega) (by omega)
    rw [h2, if_neg (nI_pos (by omega)), if_neg (show ¬ nI s ≤ nI k by rw [le_nI] <;> omega), if_neg one_ne, if_neg one_ne]
    rcases d with d | ⟨j, hj, rfl⟩
    · have h3 : pX9_isIn w 0 3 = 0 := by
        rcases d with d | d
        · exact isIn_lo d
        · exact isIn_hi (Int32.lt_of_lt_of_le (by decide) d)
      have h4 : (if w < 0 then (some none : Option (Option Int32)) else if w < 4 then (pX4_part 4 (nI k) w M1).bind fun v => some (some v) else some none) = some none := by
        rcases d with d | d
        · rw [if_pos d]
        · rw [if_neg (show ¬ w < 4 from Int32.not_lt.mpr d), ite_self]
      rw [h3, h4, if_pos rfl, e1, if_pos rfl]
      exact no none rfl
    · rw [show pX9_isIn (nI j) 0 3 = 1 from isIn_nI (a := 0) (b := 3) (by omega) (by omega) (by omega), if_neg one_ne, if_neg (nI_pos (by omega)), if_pos (show nI j < 4 by show nI j < nI 4; rw [lt_nI] <;> omega), c_part p2 hs8 hk hj, e1, if_neg (by decide), r_sortieOf (by omega)]
      refine ⟨some (M1 6 (4 * k + j)), _, _, rfl, rfl, fun v h => ⟨rfl, ?_⟩, (by intro h; cases h), Rel_t hR0 0⟩
      cases h
      show M2 1 (71 + 4 * k + j) = _
      rw [Nat.add_assoc, p6 _ (by omega)]
theorem fact_c {w : Nat} (hw : w < 5) (x : Int32) (M : Mm) : (pX3_mayBeFact (nI w) x M = some 0 ∧ pX9_mayBe (nI w) x = 0) ∨ ∃ v : Nat, v ≤ fMost w ∧ x = nI v ∧ pX3_mayBeFact (nI w) x M = some 1 ∧ pX9_mayBe (nI w) x = 1 := by
  have hm : pX9_mayBe (nI w) x = pX9_isIn x 0 (nI (fMost w)) &&& 1 ∧ stL0.getD w 0 = nI (fMost w) ∧ fMost w ≤ 99 := by
    have : w = 0 ∨ w = 1 ∨ w = 2 ∨ w = 3 ∨ w = 4 := by omega
    rcases this with rfl | rfl | rfl | rfl | rfl <;> exact ⟨rfl, rfl, by decide⟩
  obtain ⟨h1, h2, h3⟩ := hm
  have h4 : pX3_mayBeFact (nI w) x M = if x < 0 then some 0 else if nI (fMost w) < x then some 0 else some 1 := by
    unfold pX3_mayBeFact
    rw [if_neg (nI_pos (by omega)), if_neg (show ¬ (5 : Int32) ≤ nI w by show ¬ nI 5 ≤ nI w; rw [le_nI] <;> omega), sld_nI (by show w < 5; omega) (by decide), h2]
    rfl
  rw [h1, h4]
  rcases ix_cases x (n := fMost w) (by omega) with h | h | ⟨j, hj, rfl⟩
  · rw [if_pos h, isIn_lo h]
    exact Or.inl ⟨rfl, rfl⟩
  · rw [isIn_hi h, if_pos h, ite_self]
    exact Or.inl ⟨rfl, rfl⟩
  · rw [if_neg (nI_pos (by omega)), if_neg (by rw [lt_nI] <;> omega), show pX9_isIn (nI j) 0 (nI (fMost w)) = 1 from isIn_nI (a := 0) (by omega) hj (by omega)]
    exact Or.inr ⟨j, hj, rfl, rfl, rfl⟩
def sLo (i : Nat) : Int32 := stL1.getD i 0
def sHi (i : Nat) : Int32 := stL2.getD i 0
theorem setting_c {i : Nat} (hi : i < 10) (x : Int32) (M : Mm) : pX3_mayBeSetting (nI i) x M = (if x < sLo i then some 0 else if sHi i < x then some 0 else some 1) ∧ pX9_maySet (nI i) x = pX9_isIn x (sLo i) (sHi i) := by
  constructor
  · unfold pX3_mayBeSetting
    rw [if_neg (nI_pos (by omega)), if_neg (show ¬ (10 : Int32) ≤ nI i by show ¬ nI 10 ≤ nI i; rw [le_nI] <;> omega), sld_nI (by show i < 10; omega) (by decide), sld_nI (by show i < 10; omega) (by decide)]
    rfl
  · have a : ∀ (x a b : Int32), pX9_isIn x a b &&& 1 = pX9_isIn x a b := by
      intro x a b
      unfold pX9_isIn
      split
      · rfl
      · split <;> rfl
    have b : ∀ (x a b : Int32), (if pX9_isIn x a b = 0 then (0 : Int32) else 1) = pX9_isIn x a b := by
      intro x a b
      unfold pX9_isIn
      split
      · rfl
      · split <;> rfl
    have : i = 0 ∨ i = 1 ∨ i = 2 ∨ i = 3 ∨ i = 4 ∨ i = 5 ∨ i = 6 ∨ i = 7 ∨ i = 8 ∨ i = 9 := by omega
    rcases this with rfl | rfl | rfl | rfl | rfl | rfl | rfl | rfl | rfl | rfl
    · exact a _ _ _
    · exact a _ _ _
    · exact a _ _ _
    · exact a _ _ _
    · exact a _ _ _
    · exact a _ _ _
    · exact a _ _ _
    · exact a _ _ _
    · exact a _ _ _
    · exact b _ _ _
theorem pr_set : PR_set Rel := by
  intro M1 M2 x v hR
  replace hR := Rel_t hR 0
  unfold pX8_set pX9_set
  simp only [bnd_eq]
  generalize mset M2 0 0 0 = N at hR ⊢
  have hR0 := hR
  obtain ⟨n, r, s, t, hL, hB, hP, hT, hF, hC⟩ := hR
  obtain ⟨hn8, l1, l2, l3, l4⟩ := hL
  rcases ix_cases x (n := 9) (by omega) with h | h | ⟨i, hi, rfl⟩
  · rw [if_pos (isIn_lo h), pX3_mayBeSetting, if_pos h]
    exact ⟨_, _, _, rfl, rfl, hR0⟩
  · have h0 : ¬ x < 0 := fun h1 => absurd (Int32.lt_trans h h1) (by decide)
    obtain ⟨j, hj, rfl⟩ := nI_of h0
    rw [lt_nI (by omega) (by omega)] at h
    rw [if_pos (isIn_hi (show (9 : Int32) < nI j by show nI 9 < nI j; rw [lt_nI] <;> omega)), pX3_mayBeSetting, if_neg h0, if_pos (show (10 : Int32) ≤ nI j by show nI 10 ≤ nI j; rw [le_nI] <;> omega)]
    exact ⟨_, _, _, rfl, rfl, hR0⟩
  · obtain ⟨e1, e2⟩ := setting_c (i := i) (by omega) v M1
    rw [e1, e2, show pX9_isIn (nI i) 0 9 = 1 from isIn_nI (a := 0) (b := 9) (by omega) (by omega) (by omega), if_neg one_ne]
    by_cases c1 : v < sLo i
    · rw [if_pos c1, if_pos (isIn_lo c1)]
      exact ⟨_, _, _, rfl, rfl, hR0⟩
    rw [if_neg c1]
    by_cases c2 : sHi i < v
    · rw [if_pos c2, if_pos (isIn_hi c2)]
      exact ⟨_, _, _, rfl, rfl, hR0⟩
    rw [if_neg c2, if_neg (by rw [isIn_in c1 c2]; exact one_ne)]
    rw [c_setting (by omega), r_of (by omega), l4 i (by omega)]
    simp only [Option.bind_some, if_neg one_ne]
    by_cases c3 : M1 3 i = v
    · rw [if_pos c3, if_pos c3]
      exact ⟨_, _, _, rfl, rfl, hR0⟩
    rw [if_neg c3, if_neg c3]
    unfold pX3_putSetting
    rw [e1, if_neg c1, if_neg c2]
    simp (disch := omega) only [bnd_eq, Option.bind_some, lit_nI, nI_add, pk_mul, ald_nI, ast_nI, lt_nI, le_nI, eq_nI, sub_nI, Sum.elim_inl, Sum.elim_inr, if_pos, if_neg, if_true, if_false, mset_get, mset_cell, mrow_cell, mrow_same, true_and, false_and, and_true, and_false, if_true, if_false, ite_true, ite_false, one_ne, pX8_forgetSearches]
    refine ⟨_, _, _, rfl, rfl, ?_⟩
    refine ⟨n, r, s, t, ⟨hn8, l1, ?_, fun k hk => ?_, fun k hk => ?_⟩, ⟨hB.1, hB.2.1, fun k hk => ?_⟩, PlanR_c hP rfl rfl rfl (fun k hk hk2 => ?_), TapeR_c hT rfl rfl rfl rfl, hF, ⟨Or.inl rfl, Or.inl rfl, hC.2.2⟩⟩
    · simp (disch := omega) only [mset_get, mset_cell, mrow_cell, mrow_same, if_pos, if_neg, true_and, false_and, and_true, and_false, if_true, if_false, ite_true, ite_false]
      exact l2
    · simp (disch := omega) only [mset_get, mset_cell, mrow_cell, mrow_same, if_pos, if_neg, true_and, false_and, and_true, and_false, if_true, if_false, ite_true, ite_false]
      exact l3 k hk
    · by_cases ck : k = i
      · subst ck
        simp (disch := omega) only [mset_get, mset_cell, mrow_cell, mrow_same, if_pos, if_neg, true_and, false_and, and_true, and_false, if_true, if_false, ite_true, ite_false]
      · simp (disch := omega) only [mset_get, mset_cell, mrow_cell, mrow_same, if_pos, if_neg, true_and, false_and, and_true, and_false, if_true, if_false, ite_true, ite_false]
        exact l4 k hk
    · by_cases ck : k = i
      · subst ck
        simp (disch := omega) only [mset_get, mset_cell, mrow_cell, mrow_same, if_pos, if_neg, true_and, false_and, and_true, and_false, if_true, if_false, ite_true, ite_false]
        exact ⟨Int32.le_iff_toInt_le.mp (Int32.not_lt.mp c1), Int32.le_iff_toInt_le.mp (Int32.not_lt.mp c2)⟩
      · simp (disch := omega) only [mset_get, mset_cell, mrow_cell, mrow_same, if_pos, if_neg, true_and, false_and, and_true, and_false, if_true, if_false, ite_true, ite_false]
        exact hB.2.2 k hk
    · simp (disch := omega) only [mset_get, mset_cell, mrow_cell, mrow_same, if_pos, if_neg, true_and, false_and, and_true, and_false, if_true, if_false, ite_true, ite_false]
