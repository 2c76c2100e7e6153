/-! PURE: best, bestOrder, alone -/
section BEST
variable {n f : Nat}
def BB (F S : Nat → Int32) (wx wy : Int32) (f n : Nat) : Nat × Nat := bst (zof F S wx wy f) n 5039 (idn n) (tE (zof F S wx wy f) n (idn n), nm (idn n) n)
theorem idn_le (n : Nat) : ∀ k, idn n k ≤ n := fun k => by unfold idn; split <;> omega
theorem seeks_r {A D : Mm} (hB : LandB A) (hL : LandR n A D) (hn : n ≤ 7) (hf : f ≤ 2) : ∃ D', pX9_seeks (nI f) D = some D' ∧ D' 0 25 = nI (BB (A 2) (A 3) (A 3 2) (A 3 3) f n).1 ∧ D' 0 26 = nI (BB (A 2) (A 3) (A 3 2) (A 3 3) f n).2 ∧ D' 1 = D 1 ∧ D' 3 = D 3 ∧ D' 0 4 = D 0 4 ∧ D' 0 5 = D 0 5 := by
  have sb := setB hB
  have bz := bz_land hB sb.2.2.2.2.2.2.2.2.1 sb.2.2.2.2.2.2.2.2.2 hf
  have l2 : ∀ (c k fu : Nat) (M : Mm), k + c = n + 1 → M 1 0 = nI n → (∀ d, d ≠ 13 → M d = D d) → (∀ i, i < k → M 13 i = nI i) → c < fu → ∃ M', itr (pX9_seeks_L2 (nI f)) fu (nI k, M) = some M' ∧ (∀ d, d ≠ 13 → M' d = D d) ∧ ∀ i, i < n + 1 → M' 13 i = nI i := by
    intro c
    induction c with
    | zero =>
      intro k fu M hk h1 h2 h3 hfu
      obtain ⟨fu, rfl⟩ : ∃ g, fu = g + 1 := ⟨fu - 1, by omega⟩
      refine ⟨M, itr_e ?_, h2, fun i hi => h3 i (by omega)⟩
      unfold pX9_seeks_L2
      dsimp only
      rw [r_customers, h1, Option.bind_some, if_pos (show nI n < nI k by rw [lt_nI] <;> omega)]
    | succ c ih =>
      intro k fu M hk h1 h2 h3 hfu
      obtain ⟨fu, rfl⟩ : ∃ g, fu = g + 1 := ⟨fu - 1, by omega⟩
      rw [itr_s (s' := (nI (k + 1), mset M 13 k (nI k)))]
      · refine ih (k + 1) fu _ (by omega) (by rw [mset_cell (by omega)]; exact h1) (fun d hd => by rw [mset_cell hd]; exact h2 d hd) (fun i hi => ?_) (by omega)
        by_cases ci : i = k
        · rw [ci, mset_same]
        · rw [mset_slot ci]
          exact h3 i (by omega)
      · unfold pX9_seeks_L2
        dsimp only
        rw [r_customers, h1, Option.bind_some, if_neg (show ¬ nI n < nI k by rw [lt_nI] <;> omega), ast_nI (by omega) (by omega), Option.bind_some]
        simp (disch := omega) only [bnd_eq, Option.bind_some, lit_nI, nI_add, pk_mul, ald_nI, ast_nI, lt_nI, le_nI, eq_nI, sub_nI, Sum.elim_inl, Sum.elim_inr, if_pos, if_neg, if_true, if_false]
  obtain ⟨D1, e1, g1, g2⟩ := l2 (n + 1) 0 fuel D (by omega) hL.2.2.1 (fun _ _ => rfl) (fun i hi => absurd hi (by omega)) (by unfold fuel; omega)
  obtain ⟨V, hV⟩ : ∃ V, V = mset (mset D1 13 (n + 1) 0) 0 25 (-1) := ⟨_, rfl⟩
  have vf : ∀ c, c ≠ 13 → c ≠ 0 → V c = D c := fun c a b => by rw [hV, mset_cell b, mset_cell a]; exact g1 c a
  have v0 : ∀ i, i ≠ 25 → V 0 i = D 0 i := fun i hi => by rw [hV, mset_slot hi, mset_cell (by omega), g1 0 (by omega)]
  have v13 : ∀ k, k ≤ n + 1 → V 13 k = nI (idn n k) := fun k hk => by
    rw [hV, mset_cell (by omega)]
    unfold idn
    by_cases c : k = n + 1
    · rw [c, mset_same, if_neg (by omega)]
      rfl
    · rw [mset_slot c, if_pos (by omega)]
      exact g2 k (by omega)
  have rx : RX (A 2) (A 3) (A 3 2) (A 3 3) n (idn n) V := ⟨⟨A, LandW_c hL.w (vf 1 (by omega) (by omega)), hB, rfl, rfl⟩, sb.2.2.2.2.2.2.2.2.1, sb.2.2.2.2.2.2.2.2.2, idn_le n, v13⟩
  obtain ⟨D', e2, r1, r2, r3⟩ := r_search (B := V) (f := f) bz hf hn 5039 fuel (idn n) (tE (zof (A 2) (A 3) (A 3 2) (A 3 3) f) n (idn n), nm (idn n) n) V (end_F hn) rx ⟨fun _ _ _ _ _ => rfl, fun _ _ _ => rfl⟩ (Or.inl ⟨by rw [hV, mset_same], rfl⟩) (by unfold fuel; omega)
  refine ⟨D', ?_, r1, r2, by rw [r3.1 1 (by omega) (by omega) (by omega) (by omega)]; exact vf 1 (by omega) (by omega), by rw [r3.1 3 (by omega) (by omega) (by omega) (by omega)]; exact vf 3 (by omega) (by omega), by rw [r3.2 4 (by omega) (by omega)]; exact v0 4 (by omega), by rw [r3.2 5 (by omega) (by omega)]; exact v0 5 (by omega)⟩
  unfold pX9_seeks
  rw [show itr (pX9_seeks_L2 (nI f)) fuel (0, D) = _ from e1, Option.bind_some, r_customers, g1 1 (by omega), hL.2.2.1, Option.bind_some, show nI n + 1 = nI (n + 1) from nI_add n 1, ast_nI (by omega) (by omega), Option.bind_some, bnd_eq, ← hV, e2, Option.bind_some]
theorem search_c {A : Mm} {g : Nat} (hg : 27 < g) (h1 : A 1 0 = nI n) (hn : n ≤ 7) (hB : LandB A) (hf : f ≤ 2) (hz : A 23 0 = 0 ∧ A 24 0 = 0 ∧ A 25 0 = 0) : ∃ A1 A', pX5_prepare (nI f) (A 3 2) (A 3 3) A = some A1 ∧ pX5_search g A1 = some A' ∧ (A' g 0 = 1 ∧ A' g 1 = nI (BB (A 2) (A 3) (A 3 2) (A 3 3) f n).1 ∧ A' g 2 = nI (BB (A 2) (A 3) (A 3 2) (A 3 3) f n).2) ∧ (∀ c, c < 17 ∨ 27 < c → c ≠ g → A' c = A c) ∧ (A' 23 0 = 0 ∧ A' 24 0 = 0 ∧ A' 25 0 = 0) := by
  have sb := setB hB
  obtain ⟨A1, e1, k1, k2, k3⟩ := prep_c (f := f) h1 (by omega) hB sb.2.2.2.2.2.2.2.2.1 sb.2.2.2.2.2.2.2.2.2 hf
  have l2 : ∀ (c k fu : Nat) (M : Mm), k + c = n + 1 → M 17 6 = nI (n + 1) → (∀ d, d ≠ 22 → M d = (mset A1 17 6 (nI (n + 1))) d) → (∀ i, i < k → M 22 i = nI i) → c < fu → ∃ M', itr (pX5_search_L15 g) fu (nI k, M) = some M' ∧ (∀ d, d ≠ 22 → M' d = (mset A1 17 6 (nI (n + 1))) d) ∧ ∀ i, i < n + 1 → M' 22 i = nI i := by
    intro c
    induction c with
    | zero =>
      intro k fu M hk h1 h2 h3 hfu
      obtain ⟨fu, rfl⟩ : ∃ g, fu = g + 1 := ⟨fu - 1, by omega⟩
      refine ⟨M, itr_e ?_, h2, fun i hi => h3 i (by omega)⟩
      unfold pX5_search_L15
      dsimp only
      rw [if_pos (show M 17 6 ≤ nI k by rw [h1, le_nI] <;> omega)]
    | succ c ih =>
      intro k fu M hk h1 h2 h3 hfu
      obtain ⟨fu, rfl⟩ : ∃ g, fu = g + 1 := ⟨fu - 1, by omega⟩
      rw [itr_s (s' := (nI (k + 1), mset M 22 k (nI k)))]
      · refine ih (k + 1) fu _ (by omega) (by rw [mset_cell (by omega)]; exact h1) (fun d hd => by rw [mset_cell hd]; exact h2 d hd) (fun i hi => ?_) (by omega)
        by_cases ci : i = k
        · rw [ci, mset_same]
        · rw [mset_slot ci]
          exact h3 i (by omega)
      · unfold pX5_search_L15
        dsimp only
        rw [if_neg (show ¬ M 17 6 ≤ nI k by rw [h1, le_nI] <;> omega), ast_nI (by omega) (by omega), Option.bind_some]
        simp (disch := omega) only [bnd_eq, Option.bind_some, lit_nI, nI_add, pk_mul, ald_nI, ast_nI, lt_nI, le_nI, eq_nI, sub_nI, Sum.elim_inl, Sum.elim_inr, if_pos, if_neg, if_true, if_false]
  obtain ⟨A2, e2, g1, g2⟩ := l2 (n + 1) 0 fuel (mset A1 17 6 (nI (n + 1))) (by omega) (mset_same _ _ _ _) (fun _ _ => rfl) (fun i hi => absurd hi (by omega)) (by unfold fuel; omega)
  obtain ⟨V, hV⟩ : ∃ V, V = mset A2 22 (n + 1) 0 := ⟨_, rfl⟩
  have vf : ∀ c, c ≠ 22 → c ≠ 17 → V c = A1 c := fun c a b => by rw [hV, mset_cell a, g1 c a, mset_cell b]
  have v17 : ∀ i, V 17 i = if i = 6 then nI (n + 1) else A1 17 i := fun i => by
    rw [hV, mset_cell (by omega), g1 17 (by omega), mset_get]
    by_cases c : i = 6
    · rw [if_pos ⟨rfl, c⟩, if_pos c]
    · rw [if_neg (fun g => c g.2), if_neg c]
  have v22 : ∀ k, k ≤ n + 1 → V 22 k = nI (idn n k) := fun k hk => by
    rw [hV]
    unfold idn
    by_cases c : k = n + 1
    · rw [c, mset_same, if_neg (by omega)]
      rfl
    · rw [mset_slot c, if_pos (by omega)]
      exact g2 k (by omega)
  have cx : CX (A 2) (A 3) (A 3 2) (A 3 3) f n (idn n) V := k3 (idn n) V (idn_le n) (fun c a b => vf c (by omega) (by omega)) (fun i a b => by rw [v17, if_neg (by omega)]) (by rw [v17, if_pos rfl]) v22
  have cf : CF V (A 2) (A 3) (A 3 2) (A 3 3) f n (idn n) (1 - 1) V := by
    refine ⟨cx, fun k hk => ?_, fun b hb => ?_, fun _ _ => rfl, fun _ => rfl⟩
    · rw [show k = 0 by omega, vf 23 (by omega) (by omega), k1 23 (by omega), hz.1]
      rfl
    · rw [show b = 0 by omega, vf 24 (by omega) (by omega), k1 24 (by omega), hz.2.1, vf (24 + 1) (by omega) (by omega), k1 (24 + 1) (by omega), hz.2.2]
      exact ⟨rfl, rfl, fun h => absurd h (by omega)⟩
  obtain ⟨A3, e3, h3⟩ := fill_c (a := 1) (by omega) (by omega) cf
  have fr := h3.2.2.2
  have a17 : A3 17 6 = nI (n + 1) := h3.1.2.2.2.2.2.2.2.2.1
  have bz := cx.1
  have tl := tE_lt (o := idn n) bz (show n ≤ 8 by omega) (idn_le n)
  have le : pX5_lastEnd A3 = some (nI (tE (zof (A 2) (A 3) (A 3 2) (A 3 3) f) n (idn n))) := by
    unfold pX5_lastEnd
    rw [a17, ald_nI (by omega) (by omega), (h3.2.2.1 (n + 1) (by omega)).1, Option.bind_some]
    rfl
  have num := c_number (show n ≤ 8 by omega) a17 h3.1.2.2.2.2.2.2.2.2.2.2.2.2.2
  obtain ⟨W, hW⟩ : ∃ W, W = mset (mset (mset A3 g 0 1) g 1 (nI (tE (zof (A 2) (A 3) (A 3 2) (A 3 3) f) n (idn n)))) g 2 (nI (nm (idn n) n)) := ⟨_, rfl⟩
  have wf : ∀ c, c ≠ g → W c = A3 c := fun c hc => by rw [hW, mset_cell hc, mset_cell hc, mset_cell hc]
  have cs : CS (A 2) (A 3) (A 3 2) (A 3 3) f n g (idn n) (tE (zof (A 2) (A 3) (A 3 2) (A 3 3) f) n (idn n), nm (idn n) n) A W := by
    refine ⟨CX_c h3.1 (fun c a b => wf c (by omega)), fun k hk => by rw [wf 23 (by omega)]; exact h3.2.1 k hk, fun b hb => ?_, ⟨?_, ?_, ?_⟩, fun c a b => by rw [wf c b, fr.1 c (by omega), vf c (by omega) (by omega), k1 c (by omega)]⟩
    · rw [wf 24 (by omega), wf (24 + 1) (by omega), wf (24 + 2) (by omega), wf (24 + 3) (by omega)]
      exact h3.2.2.1 b hb
    · rw [hW, mset_slot (by omega), mset_slot (by omega), mset_same]
    · rw [hW, mset_slot (by omega), mset_same]
    · rw [hW, mset_same]
  obtain ⟨x, A', o', e4, hx, h4⟩ := c_search (B := A) hg hn 5039 1 fuel (idn n) _ W (by omega) (end_F hn) cs (show tE (zof (A 2) (A 3) (A 3 2) (A 3 3) f) n (idn n) < 2147483648 by omega) (by unfold fuel; omega)
  refine ⟨A1, A', e1, ?_, h4.2.2.2.1, h4.2.2.2.2, ?_, ?_, ?_⟩
  · unfold pX5_search
    rw [bnd_eq, k1 1 (by omega), h1, show nI n + 1 = nI (n + 1) from nI_add n 1, show itr (pX5_search_L15 g) fuel (0, mset A1 17 6 (nI (n + 1))) = _ from e2, Option.bind_some, show A2 17 6 = nI (n + 1) by rw [g1 17 (by omega), mset_same], ast_nI (by omega) (by omega), Option.bind_some, ← hV, show pX5_fill 1 V = _ from e3, Option.bind_some, le, Option.bind_some, num, Option.bind_some, bnd_eq]
    unfold pX2_keep
    rw [bnd_eq, bnd_eq, bnd_eq, ← hW, show itr (pX5_search_L65 g) fuel (1, W) = _ from e4, Option.bind_some]
    rcases hx with rfl | rfl
    · rfl
    · rfl
  · rw [h4.2.1 0 (by omega)]
    rfl
  · have r := (h4.2.2.1 0 (by omega)).1
    rw [tab_stable _ _ _ 0 (by omega)] at r
    rw [r]
    rfl
  · have r := (h4.2.2.1 0 (by omega)).2.1
    rw [tab_stable _ _ _ 0 (by omega)] at r
    rw [show A' 25 0 = _ from r]
    rfl
theorem isBest_of {A : Mm} (hB : LandB A) (hf : f ≤ 2) (h1 : A 1 0 = nI n) (hn : n ≤ 8) : isBest A (nI f) (nI (BB (A 2) (A 3) (A 3 2) (A 3 3) f n).1) (nI (BB (A 2) (A 3) (A 3 2) (A 3 3) f n).2) := by
  intro n' M2 hL hn'
  have e : n' = n := by
    have := hL.2.1
    rw [h1, eq_nI (by omega) (by omega)] at this
    exact this.symm
  subst e
  exact seeks_r hB hL hn' hf
/-- the search is done, or was -/
theorem best_r {M1 N : Mm} {n : Nat} (hR : Rel M1 N) (hL : LandR n M1 N) (hn : n ≤ 7) : (∃ A' N', pX8_searchBest M1 = some A' ∧ pX9_seeks (M1 3 8) N = some N' ∧ A' 39 1 = N' 0 25 ∧ A' 39 2 = N' 0 26 ∧ Rel A' N') ∧ ∃ A' N', pX8_searchAlone M1 = some A' ∧ pX9_seeks 0 N = some N' ∧ A' 40 1 = N' 0 25 ∧ A' 40 2 = N' 0 26 ∧ Rel A' N' := by
  have hR0 := hR
  obtain ⟨n', r, s, t, hL', hB, hP, hT, hF, hC⟩ := hR
  have nn : n' = n := by
    have a := hL.2.1
    have b := hL'.2.1
    rw [b, eq_nI (by have := hL'.1; omega) (by omega)] at a
    exact a
  subst nn
  obtain ⟨v, v1, v2⟩ := (setB hB).2.2.2.2.2.2.1
  obtain ⟨c39, c40, hz⟩ := hC
  constructor
  · unfold pX8_searchBest
    by_cases c : M1 39 0 = 0
    · rw [if_pos c]
      obtain ⟨A1, A', e1, e2, e3, e4, e5⟩ := search_c (g := 39) (f := v) (by omega) hL.2.1 hn hB v1 hz
      have hB' : LandB A' := LandB_c hB (e4 2 (by omega) (by omega)) (e4 3 (by omega) (by omega))
      have hLA : LandR n' A' N := LandR_c hL (by rw [e4 1 (by omega) (by omega)]) (e4 2 (by omega) (by omega)) (e4 3 (by omega) (by omega)) (fun _ _ => rfl)
      have ib := isBest_of (f := v) hB' v1 hLA.2.1 (by omega)
      rw [e4 2 (by omega) (by omega), e4 3 (by omega) (by omega), ← e3.2.1, ← e3.2.2] at ib
      obtain ⟨N', k1, k2, k3, k4, k5, k6, k7⟩ := ib n' N hLA hn
      refine ⟨A', N', ?_, by rw [v2]; exact k1, by rw [k2], by rw [k3], ?_⟩
      · rw [show pX3_setting 1 8 M1 = some (M1 3 8) from c_setting (i := 8) (by omega), Option.bind_some, show pX3_setting 1 2 M1 = some (M1 3 2) from c_setting (i := 2) (by omega), Option.bind_some, show pX3_setting 1 3 M1 = some (M1 3 3) from c_setting (i := 3) (by omega), Option.bind_some, v2, e1, Option.bind_some, e2, Option.bind_some]
      · refine ⟨n', r, s, t, LandR_c hLA rfl rfl rfl (fun i _ => by rw [k4]), hB', PlanR_c hP (e4 4 (by omega) (by omega)) (e4 5 (by omega) (by omega)) (e4 6 (by omega) (by omega)) (fun i _ _ => by rw [k4]), TapeR_c hT (by rw [e4 29 (by omega) (by omega)]) (e4 30 (by omega) (by omega)) k6 k5, by rw [k7, e4 31 (by omega) (by omega)]; exact hF, Or.inr ⟨e3.1, ?_⟩, ?_, e5⟩
        · rw [e4 3 (by omega) (by omega), v2]
          exact ib
        · rw [e4 40 (by omega) (by omega)]
          rcases c40 with h | ⟨h, hb⟩
          · exact Or.inl h
          · exact Or.inr ⟨h, isBest_c hb (by rw [e4 1 (by omega) (by omega)]) (e4 2 (by omega) (by omega)) (e4 3 (by omega) (by omega))⟩
    · rw [if_neg c]
      rcases c39 with h | ⟨h, hb⟩
      · exact absurd h c
      · obtain ⟨N', k1, k2, k3, k4, k5, k6, k7⟩ := hb n' N hL hn
        exact ⟨M1, N', rfl, k1, by rw [k2], by rw [k3], Rel_2 hR0 k4 k5 k6 k7⟩
  · unfold pX8_searchAlone
    by_cases c : M1 40 0 = 0
    · rw [if_pos c]
      obtain ⟨A1, A', e1, e2, e3, e4, e5⟩ := search_c (g := 40) (f := 0) (by omega) hL.2.1 hn hB (by omega) hz
      have hB' : LandB A' := LandB_c hB (e4 2 (by omega) (by omega)) (e4 3 (by omega) (by omega))
      have hLA : LandR n' A' N := LandR_c hL (by rw [e4 1 (by omega) (by omega)]) (e4 2 (by omega) (by omega)) (e4 3 (by omega) (by omega)) (fun _ _ => rfl)
      have ib := isBest_of (f := 0) hB' (by omega) hLA.2.1 (by omega)
      rw [e4 2 (by omega) (by omega), e4 3 (by omega) (by omega), ← e3.2.1, ← e3.2.2] at ib
      obtain ⟨N', k1, k2, k3, k4, k5, k6, k7⟩ := ib n' N hLA hn
      refine ⟨A', N', ?_, k1, by rw [k2], by rw [k3], ?_⟩
      · rw [show pX3_setting 1 2 M1 = some (M1 3 2) from c_setting (i := 2) (by omega), Option.bind_some, show pX3_setting 1 3 M1 = some (M1 3 3) from c_setting (i := 3) (by omega), Option.bind_some, show pX5_prepare 0 (M1 3 2) (M1 3 3) M1 = _ from e1, Option.bind_some, e2, Option.bind_some]
      · refine ⟨n', r, s, t, LandR_c hLA rfl rfl rfl (fun i _ => by rw [k4]), hB', PlanR_c hP (e4 4 (by omega) (by omega)) (e4 5 (by omega) (by omega)) (e4 6 (by omega) (by omega)) (fun i _ _ => by rw [k4]), TapeR_c hT (by rw [e4 29 (by omega) (by omega)]) (e4 30 (by omega) (by omega)) k6 k5, by rw [k7, e4 31 (by omega) (by omega)]; exact hF, ?_, Or.inr ⟨e3.1, ib⟩, e5⟩
        · rw [e4 39 (by omega) (by omega), e4 3 (by omega) (by omega)]
          rcases c39 with h | ⟨h, hb⟩
          · exact Or.inl h
          · exact Or.inr ⟨h, isBest_c hb (by rw [e4 1 (by omega) (by omega)]) (e4 2 (by omega) (by omega)) (e4 3 (by omega) (by omega))⟩
    · rw [if_neg c]
      rcases c40 with h | ⟨h, hb⟩
      · exact absurd h c
      · obtain ⟨N', k1, k2, k3, k4, k5, k6, k7⟩ := hb n' N hL hn
        exact ⟨M1, N', rfl, k1, by rw [k2], by rw [k3], Rel_2 hR0 k4 k5 k6 k7⟩
theorem pr_best : PR_best Rel := by
  intro M1 M2 hR
  replace hR := Rel_t hR 0
  unfold pX8_best pX9_best
  rw [bnd_eq]
  generalize mset M2 0 0 0 = N at hR ⊢
  have hR0 := hR
  obtain ⟨n, r, s, t, hL, hB, hP, hT, hF, hC⟩ := hR
  have n8 := hL.1
  rw [hL.2.1, r_customers, hL.2.2.1, Option.bind_some]
  by_cases c : n ≤ 7
  · obtain ⟨⟨A', N', e1, e2, e3, e4, e5⟩, -⟩ := best_r hR0 hL c
    rw [if_pos (show nI n ≤ 7 by show nI n ≤ nI 7; rw [le_nI] <;> omega), if_pos (show nI n ≤ 7 by show nI n ≤ nI 7; rw [le_nI] <;> omega), e1, Option.bind_some, show pX9_of 8 N = some (M1 3 8) by rw [show pX9_of 8 N = _ from r_of (i := 8) (by omega), hL.2.2.2.2 8 (by omega)], Option.bind_some, e2, Option.bind_some, e3]
    exact ⟨_, _, _, rfl, rfl, e5⟩
  · rw [if_neg (show ¬ nI n ≤ 7 by show ¬ nI n ≤ nI 7; rw [le_nI] <;> omega), if_neg (show ¬ nI n ≤ 7 by show ¬ nI n ≤ nI 7; rw [le_nI] <;> omega)]
    exact ⟨_, _, _, rfl, rfl, hR0⟩
theorem pr_bestOrder : PR_bestOrder Rel := by
  intro M1 M2 hR
  replace hR := Rel_t hR 0
  unfold pX8_bestOrder pX9_bestOrder
  rw [bnd_eq]
  generalize mset M2 0 0 0 = N at hR ⊢
  have hR0 := hR
  obtain ⟨n, r, s, t, hL, hB, hP, hT, hF, hC⟩ := hR
  have n8 := hL.1
  rw [hL.2.1, r_customers, hL.2.2.1, Option.bind_some]
  by_cases c : n ≤ 7
  · obtain ⟨⟨A', N', e1, e2, e3, e4, e5⟩, -⟩ := best_r hR0 hL c
    rw [if_pos (show nI n ≤ 7 by show nI n ≤ nI 7; rw [le_nI] <;> omega), if_pos (show nI n ≤ 7 by show nI n ≤ nI 7; rw [le_nI] <;> omega), e1, Option.bind_some, show pX9_of 8 N = some (M1 3 8) by rw [show pX9_of 8 N = _ from r_of (i := 8) (by omega), hL.2.2.2.2 8 (by omega)], Option.bind_some, e2, Option.bind_some, e4]
    exact ⟨_, _, _, rfl, rfl, e5⟩
  · rw [if_neg (show ¬ nI n ≤ 7 by show ¬ nI n ≤ nI 7; rw [le_nI] <;> omega), if_neg (show ¬ nI n ≤ 7 by show ¬ nI n ≤ nI 7; rw [le_nI] <;> omega)]
    exact ⟨_, _, _, rfl, rfl, hR0⟩
theorem pr_alone : PR_alone Rel := by
  intro M1 M2 x hR
  replace hR := Rel_t hR 0
  unfold pX8_alone pX9_alone
  rw [bnd_eq]
  generalize mset M2 0 0 0 = N at hR ⊢
  have hR0 := hR
  obtain ⟨n, r, s, t, hL, hB, hP, hT, hF, hC⟩ := hR
  have n8 := hL.1
  rw [hL.2.1, r_customers, hL.2.2.1, Option.bind_some]
  by_cases c : n ≤ 7
  · obtain ⟨-, ⟨A', N', e1, e2, e3, e4, e5⟩⟩ := best_r hR0 hL c
    rw [if_neg (show ¬ (7 : Int32) < nI n by show ¬ nI 7 < nI n; rw [lt_nI] <;> omega), if_neg (show ¬ (7 : Int32) < nI n by show ¬ nI 7 < nI n; rw [lt_nI] <;> omega)]
    rcases rng_c x (k := 2) (by omega) with ⟨b, b1⟩ | ⟨j, hj, rfl, b1⟩
    · rw [show pX9_isIn x 0 1 = 0 from b1, if_pos rfl]
      rcases b with b | b
      · rw [if_pos b]
        exact ⟨_, _, _, rfl, rfl, hR0⟩
      · rw [if_neg (show ¬ x ≤ 1 by rw [fa_le]; rw [fa_le] at b; have : (nI 2).toInt = 2 := rfl; have : (1 : Int32).toInt = 1 := rfl; omega), ite_self]
        exact ⟨_, _, _, rfl, rfl, hR0⟩
    · rw [show pX9_isIn (nI j) 0 1 = 1 from b1, if_neg one_ne, if_neg (nI_pos (by omega)), if_pos (show nI j ≤ 1 by show nI j ≤ nI 1; rw [le_nI] <;> omega), e1, Option.bind_some, e2, Option.bind_some]
      by_cases j0 : nI j = 0
      · rw [if_pos j0, if_pos j0, e3]
        exact ⟨_, _, _, rfl, rfl, e5⟩
      · rw [if_neg j0, if_neg j0, e4]
        exact ⟨_, _, _, rfl, rfl, e5⟩
  · rw [if_pos (show (7 : Int32) < nI n by show nI 7 < nI n; rw [lt_nI] <;> omega), if_pos (show (7 : Int32) < nI n by show nI 7 < nI n; rw [lt_nI] <;> omega)]
    exact ⟨_, _, _, rfl, rfl, hR0⟩
end BEST
