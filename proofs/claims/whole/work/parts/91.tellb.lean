/-! PURE: tell -/
theorem LandR_p {n : Nat} {M1 M1' M2 : Mm} (h : LandR n M1 M2) (e1 : M1' 1 0 = M1 1 0) (e2 : ∀ i, i < 45 → M1' 2 i = M1 2 i) (e3 : ∀ i, i < 10 → M1' 3 i = M1 3 i) : LandR n M1' M2 := by
  obtain ⟨h1, h2, h3, h4, h5⟩ := h
  exact ⟨h1, by rw [e1, h2], h3, fun i hi => by rw [h4 i hi, e2 i hi], fun i hi => by rw [h5 i hi, e3 i hi]⟩
theorem LandB_p {M1 M1' : Mm} (h : LandB M1) (e2 : ∀ i, i < 45 → M1' 2 i = M1 2 i) (e3 : ∀ i, i < 10 → M1' 3 i = M1 3 i) : LandB M1' := by
  obtain ⟨h1, h2, h3⟩ := h
  refine ⟨fun p w hp hw => by rw [e2 _ (by omega)]; exact h1 p w hp hw, ?_, fun i hi => by rw [e3 i hi]; exact h3 i hi⟩
  rw [e2 2 (by omega), e2 3 (by omega), e2 4 (by omega)]
  exact h2
theorem PlanR_p {n r s : Nat} {M1 M1' M2 : Mm} (h : PlanR n r s M1 M2) (e4 : M1' 4 0 = M1 4 0) (e4' : M1' 4 1 = M1 4 1) (e5 : ∀ i, i < 8 → M1' 5 i = M1 5 i) (e6 : ∀ i, i < 32 → M1' 6 i = M1 6 i) : PlanR n r s M1' M2 := by
  obtain ⟨p1, p2, p3, p4, p5, p6, p7, p8, p9, p10⟩ := h
  refine ⟨p1, p2, by rw [e4, p3], by rw [e4', p4], p5, p6, fun i hi => by rw [p7 i hi, e5 i hi], fun i hi => by rw [p8 i hi, e6 i hi], fun i hi => by rw [e5 i (by omega)]; exact p9 i hi, fun k hk => ?_⟩
  rw [e6 _ (by omega), e6 _ (by omega), e6 _ (by omega), e6 _ (by omega)]
  exact p10 k hk
/-- what a copy holds -/
theorem copy_L {b o : Nat} {M : Mm} (h : o + 2 < b ∨ b + 2 < o) : pX3_copyOf b o M b 0 = M o 0 ∧ (∀ i, i < 45 → pX3_copyOf b o M (b + 1) i = M (o + 1) i) ∧ (∀ i, i < 10 → pX3_copyOf b o M (b + 2) i = M (o + 2) i) ∧ ∀ c, c ≠ b → c ≠ b + 1 → c ≠ b + 2 → pX3_copyOf b o M c = M c := by
  unfold pX3_copyOf
  simp only [bnd_eq]
  refine ⟨?_, fun i hi => ?_, fun i hi => ?_, fun c h1 h2 h3 => ?_⟩
  · rw [mrow_cell (by omega), mrow_cell (by omega), mset_same]
  · rw [mrow_cell (by omega), mrow_same]
    unfold va_cpy
    rw [if_pos (by omega), mset_cell (by omega), Nat.sub_zero, Nat.zero_add]
  · rw [mrow_same]
    unfold va_cpy
    rw [if_pos (by omega), mrow_cell (by omega), mset_cell (by omega), Nat.sub_zero, Nat.zero_add]
  · rw [mrow_cell h3, mrow_cell h2, mset_cell h1]
theorem copy_P {b o : Nat} {M : Mm} (h : o + 2 < b ∨ b + 2 < o) : pX4_copyOf b o M b 0 = M o 0 ∧ pX4_copyOf b o M b 1 = M o 1 ∧ (∀ i, i < 8 → pX4_copyOf b o M (b + 1) i = M (o + 1) i) ∧ (∀ i, i < 32 → pX4_copyOf b o M (b + 2) i = M (o + 2) i) ∧ ∀ c, c ≠ b → c ≠ b + 1 → c ≠ b + 2 → pX4_copyOf b o M c = M c := by
  unfold pX4_copyOf
  simp only [bnd_eq]
  refine ⟨?_, ?_, fun i hi => ?_, fun i hi => ?_, fun c h1 h2 h3 => ?_⟩
  · rw [mrow_cell (by omega), mrow_cell (by omega), mset_slot (by omega), mset_same]
  · rw [mrow_cell (by omega), mrow_cell (by omega), mset_same, mset_cell (by omega)]
  · rw [mrow_cell (by omega), mrow_same]
    unfold va_cpy
    rw [if_pos (by omega), mset_cell (by omega), mset_cell (by omega), Nat.sub_zero, Nat.zero_add]
  · rw [mrow_same]
    unfold va_cpy
    rw [if_pos (by omega), mrow_cell (by omega), mset_cell (by omega), mset_cell (by omega), Nat.sub_zero, Nat.zero_add]
  · rw [mrow_cell h3, mrow_cell h2, mset_cell h1, mset_cell h1]
theorem keep_r : ∀ (c k fu : Nat) (M : Mm), k + c = 160 → c < fu → ∃ M', itr pX9_tell_L30 fu (nI k, M) = some M' ∧ (∀ i, k ≤ i → i < 160 → M' 2 i = M 1 i) ∧ (∀ i, i < k → M' 2 i = M 2 i) ∧ ∀ c, c ≠ 2 → M' c = M c
  | 0, k, fu, M, hk, hfu => by
    obtain ⟨fu, rfl⟩ : ∃ k, fu = k + 1 := ⟨fu - 1, by omega⟩
    refine ⟨M, itr_e ?_, fun i a b => absurd a (by omega), fun _ _ => rfl, fun _ _ => rfl⟩
    unfold pX9_tell_L30
    dsimp only
    rw [if_pos (show (160 : Int32) ≤ nI k by show nI 160 ≤ nI k; rw [le_nI] <;> omega)]
  | c + 1, k, fu, M, hk, hfu => by
    obtain ⟨fu, rfl⟩ : ∃ k, fu = k + 1 := ⟨fu - 1, by omega⟩
    obtain ⟨M', e, h1, h2, h3⟩ := keep_r c (k + 1) fu (mset M 2 k (M 1 k)) (by omega) (by omega)
    refine ⟨M', ?_, fun i a b => ?_, fun i hi => ?_, fun c hc => by rw [h3 c hc, mset_cell hc]⟩
    · rw [itr_s (s' := (nI (k + 1), mset M 2 k (M 1 k)))]
      · exact e
      · unfold pX9_tell_L30
        dsimp only
        rw [if_neg (show ¬ (160 : Int32) ≤ nI k by show ¬ nI 160 ≤ nI k; rw [le_nI] <;> omega), ald_nI (by omega) (by omega), Option.bind_some, ast_nI (by omega) (by omega), Option.bind_some, show nI k + 1 = nI (k + 1) from nI_add k 1]
    · by_cases ci : i = k
      · rw [ci, h2 k (by omega), mset_same]
      · rw [h1 i (by omega) b, mset_cell (by omega)]
    · rw [h2 i (by omega), mset_slot (by omega)]
theorem back_r : ∀ (c k fu : Nat) (M : Mm), k + c = 160 → c < fu → ∃ M', itr pX9_tell_L128 fu (nI k, M) = some M' ∧ (∀ i, k ≤ i → i < 160 → M' 1 i = M 2 i) ∧ (∀ i, i < k → M' 1 i = M 1 i) ∧ ∀ c, c ≠ 1 → M' c = M c
  | 0, k, fu, M, hk, hfu => by
    obtain ⟨fu, rfl⟩ : ∃ k, fu = k + 1 := ⟨fu - 1, by omega⟩
    refine ⟨M, itr_e ?_, fun i a b => absurd a (by omega), fun _ _ => rfl, fun _ _ => rfl⟩
    unfold pX9_tell_L128
    dsimp only
    rw [if_pos (show (160 : Int32) ≤ nI k by show nI 160 ≤ nI k; rw [le_nI] <;> omega)]
  | c + 1, k, fu, M, hk, hfu => by
    obtain ⟨fu, rfl⟩ : ∃ k, fu = k + 1 := ⟨fu - 1, by omega⟩
    obtain ⟨M', e, h1, h2, h3⟩ := back_r c (k + 1) fu (mset M 1 k (M 2 k)) (by omega) (by omega)
    refine ⟨M', ?_, fun i a b => ?_, fun i hi => ?_, fun c hc => by rw [h3 c hc, mset_cell hc]⟩
    · rw [itr_s (s' := (nI (k + 1), mset M 1 k (M 2 k)))]
      · exact e
      · unfold pX9_tell_L128
        dsimp only
        rw [if_neg (show ¬ (160 : Int32) ≤ nI k by show ¬ nI 160 ≤ nI k; rw [le_nI] <;> omega), ald_nI (by omega) (by omega), Option.bind_some, ast_nI (by omega) (by omega), Option.bind_some, show nI k + 1 = nI (k + 1) from nI_add k 1]
    · by_cases ci : i = k
      · rw [ci, h2 k (by omega), mset_same]
      · rw [h1 i (by omega) b, mset_cell (by omega)]
    · rw [h2 i (by omega), mset_slot (by omega)]
theorem pr_tell : PR_tell Rel := by
  intro M1 M2 hR
  obtain ⟨n, r, s, t, hL, hB, hP, hT, hF, hC⟩ := hR
  have t3 := hT.1
  -- the class's draft
  obtain ⟨A0, hA0⟩ : ∃ A, A = mset (mset (pX4_copyOf 35 4 (pX3_copyOf 32 1 M1)) 31 5 0) 31 8 0 := ⟨_, rfl⟩
  obtain ⟨c1, c2, c3, c4⟩ := copy_L (b := 32) (o := 1) (M := M1) (by omega)
  obtain ⟨d1, d2, d3, d4, d5⟩ := copy_P (b := 35) (o := 4) (M := pX3_copyOf 32 1 M1) (by omega)
  have af : ∀ c, c < 31 ∨ 38 ≤ c → A0 c = M1 c := fun c hc => by rw [hA0, mset_cell (by omega), mset_cell (by omega), d5 c (by omega) (by omega) (by omega), c4 c (by omega) (by omega) (by omega)]
  have a32 : A0 32 0 = M1 1 0 := by rw [hA0, mset_cell (by omega), mset_cell (by omega), d5 32 (by omega) (by omega) (by omega)]; exact c1
  have a33 : ∀ i, i < 45 → A0 33 i = M1 2 i := fun i hi => by rw [hA0, mset_cell (by omega), mset_cell (by omega), d5 33 (by omega) (by omega) (by omega)]; exact c2 i hi
  have a34 : ∀ i, i < 10 → A0 34 i = M1 3 i := fun i hi => by rw [hA0, mset_cell (by omega), mset_cell (by omega), d5 34 (by omega) (by omega) (by omega)]; exact c3 i hi
  have o4 : ∀ c, 3 < c → c < 7 → pX3_copyOf 32 1 M1 c = M1 c := fun c a b => c4 c (by omega) (by omega) (by omega)
  have a350 : A0 35 0 = M1 4 0 := by rw [hA0, mset_cell (by omega), mset_cell (by omega), d1, o4 4 (by omega) (by omega)]
  have a351 : A0 35 1 = M1 4 1 := by rw [hA0, mset_cell (by omega), mset_cell (by omega), d2, o4 4 (by omega) (by omega)]
  have a36 : ∀ i, i < 8 → A0 36 i = M1 5 i := fun i hi => by rw [hA0, mset_cell (by omega), mset_cell (by omega), show pX4_copyOf 35 4 (pX3_copyOf 32 1 M1) 36 i = _ from d3 i hi, show pX3_copyOf 32 1 M1 (4 + 1) = M1 5 from o4 5 (by omega) (by omega)]
  have a37 : ∀ i, i < 32 → A0 37 i = M1 6 i := fun i hi => by rw [hA0, mset_cell (by omega), mset_cell (by omega), show pX4_copyOf 35 4 (pX3_copyOf 32 1 M1) 37 i = _ from d4 i hi, show pX3_copyOf 32 1 M1 (4 + 2) = M1 6 from o4 6 (by omega) (by omega)]
  -- the reference's
  obtain ⟨E, hE⟩ : ∃ E, E = mset (mset (mset (mset (mset M2 0 0 0) 0 6 (M2 0 4)) 0 4 0) 0 5 0) 0 7 0 := ⟨_, rfl⟩
  obtain ⟨D0, k1, k2, k3, k4⟩ := keep_r 160 0 fuel E (by omega) (by unfold fuel; omega)
  have ec : ∀ c, c ≠ 0 → E c = M2 c := fun c hc => by rw [hE, mset_cell hc, mset_cell hc, mset_cell hc, mset_cell hc, mset_cell hc]
  have dc : ∀ c, c ≠ 0 → c ≠ 2 → D0 c = M2 c := fun c a b => by rw [k4 c b, ec c a]
  have d06 : D0 0 6 = nI t := by rw [k4 0 (by omega), hE, mset_slot (by omega), mset_slot (by omega), mset_slot (by omega), mset_same]; exact hT.2.2.1
  have d05 : D0 0 5 = 0 := by rw [k4 0 (by omega), hE, mset_slot (by omega), mset_same]
  have d07 : D0 0 7 = nI 0 := by rw [k4 0 (by omega), hE, mset_same]; rfl
  have d04 : D0 0 4 = 0 := by rw [k4 0 (by omega), hE, mset_slot (by omega), mset_slot (by omega), mset_same]
  have rD : ∀ i, i < 60 → D0 1 i = M2 1 i := fun i _ => by rw [dc 1 (by omega) (by omega)]
  have hD : DR n r s A0 D0 := ⟨LandR_p (LandR_c hL rfl rfl rfl rD) a32 a33 a34, LandB_p hB a33 a34, PlanR_p (PlanR_c hP rfl rfl rfl (fun i _ _ => by rw [dc 1 (by omega) (by omega)])) a350 a351 a36 a37⟩
  have hTS : TS (fun i => cl (M1 30 i)) t 0 n r s A0 D0 := by
    refine ⟨⟨t3, by rw [af 29 (by omega)]; exact hT.2.1, fun i hi => ?_⟩, ⟨t3, d06, fun i hi => ?_⟩, by omega, by rw [hA0, mset_same]; rfl, d07, d05, by rw [hA0, mset_slot (by omega), mset_same], hD⟩
    · obtain ⟨b, b1, b2, b3⟩ := hT.2.2.2 i hi
      dsimp only
      rw [af 30 (by omega), b2, cl_nI (by omega)]
      exact ⟨b1, rfl⟩
    · obtain ⟨b, b1, b2, b3⟩ := hT.2.2.2 i hi
      dsimp only
      rw [dc 3 (by omega) (by omega), b2, cl_nI (by omega), b3]
      exact ⟨b1, rfl⟩
  have to := tell_l t 0 0 fuel fuel n r s A0 D0 (by omega) (by omega) hTS (by unfold fuel; omega) (by unfold fuel; omega)
  unfold TO at to
  unfold pX8_tell pX9_tell pX7_read
  rw [bnd_eq, bnd_eq, bnd_eq, bnd_eq, ← hA0, bnd_eq, bnd_eq, bnd_eq, bnd_eq, bnd_eq]
  rw [show mset (mset (mset (mset (mset M2 0 0 0) 0 6 ((mset M2 0 0 0) 0 4)) 0 4 0) 0 5 0) 0 7 0 = E from hE.symm, show itr pX9_tell_L30 fuel (0, E) = _ from k1, Option.bind_some]
  rcases to with ⟨A', D', n', r', s', c', r1, r2, r3, r4, r5, r6, r7, r8⟩ | ⟨A', D', fz, c', r1, r2, r3, r4, r5, r6, r7, r8⟩
  · rw [show itr pX7_read_L28 fuel (0, A0) = _ from r1, show itr pX9_tell_L57 fuel (0, D0) = _ from r2, Option.bind_some, Option.bind_some, Sum.elim_inr, Option.bind_some, bnd_eq, bnd_eq, if_neg (ne_nI (by omega)), if_pos r4]
    rw [bnd_eq, bnd_eq, bnd_eq]
    obtain ⟨W, hW⟩ : ∃ W, W = pX8_forgetSearches (pX4_copyOf 4 35 (pX3_copyOf 1 32 (mset A' 29 0 0))) := ⟨_, rfl⟩
    obtain ⟨x1, x2, x3, x4⟩ := copy_L (b := 1) (o := 32) (M := mset A' 29 0 0) (by omega)
    obtain ⟨y1, y2, y3, y4, y5⟩ := copy_P (b := 4) (o := 35) (M := pX3_copyOf 1 32 (mset A' 29 0 0)) (by omega)
    have ws : ∀ c, c ≠ 39 → c ≠ 40 → W c = pX4_copyOf 4 35 (pX3_copyOf 1 32 (mset A' 29 0 0)) c := fun c a b => by
      rw [hW]
      unfold pX8_forgetSearches
      rw [bnd_eq, bnd_eq, mset_cell b, mset_cell a]
    have w40 : W 40 0 = 0 ∧ W 39 0 = 0 := by
      rw [hW]
      unfold pX8_forgetSearches
      rw [bnd_eq, bnd_eq, mset_same, mset_cell (by omega), mset_same]
      exact ⟨rfl, rfl⟩
    have wo : ∀ c, 7 ≤ c → c ≠ 29 → c ≠ 39 → c ≠ 40 → W c = A' c := fun c a b d e => by rw [ws c d e, y5 c (by omega) (by omega) (by omega), x4 c (by omega) (by omega) (by omega), mset_cell b]
    have q32 : ∀ c, 32 ≤ c → c ≤ 37 → pX3_copyOf 1 32 (mset A' 29 0 0) c = A' c := fun c a b => by rw [x4 c (by omega) (by omega) (by omega), mset_cell (by omega)]
    have w1 : W 1 0 = A' 32 0 := by rw [ws 1 (by omega) (by omega), y5 1 (by omega) (by omega) (by omega), x1, mset_cell (by omega)]
    have w2 : ∀ i, i < 45 → W 2 i = A' 33 i := fun i hi => by rw [ws 2 (by omega) (by omega), y5 2 (by omega) (by omega) (by omega), show pX3_copyOf 1 32 (mset A' 29 0 0) 2 i = _ from x2 i hi, mset_cell (by omega)]
    have w3 : ∀ i, i < 10 → W 3 i = A' 34 i := fun i hi => by rw [ws 3 (by omega) (by omega), y5 3 (by omega) (by omega) (by omega), show pX3_copyOf 1 32 (mset A' 29 0 0) 3 i = _ from x3 i hi, mset_cell (by omega)]
    have w4 : W 4 0 = A' 35 0 ∧ W 4 1 = A' 35 1 := by rw [ws 4 (by omega) (by omega), y1, y2, q32 35 (by omega) (by omega)]; exact ⟨rfl, rfl⟩
    have w5 : ∀ i, i < 8 → W 5 i = A' 36 i := fun i hi => by rw [ws 5 (by omega) (by omega), show pX4_copyOf 4 35 (pX3_copyOf 1 32 (mset A' 29 0 0)) 5 i = _ from y3 i hi, show pX3_copyOf 1 32 (mset A' 29 0 0) (35 + 1) = A' 36 from q32 36 (by omega) (by omega)]
    have w6 : ∀ i, i < 32 → W 6 i = A' 37 i := fun i hi => by rw [ws 6 (by omega) (by omega), show pX4_copyOf 4 35 (pX3_copyOf 1 32 (mset A' 29 0 0)) 6 i = _ from y4 i hi, show pX3_copyOf 1 32 (mset A' 29 0 0) (35 + 2) = A' 37 from q32 37 (by omega) (by omega)]
    have wA : ∀ c, 7 ≤ c → c < 31 → c ≠ 29 → W c = M1 c := fun c a b d => by rw [wo c a d (by omega) (by omega), r7 c (by omega), af c (by omega)]
    rw [← hW]
    refine ⟨_, W, D', rfl, rfl, n', r', s', 0, LandR_p r6.1 w1 w2 w3, LandB_p r6.2.1 w2 w3, PlanR_p r6.2.2 w4.1 w4.2 w5 w6, ⟨by omega, ?_, ?_, fun i hi => absurd hi (by omega)⟩, ?_, Or.inl w40.2, Or.inl w40.1, ?_, ?_, ?_⟩
    · rw [ws 29 (by omega) (by omega), y5 29 (by omega) (by omega) (by omega), x4 29 (by omega) (by omega) (by omega), mset_same]
      rfl
    · rw [r8.2 4 (by omega) (by omega) (by omega), d04]
      rfl
    · rw [r4, wo 31 (by omega) (by omega) (by omega) (by omega), r5]
    · rw [wA 23 (by omega) (by omega) (by omega)]; exact hC.2.2.1
    · rw [wA 24 (by omega) (by omega) (by omega)]; exact hC.2.2.2.1
    · rw [wA 25 (by omega) (by omega) (by omega)]; exact hC.2.2.2.2
  · have nf : ¬ D' 0 5 = 0 := by rw [r4]; exact nz r5 r6
    obtain ⟨D9, b1, b2, b3, b4⟩ := back_r 160 0 fuel D' (by omega) (by unfold fuel; omega)
    rw [show itr pX7_read_L28 fuel (0, A0) = _ from r1, show itr pX9_tell_L57 fuel (0, D0) = _ from r2, Option.bind_some, Option.bind_some, Sum.elim_inr, Option.bind_some, bnd_eq, bnd_eq, if_pos rfl, if_neg nf, show itr pX9_tell_L128 fuel (0, D') = _ from b1, Option.bind_some]
    have wA : ∀ c, c < 31 ∨ 38 < c → c ≠ 29 → (mset A' 29 0 0) c = M1 c := fun c a b => by rw [mset_cell b, r7 c a, af c (by omega)]
    have one1 : ∀ i, i < 160 → D9 1 i = M2 1 i := fun i hi => by rw [b2 i (by omega) hi, r8.1 2 (by omega) (by omega), k2 i (by omega) hi, ec 1 (by omega)]
    refine ⟨_, mset A' 29 0 0, D9, rfl, rfl, n, r, s, 0, LandR_c hL (by rw [wA 1 (by omega) (by omega)]) (wA 2 (by omega) (by omega)) (wA 3 (by omega) (by omega)) (fun i hi => one1 i (by omega)), LandB_c hB (wA 2 (by omega) (by omega)) (wA 3 (by omega) (by omega)), PlanR_c hP (wA 4 (by omega) (by omega)) (wA 5 (by omega) (by omega)) (wA 6 (by omega) (by omega)) (fun i _ hi => one1 i (by omega)), ⟨by omega, by rw [mset_same]; rfl, ?_, fun i hi => absurd hi (by omega)⟩, ?_, CacheR_c hC (by rw [wA 1 (by omega) (by omega)]) (wA 2 (by omega) (by omega)) (wA 3 (by omega) (by omega)) (wA 39 (by omega) (by omega)) (wA 40 (by omega) (by omega)) ⟨by rw [wA 23 (by omega) (by omega)], by rw [wA 24 (by omega) (by omega)], by rw [wA 25 (by omega) (by omega)]⟩⟩
    · rw [b4 0 (by omega), r8.2 4 (by omega) (by omega) (by omega), d04]
      rfl
    · rw [b4 0 (by omega), r4, mset_cell (by omega), r3]
theorem pairs_all : Pairs Rel := ⟨pr_feed, pr_end, pr_tell, pr_fault, pr_customer, pr_drop, pr_set, pr_go, pr_fly, pr_undo, pr_clear, pr_count, pr_place, pr_way, pr_sortie, pr_wrong, pr_ends, pr_stop, pr_flown, pr_event, pr_sum, pr_split, pr_take, pr_best, pr_bestOrder, pr_alone, pr_wind⟩
