/-! PURE: the whole course -/
section COURSE
variable {F S R P : Nat → Int32} {n r s : Nat}
set_option maxHeartbeats 1000000 in
theorem stop_c {B1 B2 M1 M2 : Mm} {i t : Nat} (CB : Ctx F S R P n r s B1 B2) (G : Good S R P n r s) (hi : i < r + 2) (h : TI F S R P r s B1 B2 i t M1 M2) : ∃ t' M1' M2', pX0_drivePlan_L37 (nI t, nI i, M1) = some (.inl (nI t', nI i + 1, M1')) ∧ pX9_goes_L39 (nI t, nI i, M2) = some (.inl (nI t', nI i + 1, M2')) ∧ TI F S R P r s B1 B2 (i + 1) t' M1' M2' := by
  obtain ⟨q1, q2, q3, q4, q5, q6, q7, q8, q9⟩ := cx_n CB
  obtain ⟨m, L, fr, ev, br, kr, hl, hc, hm, hm1, ht, rr⟩ := h
  have rs8 := G.2
  have ctle := fb_ct_le (cg M2) s
  have ltle := fb_ct_le L s
  have C : Ctx F S R P n r s M1 M2 := Ctx_c CB (fun c hc => fr.1 c (by omega)) (fr.2.1 1 (by omega) (by omega))
  obtain ⟨u, w, m1, D1, D2, d1, d2, d3, d4, d5, d6, d7, d8, d9, d10, d11⟩ := come_c C hi ht ev (by split <;> omega)
  have CD : Ctx F S R P n r s D1 D2 := Ctx_c C (fun c hc => d5 c (by omega) (by omega) (by omega)) (d7 1 (by omega) (by omega) (by omega))
  have KD : KR s D1 D2 := by
    intro k hk
    rw [d5 16 (by omega) (by omega) (by omega), d7 11 (by omega) (by omega) (by omega), d7 10 (by omega) (by omega) (by omega)]
    exact kr k hk
  have BD : BR s (2000 * i + 1600) L D1 D2 := by
    intro k hk hlk
    rw [d5 14 (by omega) (by omega) (by omega), d5 15 (by omega) (by omega) (by omega), d7 8 (by omega) (by omega) (by omega), d7 9 (by omega) (by omega) (by omega)]
    exact br k hk hlk
  have cgD : cg D2 = cg M2 := funext fun k => by unfold cg; rw [d7 11 (by omega) (by omega) (by omega)]
  have hm1' : m1 ≤ (i + 1 + min i r + 2 * fb_ct L s) + fb_ct (cg D2) s := by
    rw [cgD, d3]
    split <;> omega
  obtain ⟨t1, m2, G1, G2, v, g1, g2, g3, g4, g5, g6, g7, g7b, g8, g9, g10, g11⟩ := catch_c (i := i) (t := w) CD KD BD (by omega) (fun k hk h3 => (hl k hk).mpr (by have := G.1 k hk; omega)) (by omega) d4 hm1' (by omega) (show w ≤ 2000 * i + 1600 by omega)
  let H1 := mset G1 11 i (nI t1)
  let H2 := mset G2 5 i (nI t1)
  have CG : Ctx F S R P n r s G1 G2 := Ctx_c CD (fun c hc => g11.1 c (by omega) (by omega) (by omega) (by omega)) (g11.2.2.1 1 (by omega) (by omega) (by omega) (by omega) (by omega))
  have CH : Ctx F S R P n r s H1 H2 := Ctx_c CG (fun c hc => mset_cell (by omega)) (mset_cell (by omega))
  have EH : EvR m2 H1 H2 := EvR_c g6 (mset_cell (by omega)) (mset_cell (by omega)) (by show mset G2 5 i (nI t1) 0 18 = _; rw [mset_cell (by omega)]) (mset_cell (by omega))
  have BH : BR s (2000 * i + 1672 + 1700) L H1 H2 := by
    intro k hk hlk
    show mset G1 11 i (nI t1) 14 k = mset G2 5 i (nI t1) 8 k ∧ ∃ b, b ≤ 2000 * i + 1672 + 1700 ∧ mset G1 11 i (nI t1) 15 k = nI b ∧ mset G2 5 i (nI t1) 9 k = nI b
    rw [mset_cell (by omega), mset_cell (by omega), mset_cell (by omega), mset_cell (by omega), g11.1 14 (by omega) (by omega) (by omega) (by omega), g11.1 15 (by omega) (by omega) (by omega) (by omega), g11.2.2.1 8 (by omega) (by omega) (by omega) (by omega) (by omega), g11.2.2.1 9 (by omega) (by omega) (by omega) (by omega) (by omega)]
    obtain ⟨x1, b, x2, x3⟩ := BD k hk hlk
    exact ⟨x1, b, by omega, x3⟩
  have ctG := fb_ct_le (cg G2) s
  obtain ⟨t2, m3, K1, K2, L', k1, k2, k3, k4, k5, k6, k7, k8, k9⟩ := launchAll_c (t := t1) (E := i + 1 + min i r + fb_ct (cg G2) s) (base := 2000 * i + 1672) CH G (by omega) (by omega) (by omega) EH BH hl (by omega) (by omega) (by omega)
  have plE : pX4_stops 4 M1 = nI (r + 2) := cx_stops C
  -- rows
  have r10 : ∀ j, K1 10 j = if j = i then nI u else M1 10 j := fun j => by
    rw [k3.1 10 (by omega) (by omega) (by omega) (by omega)]
    show mset G1 11 i (nI t1) 10 j = _
    rw [mset_cell (by omega), g11.1 10 (by omega) (by omega) (by omega) (by omega), d6 j]
  have s4 : ∀ j, K2 4 j = if j = i then nI u else M2 4 j := fun j => by
    rw [k3.2.1 4 (by omega) (by omega) (by omega) (by omega)]
    show mset G2 5 i (nI t1) 4 j = _
    rw [mset_cell (by omega), g11.2.2.1 4 (by omega) (by omega) (by omega) (by omega) (by omega), d8 j]
  have r11 : ∀ j, K1 11 j = if j = i then nI t1 else M1 11 j := fun j => by
    rw [k3.1 11 (by omega) (by omega) (by omega) (by omega)]
    show mset G1 11 i (nI t1) 11 j = _
    rw [mset_get, g11.1 11 (by omega) (by omega) (by omega) (by omega), d5 11 (by omega) (by omega) (by omega)]
    simp
  have s5 : ∀ j, K2 5 j = if j = i then nI t1 else M2 5 j := fun j => by
    rw [k3.2.1 5 (by omega) (by omega) (by omega) (by omega)]
    show mset G2 5 i (nI t1) 5 j = _
    rw [mset_get, g11.2.2.1 5 (by omega) (by omega) (by omega) (by omega) (by omega), d7 5 (by omega) (by omega) (by omega)]
    simp
  have r12 : ∀ j, K1 12 j = M1 12 j := fun j => by
    rw [k3.1 12 (by omega) (by omega) (by omega) (by omega)]
    show mset G1 11 i (nI t1) 12 j = _
    rw [mset_cell (by omega), g11.1 12 (by omega) (by omega) (by omega) (by omega), d5 12 (by omega) (by omega) (by omega)]
  have s6 : ∀ j, K2 6 j = M2 6 j := fun j => by
    rw [k3.2.1 6 (by omega) (by omega) (by omega) (by omega)]
    show mset G2 5 i (nI t1) 6 j = _
    rw [mset_cell (by omega), g11.2.2.1 6 (by omega) (by omega) (by omega) (by omega) (by omega), d7 6 (by omega) (by omega) (by omega)]
  have r13 : K1 13 = G1 13 := by
    rw [k3.1 13 (by omega) (by omega) (by omega) (by omega)]
    exact mset_cell (by omega)
  have s7 : K2 7 = G2 7 := by
    rw [k3.2.1 7 (by omega) (by omega) (by omega) (by omega)]
    exact mset_cell (by omega)
  have s11 : K2 11 = G2 11 := by
    rw [k3.2.1 11 (by omega) (by omega) (by omega) (by omega)]
    exact mset_cell (by omega)
  have s10 : K2 10 = G2 10 := by
    rw [k3.2.1 10 (by omega) (by omega) (by omega) (by omega)]
    exact mset_cell (by omega)
  have r16 : K1 16 = G1 16 := by
    rw [k3.1 16 (by omega) (by omega) (by omega) (by omega)]
    exact mset_cell (by omega)
  refine ⟨t2, mset K1 12 i (nI t2), mset K2 6 i (nI t2), ?_, ?_, m3, L', ⟨fun c hc' => ?_, fun c h0 hc' => ?_, fun j hj => ?_⟩, ?_, fun k hk hlk => ?_, fun k hk => ?_, k6, fun k hk h3 => ?_, ?_, fun _ => k8, by omega, ⟨fun j hj => ?_, fun j hj => ?_, fun _ => ?_⟩⟩
  · unfold pX0_drivePlan_L37
    dsimp only
    rw [if_neg (show ¬ pX4_stops 4 M1 ≤ nI i by rw [plE, le_nI] <;> omega)]
    refine (d10 _ (fun v14 j23 => (pX0_catchAll (nI i) j23.1 j23.2).bind fun v26 => bnd (v26.1) fun v28 => (ast v26.2 11 10 (nI i) v28).bind fun M29 => (pX0_launchAll (nI i) v28 M29).bind fun v31 => bnd (v31.1) fun v33 => (ast v31.2 12 10 (nI i) v33).bind fun M34 => some (Sum.inl (v33, nI i + 1, M34)))).trans ?_
    dsimp only
    rw [g1]
    simp only [Option.bind_some, bnd_eq]
    rw [ast_nI (by omega) (by omega)]
    simp only [Option.bind_some]
    rw [k1]
    simp only [Option.bind_some]
    rw [ast_nI (by omega) (by omega)]
    rfl
  · unfold pX9_goes_L39
    dsimp only
    rw [rx_stops C, Option.bind_some, if_neg (show ¬ nI (r + 2) ≤ nI i by rw [le_nI] <;> omega)]
    refine (d11 _ (fun v18 v29 j30 => (ast j30 7 10 (nI i) 0).bind fun M33 => (pX9_nextCaught (nI i) M33).bind fun v35 => (itr (pX9_goes_L121 (nI i) v18) fuel (v29, v35, M33)).bind fun x68 => (ast x68.2 5 10 (nI i) x68.1).bind fun M106 => (pX9_launches (nI i) x68.1 M106).bind fun v108 => bnd (v108.1) fun v110 => (ast v108.2 6 10 (nI i) v110).bind fun M111 => some (Sum.inl (v110, nI i + 1, M111)))).trans ?_
    rw [ast_nI (by omega) (by omega)]
    simp only [Option.bind_some]
    rw [g2]
    simp only [Option.bind_some]
    rw [g3]
    simp only [Option.bind_some]
    rw [ast_nI (by omega) (by omega)]
    simp only [Option.bind_some]
    rw [k2]
    simp only [Option.bind_some, bnd_eq]
    rw [ast_nI (by omega) (by omega)]
    rfl
  · rw [mset_cell (by omega), k3.1 c (by omega) (by omega) (by omega) (by omega)]
    show mset G1 11 i (nI t1) c = _
    rw [mset_cell (by omega), g11.1 c (by omega) (by omega) (by omega) (by omega), d5 c (by omega) (by omega) (by omega), fr.1 c hc']
  · rw [mset_cell (by omega), k3.2.1 c (by omega) (by omega) (by omega) (by omega)]
    show mset G2 5 i (nI t1) c = _
    rw [mset_cell (by omega), g11.2.2.1 c (by omega) (by omega) (by omega) (by omega) (by omega), d7 c (by omega) (by omega) (by omega), fr.2.1 c h0 hc']
  · rw [mset_cell (by omega), k3.2.2 j hj]
    show mset G2 5 i (nI t1) 0 j = _
    rw [mset_cell (by omega), g11.2.2.2.2 j hj, d9 j hj, fr.2.2 j hj]
  · exact EvR_c k4 (mset_cell (by omega)) (mset_cell (by omega)) (by rw [mset_cell (by omega)]) (mset_cell (by omega))
  · rw [mset_cell (by omega), mset_cell (by omega), mset_cell (by omega), mset_cell (by omega)]
    obtain ⟨x1, b, x2, x3⟩ := k5 k hk hlk
    exact ⟨x1, b, by omega, x3⟩
  · rw [mset_cell (by omega), mset_cell (by omega), mset_cell (by omega), s11, s10, r16]
    exact g5 k hk
  · rw [mset_cell (by omega), s11]
    by_cases c : pt P k 3 = i
    · exact g8 k hk c
    · refine g9 k hk ?_
      rw [d7 11 (by omega) (by omega) (by omega)]
      exact hc k hk (by omega)
  · have e : cg (mset K2 6 i (nI t2)) = cg G2 := funext fun k => by unfold cg; rw [mset_cell (by omega), s11]
    rw [e]
    omega
  · rw [mset_cell (show 10 ≠ 12 by omega), mset_cell (show 4 ≠ 6 by omega), mset_cell (show 11 ≠ 12 by omega), mset_cell (show 5 ≠ 6 by omega), mset_cell (show 13 ≠ 12 by omega), mset_cell (show 7 ≠ 6 by omega), r10 j, s4 j, r11 j, s5 j, r13, s7, mset_get, mset_get, r12, s6]
    by_cases e : j = i
    · subst e
      exact ⟨by simp, by simp, by simp, g10⟩
    · have := rr.1 j (by omega)
      simp only [e, and_false, if_false]
      refine ⟨this.1, this.2.1, this.2.2.1, ?_⟩
      rw [g11.2.1 j e, g11.2.2.2.1 j e, d5 13 (by omega) (by omega) (by omega), d7 7 (by omega) (by omega) (by omega)]
      exact this.2.2.2
  · rw [mset_cell (show 10 ≠ 12 by omega), r10, mset_slot (by omega), r12]
    by_cases e : j + 1 = i
    · subst e
      rw [if_pos rfl, d1, if_neg (by omega), ← nI_add, ← rr.2.2 (by omega)]
      rfl
    · rw [if_neg e]
      exact rr.2.1 j (by omega)
  · exact mset_same _ _ _ _
/-- what both know of a plan that goes -/
def Gone (F S R P : Nat → Int32) (r s : Nat) (M1 M2 : Mm) : Prop := ∃ m, EvR m M1 M2 ∧ 1 ≤ m ∧ m ≤ 26 ∧ (∀ k, k < s → M1 14 k = M2 8 k ∧ M1 15 k = M2 9 k ∧ M1 16 k = M2 10 k) ∧ (∀ j, j < r + 2 → M1 10 j = M2 4 j ∧ M1 11 j = M2 5 j ∧ M1 12 j = M2 6 j ∧ M1 13 j = M2 7 j) ∧ (∀ j, j + 1 < r + 2 → M1 10 (j + 1) = M1 12 j + nI (dr F S (pl R r j) (pl R r (j + 1))))
theorem drive_c {B1 B2 : Mm} (CB : Ctx F S R P n r s B1 B2) (G : Good S R P n r s) : ∃ M1' M2', pX0_drivePlan B1 = some M1' ∧ ((itr (pX9_goes_L16) fuel (0, mset B2 0 18 0)).bind fun x7 => itr (pX9_goes_L39) fuel (0, 0, x7)) = some M2' ∧ Fr0 B1 B2 M1' M2' ∧ Gone F S R P r s M1' M2' := by
  obtain ⟨q1, q2, q3, q4, q5, q6, q7, q8, q9⟩ := cx_n CB
  have rs8 := G.2
  -- the class forgets who is caught
  obtain ⟨X1, x1, x2, x3, x4⟩ := itr_I (step := pX0_drivePlan_L9) (fun a => ∃ k, k ≤ s ∧ a.1 = nI k ∧ (∀ j, j < k → a.2 16 j = -1) ∧ (∀ c, c ≠ 16 → c ≠ 8 → a.2 c = B1 c) ∧ a.2 8 0 = 0) (fun a => s - cl a.1) (fun M => (∀ j, j < s → M 16 j = -1) ∧ (∀ c, c ≠ 16 → c ≠ 8 → M c = B1 c) ∧ M 8 0 = 0) (fun a ha => by
    obtain ⟨k, hk, e, h1, h2, h3⟩ := ha
    obtain ⟨z, M⟩ := a
    dsimp only at e h1 h2 h3
    subst e
    unfold pX0_drivePlan_L9
    dsimp only
    have z5 : M 4 1 = nI s := by rw [h2 4 (by omega) (by omega)]; exact q5
    by_cases c : k = s
    · subst c
      rw [if_pos (show M 4 1 ≤ nI k by rw [z5]; exact Int32.le_refl _)]
      exact Or.inr ⟨_, rfl, h1, h2, h3⟩
    · rw [if_neg (show ¬ M 4 1 ≤ nI k by rw [z5, le_nI] <;> omega), ast_nI (by omega) (by omega)]
      refine Or.inl ⟨_, rfl, ⟨k + 1, by omega, nI_1 k, fun j hj => ?_, fun c h0 h8 => ?_, ?_⟩, ?_⟩
      · show mset M 16 k (-1) 16 j = -1
        by_cases e : j = k
        · subst e; exact mset_same _ _ _ _
        · rw [mset_slot e]; exact h1 j (by omega)
      · show mset M 16 k (-1) c = _
        rw [mset_cell h0, h2 c h0 h8]
      · show mset M 16 k (-1) 8 0 = _
        rw [mset_cell (by omega), h3]
      · show s - cl (nI k + 1) < s - cl (nI k)
        rw [nI_1, cl_nI (by omega), cl_nI (by omega)]
        omega) fuel (nI 0, mset B1 8 0 0) ⟨0, by omega, rfl, fun j hj => absurd hj (by omega), fun c _ h8 => mset_cell h8, by show mset B1 8 0 0 8 0 = 0; exact mset_same _ _ _ _⟩ (by show s - cl (nI 0) < 6000; omega)
  obtain ⟨X2, y1, y2, y3, y4⟩ := itr_I (step := pX9_goes_L16) (fun a => ∃ k, k ≤ 8 ∧ a.1 = nI k ∧ (∀ j, j < k → a.2 11 j = 0) ∧ (∀ c, c ≠ 0 → c ≠ 11 → a.2 c = B2 c) ∧ a.2 0 = mset B2 0 18 0 0) (fun a => 8 - cl a.1) (fun M => (∀ j, j < 8 → M 11 j = 0) ∧ (∀ c, c ≠ 0 → c ≠ 11 → M c = B2 c) ∧ M 0 = mset B2 0 18 0 0) (fun a ha => by
    obtain ⟨k, hk, e, h1, h2, h3⟩ := ha
    obtain ⟨z, M⟩ := a
    dsimp only at e h1 h2 h3
    subst e
    unfold pX9_goes_L16
    dsimp only
    by_cases c : k = 8
    · subst c
      rw [if_pos (by decide)]
      exact Or.inr ⟨_, rfl, h1, h2, h3⟩
    · rw [if_neg (show ¬ (8 : Int32) ≤ nI k by show ¬ nI 8 ≤ nI k; rw [le_nI] <;> omega), ast_nI (by omega) (by omega), nar_b0]
      refine Or.inl ⟨_, rfl, ⟨k + 1, by omega, nI_1 k, fun j hj => ?_, fun c h0 h8 => ?_, ?_⟩, ?_⟩
      · show mset M 11 k 0 11 j = 0
        by_cases e : j = k
        · subst e; exact mset_same _ _ _ _
        · rw [mset_slot e]; exact h1 j (by omega)
      · show mset M 11 k 0 c = _
        rw [mset_cell h8, h2 c h0 h8]
      · show mset M 11 k 0 0 = _
        rw [mset_cell (by omega), h3]
      · show 8 - cl (nI k + 1) < 8 - cl (nI k)
        rw [nI_1, cl_nI (by omega), cl_nI (by omega)]
        omega) fuel (nI 0, mset B2 0 18 0) ⟨0, by omega, rfl, fun j hj => absurd hj (by omega), fun c h0 _ => mset_cell h0, rfl⟩ (by show 8 - cl (nI 0) < 6000; omega)
  have t0 : TI F S R P r s B1 B2 0 0 X1 X2 := by
    refine ⟨0, fun _ => false, ⟨fun c hc => x3 c (by omega) (by omega), fun c h0 hc => y3 c h0 (by omega), fun j hj => by rw [y4, mset_slot hj]⟩, ⟨x4, by rw [y4]; exact mset_same _ _ _ _, trivial, fun e he => absurd he (by omega)⟩, (by intro k hk h; cases h), fun k hk => Or.inl ⟨y2 k (by omega), x2 k hk⟩, fun q hq => ⟨(by intro h; cases h), fun h => absurd h (by omega)⟩, fun k hk h => absurd h (by omega), by omega, fun h => absurd h (by omega), by omega, ⟨fun j hj => absurd hj (by omega), fun j hj => absurd hj (by omega), fun h => absurd h (by omega)⟩⟩
  obtain ⟨x, y, hx, hy, t', hT⟩ := itr_2 (f := pX0_drivePlan_L37) (g := pX9_goes_L39) (fun a b => ∃ t i : Nat, i ≤ r + 2 ∧ a.1 = nI t ∧ b.1 = nI t ∧ a.2.1 = nI i ∧ b.2.1 = nI i ∧ TI F S R P r s B1 B2 i t a.2.2 b.2.2) (fun a => r + 2 - cl a.2.1) (fun x y => ∃ t, TI F S R P r s B1 B2 (r + 2) t x y) (fun a b hI => by
    obtain ⟨t, i, hi, a1, a2, a3, a4, hT⟩ := hI
    obtain ⟨at', ai, N1⟩ := a
    obtain ⟨bt, bi, N2⟩ := b
    dsimp only at a1 a2 a3 a4 hT
    subst a1 a2 a3 a4
    by_cases c : i = r + 2
    · right
      have fr : Fr0 B1 B2 N1 N2 := by obtain ⟨_, _, h, _⟩ := hT; exact h
      have C : Ctx F S R P n r s N1 N2 := Ctx_c CB (fun c hc => fr.1 c (by omega)) (fr.2.1 1 (by omega) (by omega))
      unfold pX0_drivePlan_L37 pX9_goes_L39
      dsimp only
      rw [rx_stops C, Option.bind_some, if_pos (show pX4_stops 4 N1 ≤ nI i by rw [cx_stops C, c]; exact Int32.le_refl _), if_pos (show nI (r + 2) ≤ nI i by rw [c]; exact Int32.le_refl _)]
      exact ⟨_, _, rfl, rfl, t, by rw [← c]; exact hT⟩
    · left
      obtain ⟨t', N1', N2', e1, e2, e3⟩ := stop_c CB G (by omega) hT
      refine ⟨_, _, e1, e2, ⟨t', i + 1, by omega, rfl, rfl, nI_1 i, nI_1 i, e3⟩, ?_⟩
      show r + 2 - cl (nI i + 1) < r + 2 - cl (nI i)
      rw [nI_1, cl_nI (by omega), cl_nI (by omega)]
      omega) fuel (nI 0, nI 0, X1) (nI 0, nI 0, X2) ⟨0, 0, by omega, rfl, rfl, rfl, rfl, t0⟩ (by show r + 2 - cl (nI 0) < 6000; omega)
  obtain ⟨m, L, fr, ev, br, kr, hl, hc, hm, hm1, ht, rr⟩ := hT
  refine ⟨x, y, ?_, ?_, fr, m, ev, hm1 (by omega), ?_, fun k hk => ?_, rr.1, rr.2.1⟩
  · unfold pX0_drivePlan pX1_empty
    simp only [bnd_eq]
    rw [show itr pX0_drivePlan_L9 fuel (0, mset B1 8 0 0) = _ from x1, Option.bind_some, show itr pX0_drivePlan_L37 fuel (0, 0, X1) = _ from hx]
    rfl
  · rw [show itr pX9_goes_L16 fuel (0, mset B2 0 18 0) = _ from y1, Option.bind_some]
    exact hy
  · have := fb_ct_le (cg y) s
    have := fb_ct_le L s
    omega
  · have g := G.1 k hk
    obtain ⟨b1, b, _, b3, b4⟩ := br k hk ((hl k hk).mpr (by omega))
    have h1 := hc k hk (by omega)
    rcases kr k hk with ⟨k1, k2⟩ | ⟨k1, c, _, k3, k4⟩
    · rw [h1] at k1
      exact absurd k1 one_ne
    · exact ⟨b1, by rw [b3, b4], by rw [k3, k4]⟩
end COURSE
