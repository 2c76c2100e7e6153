/-! PURE: what is asked of a plan -/
section ASKS
variable {F S R P : Nat → Int32} {n r s : Nat}
theorem Rel.ctx {M1 M2 : Mm} (h : Rel M1 M2) : ∃ n r s, Ctx (M1 2) (M1 3) (M1 5) (M1 6) n r s M1 M2 := by
  obtain ⟨n, r, s, t, hL, hB, hP, hT, hF, hC⟩ := h
  exact ⟨n, r, s, rfl, rfl, rfl, rfl, hL, hB, hP⟩
theorem Rel_f {B1 B2 M1 M2 : Mm} (h : Rel B1 B2) (f : Fr0 B1 B2 M1 M2) : Rel M1 M2 :=
  Rel_c h (by rw [f.1 1 (by omega)]) (f.1 2 (by omega)) (f.1 3 (by omega)) (f.1 4 (by omega)) (f.1 5 (by omega)) (f.1 6 (by omega)) (by rw [f.1 29 (by omega)]) (f.1 30 (by omega)) (by rw [f.1 31 (by omega)]) (f.1 39 (by omega)) (f.1 40 (by omega)) (f.2.1 1 (by omega) (by omega)) (f.2.1 3 (by omega) (by omega)) (f.2.2 4 (by omega)) (f.2.2 5 (by omega)) ⟨by rw [f.1 23 (by omega)], by rw [f.1 24 (by omega)], by rw [f.1 25 (by omega)]⟩
theorem Rel_1 {M1 M2 M1' : Mm} (h : Rel M1 M2) (f : ∀ c, c < 7 ∨ 16 < c → M1' c = M1 c) : Rel M1' M2 :=
  Rel_c h (by rw [f 1 (by omega)]) (f 2 (by omega)) (f 3 (by omega)) (f 4 (by omega)) (f 5 (by omega)) (f 6 (by omega)) (by rw [f 29 (by omega)]) (f 30 (by omega)) (by rw [f 31 (by omega)]) (f 39 (by omega)) (f 40 (by omega)) rfl rfl rfl rfl ⟨by rw [f 23 (by omega)], by rw [f 24 (by omega)], by rw [f 25 (by omega)]⟩
theorem Rel_v {M1 M2 : Mm} (h : Rel M1 M2) (v : Int32) : Rel (mset M1 7 3 v) M2 := Rel_c h rfl rfl rfl rfl rfl rfl rfl rfl rfl rfl rfl rfl rfl rfl rfl
theorem Ctx_v {M1 M2 : Mm} (h : Ctx F S R P n r s M1 M2) (v : Int32) : Ctx F S R P n r s (mset M1 7 3 v) M2 := by
  obtain ⟨h1, h2, h3, h4, h5, h6, h7⟩ := h
  exact ⟨h1, h2, h3, h4, LandR_c h5 rfl rfl rfl (fun _ _ => rfl), LandB_c h6 rfl rfl, PlanR_c h7 rfl rfl rfl (fun _ _ _ => rfl)⟩
def badA (S : Nat → Int32) (M1 : Mm) : Nat → Bool := fun k => decide (¬ ((if S 9 = 1 then M1 16 k else M1 15 k) - M1 14 k ≤ S 5))
theorem c_air {M1 M2 : Mm} (C : Ctx F S R P n r s M1 M2) {k : Nat} (hk : k < s) : pX0_air (nI k) M1 = some ((if S 9 = 1 then M1 16 k else M1 15 k) - M1 14 k) := by
  have q := cx_n C
  unfold pX0_air
  rw [show pX3_setting 1 9 M1 = _ from cx_set C (i := 9) (by omega), Option.bind_some, ald_nI (by omega) (by omega), ald_nI (by omega) (by omega), ald_nI (by omega) (by omega)]
  split <;> rfl
theorem r_air {M1 M2 : Mm} (C : Ctx F S R P n r s M1 M2) {k : Nat} (hk : k < s) : pX9_airOf (nI k) M2 = some ((if S 9 = 1 then M2 10 k else M2 9 k) - M2 8 k) := by
  have q := cx_n C
  unfold pX9_airOf
  rw [show pX9_of 9 M2 = _ from rx_set C (i := 9) (by omega), Option.bind_some, ald_nI (by omega) (by omega), ald_nI (by omega) (by omega), ald_nI (by omega) (by omega)]
  split <;> rfl
theorem c_tooLong {M1 M2 : Mm} (C : Ctx F S R P n r s M1 M2) : itr (pX0_tooLongInAir_L2 M1) fuel 0 = some (ffo (fun k => nI (6 + 16 * k)) (ff (badA S M1) s 0)) := by
  obtain ⟨q1, q2, q3, q4, q5, q6, q7, q8, q9⟩ := cx_n C
  refine itr_ff (badA S M1) _ s (fun k hk hb => ?_) (fun k hk hb => ?_) ?_ s 0 fuel (by omega) (by unfold fuel; omega)
  · unfold pX0_tooLongInAir_L2
    rw [q5, if_neg (show ¬ nI s ≤ nI k by rw [le_nI] <;> omega), c_air C hk, Option.bind_some, show pX3_setting 1 5 M1 = _ from cx_set C (i := 5) (by omega), Option.bind_some, if_pos (Decidable.not_not.mp (of_decide_eq_false hb)), nI_1]
  · unfold pX0_tooLongInAir_L2
    rw [q5, if_neg (show ¬ nI s ≤ nI k by rw [le_nI] <;> omega), c_air C hk, Option.bind_some, show pX3_setting 1 5 M1 = _ from cx_set C (i := 5) (by omega), Option.bind_some, if_neg (of_decide_eq_true hb)]
    simp (disch := omega) only [bnd_eq, Option.bind_some, lit_nI, nI_add, pk_mul, ald_nI, ast_nI, lt_nI, le_nI, eq_nI, sub_nI, Sum.elim_inl, Sum.elim_inr, if_pos, if_neg, if_true, if_false, pX0_told]
  · unfold pX0_tooLongInAir_L2
    rw [q5]
    simp (disch := omega) only [bnd_eq, Option.bind_some, lit_nI, nI_add, pk_mul, ald_nI, ast_nI, lt_nI, le_nI, eq_nI, sub_nI, Sum.elim_inl, Sum.elim_inr, if_pos, if_neg, if_true, if_false]
theorem r_tooLong {M1 M2 : Mm} (C : Ctx F S R P n r s M1 M2) (hG : ∀ k, k < s → M1 14 k = M2 8 k ∧ M1 15 k = M2 9 k ∧ M1 16 k = M2 10 k) : itr (pX9_wrong_L23 M2) fuel 0 = some (ffo (fun k => (nI (6 + 16 * k), M2)) (ff (badA S M1) s 0)) := by
  obtain ⟨q1, q2, q3, q4, q5, q6, q7, q8, q9⟩ := cx_n C
  refine itr_ff (badA S M1) _ s (fun k hk hb => ?_) (fun k hk hb => ?_) ?_ s 0 fuel (by omega) (by unfold fuel; omega)
  · unfold pX9_wrong_L23
    have g := hG k hk
    rw [rx_sorties C, Option.bind_some, if_neg (show ¬ nI s ≤ nI k by rw [le_nI] <;> omega), r_air C hk, Option.bind_some, show pX9_of 5 M2 = _ from rx_set C (i := 5) (by omega), Option.bind_some, ← g.1, ← g.2.1, ← g.2.2, if_pos (Decidable.not_not.mp (of_decide_eq_false hb)), nI_1]
  · unfold pX9_wrong_L23
    have g := hG k hk
    rw [rx_sorties C, Option.bind_some, if_neg (show ¬ nI s ≤ nI k by rw [le_nI] <;> omega), r_air C hk, Option.bind_some, show pX9_of 5 M2 = _ from rx_set C (i := 5) (by omega), Option.bind_some, ← g.1, ← g.2.1, ← g.2.2, if_neg (of_decide_eq_true hb)]
    simp (disch := omega) only [bnd_eq, Option.bind_some, lit_nI, nI_add, pk_mul, ald_nI, ast_nI, lt_nI, le_nI, eq_nI, sub_nI, Sum.elim_inl, Sum.elim_inr, if_pos, if_neg, if_true, if_false]
  · unfold pX9_wrong_L23
    rw [rx_sorties C]
    simp (disch := omega) only [bnd_eq, Option.bind_some, lit_nI, nI_add, pk_mul, ald_nI, ast_nI, lt_nI, le_nI, eq_nI, sub_nI, Sum.elim_inl, Sum.elim_inr, if_pos, if_neg, if_true, if_false]
theorem Fr0_tr {B1 B2 M1 M2 M1' M2' : Mm} (h : Fr0 B1 B2 M1 M2) (h1 : ∀ c, c < 8 ∨ 16 < c → c ≠ 7 → M1' c = M1 c) (h2 : ∀ c, c ≠ 12 → M2' c = M2 c) : ∀ c, (c < 8 ∨ 16 < c) → c ≠ 7 → M1' c = B1 c := fun c hc h7 => by rw [h1 c hc h7, h.1 c hc]
theorem EvOk_kf {E E' : Nat → Int32} {e : Nat} (h : EvOk E e) (h' : EvOk E' e) (hk : kf E e = kf E' e) : True := trivial
/-- a plan is gone through -/
theorem look_c {M1 M2 : Mm} (hR : Rel M1 M2) : ∃ (n r s w : Nat) (M1' M2' : Mm), Rel M1' M2' ∧ Rel M1' M2 ∧ pX9_wrongPlan M2 = some (nI w) ∧ w < 200 ∧ Ctx (M1 2) (M1 3) (M1 5) (M1 6) n r s M1' M2' ∧ M2 1 60 = nI r ∧ M2 1 70 = nI s ∧ M2' 1 = M2 1 ∧ r ≤ 8 ∧ s ≤ 8 ∧
    ((w = 0 ∧ pX0_look M1 = some (1, M1') ∧ pX9_goes M2 = some (1, M2') ∧ (∃ o : Option Nat, M1' 7 3 = (match o with | none => 0 | some k => nI (6 + 16 * k)) ∧ itr (pX9_wrong_L23 M2') fuel 0 = some (ffo (fun k => (nI (6 + 16 * k), M2')) o)) ∧ (∃ m, M1' 8 0 = nI m ∧ M2' 0 18 = nI m ∧ m ≤ 26 ∧ (∀ e, e < m → EvOk (M2' 12) e ∧ M1' 9 e = kf (M2' 12) e)) ∧ (∀ k, k < s → M1' 14 k = M2' 8 k ∧ M1' 15 k = M2' 9 k ∧ M1' 16 k = M2' 10 k) ∧ (∀ j, j < r + 2 → M1' 10 j = M2' 4 j ∧ M1' 11 j = M2' 5 j ∧ M1' 12 j = M2' 6 j ∧ M1' 13 j = M2' 7 j) ∧ (∀ j, j + 1 < r + 2 → M1' 10 (j + 1) = M1' 12 j + nI (dr (M1 2) (M1 3) (pl (M1 5) r j) (pl (M1 5) r (j + 1))))) ∨
      (w ≠ 0 ∧ pX0_look M1 = some (0, M1') ∧ pX9_goes M2 = some (0, M2) ∧ M2' = M2 ∧ M1' 7 3 = nI w)) := by
  obtain ⟨n, r, s, C⟩ := hR.ctx
  obtain ⟨w, w1, w2, w3, w4⟩ := wrong_c C
  have q := cx_n C
  by_cases c : w = 0
  · subst c
    have G := w4 rfl
    let A1 := mset M1 7 3 (nI 0)
    have CA : Ctx (M1 2) (M1 3) (M1 5) (M1 6) n r s A1 M2 := Ctx_v C _
    obtain ⟨D1, D2, d1, d2, d3, m, ev, m1, m26, d4, d5, d6⟩ := drive_c CA G
    obtain ⟨E2, e1, e2, e3, e4⟩ := r_sorts ev.2.1 m1 m26 ev.2.2.2
    have CD : Ctx (M1 2) (M1 3) (M1 5) (M1 6) n r s D1 D2 := Ctx_c CA (fun c hc => d3.1 c (by omega)) (d3.2.1 1 (by omega) (by omega))
    have RD : Rel D1 D2 := Rel_f (Rel_v hR _) d3
    have RE : Rel D1 E2 := Rel_2 RD (e4 1 (by omega)) (e4 3 (by omega)) (by rw [e4 0 (by omega)]) (by rw [e4 0 (by omega)])
    have CE : Ctx (M1 2) (M1 3) (M1 5) (M1 6) n r s D1 E2 := Ctx_c CD (fun _ _ => rfl) (e4 1 (by omega))
    have z := c_tooLong CD
    obtain ⟨v, hv⟩ : ∃ v : Int32, v = (match ff (badA (M1 3) D1) s 0 with | none => 0 | some k => nI (6 + 16 * k)) := ⟨_, rfl⟩
    have zt : pX0_tooLongInAir D1 = some v := by
      unfold pX0_tooLongInAir
      rw [z, hv]
      cases ff (badA (M1 3) D1) s 0 <;> rfl
    refine ⟨n, r, s, 0, mset D1 7 3 v, E2, Rel_v RE v, Rel_1 hR (fun c hc => by rw [mset_cell (by omega), d3.1 c (by omega)]; exact mset_cell (by omega)), w2, w3, Ctx_v CE v, q.2.2.2.2.2.2.2.1, q.2.2.2.2.2.2.2.2, by rw [e4 1 (by omega), d3.2.1 1 (by omega) (by omega)], q.2.2.2.1, q.2.2.2.2.2.1, Or.inl ⟨rfl, ?_, ?_, ⟨_, hv, r_tooLong CE (fun k hk => ?_)⟩, ⟨m, ev.1, by rw [e4 0 (by omega)]; exact ev.2.1, m26, fun e he => ⟨e3 e he, ?_⟩⟩, fun k hk => ?_, fun j hj => ?_, d6⟩⟩
    · unfold pX0_look
      rw [w1, Option.bind_some, bnd_eq, show mset M1 7 3 (nI 0) 7 3 = 0 from rfl, if_pos rfl, show pX0_drivePlan (mset M1 7 3 (nI 0)) = _ from d1, Option.bind_some, zt]
      rfl
    · unfold pX9_goes
      rw [w2, Option.bind_some, if_pos (by rfl), bnd_eq]
      cases h7 : itr pX9_goes_L16 fuel (0, mset M2 0 18 0) with
      | none => rw [h7] at d2; cases d2
      | some x7 =>
        rw [h7, Option.bind_some] at d2
        rw [Option.bind_some, d2, Option.bind_some, e1]
        rfl
    · rw [e4 8 (by omega), e4 9 (by omega), e4 10 (by omega)]
      exact d4 k hk
    · exact Ch_fun ev.2.2.1 e2 e he
    · rw [e4 8 (by omega), e4 9 (by omega), e4 10 (by omega)]
      exact d4 k hk
    · rw [e4 4 (by omega), e4 5 (by omega), e4 6 (by omega), e4 7 (by omega)]
      exact d5 j hj
  · have hw : ¬ nI w = 0 := nI_ne0 (by omega) (by omega)
    refine ⟨n, r, s, w, mset M1 7 3 (nI w), M2, Rel_v hR _, Rel_v hR _, w2, w3, Ctx_v C _, q.2.2.2.2.2.2.2.1, q.2.2.2.2.2.2.2.2, rfl, q.2.2.2.1, q.2.2.2.2.2.1, Or.inr ⟨c, ?_, ?_, rfl, rfl⟩⟩
    · unfold pX0_look
      rw [w1, Option.bind_some, bnd_eq, show mset M1 7 3 (nI w) 7 3 = nI w from rfl, if_neg hw]
    · unfold pX9_goes
      rw [w2, Option.bind_some, if_neg hw]
theorem pr_wrong : PR_wrong Rel := by
  intro M1 M2 hR
  replace hR := Rel_t hR 0
  unfold pX8_wrong pX9_wrong
  simp only [bnd_eq]
  generalize mset M2 0 0 0 = N at hR ⊢
  obtain ⟨n, r, s, w, M1', M2', h1, h1', h2, h3, h4, h5, h6, h7, h8, h9, h10⟩ := look_c hR
  rw [h2, Option.bind_some]
  rcases h10 with ⟨rfl, a1, a2, ⟨o, a3, a4⟩, -⟩ | ⟨a0, a1, a2, rfl, a3⟩
  · rw [a1, a2, if_pos (by rfl)]
    simp only [Option.bind_some]
    rw [a3, a4]
    cases o with
    | none => exact ⟨_, _, _, rfl, rfl, h1⟩
    | some k => exact ⟨_, _, _, rfl, rfl, h1⟩
  · rw [a1, if_neg (nI_ne0 (by omega) (by omega))]
    simp only [Option.bind_some]
    rw [a3]
    exact ⟨_, _, _, rfl, rfl, h1⟩
theorem pr_ends : PR_ends Rel := by
  intro M1 M2 hR
  replace hR := Rel_t hR 0
  unfold pX8_ends pX9_ends pX0_lastReady
  simp only [bnd_eq]
  generalize mset M2 0 0 0 = N at hR ⊢
  obtain ⟨n, r, s, w, M1', M2', h1, h1', h2, h3, h4, h5, h6, h7, h8, h9, h10⟩ := look_c hR
  have q := cx_n h4
  rcases h10 with ⟨rfl, a1, a2, -, -, -, a5, -⟩ | ⟨a0, a1, a2, rfl, a3⟩
  · rw [a1, a2]
    simp only [Option.bind_some, if_neg one_ne]
    rw [rx_stops h4, q.2.2.1, Option.bind_some, show nI (r + 2) - 1 = nI (r + 1) from nI_pred (r + 1), nI_1, ald_nI (by omega) (by omega), ald_nI (by omega) (by omega), (a5 (r + 1) (by omega)).2.1]
    exact ⟨_, _, _, rfl, rfl, h1⟩
  · rw [a1, a2]
    simp only [Option.bind_some, if_true]
    exact ⟨_, _, _, rfl, rfl, h1⟩
theorem rng_c (x : Int32) {k : Nat} (hk : k < 1000) : ((x < 0 ∨ nI k ≤ x) ∧ pX9_isIn x 0 (nI k - 1) = 0) ∨ ∃ j, j < k ∧ x = nI j ∧ pX9_isIn x 0 (nI k - 1) = 1 := by
  by_cases h0 : x < 0
  · exact Or.inl ⟨Or.inl h0, isIn_lo h0⟩
  · obtain ⟨j, hj, rfl⟩ := nI_of h0
    by_cases h2 : j < k
    · refine Or.inr ⟨j, h2, rfl, ?_⟩
      rw [show nI k - 1 = nI (k - 1) from sub_nI (b := 1) (by omega)]
      exact isIn_nI (a := 0) (by omega) (by omega) (by omega)
    · refine Or.inl ⟨Or.inr (by rw [le_nI] <;> omega), isIn_hi ?_⟩
      rw [Int32.lt_iff_toInt_lt, show (1 : Int32) = nI 1 from rfl, pk_sub_toInt (by omega) (by omega), nI_toInt hj]
      omega
theorem pr_stop : PR_stop Rel := by
  intro M1 M2 x y hR
  replace hR := Rel_t hR 0
  unfold pX8_stop pX9_stop
  simp only [bnd_eq]
  generalize mset M2 0 0 0 = N at hR ⊢
  obtain ⟨n, r, s, w, M1', M2', h1, h1', h2, h3, h4, h5, h6, h7, h8, h9, h10⟩ := look_c hR
  have q := cx_n h4
  have e2 : pX9_stops N = some (nI (r + 2)) := by
    rw [r_stops, h5]
    exact congrArg some (nI_add r 2)
  rw [e2, Option.bind_some]
  rcases rng_c x (k := r + 2) (by omega) with ⟨b, b1⟩ | ⟨j, hj, rfl, b1⟩
  · rw [b1, if_pos rfl]
    have e : ∀ b : Int32, ((some (b, M1')).bind fun v1 => if v1.1 = 0 then some ((-1 : Int32), v1.2) else if x < 0 then some (-1, v1.2) else if x < pX4_stops 4 v1.2 then (pX0_ofStop x y v1.2).bind fun v3 => some (v3, v1.2) else some (-1, v1.2)) = some (-1, M1') := by
      intro b'
      rw [Option.bind_some]
      dsimp only
      rw [cx_stops h4]
      split
      · rfl
      · split
        · rfl
        · rename_i c0 c1
          rw [if_neg]
          rcases b with b | b
          · exact absurd b c1
          · exact Int32.not_lt.mpr b
    rcases h10 with ⟨rfl, a1, a2, -⟩ | ⟨a0, a1, a2, rfl, a3⟩
    · rw [a1, e]
      exact ⟨_, _, _, rfl, rfl, h1'⟩
    · rw [a1, e]
      exact ⟨_, _, _, rfl, rfl, h1'⟩
  · rw [b1, if_neg one_ne]
    rcases h10 with ⟨rfl, a1, a2, -, -, -, a5, -⟩ | ⟨a0, a1, a2, rfl, a3⟩
    · rw [a1, a2]
      simp only [Option.bind_some, if_neg one_ne]
      have a := a5 j hj
      rw [if_neg (nI_pos (by omega)), cx_stops h4, if_pos (by rw [lt_nI] <;> omega)]
      unfold pX0_ofStop
      rw [cx_place h4 (by omega), rx_place h4 (by omega), ald_nI (by omega) (by omega), ald_nI (by omega) (by omega), ald_nI (by omega) (by omega), ald_nI (by omega) (by omega), ald_nI (by omega) (by omega), ald_nI (by omega) (by omega), ald_nI (by omega) (by omega), ald_nI (by omega) (by omega), a.1, a.2.1, a.2.2.1, a.2.2.2]
      simp only [Option.bind_some]
      (repeat' split) <;> exact ⟨_, _, _, rfl, rfl, h1⟩
    · rw [a1, a2]
      simp only [Option.bind_some, if_true]
      exact ⟨_, _, _, rfl, rfl, h1⟩
theorem pr_flown : PR_flown Rel := by
  intro M1 M2 x y hR
  replace hR := Rel_t hR 0
  unfold pX8_flown pX9_flown
  simp only [bnd_eq]
  generalize mset M2 0 0 0 = N at hR ⊢
  obtain ⟨n, r, s, w, M1', M2', h1, h1', h2, h3, h4, h5, h6, h7, h8, h9, h10⟩ := look_c hR
  have q := cx_n h4
  rw [r_sorties, h6, Option.bind_some]
  rcases rng_c x (k := s) (by omega) with ⟨b, b1⟩ | ⟨j, hj, rfl, b1⟩
  · rw [b1, if_pos rfl]
    have e9 : pX4_hasSortie 4 x M1' = 0 := by
      unfold pX4_hasSortie
      rw [q.2.2.2.2.1]
      rcases b with b | b
      · rw [if_pos b]
      · rw [if_pos b, ite_self]
    have e : ∀ b : Int32, ((some (b, M1')).bind fun v1 => if v1.1 = 0 then some ((-1 : Int32), v1.2) else if (pX4_hasSortie 4 x v1.2) = 0 then some (-1, v1.2) else (pX0_ofSortie x y v1.2).bind fun v3 => some (v3, v1.2)) = some (-1, M1') := by
      intro b'
      rw [Option.bind_some]
      dsimp only
      rw [e9, if_pos rfl, ite_self]
    rcases h10 with ⟨rfl, a1, a2, -⟩ | ⟨a0, a1, a2, rfl, a3⟩
    · rw [a1, e]
      exact ⟨_, _, _, rfl, rfl, h1'⟩
    · rw [a1, e]
      exact ⟨_, _, _, rfl, rfl, h1'⟩
  · rw [b1, if_neg one_ne]
    have e9 : pX4_hasSortie 4 (nI j) M1' = 1 := by
      unfold pX4_hasSortie
      rw [q.2.2.2.2.1, if_neg (nI_pos (by omega)), if_neg (by rw [le_nI] <;> omega)]
    rcases h10 with ⟨rfl, a1, a2, -, -, a5, -⟩ | ⟨a0, a1, a2, rfl, a3⟩
    · rw [a1, a2]
      simp only [Option.bind_some, if_neg one_ne]
      have a := a5 j hj
      rw [e9, if_neg one_ne]
      unfold pX0_ofSortie
      rw [c_air h4 hj, r_air h4 hj, ald_nI (by omega) (by omega), ald_nI (by omega) (by omega), ald_nI (by omega) (by omega), ald_nI (by omega) (by omega), ald_nI (by omega) (by omega), ald_nI (by omega) (by omega), a.1, a.2.1, a.2.2]
      simp only [Option.bind_some]
      by_cases y0 : y = 0
      · rw [if_pos y0, if_pos y0]; exact ⟨_, _, _, rfl, rfl, h1⟩
      rw [if_neg y0, if_neg y0]
      by_cases y1 : y = 1
      · rw [if_pos y1, if_pos y1]; exact ⟨_, _, _, rfl, rfl, h1⟩
      rw [if_neg y1, if_neg y1]
      by_cases y2 : y = 2
      · rw [if_pos y2, if_pos y2]; exact ⟨_, _, _, rfl, rfl, h1⟩
      rw [if_neg y2, if_neg y2]
      by_cases y3 : y = 3
      · rw [if_pos y3, if_pos y3]; exact ⟨_, _, _, rfl, rfl, h1⟩
      rw [if_neg y3, if_neg y3]
      exact ⟨_, _, _, rfl, rfl, h1⟩
    · rw [a1, a2]
      simp only [Option.bind_some, if_true]
      exact ⟨_, _, _, rfl, rfl, h1⟩
theorem d_part {M1 : Mm} {m e mi kd p f : Nat} (h8 : M1 8 0 = nI m) (hm : m ≤ 26) (he : e < m) (h1 : mi ≤ 30000) (h2 : kd ≤ 4) (h3 : p ≤ 8) (h4 : f ≤ 2) (h9 : M1 9 e = nI (kN mi kd p f)) (y : Int32) : pX1_part (nI e) y M1 = some (if y = 0 then nI mi else if y = 1 then nI kd else if y = 2 then nI p else if y = 3 then nI f - 1 else -2) := by
  unfold pX1_part
  have kb : kN mi kd p f < 2147483648 := by unfold kN; omega
  rw [if_neg (nI_pos (by omega)), h8, if_pos (by rw [lt_nI] <;> omega), ald_nI (by omega) (by omega), Option.bind_some, h9]
  have d1 : nI (kN mi kd p f) / 512 = nI mi := by
    rw [show (512 : Int32) = nI 512 from rfl, pk_div kb (by omega) (by omega)]
    congr 1
    unfold kN
    omega
  have d2 : rmi (nI (kN mi kd p f) / 64) 8 = nI kd := by
    rw [show (64 : Int32) = nI 64 from rfl, pk_div kb (by omega) (by omega)]
    unfold rmi
    rw [show (8 : Int32) = nI 8 from rfl, pk_rem (by omega) (by omega) (by omega)]
    congr 1
    unfold kN
    omega
  have d3 : rmi (nI (kN mi kd p f) / 4) 16 = nI p := by
    rw [show (4 : Int32) = nI 4 from rfl, pk_div kb (by omega) (by omega)]
    unfold rmi
    rw [show (16 : Int32) = nI 16 from rfl, pk_rem (by omega) (by omega) (by omega)]
    congr 1
    unfold kN
    omega
  have d4 : rmi (nI (kN mi kd p f)) 4 = nI f := by
    unfold rmi
    rw [show (4 : Int32) = nI 4 from rfl, pk_rem kb (by omega) (by omega)]
    congr 1
    unfold kN
    omega
  rw [d1, d2, d3, d4]
  (repeat' split) <;> rfl
theorem pr_event : PR_event Rel := by
  intro M1 M2 x y hR
  replace hR := Rel_t hR 0
  unfold pX8_event pX9_event
  simp only [bnd_eq]
  generalize mset M2 0 0 0 = N at hR ⊢
  obtain ⟨n, r, s, w, M1', M2', h1, h1', h2, h3, h4, h5, h6, h7, h8, h9, h10⟩ := look_c hR
  rcases rng_c y (k := 4) (by omega) with ⟨b, b1⟩ | ⟨j, hj, rfl, b1⟩
  · rw [show pX9_isIn y 0 3 = 0 from b1, if_pos rfl]
    have ny : ∀ k : Nat, k < 4 → ¬ y = nI k := by
      rintro k hk rfl
      rcases b with b | b
      · exact nI_pos (by omega) b
      · rw [le_nI (by omega) (by omega)] at b
        omega
    have pt' : ∀ M : Mm, (∃ m, m ≤ 26 ∧ M 8 0 = nI m) → pX1_part x y M = some (-2) := by
      rintro M ⟨m, hm, e8⟩
      unfold pX1_part
      rw [e8]
      split
      · rfl
      · rename_i c0
        split
        · rename_i c1
          obtain ⟨k, hk, rfl⟩ := nI_of c0
          rw [lt_nI (by omega) (by omega)] at c1
          rw [ald_nI (by omega) (by omega), Option.bind_some, if_neg (show ¬ y = 0 from ny 0 (by omega)), if_neg (show ¬ y = 1 from ny 1 (by omega)), if_neg (show ¬ y = 2 from ny 2 (by omega)), if_neg (show ¬ y = 3 from ny 3 (by omega))]
        · rfl
    rcases h10 with ⟨rfl, a1, a2, -, ⟨m, a3, a4, a5, -⟩, -⟩ | ⟨a0, a1, a2, rfl, a3⟩
    · rw [a1]
      simp only [Option.bind_some, if_neg one_ne]
      rw [if_neg (show ¬ y = 0 from ny 0 (by omega)), ite_self]
      simp only [Option.bind_some, Sum.elim_inl]
      rw [pt' M1' ⟨m, a5, a3⟩]
      exact ⟨_, _, _, rfl, rfl, h1'⟩
    · rw [a1]
      exact ⟨_, _, _, rfl, rfl, h1'⟩
  · rw [show pX9_isIn (nI j) 0 3 = 1 from b1, if_neg one_ne]
    rcases h10 with ⟨rfl, a1, a2, -, ⟨m, a3, a4, a5, a6⟩, -⟩ | ⟨a0, a1, a2, rfl, a3⟩
    · rw [a1, a2]
      simp only [Option.bind_some, if_neg one_ne]
      rw [a3, a4]
      by_cases cx : x = -1
      · rw [if_pos cx, if_pos cx]
        by_cases cy : nI j = 0
        · rw [if_pos cy, if_pos cy]
          exact ⟨_, _, _, rfl, rfl, h1⟩
        · rw [if_neg cy, if_neg cy]
          simp only [Option.bind_some, Sum.elim_inl]
          unfold pX1_part
          rw [if_pos (by rw [cx]; decide)]
          exact ⟨_, _, _, rfl, rfl, h1⟩
      · rw [if_neg cx, if_neg cx]
        simp only [Option.bind_some, Sum.elim_inl]
        rcases rng_c x (k := m) (by omega) with ⟨b, b2⟩ | ⟨e, he, rfl, b2⟩
        · rw [b2, if_pos rfl]
          unfold pX1_part
          rw [a3]
          rcases b with b | b
          · rw [if_pos b]
            exact ⟨_, _, _, rfl, rfl, h1⟩
          · rw [if_neg (show ¬ x < nI m from Int32.not_lt.mpr b), ite_self]
            exact ⟨_, _, _, rfl, rfl, h1⟩
        · rw [b2, if_neg one_ne]
          obtain ⟨⟨mi, kd, p, f, ht⟩, e9⟩ := a6 e he
          have hk := kf_T ht
          obtain ⟨t1, t2, t3, t4, t5, t6, t7, t8⟩ := ht
          rw [hk] at e9
          rw [d_part a3 a5 he t1 t2 t3 t4 e9]
          have z : 4 * nI e + nI j = nI (4 * e + j) := by simp (disch := omega) only [bnd_eq, Option.bind_some, lit_nI, nI_add, pk_mul, ald_nI, ast_nI, lt_nI, le_nI, eq_nI, sub_nI, Sum.elim_inl, Sum.elim_inr, if_pos, if_neg, if_true, if_false]
          rw [z, ald_nI (by omega) (by omega)]
          have : j = 0 ∨ j = 1 ∨ j = 2 ∨ j = 3 := by omega
          rcases this with rfl | rfl | rfl | rfl
          · rw [Nat.add_zero, t5]
            exact ⟨_, _, _, rfl, rfl, h1⟩
          · rw [t6]
            exact ⟨_, _, _, rfl, rfl, h1⟩
          · rw [t7]
            exact ⟨_, _, _, rfl, rfl, h1⟩
          · rw [t8]
            exact ⟨_, _, _, rfl, rfl, h1⟩
    · rw [a1, a2]
      simp only [Option.bind_some, if_true]
      exact ⟨_, _, _, rfl, rfl, h1⟩
end ASKS
