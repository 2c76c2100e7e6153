/-! PURE: set, fly (printed by gen_stb.py) -/
section STB
variable {B : Nat → Nat} {t : Nat}
theorem setx {i : Nat} {M M' : Mm} {v : Int32} (hi : i < 10) (h : pX9_numberIn (sLo i) (sHi i) M = some (v, M')) {β : Type} {K : Int32 → Mm → Option β} : ((pX9_number M).bind fun v41 => bnd (v41.1) fun v43 => bnd (α := Mm) (if (v41.2 0 5) = 0 then (if (pX9_maySet (nI i) v43) = 0 then (bnd (pX9_fails 2 (v41.2 0 8) v41.2) fun v49 => v49) else (v41.2)) else (v41.2)) fun j44 => K v43 j44) = K v M' := by
  unfold pX9_numberIn at h
  cases hn : pX9_number M with
  | none =>
    rw [hn] at h
    cases h
  | some w =>
    rw [hn, Option.bind_some, bnd_eq] at h
    rw [Option.bind_some, bnd_eq, bnd_eq, (setting_c hi w.1 M).2]
    by_cases c : w.2 0 5 = 0
    · rw [if_pos c] at h ⊢
      by_cases c2 : pX9_isIn w.1 (sLo i) (sHi i) = 0
      · rw [if_pos c2, bnd_eq] at h
        rw [if_pos c2, bnd_eq]
        cases h
        rfl
      · rw [if_neg c2] at h
        rw [if_neg c2]
        cases h
        rfl
    · rw [if_neg c] at h ⊢
      cases h
      rfl
theorem t_send35 {A : Mm} {s : Nat} {a b c d : Int32} (h : A 35 1 = nI s) (hs : s < 8) : pX4_addSortie 35 a b c d A = some (1, mset (mset (mset (mset (mset A 37 (4 * s) a) 37 (4 * s + 1) b) 37 (4 * s + 2) c) 37 (4 * s + 3) d) 35 1 (nI (s + 1))) := by
  unfold pX4_addSortie
  rw [h, if_pos (show nI s < 8 by show nI s < nI 8; rw [lt_nI] <;> omega), bnd_eq, show nI s * 4 + 0 = nI (4 * s) by simp (disch := omega) only [bnd_eq, Option.bind_some, lit_nI, nI_add, pk_mul, ald_nI, ast_nI, lt_nI, le_nI, eq_nI, sub_nI, Sum.elim_inl, Sum.elim_inr, if_pos, if_neg, if_true, if_false]; congr 1; omega, show nI s * 4 + 1 = nI (4 * s + 1) by simp (disch := omega) only [bnd_eq, Option.bind_some, lit_nI, nI_add, pk_mul, ald_nI, ast_nI, lt_nI, le_nI, eq_nI, sub_nI, Sum.elim_inl, Sum.elim_inr, if_pos, if_neg, if_true, if_false]; congr 1; omega, show nI s * 4 + 2 = nI (4 * s + 2) by simp (disch := omega) only [bnd_eq, Option.bind_some, lit_nI, nI_add, pk_mul, ald_nI, ast_nI, lt_nI, le_nI, eq_nI, sub_nI, Sum.elim_inl, Sum.elim_inr, if_pos, if_neg, if_true, if_false]; congr 1; omega, show nI s * 4 + 3 = nI (4 * s + 3) by simp (disch := omega) only [bnd_eq, Option.bind_some, lit_nI, nI_add, pk_mul, ald_nI, ast_nI, lt_nI, le_nI, eq_nI, sub_nI, Sum.elim_inl, Sum.elim_inr, if_pos, if_neg, if_true, if_false]; congr 1; omega]
  rw [ast_nI (by omega) (by omega), Option.bind_some, ast_nI (by omega) (by omega), Option.bind_some, ast_nI (by omega) (by omega), Option.bind_some, ast_nI (by omega) (by omega), Option.bind_some, bnd_eq, mset_cell (by omega), mset_cell (by omega), mset_cell (by omega), mset_cell (by omega), h, show nI s + 1 = nI (s + 1) from nI_add s 1]
theorem plan_rs {n r s : Nat} {A D : Mm} (h : PlanR n r s A D) : RowRel n r A D ∧ SorRel n s A D := by
  obtain ⟨p1, p2, p3, p4, p5, p6, p7, p8, p9, p10⟩ := h
  exact ⟨⟨p1, p3, p5, p7, p9⟩, ⟨p2, p4, p6, p8, p10⟩⟩
theorem rs_plan {n r s : Nat} {A D : Mm} (h : RowRel n r A D) (h2 : SorRel n s A D) : PlanR n r s A D := by
  obtain ⟨x1, x2, x3, x4, x5⟩ := h
  obtain ⟨y1, y2, y3, y4, y5⟩ := h2
  exact ⟨x1, y1, x2, y2, x3, y3, x4, y4, x5, y5⟩
theorem st_set {M1 M2 : Mm} {p n r s : Nat} (h1 : TXA B t M1) (h2 : TXD B t M2) (hp : p ≤ t) (h8 : M1 31 8 = nI p) (h7 : M2 0 7 = nI p) (h5 : M2 0 5 = 0) (hD : DR n r s M1 M2) : Out t p 2 M1 M2 (((pX9_numberIn 0 9 M2).bind fun v38 => bnd (v38.1) fun v40 => (pX9_number v38.2).bind fun v41 => bnd (v41.1) fun v43 => bnd (α := Mm) (if (v41.2 0 5) = 0 then (if (pX9_maySet v40 v43) = 0 then (bnd (pX9_fails 2 (v41.2 0 8) v41.2) fun v49 => v49) else (v41.2)) else (v41.2)) fun j44 => if (j44 0 5) = 0 then ((ast j44 1 160 (50 + v40) v43).bind fun M47 => some M47) else (some j44)).bind semi) := by
  have rs := rs_in (M := M1) (w := 2) (by omega) (by omega) (by omega)
  have ct : ∀ c, c < 31 ∨ 38 < c → (mset M1 31 4 0) c = M1 c := fun c hc => mset_cell (by omega)
  obtain ⟨v0, N0, e0, g0, hc0⟩ := J1 (w := 2) (g := 0) (fu := 5999) (lo := 0) (hi := 9) (by omega) (by omega) (by decide) (jn_0 h1 h2 hp h8 h7 h5) (fun V hV => lm2a (by rw [hV.2 4 (by omega), mset_same]; rfl))
  rw [e0, Option.bind_some, bnd_eq]
  dsimp only
  rcases hc0 with ⟨A0, fz, x1, x2, x3, x4, x5, x6⟩ | ⟨A0, p0, i0_1, i0_2, i0_3, Jh0, i0_5, i0_6, i0_7, i0_8⟩
  · have nf : ¬ N0 0 5 = 0 := by rw [x3]; exact nz x4 x5
    rw [number_f nf, Option.bind_some, bnd_eq, bnd_eq]
    dsimp only
    rw [if_neg nf, if_neg nf, Option.bind_some, semi_f nf]
    exact out_f rs (x1) rfl x2 x3 x4 x5 (fun c hc => by rw [x6 c (by omega), ct c hc]) (H2_g g0)
  obtain ⟨u0, _, y0, z0⟩ := val_n (lo := 0) (hi := 9) i0_3 (by omega) (by omega)
  obtain ⟨v1, N1, e1, g1, hc1⟩ := J1 (w := 2) (g := 1) (fu := 5998) (lo := sLo u0) (hi := sHi u0) (by omega) (by omega) (by decide) Jh0 (fun V hV => lm2b (i := u0) (by omega) (by rw [hV.2 4 (by omega)]; exact Jh0.2.2.2.2.2.2) (by rw [hV.1 38 (by omega), i0_2, z0]))
  rw [z0, setx (i := u0) (by omega) e1]
  try dsimp only
  rcases hc1 with ⟨A1, fz, x1, x2, x3, x4, x5, x6⟩ | ⟨A1, p1, i1_1, i1_2, i1_3, Jh1, i1_5, i1_6, i1_7, i1_8⟩
  · have nf : ¬ N1 0 5 = 0 := by rw [x3]; exact nz x4 x5
    rw [if_neg nf, Option.bind_some, semi_f nf]
    exact out_f rs (i0_1.trans (x1)) rfl x2 x3 x4 x5 (fun c hc => by rw [x6 c (by omega), i0_7 c (by omega) (by omega), ct c hc]) (H2_t (H2_g g0) (H2_g g1))
  have hh0 : H2 M2 N1 := H2_t (H2_g g0) (H2_g g1)
  have a2c : ∀ c, c ≠ 31 → c ≠ 38 → A1 c = M1 c := fun c x y => by rw [i1_7 c x y, i0_7 c x y, mset_cell x]
  have a15 : A1 31 5 = M1 31 5 := by rw [i1_8, i0_8, mset_slot (by omega)]
  have w0 : A1 38 0 = v0 := by rw [i1_6 0 (by omega), i0_2]
  have w1 : A1 38 1 = v1 := by rw [i1_2]
  obtain ⟨m1, m2, m3, m4, m5, m6, m7⟩ := Jh1
  rw [if_pos m6, show (50 : Int32) + nI u0 = nI (50 + u0) from nI_add 50 u0, ast_nI (by omega) (by omega), Option.bind_some, Option.bind_some]
  obtain ⟨R, hR⟩ : ∃ R, R = mset N1 1 (50 + u0) v1 := ⟨_, rfl⟩
  have R0 : ∀ c, c ≠ 1 → R c = N1 c := fun c hc => by rw [hR]; simp only [mset_cell hc]
  have hR2 : H2 N1 R := ⟨fun c _ b => R0 c b, fun i _ _ _ => by rw [R0 0 (by omega)]⟩
  rw [← hR]
  obtain ⟨N9, e9, g9, hc9⟩ := JL (w := 2) (fu := 5997) (M1 := A1) (M2 := R) (p := p1) (by omega) (by omega) ⟨m1, by unfold TXD at m2 ⊢; rw [R0 3 (by omega), R0 0 (by omega)]; exact m2, m3, m4, by rw [R0 0 (by omega)]; exact m5, by rw [R0 0 (by omega)]; exact m6, m7⟩
  rw [e9]
  have hh : H2 M2 N9 := H2_t hh0 (H2_t hR2 (H2_g g9))
  rcases hc9 with ⟨A9, fz, o1, o2, o3, o4, o5, o6⟩ | ⟨V, q, o1, o2, o3, o4, o5, o6, o7⟩
  · exact out_f rs (i0_1.trans (i1_1.trans (o1))) rfl o2 o3 o4 o5 (fun c hc => by rw [o6 c (by omega), a2c c (by omega) (by omega)]) hh
  · have dr2 : DR n r s V N1 := DR_c hD (fun c x y => by rw [o2.1 c (by omega), a2c c (by omega) (by omega)]) (by rw [g1.1 1 (by omega), g0.1 1 (by omega)])
    have V31 : V 31 4 = nI 2 := by rw [o2.2 4 (by omega)]; exact m7
    have V32 : V 32 0 = nI n := dr2.1.2.1
    have n8 : n ≤ 8 := dr2.1.1
    have V38 : ∀ i, V 38 i = A1 38 i := fun i => by rw [o2.1 38 (by omega)]
    obtain ⟨V', hV'⟩ : ∃ V', V' = mset V 34 u0 v1 := ⟨_, rfl⟩
    have vf : ∀ c, c < 32 ∨ 37 < c → V' c = V c := fun c hc => by rw [hV']; simp (disch := omega) only [mset_cell]
    refine Or.inr ⟨V, V', N9, q, n, r, s, by rw [rs, show itr (pX7_readStatement_L56 (nI 2)) fuel (mset M1 31 4 0) = _ from i0_1.trans (i1_1.trans (o1))]; rfl, ?_, rfl, by rw [vf 31 (by omega)]; exact o3, o4, o5, by omega, o7, ?_, by rw [vf 31 (by omega), o2.2 5 (by omega)]; exact a15, fun c hc => by rw [vf c (by omega), o2.1 c (by omega), a2c c (by omega) (by omega)], hh⟩
    · have lt1 : pX3_mayBeSetting (nI u0) v1 V = some 1 := by
        rw [(setting_c (i := u0) (by omega) v1 V).1, if_neg (fun g => i1_3 (Or.inl g)), if_neg (fun g => i1_3 (Or.inr g))]
      unfold pX7_apply
      rw [if_neg (show ¬ nI 2 = 0 by decide), if_neg (show ¬ nI 2 = 1 by decide), if_pos (show nI 2 = 2 from rfl), show ald V 38 8 0 = some (V 38 0) from ald_nI (i := 0) (by omega) (by omega), V38, w0, z0, Option.bind_some, show ald V 38 8 1 = some (V 38 1) from ald_nI (i := 1) (by omega) (by omega), V38, w1, Option.bind_some]
      unfold pX3_putSetting
      rw [lt1, Option.bind_some, if_neg one_ne, ast_nI (by omega) (by omega), Option.bind_some, Option.bind_some, hV']
    · rw [hV']
      refine DR_c (M1 := mset V 34 u0 v1) (M2 := R) ?_ (fun _ _ _ => rfl) (by rw [g9.1 1 (by omega)])
      rw [hR]
      exact DR_sett dr2 (by omega) i1_3
theorem st_fly {M1 M2 : Mm} {p n r s : Nat} (h1 : TXA B t M1) (h2 : TXD B t M2) (hp : p ≤ t) (h8 : M1 31 8 = nI p) (h7 : M2 0 7 = nI p) (h5 : M2 0 5 = 0) (hD : DR n r s M1 M2) (hs : s < 8) : Out t p 4 M1 M2 (((pX9_numberIn 0 1 M2).bind fun v73 => bnd (v73.1) fun v75 => (pX9_numberIn 0 9 v73.2).bind fun v76 => bnd (v76.1) fun v78 => (pX9_customers v76.2).bind fun v79 => (pX9_numberIn 1 v79 v76.2).bind fun v81 => bnd (v81.1) fun v83 => (pX9_numberIn 0 9 v81.2).bind fun v84 => bnd (v84.1) fun v86 => if (v84.2 0 5) = 0 then ((pX9_sends v75 v78 v83 v86 v84.2).bind fun v87 => some v87) else (some v84.2)).bind semi) := by
  have rs := rs_in (M := M1) (w := 4) (by omega) (by omega) (fun _ => by rw [show M1 35 1 = nI s from (plan_rs hD.2.2).2.2.1]; show nI s < nI 8; rw [lt_nI] <;> omega)
  have ct : ∀ c, c < 31 ∨ 38 < c → (mset M1 31 4 0) c = M1 c := fun c hc => mset_cell (by omega)
  obtain ⟨v0, N0, e0, g0, hc0⟩ := J1 (w := 4) (g := 0) (fu := 5999) (lo := 0) (hi := 1) (by omega) (by omega) (by decide) (jn_0 h1 h2 hp h8 h7 h5) (fun V hV => lm4 (g := 0) (n := n) (by omega) (by rw [hV.2 4 (by omega), mset_same]; rfl) (by rw [hV.1 32 (by omega), mset_cell (by omega)]; exact hD.1.2.1))
  rw [e0, Option.bind_some, bnd_eq]
  dsimp only
  rcases hc0 with ⟨A0, fz, x1, x2, x3, x4, x5, x6⟩ | ⟨A0, p0, i0_1, i0_2, i0_3, Jh0, i0_5, i0_6, i0_7, i0_8⟩
  · have nf : ¬ N0 0 5 = 0 := by rw [x3]; exact nz x4 x5
    rw [nin_f nf, Option.bind_some, bnd_eq]
    dsimp only
    rw [r_customers, show N0 1 0 = nI n by rw [g0.1 1 (by omega)]; exact hD.1.2.2.1, Option.bind_some]
    rw [nin_f nf, Option.bind_some, bnd_eq]
    dsimp only
    rw [nin_f nf, Option.bind_some, bnd_eq]
    dsimp only
    rw [if_neg nf, Option.bind_some, semi_f nf]
    exact out_f rs (x1) rfl x2 x3 x4 x5 (fun c hc => by rw [x6 c (by omega), ct c hc]) (H2_g g0)
  obtain ⟨v1, N1, e1, g1, hc1⟩ := J1 (w := 4) (g := 1) (fu := 5998) (lo := 0) (hi := 9) (by omega) (by omega) (by decide) Jh0 (fun V hV => lm4 (g := 1) (n := n) (by omega) (by rw [hV.2 4 (by omega)]; exact Jh0.2.2.2.2.2.2) (by rw [hV.1 32 (by omega), i0_7 32 (by omega) (by omega), mset_cell (by omega)]; exact hD.1.2.1))
  rw [e1, Option.bind_some, bnd_eq]
  dsimp only
  rcases hc1 with ⟨A1, fz, x1, x2, x3, x4, x5, x6⟩ | ⟨A1, p1, i1_1, i1_2, i1_3, Jh1, i1_5, i1_6, i1_7, i1_8⟩
  · have nf : ¬ N1 0 5 = 0 := by rw [x3]; exact nz x4 x5
    rw [r_customers, show N1 1 0 = nI n by rw [g1.1 1 (by omega), g0.1 1 (by omega)]; exact hD.1.2.2.1, Option.bind_some]
    rw [nin_f nf, Option.bind_some, bnd_eq]
    dsimp only
    rw [nin_f nf, Option.bind_some, bnd_eq]
    dsimp only
    rw [if_neg nf, Option.bind_some, semi_f nf]
    exact out_f rs (i0_1.trans (x1)) rfl x2 x3 x4 x5 (fun c hc => by rw [x6 c (by omega), i0_7 c (by omega) (by omega), ct c hc]) (H2_t (H2_g g0) (H2_g g1))
  obtain ⟨v2, N2, e2, g2, hc2⟩ := J1 (w := 4) (g := 2) (fu := 5997) (lo := 1) (hi := nI n) (by omega) (by omega) (by decide) Jh1 (fun V hV => lm4 (g := 2) (n := n) (by omega) (by rw [hV.2 4 (by omega)]; exact Jh1.2.2.2.2.2.2) (by rw [hV.1 32 (by omega), i1_7 32 (by omega) (by omega), i0_7 32 (by omega) (by omega), mset_cell (by omega)]; exact hD.1.2.1))
  rw [r_customers, show N1 1 0 = nI n by rw [g1.1 1 (by omega), g0.1 1 (by omega)]; exact hD.1.2.2.1, Option.bind_some]
  rw [e2, Option.bind_some, bnd_eq]
  dsimp only
  rcases hc2 with ⟨A2, fz, x1, x2, x3, x4, x5, x6⟩ | ⟨A2, p2, i2_1, i2_2, i2_3, Jh2, i2_5, i2_6, i2_7, i2_8⟩
  · have nf : ¬ N2 0 5 = 0 := by rw [x3]; exact nz x4 x5
    rw [nin_f nf, Option.bind_some, bnd_eq]
    dsimp only
    rw [if_neg nf, Option.bind_some, semi_f nf]
    exact out_f rs (i0_1.trans (i1_1.trans (x1))) rfl x2 x3 x4 x5 (fun c hc => by rw [x6 c (by omega), i1_7 c (by omega) (by omega), i0_7 c (by omega) (by omega), ct c hc]) (H2_t (H2_t (H2_g g0) (H2_g g1)) (H2_g g2))
  obtain ⟨v3, N3, e3, g3, hc3⟩ := J1 (w := 4) (g := 3) (fu := 5996) (lo := 0) (hi := 9) (by omega) (by omega) (by decide) Jh2 (fun V hV => lm4 (g := 3) (n := n) (by omega) (by rw [hV.2 4 (by omega)]; exact Jh2.2.2.2.2.2.2) (by rw [hV.1 32 (by omega), i2_7 32 (by omega) (by omega), i1_7 32 (by omega) (by omega), i0_7 32 (by omega) (by omega), mset_cell (by omega)]; exact hD.1.2.1))
  rw [e3, Option.bind_some, bnd_eq]
  dsimp only
  rcases hc3 with ⟨A3, fz, x1, x2, x3, x4, x5, x6⟩ | ⟨A3, p3, i3_1, i3_2, i3_3, Jh3, i3_5, i3_6, i3_7, i3_8⟩
  · have nf : ¬ N3 0 5 = 0 := by rw [x3]; exact nz x4 x5
    rw [if_neg nf, Option.bind_some, semi_f nf]
    exact out_f rs (i0_1.trans (i1_1.trans (i2_1.trans (x1)))) rfl x2 x3 x4 x5 (fun c hc => by rw [x6 c (by omega), i2_7 c (by omega) (by omega), i1_7 c (by omega) (by omega), i0_7 c (by omega) (by omega), ct c hc]) (H2_t (H2_t (H2_t (H2_g g0) (H2_g g1)) (H2_g g2)) (H2_g g3))
  have hh0 : H2 M2 N3 := H2_t (H2_t (H2_t (H2_g g0) (H2_g g1)) (H2_g g2)) (H2_g g3)
  have a2c : ∀ c, c ≠ 31 → c ≠ 38 → A3 c = M1 c := fun c x y => by rw [i3_7 c x y, i2_7 c x y, i1_7 c x y, i0_7 c x y, mset_cell x]
  have a15 : A3 31 5 = M1 31 5 := by rw [i3_8, i2_8, i1_8, i0_8, mset_slot (by omega)]
  have w0 : A3 38 0 = v0 := by rw [i3_6 0 (by omega), i2_6 0 (by omega), i1_6 0 (by omega), i0_2]
  have w1 : A3 38 1 = v1 := by rw [i3_6 1 (by omega), i2_6 1 (by omega), i1_2]
  have w2 : A3 38 2 = v2 := by rw [i3_6 2 (by omega), i2_2]
  have w3 : A3 38 3 = v3 := by rw [i3_2]
  obtain ⟨m1, m2, m3, m4, m5, m6, m7⟩ := Jh3
  have n8' : n ≤ 8 := hD.1.1
  obtain ⟨u0, q0, y0, z0⟩ := val_n (lo := 0) (hi := 1) i0_3 (by omega) (by omega)
  obtain ⟨u1, q1, y1, z1⟩ := val_n (lo := 0) (hi := 9) i1_3 (by omega) (by omega)
  obtain ⟨u2, q2, y2, z2⟩ := val_n (lo := 1) (hi := n) i2_3 (by omega) (by omega)
  obtain ⟨u3, q3, y3, z3⟩ := val_n (lo := 0) (hi := 9) i3_3 (by omega) (by omega)
  have N70 : N3 1 70 = nI s := by rw [g3.1 1 (by omega), g2.1 1 (by omega), g1.1 1 (by omega), g0.1 1 (by omega)]; exact (plan_rs hD.2.2).2.2.2.1
  rw [if_pos m6, z0, z1, z2, z3, t_sendD N70 hs, Option.bind_some, Option.bind_some]
  obtain ⟨R, hR⟩ : ∃ R, R = mset (mset (mset (mset (mset N3 1 (71 + 4 * s) (nI u0)) 1 (71 + 4 * s + 1) (nI u1)) 1 (71 + 4 * s + 2) (nI u2)) 1 (71 + 4 * s + 3) (nI u3)) 1 70 (nI (s + 1)) := ⟨_, rfl⟩
  have R0 : ∀ c, c ≠ 1 → R c = N3 c := fun c hc => by rw [hR]; simp only [mset_cell hc]
  have hR2 : H2 N3 R := ⟨fun c _ b => R0 c b, fun i _ _ _ => by rw [R0 0 (by omega)]⟩
  rw [← hR]
  obtain ⟨N9, e9, g9, hc9⟩ := JL (w := 4) (fu := 5995) (M1 := A3) (M2 := R) (p := p3) (by omega) (by omega) ⟨m1, by unfold TXD at m2 ⊢; rw [R0 3 (by omega), R0 0 (by omega)]; exact m2, m3, m4, by rw [R0 0 (by omega)]; exact m5, by rw [R0 0 (by omega)]; exact m6, m7⟩
  rw [e9]
  have hh : H2 M2 N9 := H2_t hh0 (H2_t hR2 (H2_g g9))
  rcases hc9 with ⟨A9, fz, o1, o2, o3, o4, o5, o6⟩ | ⟨V, q, o1, o2, o3, o4, o5, o6, o7⟩
  · exact out_f rs (i0_1.trans (i1_1.trans (i2_1.trans (i3_1.trans (o1))))) rfl o2 o3 o4 o5 (fun c hc => by rw [o6 c (by omega), a2c c (by omega) (by omega)]) hh
  · have dr2 : DR n r s V N3 := DR_c hD (fun c x y => by rw [o2.1 c (by omega), a2c c (by omega) (by omega)]) (by rw [g3.1 1 (by omega), g2.1 1 (by omega), g1.1 1 (by omega), g0.1 1 (by omega)])
    have V31 : V 31 4 = nI 4 := by rw [o2.2 4 (by omega)]; exact m7
    have V32 : V 32 0 = nI n := dr2.1.2.1
    have n8 : n ≤ 8 := dr2.1.1
    have V38 : ∀ i, V 38 i = A3 38 i := fun i => by rw [o2.1 38 (by omega)]
    obtain ⟨V', hV'⟩ : ∃ V', V' = mset (mset (mset (mset (mset V 37 (4 * s) (nI u0)) 37 (4 * s + 1) (nI u1)) 37 (4 * s + 2) (nI u2)) 37 (4 * s + 3) (nI u3)) 35 1 (nI (s + 1)) := ⟨_, rfl⟩
    have vf : ∀ c, c < 32 ∨ 37 < c → V' c = V c := fun c hc => by rw [hV']; simp (disch := omega) only [mset_cell]
    refine Or.inr ⟨V, V', N9, q, n, r, s + 1, by rw [rs, show itr (pX7_readStatement_L56 (nI 4)) fuel (mset M1 31 4 0) = _ from i0_1.trans (i1_1.trans (i2_1.trans (i3_1.trans (o1))))]; rfl, ?_, rfl, by rw [vf 31 (by omega)]; exact o3, o4, o5, by omega, o7, ?_, by rw [vf 31 (by omega), o2.2 5 (by omega)]; exact a15, fun c hc => by rw [vf c (by omega), o2.1 c (by omega), a2c c (by omega) (by omega)], hh⟩
    · unfold pX7_apply
      rw [if_neg (show ¬ nI 4 = 0 by decide), if_neg (show ¬ nI 4 = 1 by decide), if_neg (show ¬ nI 4 = 2 by decide), if_neg (show ¬ nI 4 = 3 by decide), show ald V 38 8 0 = some (V 38 0) from ald_nI (i := 0) (by omega) (by omega), V38, w0, z0, Option.bind_some, show ald V 38 8 1 = some (V 38 1) from ald_nI (i := 1) (by omega) (by omega), V38, w1, z1, Option.bind_some, show ald V 38 8 2 = some (V 38 2) from ald_nI (i := 2) (by omega) (by omega), V38, w2, z2, Option.bind_some, show ald V 38 8 3 = some (V 38 3) from ald_nI (i := 3) (by omega) (by omega), V38, w3, z3, Option.bind_some, t_send35 (show V 35 1 = nI s from (plan_rs dr2.2.2).2.2.1) hs, Option.bind_some, hV']
    · rw [hV']
      refine DR_c (M1 := mset (mset (mset (mset (mset V 37 (4 * s) (nI u0)) 37 (4 * s + 1) (nI u1)) 37 (4 * s + 2) (nI u2)) 37 (4 * s + 3) (nI u3)) 35 1 (nI (s + 1))) (M2 := R) ?_ (fun _ _ _ => rfl) (by rw [g9.1 1 (by omega)])
      have shv : sh (mset (mset (mset (mset (mset V 37 (4 * s) (nI u0)) 37 (4 * s + 1) (nI u1)) 37 (4 * s + 2) (nI u2)) 37 (4 * s + 3) (nI u3)) 35 1 (nI (s + 1))) = mset (mset (mset (mset (mset (sh V) 6 (4 * s) (nI u0)) 6 (4 * s + 1) (nI u1)) 6 (4 * s + 2) (nI u2)) 6 (4 * s + 3) (nI u3)) 4 1 (nI (s + 1)) := by
        rw [sh_set (by omega) (by omega), sh_set (by omega) (by omega), sh_set (by omega) (by omega), sh_set (by omega) (by omega), sh_set (by omega) (by omega)]
      unfold DR
      rw [shv, hR]
      obtain ⟨rr, ss⟩ := plan_rs dr2.2.2
      refine ⟨LandR_c dr2.1 (by simp (disch := omega) only [mset_cell]) (by simp (disch := omega) only [mset_cell]) (by simp (disch := omega) only [mset_cell]) (fun i hi => by simp (disch := omega) only [mset_slot]), LandB_c dr2.2.1 (by simp (disch := omega) only [mset_cell]) (by simp (disch := omega) only [mset_cell]), rs_plan (RowRel_c rr (by rw [mset_slot (by omega)]; simp (disch := omega) only [mset_cell]) (by simp (disch := omega) only [mset_cell]) (fun i a b => by simp (disch := omega) only [mset_slot])) (SorRel_add ss hs y0 y1 q2 y2 y3)⟩
end STB
