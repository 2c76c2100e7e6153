/-! PURE: all that are caught at a stop -/
def cg (M2 : Mm) : Nat → Bool := fun k => decide (M2 11 k = 1)
theorem ct_one {p p' : Nat → Bool} {s q : Nat} (hq : q < s) (h0 : p q = false) (h1 : p' q = true) (h : ∀ k, k < s → k ≠ q → p' k = p k) : fb_ct p' s = fb_ct p s + 1 := by
  have e := fb_ct_upd p true hq
  rw [h0] at e
  have c : fb_ct p' s = fb_ct (fun k => if k = q then true else p k) s := fb_ct_cong (fun k hk => by
    by_cases d : k = q
    · rw [if_pos d, d, h1]
    · rw [if_neg d, h k hk d])
  rw [c]
  rw [if_neg (by decide), if_pos rfl] at e
  omega
def Fr1 (i : Nat) (M1 M2 N1 N2 : Mm) : Prop := (∀ c, c ≠ 8 → c ≠ 9 → c ≠ 13 → c ≠ 16 → N1 c = M1 c) ∧ (∀ j, j ≠ i → N1 13 j = M1 13 j) ∧ (∀ c, c ≠ 0 → c ≠ 7 → c ≠ 10 → c ≠ 11 → c ≠ 12 → N2 c = M2 c) ∧ (∀ j, j ≠ i → N2 7 j = M2 7 j) ∧ (∀ j, j ≠ 18 → N2 0 j = M2 0 j)
section CATCHALL
variable {F S R P : Nat → Int32} {n r s : Nat}
set_option maxHeartbeats 1000000 in
theorem catch_c {M1 M2 : Mm} {T i t m E : Nat} {L : Nat → Bool} (C : Ctx F S R P n r s M1 M2) (hK : KR s M1 M2) (hB : BR s T L M1 M2) (hT : T ≤ 25000) (hL : ∀ k, k < s → pt P k 3 = i → L k = true) (hi : i ≤ 9) (hE : EvR m M1 M2) (hm : m ≤ E + fb_ct (cg M2) s) (hEs : E + s ≤ 26) (ht : t ≤ T) :
    ∃ (t' m' : Nat) (M1' M2' : Mm) (v : Int32), pX0_catchAll (nI i) (nI t) M1 = some (nI t', M1') ∧ pX9_nextCaught (nI i) (mset M2 7 i 0) = some v ∧ itr (pX9_goes_L121 (nI i) (nI (pl R r i))) fuel (nI t, v, mset M2 7 i 0) = some (nI t', M2') ∧ t' ≤ T + 72 ∧ KR s M1' M2' ∧ EvR m' M1' M2' ∧ m' ≤ E + fb_ct (cg M2') s ∧ m ≤ m' ∧ (∀ k, k < s → pt P k 3 = i → M2' 11 k = 1) ∧ (∀ k, k < s → M2 11 k = 1 → M2' 11 k = 1) ∧ M1' 13 i = M2' 7 i ∧ Fr1 i M1 M2 M1' M2' := by
  obtain ⟨q1, q2, q3, q4, q5, q6, q7, q8, q9⟩ := cx_n C
  have s7 := (sx C).2.2.2.1
  have plb := pl_b C i
  let A1 := mset M1 13 i 0
  let A2 := mset M2 7 i 0
  have CA : Ctx F S R P n r s A1 A2 := Ctx_c C (fun c hc => mset_cell (by omega)) (mset_cell (by omega))
  have KA : KR s A1 A2 := by
    intro k hk
    show (mset M2 7 i 0 11 k = 0 ∧ mset M1 13 i 0 16 k = -1) ∨ (mset M2 7 i 0 11 k = 1 ∧ ∃ c : Nat, c ≤ 30000 ∧ mset M1 13 i 0 16 k = nI c ∧ mset M2 7 i 0 10 k = nI c)
    rw [mset_cell (by omega), mset_cell (by omega), mset_cell (by omega)]
    exact hK k hk
  have BA : BR s T L A1 A2 := by
    intro k hk hl
    show mset M1 13 i 0 14 k = mset M2 7 i 0 8 k ∧ ∃ b, b ≤ T ∧ mset M1 13 i 0 15 k = nI b ∧ mset M2 7 i 0 9 k = nI b
    rw [mset_cell (by omega), mset_cell (by omega), mset_cell (by omega), mset_cell (by omega)]
    exact hB k hk hl
  have EA : EvR m A1 A2 := EvR_c hE (mset_cell (by omega)) (mset_cell (by omega)) (by show mset M2 7 i 0 0 18 = _; rw [mset_cell (by omega)]) (mset_cell (by omega))
  obtain ⟨v0, v1, v2, v3⟩ := next_c CA KA BA (by omega) hL (by omega)
  let I : Int32 × Int32 × Mm → Int32 × Int32 × Mm → Prop := fun a b => ∃ t d m' : Nat, a.1 = nI t ∧ b.1 = nI t ∧ a.2.1 = nI d ∧ d ≤ s ∧ t ≤ T + 9 * d ∧ pX0_nextToCatch (nI i) a.2.2 = some b.2.1 ∧ ((b.2.1 = -1 ∧ ∀ k, k < s → pt P k 3 = i → b.2.2 11 k = 1) ∨ ∃ q, q < s ∧ b.2.1 = nI q ∧ pt P q 3 = i ∧ b.2.2 11 q = 0) ∧ d ≤ fb_ct (cg b.2.2) s ∧ KR s a.2.2 b.2.2 ∧ EvR m' a.2.2 b.2.2 ∧ m' ≤ E + fb_ct (cg b.2.2) s ∧ m ≤ m' ∧ (∀ k, k < s → M2 11 k = 1 → b.2.2 11 k = 1) ∧ a.2.2 13 i = b.2.2 7 i ∧ Fr1 i M1 M2 a.2.2 b.2.2
  let Q : ((Int32 × Mm) ⊕ (Int32 × Mm)) → Int32 × Mm → Prop := fun x y => ∃ t' m' : Nat, ∃ M1', Sum.elim (fun z : Int32 × Mm => some (z.1, z.2)) (fun r => some r) x = some (nI t', M1') ∧ y.1 = nI t' ∧ t' ≤ T + 72 ∧ KR s M1' y.2 ∧ EvR m' M1' y.2 ∧ m' ≤ E + fb_ct (cg y.2) s ∧ m ≤ m' ∧ (∀ k, k < s → pt P k 3 = i → y.2 11 k = 1) ∧ (∀ k, k < s → M2 11 k = 1 → y.2 11 k = 1) ∧ M1' 13 i = y.2 7 i ∧ Fr1 i M1 M2 M1' y.2
  obtain ⟨x, y, hx, hy, t', m', M1', w1, w2, w3⟩ := itr_2 (f := pX0_catchAll_L12 (nI i)) (g := pX9_goes_L121 (nI i) (nI (pl R r i))) I (fun a => s - cl a.2.1) Q (fun a b hI => by
    obtain ⟨t, d, m', a1, a2, a3, a4, a5, a6, a7, a8, a9, a10, a11, a11b, a12, a13, a14⟩ := hI
    obtain ⟨at', ad, N1⟩ := a
    obtain ⟨bt, v, N2⟩ := b
    dsimp only at a1 a2 a3 a6 a7 a8 a9 a10 a11 a11b a12 a13 a14
    subst a1 a2 a3
    have z5 : N1 4 1 = nI s := by rw [a14.1 4 (by omega) (by omega) (by omega) (by omega)]; exact q5
    have CN : Ctx F S R P n r s N1 N2 := Ctx_c C (fun c hc => a14.1 c (by omega) (by omega) (by omega) (by omega)) (a14.2.2.1 1 (by omega) (by omega) (by omega) (by omega) (by omega))
    unfold pX0_catchAll_L12 pX9_goes_L121
    dsimp only
    rcases a7 with ⟨rfl, a7⟩ | ⟨q, hq, rfl, hqi, hq0⟩
    · right
      rw [a6]
      simp only [if_true, Option.bind_some]
      by_cases c : N1 4 1 ≤ nI d
      · rw [if_pos c]
        exact ⟨_, _, rfl, rfl, t, m', N1, rfl, rfl, by omega, a9, a10, a11, a11b, a7, a12, a13, a14⟩
      · rw [if_neg c]
        exact ⟨_, _, rfl, rfl, t, m', N1, rfl, rfl, by omega, a9, a10, a11, a11b, a7, a12, a13, a14⟩
    · left
      have hd : d < s := by
        rcases Nat.lt_or_ge d s with h | h
        · exact h
        · exfalso
          have e : fb_ct (cg N2) s = s := Nat.le_antisymm (fb_ct_le _ _) (by omega)
          have := of_decide_eq_true (fb_ct_all.mp e q hq)
          rw [hq0] at this
          exact absurd this (by decide)
      obtain ⟨_, b, hb1, hb2, hb3⟩ := hB q hq (hL q hq hqi)
      have hb2' : N1 15 q = nI b := by rw [a14.1 15 (by omega) (by omega) (by omega) (by omega)]; exact hb2
      have hb3' : N2 9 q = nI b := by rw [a14.2.2.1 9 (by omega) (by omega) (by omega) (by omega) (by omega)]; exact hb3
      have c1 : ¬ N1 4 1 ≤ nI d := by rw [z5, le_nI] <;> omega
      rw [if_neg c1, a6, if_neg (ne_m1 (by omega))]
      simp only [Option.bind_some]
      rw [if_neg (ne_m1 (by omega)), ald_nI (by omega) (by omega), hb2']
      simp only [Option.bind_some]
      rw [mmax_nI (by omega) (by omega)]
      have hu : ∃ u, u = max t b := ⟨_, rfl⟩
      obtain ⟨u, hu⟩ := hu
      rw [← hu]
      have hu1 : t ≤ u ∧ b ≤ u ∧ u ≤ T + 9 * d := by rw [hu]; omega
      rw [ast_nI (by omega) (by omega)]
      simp only [Option.bind_some]
      rw [ald_nI (by omega) (by omega), ald_nI (by omega) (by omega)]
      simp only [Option.bind_some]
      rw [mset_same, show mset N1 16 q (nI u) 13 i = N1 13 i by rw [mset_cell (by omega)], sub_nI hu1.1, ast_nI (by omega) (by omega)]
      simp only [Option.bind_some]
      rw [ald_nI (by omega) (by omega)]
      let N14 := mset (mset N1 16 q (nI u)) 13 i (N1 13 i + nI (u - t))
      have C14 : Ctx F S R P n r s N14 N2 := Ctx_c CN (fun c hc => by show mset _ _ _ _ c = _; rw [mset_cell (by omega), mset_cell (by omega)]) rfl
      rw [show mset (mset N1 16 q (nI u)) 13 i (N1 13 i + nI (u - t)) 16 q = nI u by rw [mset_cell (by omega), mset_same]]
      simp only [Option.bind_some]
      rw [show pX3_setting 1 7 (mset (mset N1 16 q (nI u)) 13 i (N1 13 i + nI (u - t))) = _ from cx_set C14 (i := 7) (by omega)]
      simp only [Option.bind_some, bnd_eq]
      rw [show pX4_placeAt 4 (nI i) (mset (mset N1 16 q (nI u)) 13 i (N1 13 i + nI (u - t))) = _ from cx_place C14 (by omega), show pX4_part 4 (nI q) 0 (mset (mset N1 16 q (nI u)) 13 i (N1 13 i + nI (u - t))) = _ from cx_part C14 (w := 0) hq (by omega)]
      simp only [Option.bind_some]
      rw [ald_nI (by omega) (by omega), ald_nI (by omega) (by omega), hb3']
      simp only [Option.bind_some]
      have e41 : (if nI b ≤ nI t then (some 0 : Option Int32) else some (nI b - nI t)) = some (nI (u - t)) := by
        by_cases c : b ≤ t
        · rw [if_pos (by rw [le_nI] <;> omega), show u - t = 0 by omega]
          rfl
        · rw [if_neg (by rw [le_nI] <;> omega), sub_nI (by omega), show u = b by omega]
      have e48 : (if nI b ≤ nI t then (some (nI t) : Option Int32) else some (nI b)) = some (nI u) := by
        by_cases c : b ≤ t
        · rw [if_pos (by rw [le_nI] <;> omega), show u = t by omega]
        · rw [if_neg (by rw [le_nI] <;> omega), show u = b by omega]
      rw [e41]
      simp only [Option.bind_some]
      rw [ast_nI (by omega) (by omega)]
      simp only [Option.bind_some]
      rw [ald_nI (by omega) (by omega), show mset N2 7 i (N2 7 i + nI (u - t)) 9 q = nI b by rw [mset_cell (by omega), hb3']]
      simp only [Option.bind_some]
      rw [e48]
      simp only [Option.bind_some]
      rw [ast_nI (by omega) (by omega)]
      simp only [Option.bind_some]
      rw [ast_nI (by omega) (by omega), nar_b1]
      simp only [Option.bind_some]
      let N53 := mset (mset (mset N2 7 i (N2 7 i + nI (u - t))) 10 q (nI u)) 11 q 1
      have C53 : Ctx F S R P n r s N14 N53 := Ctx_c C14 (fun c hc => rfl) (by show mset _ _ _ _ 1 = _; rw [mset_cell (by omega), mset_cell (by omega), mset_cell (by omega)])
      rw [show pX9_of 7 (mset (mset (mset N2 7 i (N2 7 i + nI (u - t))) 10 q (nI u)) 11 q 1) = _ from rx_set C53 (i := 7) (by omega), show pX9_sortieOf (nI q) 0 (mset (mset (mset N2 7 i (N2 7 i + nI (u - t))) 10 q (nI u)) 11 q 1) = _ from rx_part C53 (w := 0) hq (by omega)]
      simp only [Option.bind_some]
      have E53 : EvR m' N14 N53 := EvR_c a10 (by show mset _ _ _ _ 8 = _; rw [mset_cell (by omega), mset_cell (by omega)]) (by show mset _ _ _ _ 9 = _; rw [mset_cell (by omega), mset_cell (by omega)]) (by show mset _ _ _ _ 0 18 = _; rw [mset_cell (by omega), mset_cell (by omega), mset_cell (by omega)]) (by show mset _ _ _ _ 12 = _; rw [mset_cell (by omega), mset_cell (by omega), mset_cell (by omega)])
      have bq := pt_b C hq
      have cgq : cg N2 q = false := decide_eq_false (by rw [hq0]; decide)
      have ctlt : fb_ct (cg N2) s < s := by
        rcases Nat.lt_or_ge (fb_ct (cg N2) s) s with h | h
        · exact h
        · exfalso
          have := fb_ct_all.mp (Nat.le_antisymm (fb_ct_le _ _) h) q hq
          rw [cgq] at this
          cases this
      rw [s7.2, nI_add]
      obtain ⟨N1', N2', h1, h2, h3, h4, h5, h6⟩ := ev_c (mi := u + cl (S 7)) (kd := 2) (p := pl R r i) (f := pt P q 0 + 1) (x1 := nI (u + cl (S 7))) (x2 := 2) (x3 := nI (pl R r i)) (x4 := nI (pt P q 0)) E53 (by omega) (by omega) (by omega) (by omega) (by omega) rfl rfl rfl (nI_pred _).symm
      have fr1 : ∀ c, c ≠ 8 → c ≠ 9 → c ≠ 13 → c ≠ 16 → N1' c = N1 c := fun c g1 g2 g3 g4 => by
        rw [h4 c g1 g2]
        show mset _ _ _ _ c = _
        rw [mset_cell (by omega), mset_cell (by omega)]
      have fr2 : ∀ c, c ≠ 0 → c ≠ 7 → c ≠ 10 → c ≠ 11 → c ≠ 12 → N2' c = N2 c := fun c g1 g2 g3 g4 g5 => by
        rw [h5 c g1 g5]
        show mset _ _ _ _ c = _
        rw [mset_cell (by omega), mset_cell (by omega), mset_cell (by omega)]
      have n11 : ∀ k, N2' 11 k = if k = q then 1 else N2 11 k := fun k => by
        rw [h5 11 (by omega) (by omega)]
        show mset (mset (mset N2 7 i (N2 7 i + nI (u - t))) 10 q (nI u)) 11 q 1 11 k = _
        simp only [mset_get]
        by_cases c : k = q
        · subst c; simp
        · simp [c]
      have n10 : ∀ k, N2' 10 k = if k = q then nI u else N2 10 k := fun k => by
        rw [h5 10 (by omega) (by omega)]
        show mset (mset (mset N2 7 i (N2 7 i + nI (u - t))) 10 q (nI u)) 11 q 1 10 k = _
        rw [mset_cell (by omega)]
        simp only [mset_get]
        by_cases c : k = q
        · subst c; simp
        · simp [c]
      have n16 : ∀ k, N1' 16 k = if k = q then nI u else N1 16 k := fun k => by
        rw [h4 16 (by omega) (by omega)]
        show mset (mset N1 16 q (nI u)) 13 i (N1 13 i + nI (u - t)) 16 k = _
        rw [mset_cell (by omega)]
        simp only [mset_get]
        by_cases c : k = q
        · subst c; simp
        · simp [c]
      have n13 : ∀ j, N1' 13 j = if j = i then N1 13 i + nI (u - t) else N1 13 j := fun j => by
        rw [h4 13 (by omega) (by omega)]
        show mset (mset N1 16 q (nI u)) 13 i (N1 13 i + nI (u - t)) 13 j = _
        simp only [mset_get]
        by_cases c : j = i
        · subst c; simp
        · simp [c]
      have n7 : ∀ j, N2' 7 j = if j = i then N2 7 i + nI (u - t) else N2 7 j := fun j => by
        rw [h5 7 (by omega) (by omega)]
        show mset (mset (mset N2 7 i (N2 7 i + nI (u - t))) 10 q (nI u)) 11 q 1 7 j = _
        rw [mset_cell (by omega), mset_cell (by omega)]
        simp only [mset_get]
        by_cases c : j = i
        · subst c; simp
        · simp [c]
      have K' : KR s N1' N2' := by
        intro k hk
        rw [n11 k, n16 k, n10 k]
        by_cases c : k = q
        · rw [if_pos c, if_pos c, if_pos c]
          exact Or.inr ⟨rfl, u, by omega, rfl, rfl⟩
        · rw [if_neg c, if_neg c, if_neg c]
          exact a9 k hk
      have FR' : Fr1 i M1 M2 N1' N2' := ⟨fun c g1 g2 g3 g4 => by rw [fr1 c g1 g2 g3 g4, a14.1 c g1 g2 g3 g4], fun j hj => by rw [n13 j, if_neg hj, a14.2.1 j hj], fun c g1 g2 g3 g4 g5 => by rw [fr2 c g1 g2 g3 g4 g5, a14.2.2.1 c g1 g2 g3 g4 g5], fun j hj => by rw [n7 j, if_neg hj, a14.2.2.2.1 j hj], fun j hj => by
        rw [h6 j hj]
        show mset _ _ _ _ 0 j = _
        rw [mset_cell (by omega), mset_cell (by omega), mset_cell (by omega), a14.2.2.2.2 j hj]⟩
      have CN' : Ctx F S R P n r s N1' N2' := Ctx_c C (fun c hc => FR'.1 c (by omega) (by omega) (by omega) (by omega)) (FR'.2.2.1 1 (by omega) (by omega) (by omega) (by omega) (by omega))
      have B' : BR s T L N1' N2' := by
        intro k hk hl
        rw [FR'.1 14 (by omega) (by omega) (by omega) (by omega), FR'.1 15 (by omega) (by omega) (by omega) (by omega), FR'.2.2.1 8 (by omega) (by omega) (by omega) (by omega) (by omega), FR'.2.2.1 9 (by omega) (by omega) (by omega) (by omega) (by omega)]
        exact hB k hk hl
      obtain ⟨v', g1, g2, g3⟩ := next_c CN' K' B' (by omega) hL (by omega)
      rw [h1, h2]
      simp only [Option.bind_some]
      rw [g2]
      have ctn : fb_ct (cg N2') s = fb_ct (cg N2) s + 1 := ct_one hq cgq (decide_eq_true (by rw [n11 q, if_pos rfl])) (fun k hk hne => by unfold cg; rw [n11 k, if_neg hne])
      refine ⟨_, _, rfl, rfl, ⟨u + cl (S 7), d + 1, m' + 1, rfl, rfl, nI_1 d, by omega, by omega, g1, g3, by show d + 1 ≤ fb_ct (cg N2') s; omega, K', h3, by show m' + 1 ≤ E + fb_ct (cg N2') s; omega, by omega, fun k hk hk1 => ?_, ?_, FR'⟩, ?_⟩
      · show N2' 11 k = 1
        rw [n11 k]
        by_cases c : k = q
        · rw [if_pos c]
        · rw [if_neg c, a12 k hk hk1]
      · show N1' 13 i = N2' 7 i
        rw [n13 i, n7 i, if_pos rfl, if_pos rfl, a13]
      · show s - cl (nI d + 1) < s - cl (nI d)
        rw [nI_1, cl_nI (by omega), cl_nI (by omega)]
        omega) fuel (nI t, nI 0, A1) (nI t, v0, A2) ⟨t, 0, m, rfl, rfl, rfl, by omega, by omega, v1, v3, by omega, KA, EA, by
        show m ≤ E + fb_ct (cg A2) s
        rw [show cg A2 = cg M2 from funext fun k => by unfold cg; rw [show A2 11 = M2 11 from mset_cell (by omega)]]
        exact hm, Nat.le_refl _, fun k hk h => by
        show mset M2 7 i 0 11 k = 1
        rw [mset_cell (by omega)]
        exact h, by show mset M1 13 i 0 13 i = mset M2 7 i 0 7 i; rw [mset_same, mset_same], fun c g1 g2 g3 g4 => mset_cell g3, fun j hj => by show mset M1 13 i 0 13 j = _; exact mset_slot hj, fun c g1 g2 g3 g4 g5 => mset_cell g2, fun j hj => by show mset M2 7 i 0 7 j = _; exact mset_slot hj, fun j hj => by show mset M2 7 i 0 0 j = _; rw [mset_cell (by omega)]⟩ (by show s - cl (nI 0) < 6000; omega)
  refine ⟨t', m', M1', y.2, v0, ?_, v2, ?_, w3⟩
  · unfold pX0_catchAll
    rw [ast_nI (by omega) (by omega)]
    simp only [Option.bind_some]
    rw [show itr (pX0_catchAll_L12 (nI i)) fuel (nI t, 0, mset M1 13 i 0) = _ from hx]
    exact w1
  · rw [show itr (pX9_goes_L121 (nI i) (nI (pl R r i))) fuel (nI t, v0, mset M2 7 i 0) = _ from hy, ← w2]
end CATCHALL
