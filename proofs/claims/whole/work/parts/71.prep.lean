/-! PURE: the table is made ready -/
theorem bz_land {M1 : Mm} {wx wy : Int32} {f : Nat} (hB : LandB M1) (hx : WB wx) (hy : WB wy) (hf : f ≤ 2) : BZ (zof (M1 2) (M1 3) wx wy f) := by
  obtain ⟨_, _, ⟨a, a1, a2⟩, ⟨b, b0, b1, b2⟩, ⟨c, c1, c2⟩, ⟨d, d1, d2⟩, ⟨e, e1, e2⟩, ⟨g, g1, g2⟩, _⟩ := setB hB
  refine ⟨fun a b ha hb => ?_, fun a b c ha hb hc => ?_, fun a b c => ?_, ?_, ?_, ?_, hf⟩
  · show dr (M1 2) (M1 3) a b + fc (M1 2) b 2 ≤ 1000
    have := dr_le hB ha hb
    have := (fct hB (p := b) (w := 2) hb (by omega)).2
    have : fMost 2 = 30 := rfl
    unfold fc
    omega
  · show fl (M1 2) (M1 3) wx wy a b + fc (M1 2) b 3 + fl (M1 2) (M1 3) wx wy b c ≤ 2000
    have := (flI_b hB hx hy ha hb).2
    have := (flI_b hB hx hy hb hc).2
    have := (fct hB (p := b) (w := 3) hb (by omega)).2
    have : fMost 3 = 30 := rfl
    unfold fc
    omega
  · show dr (M1 2) (M1 3) a c + fc (M1 2) c 2 ≤ dr (M1 2) (M1 3) a b + fc (M1 2) b 2 + (dr (M1 2) (M1 3) b c + fc (M1 2) c 2)
    have := dr_tri (M1 2) (M1 3) a b c
    omega
  · show cl (M1 3 6) ≤ 9
    rw [c2, cl_nI (by omega)]
    exact c1
  · show cl (M1 3 7) ≤ 9
    rw [d2, cl_nI (by omega)]
    exact d1
  · show cl (M1 3 5) ≤ 999
    rw [b2, cl_nI (by omega)]
    exact b1
def PrI (B : Mm) (wx wy : Int32) (f n a b e : Nat) (M : Mm) : Prop := (∀ c, c < 18 ∨ 21 < c → M c = B c) ∧ (∀ a' b', a' ≤ n → b' ≤ n → (a' < a ∨ (a' = a ∧ b' < b)) → M 18 (a' * 9 + b') = nI (zl (zof (B 2) (B 3) wx wy f) a' b') ∧ M 19 (a' * 9 + b') = nI (fl (B 2) (B 3) wx wy a' b')) ∧ ∀ a', a' < e → M 20 a' = nI (fc (B 2) a' 3) ∧ M 21 a' = if zi (zof (B 2) (B 3) wx wy f) a' = true then 1 else 0
section PREP
variable {B : Mm} {wx wy : Int32} {f n : Nat}
theorem p_row (h1 : B 1 0 = nI n) (hn : n ≤ 8) (hB : LandB B) (hx : WB wx) (hy : WB wy) {a : Nat} (ha : a ≤ n) : ∀ (c b fu : Nat) (M : Mm), b + c = n + 1 → PrI B wx wy f n a b (a + 1) M → c < fu → ∃ M', itr (pX5_prepare_L116 wx wy (nI a)) fu (nI b, M) = some M' ∧ PrI B wx wy f n a (n + 1) (a + 1) M'
  | 0, b, fu, M, hb, h, hfu => by
    obtain ⟨fu, rfl⟩ : ∃ g, fu = g + 1 := ⟨fu - 1, by omega⟩
    refine ⟨M, itr_e ?_, by rw [show n + 1 = b by omega]; exact h⟩
    unfold pX5_prepare_L116
    dsimp only
    rw [if_pos (show M 1 0 < nI b by rw [h.1 1 (by omega), h1, lt_nI] <;> omega)]
  | c + 1, b, fu, M, hb, h, hfu => by
    obtain ⟨fu, rfl⟩ : ∃ g, fu = g + 1 := ⟨fu - 1, by omega⟩
    obtain ⟨i1, i2, i3⟩ := h
    have m1 : M 1 0 = nI n := by rw [i1 1 (by omega), h1]
    have mB : LandB M := LandB_c hB (i1 2 (by omega)) (i1 3 (by omega))
    have gd := c_drive m1 hn mB ha (show b ≤ n by omega)
    have gf : pX3_fact 1 (nI b) 2 M = _ := c_fact (w := 2) m1 hn (show b ≤ n by omega) (by omega)
    have fb := (fct hB (p := b) (w := 2) (by omega) (by omega)).1
    rw [i1 2 (by omega), i1 3 (by omega)] at gd
    rw [show M (1 + 1) = B 2 from i1 2 (by omega), ← fb] at gf
    have fl1 := flI_b hB (a := a) (b := b) hx hy (by omega) (by omega)
    have gl := c_flight (M1 := mset M 18 (a * 9 + b) (nI (zl (zof (B 2) (B 3) wx wy f) a b))) (wx := wx) (wy := wy) (a := a) (b := b) (by rw [mset_cell (by omega)]; exact m1) hn ha (show b ≤ n by omega)
    rw [mset_cell (by omega), mset_cell (by omega), i1 2 (by omega), i1 3 (by omega), fl1.1] at gl
    rw [itr_s (s' := (nI (b + 1), mset (mset M 18 (a * 9 + b) (nI (zl (zof (B 2) (B 3) wx wy f) a b))) 19 (a * 9 + b) (nI (fl (B 2) (B 3) wx wy a b))))]
    · refine p_row h1 hn hB hx hy ha c (b + 1) fu _ (by omega) ⟨?_, ?_, ?_⟩ (by omega)
      · intro c' hc
        rw [mset_cell (by omega), mset_cell (by omega)]
        exact i1 c' hc
      · intro a' b' ha' hb' hab
        by_cases e : a' * 9 + b' = a * 9 + b
        · have : a' = a := by omega
          subst this
          have : b' = b := by omega
          subst this
          rw [mset_cell (by omega), mset_same, mset_same]
          exact ⟨rfl, rfl⟩
        · rw [mset_slot e, mset_slot e, mset_slot e, mset_slot e]
          exact i2 a' b' ha' hb' (by omega)
      · intro a' ha'
        rw [mset_cell (by omega), mset_cell (by omega), mset_cell (by omega), mset_cell (by omega)]
        exact i3 a' ha'
    · unfold pX5_prepare_L116
      dsimp only
      rw [if_neg (show ¬ M 1 0 < nI b by rw [m1, lt_nI] <;> omega), gd, Option.bind_some, gf, Option.bind_some, nI_add, show nI a * 9 + nI b = nI (a * 9 + b) by simp (disch := omega) only [bnd_eq, Option.bind_some, lit_nI, nI_add, pk_mul, ald_nI, ast_nI, lt_nI, le_nI, eq_nI, sub_nI, Sum.elim_inl, Sum.elim_inr, if_pos, if_neg, if_true, if_false], ast_nI (by omega) (by omega), Option.bind_some]
      rw [show nI (dr (B 2) (B 3) a b + cl (B 2 (5 * b + 2))) = nI (zl (zof (B 2) (B 3) wx wy f) a b) from rfl, gl, Option.bind_some, ast_nI (by omega) (by omega), Option.bind_some]
      simp (disch := omega) only [bnd_eq, Option.bind_some, lit_nI, nI_add, pk_mul, ald_nI, ast_nI, lt_nI, le_nI, eq_nI, sub_nI, Sum.elim_inl, Sum.elim_inr, if_pos, if_neg, if_true, if_false]
theorem p_rows (h1 : B 1 0 = nI n) (hn : n ≤ 8) (hB : LandB B) (hx : WB wx) (hy : WB wy) : ∀ (c a fu : Nat) (M : Mm), a + c = n + 1 → PrI B wx wy f n a 0 a M → c < fu → ∃ M', itr (pX5_prepare_L68 wx wy) fu (nI a, M) = some M' ∧ PrI B wx wy f n (n + 1) 0 (n + 1) M'
  | 0, a, fu, M, ha, h, hfu => by
    obtain ⟨fu, rfl⟩ : ∃ g, fu = g + 1 := ⟨fu - 1, by omega⟩
    refine ⟨M, itr_e ?_, by rw [show n + 1 = a by omega]; exact h⟩
    unfold pX5_prepare_L68
    dsimp only
    rw [if_pos (show M 1 0 < nI a by rw [h.1 1 (by omega), h1, lt_nI] <;> omega)]
  | c + 1, a, fu, M, ha, h, hfu => by
    obtain ⟨fu, rfl⟩ : ∃ g, fu = g + 1 := ⟨fu - 1, by omega⟩
    obtain ⟨i1, i2, i3⟩ := h
    have m1 : M 1 0 = nI n := by rw [i1 1 (by omega), h1]
    have gf : pX3_fact 1 (nI a) 3 M = _ := c_fact (w := 3) m1 hn (show a ≤ n by omega) (by omega)
    have fb := (fct hB (p := a) (w := 3) (by omega) (by omega)).1
    rw [show M (1 + 1) = B 2 from i1 2 (by omega), ← fb] at gf
    let V := mset M 20 a (nI (fc (B 2) a 3))
    have gl : pX3_isLight 1 (nI a) (mset M 20 a (nI (fc (B 2) a 3))) = some (if zi (zof (B 2) (B 3) wx wy f) a = true then 1 else 0) := by
      have v1 : (mset M 20 a (nI (fc (B 2) a 3))) 1 0 = nI n := by rw [mset_cell (by omega)]; exact m1
      unfold pX3_isLight
      have g4 : pX3_fact 1 (nI a) 4 (mset M 20 a (nI (fc (B 2) a 3))) = _ := c_fact (w := 4) v1 hn (show a ≤ n by omega) (by omega)
      have fb4 := fct hB (p := a) (w := 4) (by omega) (by omega)
      have m4 : fMost 4 = 99 := rfl
      obtain ⟨u, u1, u2⟩ := (setB hB).2.2.1
      rw [g4, Option.bind_some, show pX3_setting 1 4 (mset M 20 a (nI (fc (B 2) a 3))) = _ from c_setting (i := 4) (by omega), Option.bind_some, mset_cell (by omega), mset_cell (by omega), show M (1 + 1) = B 2 from i1 2 (by omega), show M (1 + 2) = B 3 from i1 3 (by omega), u2, ← fb4.1]
      show _ = some (if decide (fc (B 2) a 4 ≤ cl (B 3 4)) = true then 1 else 0)
      rw [u2, cl_nI (by omega)]
      by_cases c : fc (B 2) a 4 ≤ u
      · rw [if_neg (show ¬ nI u < nI (cl (B 2 (5 * a + 4))) by unfold fc at c; rw [lt_nI] <;> omega), if_pos (by simpa using c)]
      · rw [if_pos (show nI u < nI (cl (B 2 (5 * a + 4))) by unfold fc at c; rw [lt_nI] <;> omega), if_neg (by simpa using c)]
    have hi : PrI B wx wy f n a 0 (a + 1) (mset (mset M 20 a (nI (fc (B 2) a 3))) 21 a (if zi (zof (B 2) (B 3) wx wy f) a = true then 1 else 0)) := by
      refine ⟨?_, ?_, ?_⟩
      · intro c' hc
        rw [mset_cell (by omega), mset_cell (by omega)]
        exact i1 c' hc
      · intro a' b' ha' hb' hab
        rw [mset_cell (by omega), mset_cell (by omega), mset_cell (by omega), mset_cell (by omega)]
        exact i2 a' b' ha' hb' hab
      · intro a' ha'
        by_cases e : a' = a
        · subst e
          rw [mset_cell (by omega), mset_same, mset_same]
          exact ⟨rfl, rfl⟩
        · rw [mset_slot e, mset_slot e, mset_slot e, mset_slot e]
          exact i3 a' (by omega)
    obtain ⟨M', e, h'⟩ := p_row h1 hn hB hx hy (show a ≤ n by omega) (n + 1) 0 fuel _ (by omega) hi (by unfold fuel; omega)
    have e' : itr (pX5_prepare_L116 wx wy (nI a)) fuel ((0 : Int32), mset (mset M 20 a (nI (fc (B 2) a 3))) 21 a (if zi (zof (B 2) (B 3) wx wy f) a = true then 1 else 0)) = some M' := e
    rw [itr_s (s' := (nI (a + 1), M'))]
    · refine p_rows h1 hn hB hx hy c (a + 1) fu M' (by omega) ⟨h'.1, fun a' b' ha' hb' hab => h'.2.1 a' b' ha' hb' (by omega), h'.2.2⟩ (by omega)
    · have nb : vp_nar .boolean (if zi (zof (B 2) (B 3) wx wy f) a = true then 1 else 0) = if zi (zof (B 2) (B 3) wx wy f) a = true then 1 else 0 := by
        split
        · rfl
        · rfl
      unfold pX5_prepare_L68
      dsimp only
      rw [if_neg (show ¬ M 1 0 < nI a by rw [m1, lt_nI] <;> omega), gf, Option.bind_some, ast_nI (by omega) (by omega), Option.bind_some]
      rw [show nI (cl (B 2 (5 * a + 3))) = nI (fc (B 2) a 3) from rfl, gl, Option.bind_some, nb, ast_nI (by omega) (by omega), Option.bind_some, e', Option.bind_some]
      simp (disch := omega) only [bnd_eq, Option.bind_some, lit_nI, nI_add, pk_mul, ald_nI, ast_nI, lt_nI, le_nI, eq_nI, sub_nI, Sum.elim_inl, Sum.elim_inr, if_pos, if_neg, if_true, if_false]
theorem prep_c {M1 : Mm} (h1 : M1 1 0 = nI n) (hn : n ≤ 8) (hB : LandB M1) (hx : WB wx) (hy : WB wy) (hf : f ≤ 2) : ∃ M', pX5_prepare (nI f) wx wy M1 = some M' ∧ (∀ c, c < 17 ∨ 21 < c → M' c = M1 c) ∧ M' 17 6 = M1 17 6 ∧ ∀ (o : Nat → Nat) (M'' : Mm), (∀ k, o k ≤ n) → (∀ c, 17 < c → c < 22 → M'' c = M' c) → (∀ i, 1 ≤ i → i ≤ 5 → M'' 17 i = M' 17 i) → M'' 17 6 = nI (n + 1) → (∀ k, k ≤ n + 1 → M'' 22 k = nI (o k)) → CX (M1 2) (M1 3) wx wy f n o M'' := by
  obtain ⟨_, _, ⟨a, a1, a2⟩, ⟨b, b0, b1, b2⟩, ⟨c, c1, c2⟩, ⟨d, d1, d2⟩, ⟨e, e1, e2⟩, ⟨g, g1, g2⟩, _⟩ := setB hB
  obtain ⟨j17, hj⟩ : ∃ v : Int32, v = if M1 3 9 = 1 then 1 else 0 := ⟨_, rfl⟩
  have hz : zo j17 = some j17 := by
    unfold zo
    rw [if_pos]
    rw [hj]
    split
    · exact Or.inr rfl
    · exact Or.inl rfl
  obtain ⟨V, hV⟩ : ∃ V, V = mset (mset (mset (mset (mset M1 17 1 (nI f)) 17 2 (M1 3 6)) 17 3 (M1 3 7)) 17 4 (M1 3 5)) 17 5 j17 := ⟨_, rfl⟩
  have vf : ∀ c, c ≠ 17 → V c = M1 c := fun c hc => by rw [hV, mset_cell hc, mset_cell hc, mset_cell hc, mset_cell hc, mset_cell hc]
  obtain ⟨M', e, h'⟩ := p_rows (f := f) (B := V) (n := n) (wx := wx) (wy := wy) (by rw [vf 1 (by omega)]; exact h1) hn (LandB_c hB (vf 2 (by omega)) (vf 3 (by omega))) hx hy (n + 1) 0 fuel V (by omega) ⟨fun _ _ => rfl, fun a' b' _ _ h => absurd h (by omega), fun a' h => absurd h (by omega)⟩ (by unfold fuel; omega)
  obtain ⟨i1, i2, i3⟩ := h'
  rw [vf 2 (by omega), vf 3 (by omega)] at i2 i3
  refine ⟨M', ?_, ?_, ?_, ?_⟩
  · unfold pX5_prepare
    rw [bnd_eq, show ∀ N : Mm, pX3_setting 1 6 N = some (N 3 6) from fun N => c_setting (i := 6) (by omega), Option.bind_some, bnd_eq, show ∀ N : Mm, pX3_setting 1 7 N = some (N 3 7) from fun N => c_setting (i := 7) (by omega), Option.bind_some, bnd_eq, show ∀ N : Mm, pX3_setting 1 5 N = some (N 3 5) from fun N => c_setting (i := 5) (by omega), Option.bind_some, bnd_eq, show ∀ N : Mm, pX3_setting 1 9 N = some (N 3 9) from fun N => c_setting (i := 9) (by omega), Option.bind_some, bnd_eq]
    have e' : itr (pX5_prepare_L68 wx wy) fuel ((0 : Int32), V) = some M' := e
    have k : (if (mset (mset (mset (mset M1 17 1 (nI f)) 17 2 (M1 3 6)) 17 3 (M1 3 7)) 17 4 (M1 3 5)) 3 9 = 1 then (1 : Int32) else 0) = j17 := hj.symm
    refine Eq.trans (congrArg (fun v : Int32 => (zo v).bind fun v20 => bnd (mset (mset (mset (mset (mset M1 17 1 (nI f)) 17 2 (M1 3 6)) 17 3 (M1 3 7)) 17 4 (M1 3 5)) 17 5 v) fun M22 => (itr (pX5_prepare_L68 wx wy) fuel (0, M22)).bind fun x59 => some x59) k) ?_
    rw [hz, Option.bind_some, bnd_eq, ← hV, e', Option.bind_some]
  · intro c hc
    rw [i1 c (by omega), vf c (by omega)]
  · rw [i1 17 (by omega), hV, mset_slot (by omega), mset_slot (by omega), mset_slot (by omega), mset_slot (by omega), mset_slot (by omega)]
  · intro o M'' ho k1 k2 k3 k4
    have w1 : ∀ i, M' 17 i = V 17 i := fun i => by rw [i1 17 (by omega)]
    refine ⟨bz_land hB hx hy hf, hn, ho, ?_, ?_, ?_, ?_, ?_, k3, ?_, ?_, ?_, ?_, k4⟩
    · rw [k2 1 (by omega) (by omega), w1, hV]
      rfl
    · rw [k2 2 (by omega) (by omega), w1, hV]
      show M1 3 6 = nI (cl (M1 3 6))
      rw [c2, cl_nI (by omega)]
    · rw [k2 3 (by omega) (by omega), w1, hV]
      show M1 3 7 = nI (cl (M1 3 7))
      rw [d2, cl_nI (by omega)]
    · rw [k2 4 (by omega) (by omega), w1, hV]
      show M1 3 5 = nI (cl (M1 3 5))
      rw [b2, cl_nI (by omega)]
    · rw [k2 5 (by omega) (by omega), w1, hV, mset_same, hj]
      show _ = if decide (M1 3 9 = 1) = true then 1 else 0
      by_cases c9 : M1 3 9 = 1
      · rw [if_pos c9, if_pos (decide_eq_true c9)]
      · rw [if_neg c9, if_neg (by simpa using c9)]
    · intro a b ha hb
      rw [k1 18 (by omega) (by omega)]
      exact (i2 a b ha hb (by omega)).1
    · intro a b ha hb
      rw [k1 19 (by omega) (by omega)]
      exact (i2 a b ha hb (by omega)).2
    · intro a ha
      rw [k1 20 (by omega) (by omega)]
      exact (i3 a (by omega)).1
    · intro a ha
      rw [k1 21 (by omega) (by omega)]
      exact (i3 a (by omega)).2
end PREP
