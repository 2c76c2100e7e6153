/-! PURE: one number, on both sides -/
def Iw (w : Nat) : Nat := [2, 5, 2, 8, 4].getD w 0
theorem sldI4 : ∀ w, w < 5 → sld stL4 (nI w) = some (nI (Iw w)) := by decide +kernel
theorem Iw_le : ∀ w, w < 5 → Iw w ≤ 8 := by decide
theorem isIn_01 (x a b : Int32) : pX9_isIn x a b &&& 1 = pX9_isIn x a b := by
  unfold pX9_isIn
  split
  · rfl
  · split
    · rfl
    · rfl
theorem isIn_0 (x a b : Int32) : pX9_isIn x a b = 0 ↔ (x < a ∨ b < x) := by
  constructor
  · intro h
    by_cases c : x < a
    · exact Or.inl c
    · by_cases c2 : b < x
      · exact Or.inr c2
      · rw [isIn_in c c2] at h
        exact absurd h one_ne
  · rintro (h | h)
    · exact isIn_lo h
    · exact isIn_hi h
section NUM
variable {B : Nat → Nat} {t : Nat}
theorem number_f {M : Mm} (h : ¬ M 0 5 = 0) : pX9_number M = some (0, M) := by
  unfold pX9_number
  rw [if_neg h]
theorem nin_f {M : Mm} {lo hi : Int32} (h : ¬ M 0 5 = 0) : pX9_numberIn lo hi M = some (0, M) := by
  unfold pX9_numberIn
  rw [number_f h, Option.bind_some, bnd_eq, if_neg h]
theorem nof_eq {k : Nat} (hk : k < 5) (M : Mm) : pX9_numberOf (nI k) M = pX9_numberIn 0 (nI (fMost k)) M := by
  have mb : ∀ x : Int32, pX9_mayBe (nI k) x = pX9_isIn x 0 (nI (fMost k)) := by
    intro x
    have hk' : k = 0 ∨ k = 1 ∨ k = 2 ∨ k = 3 ∨ k = 4 := by omega
    rcases hk' with rfl | rfl | rfl | rfl | rfl <;> exact isIn_01 _ _ _
  unfold pX9_numberOf pX9_numberIn
  cases pX9_number M with
  | none => rfl
  | some v =>
    show (if v.2 0 5 = 0 then if pX9_mayBe (nI k) v.1 = 0 then some (v.1, pX9_fails 2 (v.2 0 8) v.2) else some (v.1, v.2) else some (v.1, v.2)) = (if v.2 0 5 = 0 then if pX9_isIn v.1 0 (nI (fMost k)) = 0 then some (v.1, pX9_fails 2 (v.2 0 8) v.2) else some (v.1, v.2) else some (v.1, v.2))
    rw [mb]
theorem nin_r {M : Mm} {p : Nat} (lo hi : Int32) (h : TXD B t M) (hp : p ≤ t) (h7 : M 0 7 = nI p) (h5 : M 0 5 = 0) : ∃ (v : Int32) (M' : Mm), pX9_numberIn lo hi M = some (v, M') ∧ G1 M M' ∧ ((tk B t (rnd isBl B t p) = 2 ∧ ¬ (tv B t (rnd isBl B t p) < lo ∨ hi < tv B t (rnd isBl B t p)) ∧ v = tv B t (rnd isBl B t p) ∧ M' 0 5 = 0 ∧ M' 0 7 = nI (te B t (rnd isBl B t p)) ∧ M' 0 8 = nI (rnd isBl B t p)) ∨ (tk B t (rnd isBl B t p) = 2 ∧ (tv B t (rnd isBl B t p) < lo ∨ hi < tv B t (rnd isBl B t p)) ∧ M' 0 5 = nI (2 + 8 * rnd isBl B t p)) ∨ (tk B t (rnd isBl B t p) ≠ 2 ∧ M' 0 5 = nI (1 + 8 * rnd isBl B t p))) := by
  have t3 := h.1
  have qb := rnd_b (P := isBl) (B := B) hp
  obtain ⟨v, M1, e, g, hc⟩ := number_r h hp h7 h5
  unfold pX9_numberIn
  rw [e, Option.bind_some, bnd_eq]
  dsimp only
  rcases hc with ⟨k1, rfl, k3, k4, k5⟩ | ⟨k1, k2⟩
  · rw [if_pos k3]
    by_cases c : tv B t (rnd isBl B t p) < lo ∨ hi < tv B t (rnd isBl B t p)
    · rw [if_pos ((isIn_0 _ _ _).mpr c), bnd_eq, k5, show (2 : Int32) = nI 2 from rfl, fails_0 k3]
      exact ⟨_, _, rfl, G1_t g (G1_s (by omega)), Or.inr (Or.inl ⟨k1, c, mset_same _ _ _ _⟩)⟩
    · rw [if_neg (fun g => c ((isIn_0 _ _ _).mp g))]
      exact ⟨_, _, rfl, g, Or.inl ⟨k1, c, rfl, k3, k4, k5⟩⟩
  · rw [if_neg (by rw [k2]; exact nI_ne0 (by omega) (by omega))]
    exact ⟨_, _, rfl, g, Or.inr (Or.inr ⟨k1, k2⟩)⟩
theorem tk_le (B : Nat → Nat) (t q : Nat) : tk B t q ≤ 4 := by
  unfold tk kI
  repeat' split
  all_goals omega
theorem te_b {q : Nat} (h : q ≤ t) : q ≤ te B t q ∧ te B t q ≤ t := by
  unfold te
  by_cases c : q < t
  · rw [if_pos c]
    have a := rnd_b (P := isLe) (B := B) (t := t) (p := q + 1) (by omega)
    have b := rnd_b (P := isDg) (B := B) (t := t) (p := q) (by omega)
    have d := rnd_b (P := isDg) (B := B) (t := t) (p := q + 1) (by omega)
    repeat' split
    all_goals omega
  · rw [if_neg c]
    omega
theorem te_gt {q : Nat} (h : q < t) : q < te B t q := by
  unfold te
  rw [if_pos h]
  have a := rnd_b (P := isLe) (B := B) (t := t) (p := q + 1) (by omega)
  have d := rnd_b (P := isDg) (B := B) (t := t) (p := q + 1) (by omega)
  split
  · omega
  · split
    · omega
    · split
      · rename_i g
        rw [rnd_y h g]
        omega
      · split
        · omega
        · omega
theorem refuse_c {M : Mm} {k q : Nat} (h : M 31 7 = nI q) : pX7_refuse (nI k) M = (0, mset M 31 5 (nI (k + 8 * q))) := by
  unfold pX7_refuse
  rw [bnd_eq, h, show nI k + 8 * nI q = nI (k + 8 * q) by simp (disch := omega) only [bnd_eq, Option.bind_some, lit_nI, nI_add, pk_mul, ald_nI, ast_nI, lt_nI, le_nI, eq_nI, sub_nI, Sum.elim_inl, Sum.elim_inr, if_pos, if_neg, if_true, if_false]]
/-- the class reads a number of a statement that is no row -/
theorem nst {M : Mm} {w g p : Nat} {lo hi : Int32} (hw : w < 5) (hw3 : w ≠ 3) (hg : g < Iw w) (h : TXA B t M) (hp : p ≤ t) (h8 : M 31 8 = nI p) (h4 : M 31 4 = nI g) (hlm : ∀ V, F1 M V → pX7_least (nI w) V = some lo ∧ pX7_most (nI w) V = some hi) : ∃ V, F1 M V ∧ V 31 8 = nI (te B t (rnd isBl B t p)) ∧ pX7_readStatement_L56 (nI w) M = if tk B t (rnd isBl B t p) = 2 then (if tv B t (rnd isBl B t p) < lo ∨ hi < tv B t (rnd isBl B t p) then some (.inr (.inr (0, mset V 31 5 (nI (2 + 8 * rnd isBl B t p))))) else some (.inl (mset (mset V 38 g (tv B t (rnd isBl B t p))) 31 4 (nI (g + 1))))) else some (.inr (.inr (0, mset V 31 5 (nI (1 + 8 * rnd isBl B t p))))) := by
  have iw := Iw_le w hw
  obtain ⟨V, e1, f1, k1, k2, k3, k4⟩ := step_c h hp h8
  have tl := tk_le B t (rnd isBl B t p)
  generalize rnd isBl B t p = q at *
  have v4 : V 31 4 = nI g := by rw [f1.2 4 (by omega)]; exact h4
  have l := (hlm V f1).1
  have m := (hlm V f1).2
  have nw : ¬ nI w = 3 := by show ¬ nI w = nI 3; rw [eq_nI] <;> omega
  refine ⟨V, f1, k3, ?_⟩
  unfold pX7_readStatement_L56
  rw [sldI4 w hw, Option.bind_some, if_neg (show ¬ nI (Iw w) < M 31 4 by rw [h4, lt_nI] <;> omega), e1, Option.bind_some, Option.bind_some, if_neg (show ¬ V 31 4 = nI (Iw w) by rw [v4, eq_nI] <;> omega), bnd_eq]
  have j20 : ∀ inst1 inst2 inst3, (@ite (Option (Unit ⊕ (Mm ⊕ (Mm ⊕ (Int32 × Mm))))) (V 31 6 = 3) inst1 (@ite _ ((0 : Int32) = 0) inst2 (@ite _ (nI w = 3) inst3 (some (Sum.inr (Sum.inr (Sum.inr (1, V))))) (some (Sum.inl ()))) (some (Sum.inr (Sum.inr (Sum.inr (1, V)))))) (some (Sum.inl ()))) = some (.inl ()) := by
    intro i1 i2 i3
    by_cases c : V 31 6 = 3
    · rw [if_pos c, if_pos rfl, if_neg nw]
    · rw [if_neg c]
  rw [j20, Option.bind_some, Sum.elim_inl]
  by_cases c2 : tk B t q = 2
  · rw [if_pos (show V 31 6 = 2 by rw [k2, c2]; rfl), if_pos rfl, Option.bind_some, Sum.elim_inl, l, Option.bind_some, if_pos c2]
    have v9 := k4 c2
    by_cases cl : tv B t q < lo
    · rw [if_pos (show V 31 9 < lo by rw [v9]; exact cl), show pX7_refuse 2 V = _ from refuse_c (k := 2) k1, bnd_eq, if_pos (Or.inl cl)]
      dsimp only
      rw [and_0]
    · rw [if_neg (show ¬ V 31 9 < lo by rw [v9]; exact cl), m, Option.bind_some]
      by_cases ch : hi < tv B t q
      · rw [if_neg (show ¬ V 31 9 ≤ hi by rw [v9]; exact Int32.not_le.mpr ch), show pX7_refuse 2 V = _ from refuse_c (k := 2) k1, bnd_eq, if_pos (Or.inr ch)]
        dsimp only
        rw [and_0]
      · rw [if_pos (show V 31 9 ≤ hi by rw [v9]; exact Int32.not_lt.mp ch), if_pos rfl, v4, ast_nI (by omega) (by omega), Option.bind_some, bnd_eq, mset_cell (by omega), v4, v9, show nI g + 1 = nI (g + 1) from nI_add g 1, if_neg (by rintro (g | g); exact cl g; exact ch g)]
  · rw [if_neg (show ¬ V 31 6 = 2 by rw [k2]; show ¬ nI (tk B t q) = nI 2; rw [eq_nI] <;> omega), show pX7_refuse 1 V = _ from refuse_c (k := 1) k1, bnd_eq, if_neg c2]
    dsimp only
    rw [and_0]
/-- behind the last number stands a semicolon -/
theorem nlast {M : Mm} {w p : Nat} (hw : w < 5) (hw3 : w ≠ 3) (h : TXA B t M) (hp : p ≤ t) (h8 : M 31 8 = nI p) (h4 : M 31 4 = nI (Iw w)) : ∃ V, F1 M V ∧ V 31 8 = nI (te B t (rnd isBl B t p)) ∧ pX7_readStatement_L56 (nI w) M = if tk B t (rnd isBl B t p) = 3 then some (.inr (.inr (1, V))) else some (.inr (.inr (0, mset V 31 5 (nI (1 + 8 * rnd isBl B t p))))) := by
  have iw := Iw_le w hw
  obtain ⟨V, e1, f1, k1, k2, k3, k4⟩ := step_c h hp h8
  have tl := tk_le B t (rnd isBl B t p)
  generalize rnd isBl B t p = q at *
  have v4 : V 31 4 = nI (Iw w) := by rw [f1.2 4 (by omega)]; exact h4
  have nw : ¬ nI w = 3 := by show ¬ nI w = nI 3; rw [eq_nI] <;> omega
  refine ⟨V, f1, k3, ?_⟩
  unfold pX7_readStatement_L56
  rw [sldI4 w hw, Option.bind_some, if_neg (show ¬ nI (Iw w) < M 31 4 by rw [h4, lt_nI] <;> omega), e1, Option.bind_some, Option.bind_some, if_pos (show V 31 4 = nI (Iw w) from v4), bnd_eq]
  by_cases c3 : tk B t q = 3
  · rw [if_pos (show V 31 6 = 3 by rw [k2, c3]; rfl), if_neg one_ne, Option.bind_some, Sum.elim_inr, if_pos c3]
  · rw [if_neg (show ¬ V 31 6 = 3 by rw [k2]; show ¬ nI (tk B t q) = nI 3; rw [eq_nI] <;> omega), Option.bind_some, Sum.elim_inl, if_neg c3]
    by_cases c2 : V 31 6 = 2
    · rw [if_pos c2, if_neg one_ne, if_neg nw, show pX7_refuse 1 V = _ from refuse_c (k := 1) k1, bnd_eq, Option.bind_some, Sum.elim_inr]
      dsimp only
      rw [and_0]
    · rw [if_neg c2, show pX7_refuse 1 V = _ from refuse_c (k := 1) k1, bnd_eq]
      dsimp only
      rw [and_0]
/-- one more in a row -/
theorem nrow {M : Mm} {g p n : Nat} (hg : g ≤ 8) (h : TXA B t M) (hp : p ≤ t) (h8 : M 31 8 = nI p) (h4 : M 31 4 = nI g) (hn : M 32 0 = nI n) : ∃ V, F1 M V ∧ V 31 8 = nI (te B t (rnd isBl B t p)) ∧ pX7_readStatement_L56 (nI 3) M = if tk B t (rnd isBl B t p) = 3 then some (.inr (.inr (1, V))) else if tk B t (rnd isBl B t p) = 2 then (if tv B t (rnd isBl B t p) < 1 ∨ nI n < tv B t (rnd isBl B t p) then some (.inr (.inr (0, mset V 31 5 (nI (2 + 8 * rnd isBl B t p))))) else if g = 8 then some (.inr (.inr (0, mset V 31 5 (nI (3 + 8 * rnd isBl B t p))))) else some (.inl (mset (mset V 38 g (tv B t (rnd isBl B t p))) 31 4 (nI (g + 1))))) else some (.inr (.inr (0, mset V 31 5 (nI (1 + 8 * rnd isBl B t p))))) := by
  obtain ⟨V, e1, f1, k1, k2, k3, k4⟩ := step_c h hp h8
  have tl := tk_le B t (rnd isBl B t p)
  generalize rnd isBl B t p = q at *
  have v4 : V 31 4 = nI g := by rw [f1.2 4 (by omega)]; exact h4
  have v32 : V 32 0 = nI n := by rw [f1.1 32 (by omega)]; exact hn
  refine ⟨V, f1, k3, ?_⟩
  unfold pX7_readStatement_L56
  rw [sldI4 3 (by omega), Option.bind_some, if_neg (show ¬ nI (Iw 3) < M 31 4 by rw [h4]; show ¬ nI 8 < nI g; rw [lt_nI] <;> omega), e1, Option.bind_some, Option.bind_some, bnd_eq]
  by_cases c3 : tk B t q = 3
  · rw [if_pos (show V 31 6 = 3 by rw [k2, c3]; rfl), if_pos c3]
    by_cases cj : V 31 4 = nI (Iw 3)
    · rw [if_pos cj, if_neg one_ne, Option.bind_some, Sum.elim_inr]
    · rw [if_neg cj, if_pos rfl, if_pos (show nI 3 = 3 from rfl), Option.bind_some, Sum.elim_inr]
  · rw [if_neg (show ¬ V 31 6 = 3 by rw [k2]; show ¬ nI (tk B t q) = nI 3; rw [eq_nI] <;> omega), Option.bind_some, Sum.elim_inl, if_neg c3]
    by_cases c2 : tk B t q = 2
    · have v9 := k4 c2
      have j23 : ∀ (x : Int32) inst1 inst2, (@ite (Option (Mm ⊕ (Mm ⊕ (Mm ⊕ (Int32 × Mm))))) (x = 0) inst1 (some (Sum.inl V)) (@ite _ (nI 3 = 3) inst2 (some (Sum.inl V)) (bnd (pX7_refuse 1 V) fun v43 => some (Sum.inr (Sum.inr (Sum.inr (v43.1 &&& 1, v43.2))))))) = some (.inl V) := by
        intro x i1 i2
        by_cases c : x = 0
        · rw [if_pos c]
        · rw [if_neg c, if_pos (show nI 3 = 3 from rfl)]
      rw [if_pos (show V 31 6 = 2 by rw [k2, c2]; rfl), j23, Option.bind_some, Sum.elim_inl, if_pos c2]
      have l : pX7_least (nI 3) V = some 1 := by
        unfold pX7_least
        rw [if_neg (show ¬ nI 3 = 2 by decide), Option.bind_some, Sum.elim_inl, if_pos (show nI 3 = 3 from rfl)]
      have m : pX7_most (nI 3) V = some (nI n) := by
        unfold pX7_most
        rw [if_neg (show ¬ nI 3 = 2 by decide), if_pos (show nI 3 = 3 from rfl), v32]
      rw [l, Option.bind_some]
      by_cases cl : tv B t q < 1
      · rw [if_pos (show V 31 9 < 1 by rw [v9]; exact cl), show pX7_refuse 2 V = _ from refuse_c (k := 2) k1, bnd_eq, if_pos (Or.inl cl)]
        dsimp only
        rw [and_0]
      · rw [if_neg (show ¬ V 31 9 < 1 by rw [v9]; exact cl), m, Option.bind_some]
        by_cases ch : nI n < tv B t q
        · rw [if_neg (show ¬ V 31 9 ≤ nI n by rw [v9]; exact Int32.not_le.mpr ch), show pX7_refuse 2 V = _ from refuse_c (k := 2) k1, bnd_eq, if_pos (Or.inr ch)]
          dsimp only
          rw [and_0]
        · rw [if_pos (show V 31 9 ≤ nI n by rw [v9]; exact Int32.not_lt.mp ch), if_neg (show ¬ (tv B t q < 1 ∨ nI n < tv B t q) by rintro (g | g); exact cl g; exact ch g)]
          by_cases g8 : g = 8
          · rw [if_pos (show V 31 4 = nI (Iw 3) by rw [v4, g8]; rfl), if_neg one_ne, show pX7_refuse 3 V = _ from refuse_c (k := 3) k1, bnd_eq, if_pos g8]
            dsimp only
            rw [and_0]
          · rw [if_neg (show ¬ V 31 4 = nI (Iw 3) by rw [v4]; show ¬ nI g = nI 8; rw [eq_nI] <;> omega), if_pos rfl, v4, ast_nI (by omega) (by omega), Option.bind_some, bnd_eq, mset_cell (by omega), v4, v9, show nI g + 1 = nI (g + 1) from nI_add g 1, if_neg g8]
    · rw [if_neg (show ¬ V 31 6 = 2 by rw [k2]; show ¬ nI (tk B t q) = nI 2; rw [eq_nI] <;> omega), show pX7_refuse 1 V = _ from refuse_c (k := 1) k1, bnd_eq, if_neg c2]
      dsimp only
      rw [and_0]
end NUM
