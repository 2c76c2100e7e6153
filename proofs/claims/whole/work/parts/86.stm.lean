/-! PURE: statements, their parts -/
def sh (M : Mm) : Mm := fun c => if c = 0 ∨ 6 < c then fun _ => 0 else M (31 + c)
theorem sh_set {M : Mm} {c i : Nat} {v : Int32} (h1 : 32 ≤ c) (h2 : c ≤ 37) : sh (mset M c i v) = mset (sh M) (c - 31) i v := by
  funext a j
  rw [mset_get]
  unfold sh
  by_cases h : a = 0 ∨ 6 < a
  · rw [if_pos h, if_pos h, if_neg (by omega)]
  · rw [if_neg h, if_neg h, mset_get]
    by_cases e : a = c - 31 ∧ j = i
    · rw [if_pos ⟨by omega, e.2⟩, if_pos e]
    · rw [if_neg (fun g => e ⟨by omega, g.2⟩), if_neg e]
theorem sh_eq {M M' : Mm} (h : ∀ c, 31 < c → c < 38 → M' c = M c) : sh M' = sh M := by
  funext a
  unfold sh
  by_cases e : a = 0 ∨ 6 < a
  · rw [if_pos e, if_pos e]
  · rw [if_neg e, if_neg e, h (31 + a) (by omega) (by omega)]
def DR (n r s : Nat) (M1 M2 : Mm) : Prop := LandR n (sh M1) M2 ∧ LandB (sh M1) ∧ PlanR n r s (sh M1) M2
theorem DR_c {n r s : Nat} {M1 M2 M1' M2' : Mm} (h : DR n r s M1 M2) (e : ∀ c, 31 < c → c < 38 → M1' c = M1 c) (g : M2' 1 = M2 1) : DR n r s M1' M2' := by
  have es := sh_eq e
  unfold DR at h ⊢
  rw [es]
  exact ⟨LandR_c h.1 rfl rfl rfl (fun i _ => by rw [g]), h.2.1, PlanR_c h.2.2 rfl rfl rfl (fun i _ _ => by rw [g])⟩
def semi (M : Mm) : Option Mm := if (M 0 5) = 0 then ((pX9_here M).bind fun v35 => if v35.1 = 59 then (some v35.2) else (bnd (pX9_fails 1 (v35.2 0 7) v35.2) fun v37 => some v37)) else (some M)
section STM
variable {B : Nat → Nat} {t : Nat}
def JN (B : Nat → Nat) (t p g : Nat) (M1 M2 : Mm) : Prop := TXA B t M1 ∧ TXD B t M2 ∧ p ≤ t ∧ M1 31 8 = nI p ∧ M2 0 7 = nI p ∧ M2 0 5 = 0 ∧ M1 31 4 = nI g
theorem tk2_lt {q : Nat} (h : tk B t q = 2 ∨ tk B t q = 3) : q < t := by
  by_cases c : q < t
  · exact c
  · unfold tk at h
    rw [if_neg c] at h
    omega
theorem J1 {M1 M2 : Mm} {w g p fu : Nat} {lo hi : Int32} (hw : w < 5) (hw3 : w ≠ 3) (hg : g < Iw w) (J : JN B t p g M1 M2) (hlm : ∀ V, F1 M1 V → pX7_least (nI w) V = some lo ∧ pX7_most (nI w) V = some hi) : ∃ v M2', pX9_numberIn lo hi M2 = some (v, M2') ∧ G1 M2 M2' ∧ ((∃ M1' fz, itr (pX7_readStatement_L56 (nI w)) (fu + 1) M1 = some (.inr (0, M1')) ∧ M1' 31 5 = nI fz ∧ M2' 0 5 = nI fz ∧ 1 ≤ fz ∧ fz < 10000 ∧ (∀ c, c ≠ 31 → M1' c = M1 c)) ∨ ∃ M1' p', itr (pX7_readStatement_L56 (nI w)) (fu + 1) M1 = itr (pX7_readStatement_L56 (nI w)) fu M1' ∧ M1' 38 g = v ∧ ¬ (v < lo ∨ hi < v) ∧ JN B t p' (g + 1) M1' M2' ∧ p < p' ∧ (∀ i, i ≠ g → M1' 38 i = M1 38 i) ∧ (∀ c, c ≠ 31 → c ≠ 38 → M1' c = M1 c) ∧ M1' 31 5 = M1 31 5) := by
  obtain ⟨j1, j2, j3, j4, j5, j6, j7⟩ := J
  have t3 := j1.1
  obtain ⟨V, f1, k1, k2⟩ := nst hw hw3 hg j1 j3 j4 j7 hlm
  obtain ⟨v, M2', e, g1, hc⟩ := nin_r lo hi j2 j3 j5 j6
  have qb := rnd_b (P := isBl) (B := B) j3
  generalize rnd isBl B t p = q at *
  refine ⟨v, M2', e, g1, ?_⟩
  rcases hc with ⟨c1, c2, rfl, c4, c5, c6⟩ | ⟨c1, c2, c3⟩ | ⟨c1, c2⟩
  · rw [if_pos c1, if_neg c2] at k2
    have qt := tk2_lt (Or.inl c1)
    have tg := te_gt (B := B) qt
    have tb := te_b (B := B) (show q ≤ t by omega)
    refine Or.inr ⟨_, te B t q, itr_s k2, ?_, c2, ⟨TXA_c (TXA_f j1 f1) (by rw [mset_cell (by omega), mset_cell (by omega)]) (by rw [mset_cell (by omega), mset_cell (by omega)]), TXD_f j2 g1, tb.2, ?_, c5, c4, mset_same _ _ _ _⟩, by omega, fun i hi => ?_, fun c a b => ?_, ?_⟩
    · rw [mset_cell (by omega), mset_same]
    · rw [mset_slot (by omega), mset_cell (by omega)]
      exact k1
    · rw [mset_cell (by omega), mset_slot hi, f1.1 38 (by omega)]
    · rw [mset_cell a, mset_cell b, f1.1 c a]
    · rw [mset_slot (by omega), mset_cell (by omega), f1.2 5 (by omega)]
  · rw [if_pos c1, if_pos c2] at k2
    exact Or.inl ⟨_, _, itr_e k2, mset_same _ _ _ _, c3, by omega, by omega, fun c hc => by rw [mset_cell hc, f1.1 c hc]⟩
  · rw [if_neg c1] at k2
    exact Or.inl ⟨_, _, itr_e k2, mset_same _ _ _ _, c2, by omega, by omega, fun c hc => by rw [mset_cell hc, f1.1 c hc]⟩
theorem tk3_iff {q : Nat} : tk B t q = 3 ↔ (q < t ∧ B q = 59) := by
  unfold tk kI
  constructor
  · intro h
    by_cases c : q < t
    · rw [if_pos c] at h
      by_cases c1 : B q = 59
      · exact ⟨c, c1⟩
      · rw [if_neg c1] at h
        exfalso
        revert h
        repeat' split
        all_goals omega
    · rw [if_neg c] at h
      omega
  · rintro ⟨a, b⟩
    rw [if_pos a, if_pos b]
/-- the semicolon, on both sides -/
theorem semi_r {M : Mm} {p : Nat} (h : TXD B t M) (hp : p ≤ t) (h7 : M 0 7 = nI p) (h5 : M 0 5 = 0) : ∃ M', semi M = some M' ∧ G1 M M' ∧ M' 0 7 = nI (rnd isBl B t p) ∧ ((tk B t (rnd isBl B t p) = 3 ∧ M' 0 5 = 0) ∨ (tk B t (rnd isBl B t p) ≠ 3 ∧ M' 0 5 = nI (1 + 8 * rnd isBl B t p))) := by
  have t3 := h.1
  have qb := rnd_b (P := isBl) (B := B) hp
  obtain ⟨M1, e1, f1, f2, f3⟩ := here_r h hp h7
  generalize rnd isBl B t p = q at *
  have g1 : G1 M M1 := ⟨f1, fun i a b c => f2 i b⟩
  unfold semi
  rw [if_pos h5, e1, Option.bind_some]
  dsimp only
  by_cases c : q < t ∧ B q = 59
  · rw [if_pos c.1, if_pos (show nI (B q) = 59 by rw [c.2]; rfl)]
    exact ⟨M1, rfl, g1, f3, Or.inl ⟨tk3_iff.mpr c, by rw [f2 5 (by omega)]; exact h5⟩⟩
  · have n59 : ¬ (if q < t then nI (B q) else -1) = (59 : Int32) := by
      by_cases cq : q < t
      · rw [if_pos cq, (cb_f _ (h.2.2 q cq).1).2.2.1]
        exact fun g => c ⟨cq, g⟩
      · rw [if_neg cq]
        decide
    rw [if_neg n59, bnd_eq, f3, show (1 : Int32) = nI 1 from rfl, fails_0 (by rw [f2 5 (by omega)]; exact h5)]
    exact ⟨_, rfl, G1_t g1 (G1_s (by omega)), by rw [mset_slot (by omega)]; exact f3, Or.inr ⟨fun g => c (tk3_iff.mp g), mset_same _ _ _ _⟩⟩
theorem semi_f {M : Mm} (h : ¬ M 0 5 = 0) : semi M = some M := by
  unfold semi
  rw [if_neg h]
theorem JL {M1 M2 : Mm} {w p fu : Nat} (hw : w < 5) (hw3 : w ≠ 3) (J : JN B t p (Iw w) M1 M2) : ∃ M2', semi M2 = some M2' ∧ G1 M2 M2' ∧ ((∃ M1' fz, itr (pX7_readStatement_L56 (nI w)) (fu + 1) M1 = some (.inr (0, M1')) ∧ M1' 31 5 = nI fz ∧ M2' 0 5 = nI fz ∧ 1 ≤ fz ∧ fz < 10000 ∧ (∀ c, c ≠ 31 → M1' c = M1 c)) ∨ ∃ V q, itr (pX7_readStatement_L56 (nI w)) (fu + 1) M1 = some (.inr (1, V)) ∧ F1 M1 V ∧ V 31 8 = nI (q + 1) ∧ M2' 0 7 = nI q ∧ M2' 0 5 = 0 ∧ p < q + 1 ∧ q + 1 ≤ t) := by
  obtain ⟨j1, j2, j3, j4, j5, j6, j7⟩ := J
  have t3 := j1.1
  obtain ⟨V, f1, k1, k2⟩ := nlast hw hw3 j1 j3 j4 j7
  obtain ⟨M2', e, g1, e7, hc⟩ := semi_r j2 j3 j5 j6
  have qb := rnd_b (P := isBl) (B := B) j3
  generalize rnd isBl B t p = q at *
  refine ⟨M2', e, g1, ?_⟩
  rcases hc with ⟨c1, c2⟩ | ⟨c1, c2⟩
  · rw [if_pos c1] at k2
    have c3 := tk3_iff.mp c1
    have te1 : te B t q = q + 1 := by
      unfold te
      rw [if_pos c3.1, if_pos c3.2]
    rw [te1] at k1
    exact Or.inr ⟨V, q, itr_e k2, f1, k1, e7, c2, by omega, by omega⟩
  · rw [if_neg c1] at k2
    exact Or.inl ⟨_, _, itr_e k2, mset_same _ _ _ _, c2, by omega, by omega, fun c hc => by rw [mset_cell hc, f1.1 c hc]⟩
theorem rs_in {M : Mm} {w : Nat} (hw : w < 5) (h1 : w = 1 → ¬ (8 : Int32) ≤ M 32 0) (h4 : w = 4 → M 35 1 < 8) : pX7_readStatement (nI w) M = (itr (pX7_readStatement_L56 (nI w)) fuel (mset M 31 4 0)).bind fun x54 => Sum.elim (fun yx54 => some (0, yx54)) (fun r => some r) x54 := by
  unfold pX7_readStatement
  rw [if_neg (ne_nI (by omega))]
  have a : ∀ i1 i2, (@ite (Option (Mm ⊕ (Int32 × Mm))) (nI w = 1) i1 (@ite _ ((8 : Int32) ≤ M 32 0) i2 (bnd (pX7_refuse 3 M) fun v107 => some (Sum.inr (v107.1 &&& 1, v107.2))) (some (Sum.inl M))) (some (Sum.inl M))) = some (.inl M) := by
    intro i1 i2
    by_cases c : nI w = 1
    · have : w = 1 := by
        have e : nI w = nI 1 := c
        rw [eq_nI (by omega) (by omega)] at e
        exact e
      rw [if_pos c, if_neg (h1 this)]
    · rw [if_neg c]
  have b : ∀ i1 i2, (@ite (Option (Mm ⊕ (Int32 × Mm))) (nI w = 4) i1 (@ite _ (M 35 1 < 8) i2 (some (Sum.inl M)) (bnd (pX7_refuse 3 M) fun v104 => some (Sum.inr (v104.1 &&& 1, v104.2)))) (some (Sum.inl M))) = some (.inl M) := by
    intro i1 i2
    by_cases c : nI w = 4
    · have : w = 4 := by
        have e : nI w = nI 4 := c
        rw [eq_nI (by omega) (by omega)] at e
        exact e
      rw [if_pos c, if_pos (h4 this)]
    · rw [if_neg c]
  rw [a, Option.bind_some, Sum.elim_inl, b, Option.bind_some, Sum.elim_inl, bnd_eq]
/-! what least and most are -/
theorem lm01 {V : Mm} {w g : Nat} (hw : w = 0 ∨ w = 1) (hg : g < 5) (h4 : V 31 4 = nI g) : pX7_least (nI w) V = some 0 ∧ pX7_most (nI w) V = some (nI (fMost g)) := by
  have n2 : ¬ nI w = 2 := by show ¬ nI w = nI 2; rw [eq_nI] <;> omega
  have n3 : ¬ nI w = 3 := by show ¬ nI w = nI 3; rw [eq_nI] <;> omega
  have n4 : ¬ nI w = 4 := by show ¬ nI w = nI 4; rw [eq_nI] <;> omega
  constructor
  · unfold pX7_least
    rw [if_neg n2, Option.bind_some, Sum.elim_inl, if_neg n3, if_neg n4]
  · unfold pX7_most
    rw [if_neg n2, if_neg n3, if_neg n4, h4]
    have hg' : g = 0 ∨ g = 1 ∨ g = 2 ∨ g = 3 ∨ g = 4 := by omega
    rcases hg' with rfl | rfl | rfl | rfl | rfl <;> rfl
theorem lm2a {V : Mm} (h4 : V 31 4 = nI 0) : pX7_least (nI 2) V = some 0 ∧ pX7_most (nI 2) V = some 9 := by
  constructor
  · unfold pX7_least
    rw [if_pos (show nI 2 = 2 from rfl), if_neg (show ¬ V 31 4 = 1 by rw [h4]; decide), Option.bind_some, Sum.elim_inl, if_neg (show ¬ nI 2 = 3 by decide), if_neg (show ¬ nI 2 = 4 by decide)]
  · unfold pX7_most
    rw [if_pos (show nI 2 = 2 from rfl), if_pos (show V 31 4 = 0 from h4)]
theorem lm2b {V : Mm} {i : Nat} (hi : i < 10) (h4 : V 31 4 = nI 1) (h38 : V 38 0 = nI i) : pX7_least (nI 2) V = some (sLo i) ∧ pX7_most (nI 2) V = some (sHi i) := by
  have a : ald V 38 8 0 = some (nI i) := by rw [show ald V 38 8 0 = some (V 38 0) from ald_nI (i := 0) (by omega) (by omega), h38]
  constructor
  · unfold pX7_least
    rw [if_pos (show nI 2 = 2 from rfl), if_pos (show V 31 4 = 1 from h4), a, Option.bind_some, sld_nI (by show i < 10; omega) (by decide), Option.bind_some, Option.bind_some, Sum.elim_inr]
    rfl
  · unfold pX7_most
    rw [if_pos (show nI 2 = 2 from rfl), if_neg (show ¬ V 31 4 = 0 by rw [h4]; decide), a, Option.bind_some, sld_nI (by show i < 10; omega) (by decide), Option.bind_some]
    rfl
theorem lm4 {V : Mm} {g n : Nat} (hg : g < 4) (h4 : V 31 4 = nI g) (hn : V 32 0 = nI n) : pX7_least (nI 4) V = some (if g = 2 then 1 else 0) ∧ pX7_most (nI 4) V = some (if g = 0 then 1 else if g = 2 then nI n else 9) := by
  constructor
  · unfold pX7_least
    rw [if_neg (show ¬ nI 4 = 2 by decide), Option.bind_some, Sum.elim_inl, if_neg (show ¬ nI 4 = 3 by decide), if_pos (show nI 4 = 4 from rfl)]
    by_cases c : g = 2
    · rw [if_pos (show V 31 4 = 2 by rw [h4, c]; rfl), if_pos c]
    · rw [if_neg (show ¬ V 31 4 = 2 by rw [h4]; show ¬ nI g = nI 2; rw [eq_nI] <;> omega), if_neg c]
  · unfold pX7_most
    rw [if_neg (show ¬ nI 4 = 2 by decide), if_neg (show ¬ nI 4 = 3 by decide), if_pos (show nI 4 = 4 from rfl)]
    by_cases c0 : g = 0
    · rw [if_pos (show V 31 4 = 0 by rw [h4, c0]; rfl), if_pos c0]
    · rw [if_neg (show ¬ V 31 4 = 0 by rw [h4]; show ¬ nI g = nI 0; rw [eq_nI] <;> omega), if_neg c0]
      by_cases c : g = 2
      · rw [if_pos (show V 31 4 = 2 by rw [h4, c]; rfl), if_pos c, hn]
      · rw [if_neg (show ¬ V 31 4 = 2 by rw [h4]; show ¬ nI g = nI 2; rw [eq_nI] <;> omega), if_neg c]
/-- a value within bounds is a number -/
theorem val_n {v : Int32} {lo hi : Nat} (h : ¬ (v < nI lo ∨ nI hi < v)) (hh : hi < 1000) (hl : lo < 1000) : ∃ u, lo ≤ u ∧ u ≤ hi ∧ v = nI u := by
  have a : ¬ v < nI lo := fun g => h (Or.inl g)
  have b : ¬ nI hi < v := fun g => h (Or.inr g)
  rw [fa_lt, nI_toInt (by omega)] at a b
  obtain ⟨u, h1, h2, e⟩ := nI_rng (x := v) (a := lo) (b := hi) (by omega) (by omega) (by omega)
  exact ⟨u, by omega, by omega, e⟩
end STM
