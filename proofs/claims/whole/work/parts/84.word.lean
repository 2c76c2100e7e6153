/-! PURE: words, and one number -/
def cN (w : Nat) : List Nat := [[100, 101, 112, 111, 116], [116, 111], [115, 101, 116], [114, 111, 119], [102, 108, 121]].getD w []
def cdN (w : Nat) : Nat := [4375028, 655, 19636, 18935, 6553].getD w 0
theorem cN_i : ∀ w, w < 5 → ∀ k, k < skL.getD w 0 → (skB.getD w []).getD k 0 = nI ((cN w).getD k 0) := by decide +kernel
section WORD
variable {B : Nat → Nat} {t : Nat}
theorem wd_code {q L w : Nat} (h1 : 1 ≤ L) (hl : ∀ i, i < L → 97 ≤ B (q + i) ∧ B (q + i) ≤ 122) (hw : w < 5) : (L = skL.getD w 0 ∧ ∀ k, k < skL.getD w 0 → B (q + k) = (cN w).getD k 0) ↔ (L ≤ 6 ∧ wcode B q L = cdN w) := by
  have hw' : w = 0 ∨ w = 1 ∨ w = 2 ∨ w = 3 ∨ w = 4 := by omega
  have L7 : L = 1 ∨ L = 2 ∨ L = 3 ∨ L = 4 ∨ L = 5 ∨ L = 6 ∨ 7 ≤ L := by omega
  have fwd : (L = skL.getD w 0 ∧ ∀ k, k < skL.getD w 0 → B (q + k) = (cN w).getD k 0) → (L ≤ 6 ∧ wcode B q L = cdN w) := by
    rintro ⟨rfl, h⟩
    rcases hw' with rfl | rfl | rfl | rfl | rfl
    · have a0 : B (q + 0) = 100 := h 0 (by decide)
      have a1 : B (q + 1) = 101 := h 1 (by decide)
      have a2 : B (q + 2) = 112 := h 2 (by decide)
      have a3 : B (q + 3) = 111 := h 3 (by decide)
      have a4 : B (q + 4) = 116 := h 4 (by decide)
      refine ⟨by decide, ?_⟩
      show wcode B q 5 = 4375028
      simp only [wcode]
      omega
    · have a0 : B (q + 0) = 116 := h 0 (by decide)
      have a1 : B (q + 1) = 111 := h 1 (by decide)
      refine ⟨by decide, ?_⟩
      show wcode B q 2 = 655
      simp only [wcode]
      omega
    · have a0 : B (q + 0) = 115 := h 0 (by decide)
      have a1 : B (q + 1) = 101 := h 1 (by decide)
      have a2 : B (q + 2) = 116 := h 2 (by decide)
      refine ⟨by decide, ?_⟩
      show wcode B q 3 = 19636
      simp only [wcode]
      omega
    · have a0 : B (q + 0) = 114 := h 0 (by decide)
      have a1 : B (q + 1) = 111 := h 1 (by decide)
      have a2 : B (q + 2) = 119 := h 2 (by decide)
      refine ⟨by decide, ?_⟩
      show wcode B q 3 = 18935
      simp only [wcode]
      omega
    · have a0 : B (q + 0) = 102 := h 0 (by decide)
      have a1 : B (q + 1) = 108 := h 1 (by decide)
      have a2 : B (q + 2) = 121 := h 2 (by decide)
      refine ⟨by decide, ?_⟩
      show wcode B q 3 = 6553
      simp only [wcode]
      omega
  refine ⟨fwd, ?_⟩
  rintro ⟨h6, hc⟩
  have kk : ∀ (m : Nat) (l : Nat → Nat), (∀ k, k < m → B (q + k) = l k) → ∀ k, k < m → B (q + k) = l k := fun _ _ h => h
  have all5 : ∀ l : Nat → Nat, B (q + 0) = l 0 → B (q + 1) = l 1 → B (q + 2) = l 2 → B (q + 3) = l 3 → B (q + 4) = l 4 → ∀ k, k < 5 → B (q + k) = l k := by
    intro l h0 h1 h2 h3 h4 k hk
    have : k = 0 ∨ k = 1 ∨ k = 2 ∨ k = 3 ∨ k = 4 := by omega
    rcases this with rfl | rfl | rfl | rfl | rfl
    · exact h0
    · exact h1
    · exact h2
    · exact h3
    · exact h4
  have all3 : ∀ l : Nat → Nat, B (q + 0) = l 0 → B (q + 1) = l 1 → B (q + 2) = l 2 → ∀ k, k < 3 → B (q + k) = l k := by
    intro l h0 h1 h2 k hk
    have : k = 0 ∨ k = 1 ∨ k = 2 := by omega
    rcases this with rfl | rfl | rfl
    · exact h0
    · exact h1
    · exact h2
  have all2 : ∀ l : Nat → Nat, B (q + 0) = l 0 → B (q + 1) = l 1 → ∀ k, k < 2 → B (q + k) = l k := by
    intro l h0 h1 k hk
    have : k = 0 ∨ k = 1 := by omega
    rcases this with rfl | rfl
    · exact h0
    · exact h1
  rcases L7 with rfl | rfl | rfl | rfl | rfl | rfl | h7
  · have b0 := hl 0 (by omega)
    simp only [wcode] at hc
    rcases hw' with rfl | rfl | rfl | rfl | rfl <;> simp only [cdN, List.getD_cons_zero, List.getD_cons_succ] at hc <;> omega
  · have b0 := hl 0 (by omega)
    have b1 := hl 1 (by omega)
    simp only [wcode] at hc
    rcases hw' with rfl | rfl | rfl | rfl | rfl <;> simp only [cdN, List.getD_cons_zero, List.getD_cons_succ] at hc <;> first
      | omega
      | exact ⟨rfl, all2 _ (show B (q + 0) = 116 by omega) (show B (q + 1) = 111 by omega)⟩
  · have b0 := hl 0 (by omega)
    have b1 := hl 1 (by omega)
    have b2 := hl 2 (by omega)
    simp only [wcode] at hc
    rcases hw' with rfl | rfl | rfl | rfl | rfl <;> simp only [cdN, List.getD_cons_zero, List.getD_cons_succ] at hc <;> first
      | omega
      | exact ⟨rfl, all3 _ (show B (q + 0) = 115 by omega) (show B (q + 1) = 101 by omega) (show B (q + 2) = 116 by omega)⟩
      | exact ⟨rfl, all3 _ (show B (q + 0) = 114 by omega) (show B (q + 1) = 111 by omega) (show B (q + 2) = 119 by omega)⟩
      | exact ⟨rfl, all3 _ (show B (q + 0) = 102 by omega) (show B (q + 1) = 108 by omega) (show B (q + 2) = 121 by omega)⟩
  · have b0 := hl 0 (by omega)
    have b1 := hl 1 (by omega)
    have b2 := hl 2 (by omega)
    have b3 := hl 3 (by omega)
    simp only [wcode] at hc
    rcases hw' with rfl | rfl | rfl | rfl | rfl <;> simp only [cdN, List.getD_cons_zero, List.getD_cons_succ] at hc <;> omega
  · have b0 := hl 0 (by omega)
    have b1 := hl 1 (by omega)
    have b2 := hl 2 (by omega)
    have b3 := hl 3 (by omega)
    have b4 := hl 4 (by omega)
    simp only [wcode] at hc
    rcases hw' with rfl | rfl | rfl | rfl | rfl <;> simp only [cdN, List.getD_cons_zero, List.getD_cons_succ] at hc <;> first
      | omega
      | exact ⟨rfl, all5 _ (show B (q + 0) = 100 by omega) (show B (q + 1) = 101 by omega) (show B (q + 2) = 112 by omega) (show B (q + 3) = 111 by omega) (show B (q + 4) = 116 by omega)⟩
  · have b0 := hl 0 (by omega)
    have b1 := hl 1 (by omega)
    have b2 := hl 2 (by omega)
    have b3 := hl 3 (by omega)
    have b4 := hl 4 (by omega)
    have b5 := hl 5 (by omega)
    simp only [wcode] at hc
    rcases hw' with rfl | rfl | rfl | rfl | rfl <;> simp only [cdN, List.getD_cons_zero, List.getD_cons_succ] at hc <;> omega
  · omega
theorem rn_all {P : Nat → Bool} : ∀ (c p i : Nat), p ≤ i → i < rn P B t c p → P (B i) = true
  | 0, p, i, h1, h2 => absurd h2 (by show ¬ i < p; omega)
  | c + 1, p, i, h1, h2 => by
    rw [rn] at h2
    split at h2
    · rename_i g
      by_cases c1 : i = p
      · rw [c1]
        exact g.2
      · exact rn_all c (p + 1) i (by omega) h2
    · omega
theorem wc_lt (h : ∀ i, i < 6 → B i ≤ 0 → True) : True := trivial
/-- a word is one, on both sides -/
theorem iw {M : Mm} {q w : Nat} (h : TXA B t M) (h7 : M 31 7 = nI q) (h6 : M 31 6 = nI (tk B t q)) (h8 : M 31 8 = nI (te B t q)) (hq : q ≤ t) (hw : w < 5) (v : Int32) (hv : (tk B t q ≠ 1 ∧ v = 0) ∨ (tk B t q = 1 ∧ v = if te B t q - q ≤ 6 then nI (wcode B q (te B t q - q)) else 0)) : ∃ b : Bool, pX7_isWord w M = some (if b = true then 1 else 0) ∧ (b = true ↔ v = nI (cdN w)) := by
  have t3 := h.1
  have sk : skL.getD w 0 ≤ 5 ∧ 2 ≤ skL.getD w 0 := by
    have hw' : w = 0 ∨ w = 1 ∨ w = 2 ∨ w = 3 ∨ w = 4 := by omega
    rcases hw' with rfl | rfl | rfl | rfl | rfl <;> exact ⟨by decide, by decide⟩
  have cd : 0 < cdN w ∧ cdN w < 2147483648 := by
    have hw' : w = 0 ∨ w = 1 ∨ w = 2 ∨ w = 3 ∨ w = 4 := by omega
    rcases hw' with rfl | rfl | rfl | rfl | rfl <;> exact ⟨by decide, by decide⟩
  have tk4 : tk B t q ≤ 4 := by
    unfold tk kI
    repeat' split
    all_goals omega
  unfold pX7_isWord
  rcases hv with ⟨hk, rfl⟩ | ⟨hk, hv⟩
  · refine ⟨false, ?_, ?_⟩
    · rw [h6, if_neg (show ¬ nI (tk B t q) = 1 by show ¬ nI (tk B t q) = nI 1; rw [eq_nI] <;> omega)]
      rfl
    · constructor
      · intro g
        cases g
      · intro g
        have : nI 0 = nI (cdN w) := g
        rw [eq_nI (by omega) cd.2] at this
        omega
  · -- the letters
    have hq2 : q < t ∧ isLe (B q) = true ∧ te B t q = rnd isLe B t (q + 1) := by
      unfold tk kI at hk
      unfold te
      by_cases c : q < t
      · rw [if_pos c] at hk ⊢
        by_cases c1 : B q = 59
        · rw [if_pos c1] at hk
          omega
        · rw [if_neg c1] at hk ⊢
          by_cases c2 : isLe (B q) = true
          · rw [if_pos c2]
            exact ⟨c, c2, rfl⟩
          · rw [if_neg c2] at hk
            exfalso
            revert hk
            repeat' split
            all_goals omega
      · rw [if_neg c] at hk
        omega
    have eb := rnd_b (P := isLe) (B := B) (t := t) (p := q + 1) (by omega)
    have eq1 : rnd isLe B t q = rnd isLe B t (q + 1) := rnd_y hq2.1 hq2.2.1
    have let1 : ∀ i, i < te B t q - q → 97 ≤ B (q + i) ∧ B (q + i) ≤ 122 := by
      intro i hi
      have : isLe (B (q + i)) = true := rn_all (t - q) q (q + i) (by omega) (by
        have e2 : rn isLe B t (t - q) q = rnd isLe B t q := rfl
        rw [e2]
        omega)
      unfold isLe at this
      simp at this
      omega
    obtain ⟨L, hL⟩ : ∃ L, L = te B t q - q := ⟨_, rfl⟩
    rw [← hL] at hv let1
    have Lb : 1 ≤ L ∧ q + L ≤ t ∧ te B t q = q + L := by omega
    have cdw := wd_code (q := q) (w := w) Lb.1 let1 hw
    refine ⟨decide (L = skL.getD w 0 ∧ ∀ k, k < skL.getD w 0 → B (q + k) = (cN w).getD k 0), ?_, ?_⟩
    · rw [h6, hk, if_pos (show nI 1 = 1 from rfl), h8, h7, Lb.2.2, sub_nI (by omega), show q + L - q = L by omega]
      by_cases cl : L = skL.getD w 0
      · rw [if_pos (show nI L = nI (skL.getD w 0) by rw [cl])]
        have z : itr (pX7_isWord_L28 w M) fuel (nI 0) = some (ffo (fun _ => (0 : Int32)) (ff (fun k => decide (B (q + k) ≠ (cN w).getD k 0)) (skL.getD w 0) 0)) := by
          have stp' : ∀ k, k < skL.getD w 0 → pX7_isWord_L28 w M (nI k) = if nI (B (q + k)) = nI ((cN w).getD k 0) then some (.inl (nI k + 1)) else some (.inr (.inr 0)) := by
            intro k hk'
            unfold pX7_isWord_L28
            rw [if_neg (show ¬ nI (skL.getD w 0) ≤ nI k by rw [le_nI] <;> omega), h7, nI_add, by_c h (by omega), if_pos (by omega), Option.bind_some]
            unfold sca
            rw [if_pos (inb_nI hk' (by omega)), nI_clamp (by omega), Option.bind_some, cN_i w hw k hk']
          have cb : ∀ k, k < skL.getD w 0 → (cN w).getD k 0 < 2147483648 := by
            intro k hk'
            have hw' : w = 0 ∨ w = 1 ∨ w = 2 ∨ w = 3 ∨ w = 4 := by omega
            have hk5 : k = 0 ∨ k = 1 ∨ k = 2 ∨ k = 3 ∨ k = 4 := by omega
            rcases hw' with rfl | rfl | rfl | rfl | rfl <;> rcases hk5 with rfl | rfl | rfl | rfl | rfl <;> decide
          refine itr_ff _ _ (skL.getD w 0) (fun k hk' hb => ?_) (fun k hk' hb => ?_) ?_ _ 0 fuel (by omega) (by unfold fuel; omega)
          · have := let1 k (by omega)
            rw [stp' k hk', if_pos (by rw [eq_nI (by omega) (cb k hk')]; simpa using hb), nI_1]
          · have := let1 k (by omega)
            rw [stp' k hk', if_neg (by rw [eq_nI (by omega) (cb k hk')]; simpa using hb)]
          · unfold pX7_isWord_L28
            rw [if_pos (show nI (skL.getD w 0) ≤ nI (skL.getD w 0) by rw [le_nI] <;> omega)]
        rw [show itr (pX7_isWord_L28 w M) fuel 0 = _ from z, Option.bind_some]
        cases hf : ff (fun k => decide (B (q + k) ≠ (cN w).getD k 0)) (skL.getD w 0) 0 with
        | none =>
          rw [if_pos]
          · rfl
          · refine decide_eq_true ⟨cl, fun k hk' => ?_⟩
            have := ff_none hf k (by omega) (by omega)
            simpa using this
        | some j =>
          rw [if_neg]
          · rfl
          · intro g
            have g2 := of_decide_eq_true g
            have g3 := ff_some hf
            have := g2.2 j (by omega)
            simp [this] at g3
      · rw [if_neg (show ¬ nI L = nI (skL.getD w 0) by rw [eq_nI] <;> omega), if_neg (by intro g; exact cl (of_decide_eq_true g).1)]
    · have wl : L ≤ 6 → wcode B q L < 2147483648 := by
        intro h6'
        have bd : ∀ i, i ≤ L → wcode B q i < 32 ^ i := by
          intro i
          induction i with
          | zero => intro _; show 0 < 1; omega
          | succ i ih =>
            intro hi
            have := ih (by omega)
            have := let1 i (by omega)
            rw [wcode, Nat.pow_succ]
            omega
        have a := bd L (Nat.le_refl _)
        have b : 32 ^ L ≤ 32 ^ 6 := Nat.pow_le_pow_right (by omega) h6'
        omega
      rw [decide_eq_true_iff, cdw, hv]
      by_cases c6 : L ≤ 6
      · rw [if_pos c6, eq_nI (wl c6) cd.2]
        exact ⟨fun g => g.2, fun g => ⟨c6, g⟩⟩
      · rw [if_neg c6]
        constructor
        · intro g
          exact absurd g.1 c6
        · intro g
          have : nI 0 = nI (cdN w) := g
          rw [eq_nI (by omega) cd.2] at this
          omega
end WORD
