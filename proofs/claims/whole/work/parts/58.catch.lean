/-! PURE: who is caught next, and all that are caught at a stop -/
theorem ne_m1 {q : Nat} (h : q < 2147483648) : ¬ nI q = -1 := by
  intro e
  have := nI_toInt h
  rw [e] at this
  have : (-1 : Int32).toInt = -1 := rfl
  omega
theorem nar_b1 : vp_nar .boolean 1 = 1 := rfl
theorem nar_b0 : vp_nar .boolean 0 = 0 := rfl
theorem mmax_nI {a b : Nat} (ha : a < 2147483648) (hb : b < 2147483648) : mmax (nI a) (nI b) = nI (max a b) := by
  unfold mmax
  by_cases c : a < b
  · rw [if_pos (by rw [lt_nI ha hb]; exact c), Nat.max_eq_right (by omega)]
  · rw [if_neg (by rw [lt_nI ha hb]; exact c), Nat.max_eq_left (by omega)]
section CATCH
variable {F S R P : Nat → Int32} {n r s : Nat}
/-- the caught ones -/
def KR (s : Nat) (M1 M2 : Mm) : Prop := ∀ k, k < s → (M2 11 k = 0 ∧ M1 16 k = -1) ∨ (M2 11 k = 1 ∧ ∃ c : Nat, c ≤ 30000 ∧ M1 16 k = nI c ∧ M2 10 k = nI c)
def BR (s T : Nat) (L : Nat → Bool) (M1 M2 : Mm) : Prop := ∀ k, k < s → L k = true → M1 14 k = M2 8 k ∧ ∃ b, b ≤ T ∧ M1 15 k = nI b ∧ M2 9 k = nI b
theorem next_c {M1 M2 : Mm} {T i : Nat} {L : Nat → Bool} (C : Ctx F S R P n r s M1 M2) (hK : KR s M1 M2) (hB : BR s T L M1 M2) (hT : T < 100000) (hL : ∀ k, k < s → pt P k 3 = i → L k = true) (hi : i < 100) : ∃ v, pX0_nextToCatch (nI i) M1 = some v ∧ pX9_nextCaught (nI i) M2 = some v ∧ ((v = -1 ∧ ∀ k, k < s → pt P k 3 = i → M2 11 k = 1) ∨ ∃ q, q < s ∧ v = nI q ∧ pt P q 3 = i ∧ M2 11 q = 0) := by
  obtain ⟨q1, q2, q3, q4, q5, q6, q7, q8, q9⟩ := cx_n C
  let I : Int32 × Int32 → Int32 × Int32 → Prop := fun a b => a = b ∧ ∃ k, k ≤ s ∧ a.2 = nI k ∧ ((a.1 = -1 ∧ ∀ j, j < k → pt P j 3 = i → M2 11 j = 1) ∨ ∃ q, q < k ∧ a.1 = nI q ∧ pt P q 3 = i ∧ M2 11 q = 0)
  obtain ⟨x, y, hx, hy, rfl, hq⟩ := itr_2 (f := pX0_nextToCatch_L4 (nI i) M1) (g := pX9_nextCaught_L4 (nI i) M2) I (fun a => s - cl a.2) (fun x y => x = y ∧ ((x = -1 ∧ ∀ k, k < s → pt P k 3 = i → M2 11 k = 1) ∨ ∃ q, q < s ∧ x = nI q ∧ pt P q 3 = i ∧ M2 11 q = 0)) (fun a b hI => by
    obtain ⟨rfl, k, k1, k2, k3⟩ := hI
    obtain ⟨v, w⟩ := a
    dsimp only at k2 k3
    subst k2
    unfold pX0_nextToCatch_L4 pX9_nextCaught_L4
    dsimp only
    rw [q5, rx_sorties C, Option.bind_some]
    by_cases c : k = s
    · subst c
      rw [if_pos (Int32.le_refl _), if_pos (Int32.le_refl _)]
      exact Or.inr ⟨_, _, rfl, rfl, rfl, k3⟩
    · have hk : k < s := by omega
      have bk := pt_b C hk
      have g : ∀ v : Int32, s - cl (v, nI k + 1).2 < s - cl (v, nI k).2 := by
        intro v
        show s - cl (nI k + 1) < s - cl (nI k)
        rw [nI_1, cl_nI (by omega), cl_nI (by omega)]
        omega
      have hs : ¬ nI s ≤ nI k := by rw [le_nI] <;> omega
      rw [if_neg hs, if_neg hs, show pX4_part 4 (nI k) 3 M1 = _ from cx_part C (w := 3) hk (by omega), show pX9_sortieOf (nI k) 3 M2 = _ from rx_part C (w := 3) hk (by omega)]
      simp only [Option.bind_some, bnd_eq]
      by_cases ci : pt P k 3 = i
      · have hc : nI (pt P k 3) = nI i := by rw [ci]
        rw [if_pos hc, if_pos hc, ald_nI (by omega) (by omega), ald_nI (by omega) (by omega)]
        simp only [Option.bind_some]
        rcases hK k hk with ⟨u1, u2⟩ | ⟨u1, uc, u2, u3, u4⟩
        · rw [u1, u2, if_pos rfl, if_pos rfl]
          rcases k3 with ⟨rfl, k4⟩ | ⟨q, hq, rfl, k4, k5⟩
          · rw [if_pos rfl, if_pos rfl]
            exact Or.inl ⟨_, _, rfl, rfl, ⟨rfl, k + 1, by omega, nI_1 k, Or.inr ⟨k, by omega, rfl, ci, u1⟩⟩, g _⟩
          · obtain ⟨_, bq, vq1, vq2, vq3⟩ := hB q (by omega) (hL q (by omega) k4)
            obtain ⟨_, bk', vk1, vk2, vk3⟩ := hB k hk (hL k hk ci)
            have bbq := pt_b C (k := q) (by omega)
            have y1 := cx_part C (k := k) (w := 0) hk (by omega)
            have y2 := cx_part C (k := q) (w := 0) (by omega) (by omega)
            have y3 := rx_part C (k := k) (w := 0) hk (by omega)
            have y4 := rx_part C (k := q) (w := 0) (by omega) (by omega)
            rw [if_neg (ne_m1 (by omega)), if_neg (ne_m1 (by omega))]
            unfold pX0_isAhead
            simp (disch := omega) only [bnd_eq, Option.bind_some, lit_nI, nI_add, pk_mul, ald_nI, ast_nI, lt_nI, le_nI, eq_nI, sub_nI, Sum.elim_inl, Sum.elim_inr, if_pos, if_neg, if_true, if_false, vq2, vq3, vk2, vk3, y1, y2, y3, y4]
            have keep : I (nI q, nI (k + 1)) (nI q, nI (k + 1)) := ⟨rfl, k + 1, by omega, rfl, Or.inr ⟨q, by omega, rfl, k4, k5⟩⟩
            have take : I (nI k, nI (k + 1)) (nI k, nI (k + 1)) := ⟨rfl, k + 1, by omega, rfl, Or.inr ⟨k, by omega, rfl, ci, u1⟩⟩
            have gq := g (nI q)
            have gk := g (nI k)
            rw [nI_1] at gq gk
            by_cases d1 : bk' = bq
            · subst d1
              by_cases d2 : pt P q 0 ≤ pt P k 0
              · simp (disch := omega) only [bnd_eq, Option.bind_some, lit_nI, nI_add, pk_mul, ald_nI, ast_nI, lt_nI, le_nI, eq_nI, sub_nI, Sum.elim_inl, Sum.elim_inr, if_pos, if_neg, if_true, if_false]
                exact Or.inl ⟨_, _, rfl, rfl, keep, gq⟩
              · simp (disch := omega) only [bnd_eq, Option.bind_some, lit_nI, nI_add, pk_mul, ald_nI, ast_nI, lt_nI, le_nI, eq_nI, sub_nI, Sum.elim_inl, Sum.elim_inr, if_pos, if_neg, if_true, if_false, one_ne]
                exact Or.inl ⟨_, _, rfl, rfl, take, gk⟩
            · by_cases d2 : bk' < bq
              · simp (disch := omega) only [bnd_eq, Option.bind_some, lit_nI, nI_add, pk_mul, ald_nI, ast_nI, lt_nI, le_nI, eq_nI, sub_nI, Sum.elim_inl, Sum.elim_inr, if_pos, if_neg, if_true, if_false, one_ne]
                exact Or.inl ⟨_, _, rfl, rfl, take, gk⟩
              · simp (disch := omega) only [bnd_eq, Option.bind_some, lit_nI, nI_add, pk_mul, ald_nI, ast_nI, lt_nI, le_nI, eq_nI, sub_nI, Sum.elim_inl, Sum.elim_inr, if_pos, if_neg, if_true, if_false]
                exact Or.inl ⟨_, _, rfl, rfl, keep, gq⟩
        · rw [u1, u3, if_neg (ne_m1 (by omega)), if_neg one_ne]
          refine Or.inl ⟨_, _, rfl, rfl, ⟨rfl, k + 1, by omega, nI_1 k, ?_⟩, g _⟩
          rcases k3 with ⟨rfl, k4⟩ | ⟨q, hq, rfl, k4, k5⟩
          · refine Or.inl ⟨rfl, fun j hj hj3 => ?_⟩
            by_cases e : j = k
            · subst e; exact u1
            · exact k4 j (by omega) hj3
          · exact Or.inr ⟨q, by omega, rfl, k4, k5⟩
      · have hc : ¬ nI (pt P k 3) = nI i := by rw [eq_nI (by omega) (by omega)]; exact ci
        rw [if_neg hc, if_neg hc]
        refine Or.inl ⟨_, _, rfl, rfl, ⟨rfl, k + 1, by omega, nI_1 k, ?_⟩, g _⟩
        rcases k3 with ⟨rfl, k4⟩ | ⟨q, hq, rfl, k4, k5⟩
        · refine Or.inl ⟨rfl, fun j hj hj3 => ?_⟩
          by_cases e : j = k
          · subst e; exact absurd hj3 ci
          · exact k4 j (by omega) hj3
        · exact Or.inr ⟨q, by omega, rfl, k4, k5⟩) fuel (-1, nI 0) (-1, nI 0) ⟨rfl, 0, by omega, rfl, Or.inl ⟨rfl, fun j hj => absurd hj (by omega)⟩⟩ (by show s - cl (nI 0) < 6000; omega)
  refine ⟨x, ?_, ?_, hq⟩
  · unfold pX0_nextToCatch
    rw [show itr (pX0_nextToCatch_L4 (nI i) M1) fuel (-1, 0) = _ from hx]
    rfl
  · unfold pX9_nextCaught
    rw [show itr (pX9_nextCaught_L4 (nI i) M2) fuel (-1, 0) = _ from hy]
    rfl
end CATCH
