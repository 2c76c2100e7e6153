/-! PURE: sums -/
def acI (g : Nat → Int32) : Nat → Int32
  | 0 => 0
  | k + 1 => acI g k + g k
theorem acI_c {g g' : Nat → Int32} : ∀ k, (∀ j, j < k → g j = g' j) → acI g k = acI g' k
  | 0, _ => rfl
  | k + 1, h => by rw [acI, acI, acI_c k (fun j hj => h j (by omega)), h k (by omega)]
theorem itr_ac {step : Int32 × Int32 → Option ((Int32 × Int32) ⊕ Int32)} (g : Nat → Int32) (e : Nat) (h : ∀ k (a : Int32), k < e → step (a, nI k) = some (.inl (a + g k, nI (k + 1)))) (h2 : ∀ a : Int32, step (a, nI e) = some (.inr a)) : ∀ c k f, k + c = e → c < f → itr step f (acI g k, nI k) = some (acI g e)
  | 0, k, f, hk, hf => by
    obtain ⟨f, rfl⟩ : ∃ g, f = g + 1 := ⟨f - 1, by omega⟩
    rw [show k = e by omega, itr_e (h2 _)]
  | c + 1, k, f, hk, hf => by
    obtain ⟨f, rfl⟩ : ∃ g, f = g + 1 := ⟨f - 1, by omega⟩
    rw [itr_s (h k _ (by omega))]
    exact itr_ac g e h h2 c (k + 1) f (by omega) (by omega)
theorem itr_id {step : Int32 × Int32 → Option ((Int32 × Int32) ⊕ Int32)} (e : Nat) (h : ∀ k (a : Int32), k < e → step (a, nI k) = some (.inl (a, nI (k + 1)))) (h2 : ∀ a : Int32, step (a, nI e) = some (.inr a)) (a : Int32) : ∀ c k f, k + c = e → c < f → itr step f (a, nI k) = some a
  | 0, k, f, hk, hf => by
    obtain ⟨f, rfl⟩ : ∃ g, f = g + 1 := ⟨f - 1, by omega⟩
    rw [show k = e by omega, itr_e (h2 _)]
  | c + 1, k, f, hk, hf => by
    obtain ⟨f, rfl⟩ : ∃ g, f = g + 1 := ⟨f - 1, by omega⟩
    rw [itr_s (h k _ (by omega))]
    exact itr_id e h h2 a c (k + 1) f (by omega) (by omega)
theorem itr_ac' {step : Int32 × Int32 → Option ((Int32 × Int32) ⊕ Int32)} (g : Nat → Int32) (e : Nat) (h : ∀ k (a : Int32), 1 ≤ k → k < e → step (a, nI k) = some (.inl (a + g k, nI (k + 1)))) (h2 : ∀ a : Int32, step (a, nI e) = some (.inr a)) : ∀ c k f, 1 ≤ k → k + c = e → c < f → itr step f (acI g k, nI k) = some (acI g e)
  | 0, k, f, h1, hk, hf => by
    obtain ⟨f, rfl⟩ : ∃ g, f = g + 1 := ⟨f - 1, by omega⟩
    rw [show k = e by omega, itr_e (h2 _)]
  | c + 1, k, f, h1, hk, hf => by
    obtain ⟨f, rfl⟩ : ∃ g, f = g + 1 := ⟨f - 1, by omega⟩
    rw [itr_s (h k _ h1 (by omega))]
    exact itr_ac' g e h h2 c (k + 1) f (by omega) (by omega) (by omega)
section SUM
variable {F S R P : Nat → Int32} {n r s : Nat} {M1 M2 : Mm}
theorem sm_end (C : Ctx F S R P n r s M1 M2) (x a : Int32) : pX9_sum_L96 x M2 (a, nI s) = some (.inr a) := by
  have q := cx_n C
  unfold pX9_sum_L96
  rw [rx_sorties C, Option.bind_some, if_pos (by show nI s ≤ nI s; rw [le_nI] <;> omega)]
theorem sm_id (C : Ctx F S R P n r s M1 M2) {x : Int32} (h2 : ¬ x = 2) (h3 : ¬ x = 3) (a : Int32) : itr (pX9_sum_L96 x M2) fuel (a, 0) = some a := by
  have q := cx_n C
  refine itr_id (step := pX9_sum_L96 x M2) s (fun k a hk => ?_) (fun a => sm_end C x a) a s 0 fuel (by omega) (by unfold fuel; omega)
  unfold pX9_sum_L96
  rw [rx_sorties C, Option.bind_some, if_neg (by show ¬ nI s ≤ nI k; rw [le_nI] <;> omega), if_neg h2, Option.bind_some, if_neg h3]
  simp (disch := omega) only [bnd_eq, Option.bind_some, lit_nI, nI_add, pk_mul, ald_nI, ast_nI, lt_nI, le_nI, eq_nI, sub_nI, Sum.elim_inl, Sum.elim_inr, if_pos, if_neg, if_true, if_false]
theorem pr_sum : PR_sum Rel := by
  intro M1 M2 x hR
  replace hR := Rel_t hR 0
  unfold pX8_sum pX9_sum
  simp only [bnd_eq]
  generalize mset M2 0 0 0 = N at hR ⊢
  obtain ⟨n, r, s, w, M1', M2', h1, h1', h2, h3, h4, h5, h6, h7, h8, h9, h10⟩ := look_c hR
  have q := cx_n h4
  rcases rng_c x (k := 4) (by omega) with ⟨b, b1⟩ | ⟨j, hj, rfl, b1⟩
  · rw [show pX9_isIn x 0 3 = 0 from b1, if_pos rfl]
    have e : pX0_total x M1' = some (-1) := by
      unfold pX0_total
      rcases b with b | b
      · rw [if_pos b]
      · rw [if_neg (show ¬ x ≤ 3 by rw [fa_le]; rw [fa_le] at b; have : (nI 4).toInt = 4 := rfl; have : (3 : Int32).toInt = 3 := rfl; omega), ite_self]
    rcases h10 with ⟨rfl, a1, a2, -⟩ | ⟨a0, a1, a2, rfl, a3⟩
    · rw [a1]
      simp only [Option.bind_some, if_neg one_ne]
      rw [e]
      exact ⟨_, _, _, rfl, rfl, h1'⟩
    · rw [a1]
      exact ⟨_, _, _, rfl, rfl, h1'⟩
  · rw [show pX9_isIn (nI j) 0 3 = 1 from b1, if_neg one_ne]
    rcases h10 with ⟨rfl, a1, a2, -, -, a5, a6, a7⟩ | ⟨a0, a1, a2, rfl, a3⟩
    · rw [a1, a2]
      simp only [Option.bind_some, if_neg one_ne]
      unfold pX0_total
      rw [if_neg (nI_pos (by omega)), if_pos (by show nI j ≤ nI 3; rw [le_nI] <;> omega)]
      have cst : pX4_stops 4 M1' = nI (r + 2) := cx_stops h4
      have rst := rx_stops h4
      have cL : ∀ (x : Int32) (g : Nat → Int32), (∀ k (a : Int32), k < r + 2 → pX0_total_L20 x M1' (a, nI k) = some (.inl (a + g k, nI (k + 1)))) → itr (pX0_total_L20 x M1') fuel (0, 0) = some (acI g (r + 2)) := by
        intro x g hg
        refine itr_ac (step := pX0_total_L20 x M1') g (r + 2) hg (fun a => ?_) (r + 2) 0 fuel (by omega) (by unfold fuel; omega)
        unfold pX0_total_L20
        rw [cst, if_pos (by show nI (r + 2) ≤ nI (r + 2); rw [le_nI] <;> omega)]
      have cS : ∀ (x : Int32) (g : Nat → Int32), (∀ k (a : Int32), k < s → pX0_total_L63 x M1' (a, nI k) = some (.inl (a + g k, nI (k + 1)))) → itr (pX0_total_L63 x M1') fuel (0, 0) = some (acI g s) := by
        intro x g hg
        refine itr_ac (step := pX0_total_L63 x M1') g s hg (fun a => ?_) s 0 fuel (by omega) (by unfold fuel; omega)
        unfold pX0_total_L63
        rw [q.2.2.2.2.1, if_pos (by show nI s ≤ nI s; rw [le_nI] <;> omega)]
      have : j = 0 ∨ j = 1 ∨ j = 2 ∨ j = 3 := by omega
      rcases this with rfl | rfl | rfl | rfl
      · rw [if_neg (by decide), if_pos (show nI 0 = 0 from rfl)]
        simp only [if_neg (show ¬ nI 0 = 1 by decide)]
        rw [cL (nI 0) (fun k => M1' 13 k) (fun k a hk => ?_)]
        · have e2 : itr (pX9_sum_L31 (nI 0) M2') fuel (0, 0) = some (acI (fun k => M1' 13 k) (r + 2)) := by
            refine itr_ac (step := pX9_sum_L31 (nI 0) M2') _ (r + 2) (fun k a hk => ?_) (fun a => ?_) (r + 2) 0 fuel (by omega) (by unfold fuel; omega)
            · unfold pX9_sum_L31
              rw [rst, Option.bind_some, if_neg (by show ¬ nI (r + 2) ≤ nI k; rw [le_nI] <;> omega)]
              dsimp only
              rw [ald_nI (by omega) (by omega), (a6 k (by omega)).2.2.2]
              simp (disch := omega) only [bnd_eq, Option.bind_some, lit_nI, nI_add, pk_mul, ald_nI, ast_nI, lt_nI, le_nI, eq_nI, sub_nI, Sum.elim_inl, Sum.elim_inr, if_pos, if_neg, if_true, if_false]
            · unfold pX9_sum_L31
              rw [rst, Option.bind_some, if_pos (by show nI (r + 2) ≤ nI (r + 2); rw [le_nI] <;> omega)]
          rw [e2]
          simp only [Option.bind_some]
          rw [sm_id h4 (by decide) (by decide)]
          exact ⟨_, _, _, rfl, rfl, h1⟩
        · unfold pX0_total_L20
          rw [cst, if_neg (by show ¬ nI (r + 2) ≤ nI k; rw [le_nI] <;> omega), if_pos (by rfl)]
          dsimp only
          rw [ald_nI (by omega) (by omega)]
          simp (disch := omega) only [bnd_eq, Option.bind_some, lit_nI, nI_add, pk_mul, ald_nI, ast_nI, lt_nI, le_nI, eq_nI, sub_nI, Sum.elim_inl, Sum.elim_inr, if_pos, if_neg, if_true, if_false]
      · rw [if_neg (by decide), if_neg (show ¬ nI 1 = 0 by decide)]
        simp only [if_pos (show nI 1 = 1 from rfl)]
        rw [cL (nI 1) (fun k => if k = 0 then 0 else nI (dr (M1 2) (M1 3) (pl (M1 5) r (k - 1)) (pl (M1 5) r k))) (fun k a hk => ?_)]
        · have e2 : itr (pX9_sum_L61 (nI 1) M2') fuel (0, 1) = some (acI (fun k => if k = 0 then 0 else nI (dr (M1 2) (M1 3) (pl (M1 5) r (k - 1)) (pl (M1 5) r k))) (r + 2)) := by
            have e0 : acI (fun k => if k = 0 then 0 else nI (dr (M1 2) (M1 3) (pl (M1 5) r (k - 1)) (pl (M1 5) r k))) 1 = 0 := by
              rw [acI, acI, if_pos rfl]
              rfl
            have z : itr (pX9_sum_L61 (nI 1) M2') fuel (acI (fun k => if k = 0 then 0 else nI (dr (M1 2) (M1 3) (pl (M1 5) r (k - 1)) (pl (M1 5) r k))) 1, nI 1) = some (acI (fun k => if k = 0 then 0 else nI (dr (M1 2) (M1 3) (pl (M1 5) r (k - 1)) (pl (M1 5) r k))) (r + 2)) := by
              refine itr_ac' (step := pX9_sum_L61 (nI 1) M2') (fun k => if k = 0 then 0 else nI (dr (M1 2) (M1 3) (pl (M1 5) r (k - 1)) (pl (M1 5) r k))) (r + 2) (fun k a h0 hk => ?_) (fun a => ?_) (r + 1) 1 fuel (by omega) (by omega) (by unfold fuel; omega)
              · unfold pX9_sum_L61
                rw [rst, Option.bind_some, if_neg (by show ¬ nI (r + 2) ≤ nI k; rw [le_nI] <;> omega)]
                dsimp only
                rw [show nI k - 1 = nI (k - 1) from sub_nI (b := 1) (by omega), rx_place h4 (by omega), Option.bind_some, rx_place h4 (by omega), Option.bind_some, rx_drive h4 (Nat.le_trans (pl_b h4 _).1 q.2.1) (Nat.le_trans (pl_b h4 _).1 q.2.1), if_neg (by omega)]
                simp (disch := omega) only [bnd_eq, Option.bind_some, lit_nI, nI_add, pk_mul, ald_nI, ast_nI, lt_nI, le_nI, eq_nI, sub_nI, Sum.elim_inl, Sum.elim_inr, if_pos, if_neg, if_true, if_false]
              · unfold pX9_sum_L61
                rw [rst, Option.bind_some, if_pos (by show nI (r + 2) ≤ nI (r + 2); rw [le_nI] <;> omega)]
            rw [e0] at z
            exact z
          simp only [Option.bind_some]
          rw [e2]
          simp only [Option.bind_some]
          rw [sm_id h4 (by decide) (by decide)]
          exact ⟨_, _, _, rfl, rfl, h1⟩
        · unfold pX0_total_L20
          rw [cst, if_neg (by show ¬ nI (r + 2) ≤ nI k; rw [le_nI] <;> omega), if_neg (by decide)]
          dsimp only
          unfold pX0_drivenTo
          by_cases c : k = 0
          · subst c
            rw [if_pos (by decide), if_pos rfl]
            simp (disch := omega) only [bnd_eq, Option.bind_some, lit_nI, nI_add, pk_mul, ald_nI, ast_nI, lt_nI, le_nI, eq_nI, sub_nI, Sum.elim_inl, Sum.elim_inr, if_pos, if_neg, if_true, if_false]
          · rw [if_neg (by show ¬ nI k ≤ nI 0; rw [le_nI] <;> omega), if_neg c, show nI k - 1 = nI (k - 1) from sub_nI (b := 1) (by omega), ald_nI (by omega) (by omega), ald_nI (by omega) (by omega)]
            have z := a7 (k - 1) (by omega)
            rw [show k - 1 + 1 = k by omega] at z
            rw [z]
            simp only [Option.bind_some, bnd_eq]
            rw [show ∀ u v : Int32, u + v - u = v from fun u v => by rw [Int32.add_comm, Int32.add_sub_cancel]]
            simp (disch := omega) only [bnd_eq, Option.bind_some, lit_nI, nI_add, pk_mul, ald_nI, ast_nI, lt_nI, le_nI, eq_nI, sub_nI, Sum.elim_inl, Sum.elim_inr, if_pos, if_neg, if_true, if_false]
      · rw [if_pos (by decide), if_neg (show ¬ nI 2 = 0 by decide)]
        simp only [if_neg (show ¬ nI 2 = 1 by decide)]
        rw [cS (nI 2) (fun k => M1' 15 k - M1' 14 k - nI (fc (M1 2) (pt (M1 6) k 2) 3)) (fun k a hk => ?_)]
        · have e2 : itr (pX9_sum_L96 (nI 2) M2') fuel (0, 0) = some (acI (fun k => M1' 15 k - M1' 14 k - nI (fc (M1 2) (pt (M1 6) k 2) 3)) s) := by
            refine itr_ac (step := pX9_sum_L96 (nI 2) M2') _ s (fun k a hk => ?_) (fun a => sm_end h4 _ a) s 0 fuel (by omega) (by unfold fuel; omega)
            have pb := pt_b h4 hk
            have g := a5 k hk
            unfold pX9_sum_L96
            rw [rx_sorties h4, Option.bind_some, if_neg (by show ¬ nI s ≤ nI k; rw [le_nI] <;> omega), if_pos (by rfl)]
            simp only [if_neg (show ¬ nI 2 = 3 by decide)]
            rw [ald_nI (by omega) (by omega), ald_nI (by omega) (by omega), show pX9_sortieOf (nI k) 2 M2' = _ from rx_part h4 (w := 2) hk (by omega), Option.bind_some, Option.bind_some, Option.bind_some, show pX9_placeOf (nI (pt (M1 6) k 2)) 3 M2' = _ from rx_fact h4 (w := 3) (by omega) (by omega), ← g.1, ← g.2.1]
            simp (disch := omega) only [bnd_eq, Option.bind_some, lit_nI, nI_add, pk_mul, ald_nI, ast_nI, lt_nI, le_nI, eq_nI, sub_nI, Sum.elim_inl, Sum.elim_inr, if_pos, if_neg, if_true, if_false]
          simp only [Option.bind_some]
          rw [e2]
          exact ⟨_, _, _, rfl, rfl, h1⟩
        · have pb := pt_b h4 hk
          unfold pX0_total_L63
          rw [q.2.2.2.2.1, if_neg (by show ¬ nI s ≤ nI k; rw [le_nI] <;> omega), if_pos (by rfl)]
          dsimp only
          unfold pX0_flownBy
          rw [show pX4_part 4 (nI k) 2 M1' = _ from cx_part h4 (w := 2) hk (by omega)]
          simp only [Option.bind_some, bnd_eq]
          rw [show pX3_fact 1 (nI (pt (M1 6) k 2)) 3 M1' = _ from cx_fact h4 (w := 3) (by omega) (by omega), ald_nI (by omega) (by omega), ald_nI (by omega) (by omega)]
          simp (disch := omega) only [bnd_eq, Option.bind_some, lit_nI, nI_add, pk_mul, ald_nI, ast_nI, lt_nI, le_nI, eq_nI, sub_nI, Sum.elim_inl, Sum.elim_inr, if_pos, if_neg, if_true, if_false]
      · rw [if_pos (by decide), if_neg (show ¬ nI 3 = 0 by decide)]
        simp only [if_neg (show ¬ nI 3 = 1 by decide)]
        rw [cS (nI 3) (fun k => M1' 16 k - M1' 15 k) (fun k a hk => ?_)]
        · have e2 : itr (pX9_sum_L96 (nI 3) M2') fuel (0, 0) = some (acI (fun k => M1' 16 k - M1' 15 k) s) := by
            refine itr_ac (step := pX9_sum_L96 (nI 3) M2') _ s (fun k a hk => ?_) (fun a => sm_end h4 _ a) s 0 fuel (by omega) (by unfold fuel; omega)
            have g := a5 k hk
            unfold pX9_sum_L96
            rw [rx_sorties h4, Option.bind_some, if_neg (by show ¬ nI s ≤ nI k; rw [le_nI] <;> omega), if_neg (by decide), Option.bind_some, if_pos (by rfl)]
            dsimp only
            rw [ald_nI (by omega) (by omega), ald_nI (by omega) (by omega), ← g.2.1, ← g.2.2]
            simp (disch := omega) only [bnd_eq, Option.bind_some, lit_nI, nI_add, pk_mul, ald_nI, ast_nI, lt_nI, le_nI, eq_nI, sub_nI, Sum.elim_inl, Sum.elim_inr, if_pos, if_neg, if_true, if_false]
          simp only [Option.bind_some]
          rw [e2]
          exact ⟨_, _, _, rfl, rfl, h1⟩
        · unfold pX0_total_L63
          rw [q.2.2.2.2.1, if_neg (by show ¬ nI s ≤ nI k; rw [le_nI] <;> omega), if_neg (by decide)]
          dsimp only
          rw [ald_nI (by omega) (by omega), ald_nI (by omega) (by omega)]
          simp (disch := omega) only [bnd_eq, Option.bind_some, lit_nI, nI_add, pk_mul, ald_nI, ast_nI, lt_nI, le_nI, eq_nI, sub_nI, Sum.elim_inl, Sum.elim_inr, if_pos, if_neg, if_true, if_false]
    · rw [a1, a2]
      simp only [Option.bind_some, if_true]
      exact ⟨_, _, _, rfl, rfl, h1⟩
end SUM
