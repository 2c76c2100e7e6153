/-! PURE: customer, feed -/
theorem fact_in {w v : Nat} (hw : w < 5) (hv : v ≤ fMost w) (M : Mm) : pX3_mayBeFact (nI w) (nI v) M = some 1 := by
  rcases fact_c hw (nI v) M with ⟨a, b⟩ | ⟨v', _, e, a, b⟩
  · exfalso
    have : pX9_mayBe (nI w) (nI v) = 1 := by
      have q : pX9_mayBe (nI w) (nI v) = pX9_isIn (nI v) 0 (nI (fMost w)) &&& 1 := by
        have : w = 0 ∨ w = 1 ∨ w = 2 ∨ w = 3 ∨ w = 4 := by omega
        rcases this with rfl | rfl | rfl | rfl | rfl <;> rfl
      have f9 : fMost w ≤ 99 := by unfold fMost; split; omega; split <;> omega
      rw [q, show pX9_isIn (nI v) 0 (nI (fMost w)) = 1 from isIn_nI (a := 0) (by omega) hv (by omega)]
      rfl
    rw [this] at b
    exact one_ne b
  · exact a
theorem c_putFact {M : Mm} {b m p w v : Nat} (hm : M b 0 = nI m) (h8 : m ≤ 8) (hp : p ≤ m) (hw : w < 5) (hv : v ≤ fMost w) : pX3_putFact b (nI p) (nI w) (nI v) M = some (mset M (b + 1) (5 * p + w) (nI v)) := by
  have e : pX3_isPlace b (nI p) M = 1 := by
    unfold pX3_isPlace
    rw [hm, if_neg (nI_pos (by omega)), if_neg (by rw [lt_nI] <;> omega)]
  unfold pX3_putFact
  rw [e, if_neg one_ne, fact_in hw hv, Option.bind_some, if_neg one_ne]
  simp (disch := omega) only [bnd_eq, Option.bind_some, lit_nI, nI_add, pk_mul, ald_nI, ast_nI, lt_nI, le_nI, eq_nI, sub_nI, Sum.elim_inl, Sum.elim_inr, if_pos, if_neg, if_true, if_false]
  rw [show p * 5 + w = 5 * p + w by omega]
theorem pr_customer : PR_customer Rel := by
  intro M1 M2 x1 x2 x3 x4 x5 hR
  replace hR := Rel_t hR 0
  unfold pX8_customer pX9_customer
  simp only [bnd_eq]
  generalize mset M2 0 0 0 = N at hR ⊢
  have hR0 := hR
  obtain ⟨n, r, s, t, hL, hB, hP, hT, hF, hC⟩ := hR
  obtain ⟨hn8, l1, l2, l3, l4⟩ := hL
  rcases fact_c (w := 0) (by omega) x1 M1 with ⟨a1, b1⟩ | ⟨v1, h1, rfl, a1, b1⟩
  · rw [show pX3_mayBeFact 0 x1 M1 = some 0 from a1, show pX9_mayBe 0 x1 = 0 from b1]
    exact ⟨_, _, _, rfl, rfl, hR0⟩
  rw [show pX3_mayBeFact 0 (nI v1) M1 = some 1 from a1, show pX9_mayBe 0 (nI v1) = 1 from b1, if_neg one_ne]
  simp only [Option.bind_some, if_neg one_ne]
  rcases fact_c (w := 1) (by omega) x2 M1 with ⟨a2, b2⟩ | ⟨v2, h2, rfl, a2, b2⟩
  · rw [show pX3_mayBeFact 1 x2 M1 = some 0 from a2, show pX9_mayBe 1 x2 = 0 from b2]
    exact ⟨_, _, _, rfl, rfl, hR0⟩
  rw [show pX3_mayBeFact 1 (nI v2) M1 = some 1 from a2, show pX9_mayBe 1 (nI v2) = 1 from b2, if_neg one_ne]
  simp only [Option.bind_some, if_neg one_ne]
  rcases fact_c (w := 2) (by omega) x3 M1 with ⟨a3, b3⟩ | ⟨v3, h3, rfl, a3, b3⟩
  · rw [show pX3_mayBeFact 2 x3 M1 = some 0 from a3, show pX9_mayBe 2 x3 = 0 from b3]
    exact ⟨_, _, _, rfl, rfl, hR0⟩
  rw [show pX3_mayBeFact 2 (nI v3) M1 = some 1 from a3, show pX9_mayBe 2 (nI v3) = 1 from b3, if_neg one_ne]
  simp only [Option.bind_some, if_neg one_ne]
  rcases fact_c (w := 3) (by omega) x4 M1 with ⟨a4, b4⟩ | ⟨v4, h4, rfl, a4, b4⟩
  · rw [show pX3_mayBeFact 3 x4 M1 = some 0 from a4, show pX9_mayBe 3 x4 = 0 from b4]
    exact ⟨_, _, _, rfl, rfl, hR0⟩
  rw [show pX3_mayBeFact 3 (nI v4) M1 = some 1 from a4, show pX9_mayBe 3 (nI v4) = 1 from b4, if_neg one_ne]
  simp only [Option.bind_some, if_neg one_ne]
  rcases fact_c (w := 4) (by omega) x5 M1 with ⟨a5, b5⟩ | ⟨v5, h5, rfl, a5, b5⟩
  · rw [show pX3_mayBeFact 4 x5 M1 = some 0 from a5, show pX9_mayBe 4 x5 = 0 from b5]
    exact ⟨_, _, _, rfl, rfl, hR0⟩
  rw [show pX3_mayBeFact 4 (nI v5) M1 = some 1 from a5, show pX9_mayBe 4 (nI v5) = 1 from b5, if_neg one_ne]
  simp only [Option.bind_some, if_neg one_ne, r_customers, l1, l2]
  by_cases c8 : n = 8
  · subst c8
    rw [if_neg (show ¬ nI 8 < 8 by decide), if_pos (by rfl)]
    exact ⟨_, _, _, rfl, rfl, hR0⟩
  rw [if_pos (show nI n < 8 by show nI n < nI 8; rw [lt_nI] <;> omega), if_neg (show ¬ nI n = 8 by show ¬ nI n = nI 8; rw [eq_nI] <;> omega)]
  have ea : pX3_addCustomer 1 M1 = mset M1 1 0 (nI (n + 1)) := by
    unfold pX3_addCustomer
    rw [l1, if_neg (show ¬ (8 : Int32) ≤ nI n by show ¬ nI 8 ≤ nI n; rw [le_nI] <;> omega), nI_1]
    rfl
  rw [ea]
  have k0 : mset M1 1 0 (nI (n + 1)) 1 0 = nI (n + 1) := rfl
  have k1 : ∀ (M : Mm) (i : Nat) (v : Int32), M 1 0 = nI (n + 1) → mset M 2 i v 1 0 = nI (n + 1) := fun M i v h => h
  have q0 := k0
  rw [k0, show pX3_putFact 1 (nI (n + 1)) 0 (nI v1) _ = _ from c_putFact (w := 0) q0 (by omega) (by omega) (by omega) h1, Option.bind_some]
  have q1 := k1 _ (5 * (n + 1) + 0) (nI v1) q0
  rw [q1, show pX3_putFact 1 (nI (n + 1)) 1 (nI v2) _ = _ from c_putFact (w := 1) q1 (by omega) (by omega) (by omega) h2, Option.bind_some]
  have q2 := k1 _ (5 * (n + 1) + 1) (nI v2) q1
  rw [q2, show pX3_putFact 1 (nI (n + 1)) 2 (nI v3) _ = _ from c_putFact (w := 2) q2 (by omega) (by omega) (by omega) h3, Option.bind_some]
  have q3 := k1 _ (5 * (n + 1) + 2) (nI v3) q2
  rw [q3, show pX3_putFact 1 (nI (n + 1)) 3 (nI v4) _ = _ from c_putFact (w := 3) q3 (by omega) (by omega) (by omega) h4, Option.bind_some]
  have q4 := k1 _ (5 * (n + 1) + 3) (nI v4) q3
  rw [q4, show pX3_putFact 1 (nI (n + 1)) 4 (nI v5) _ = _ from c_putFact (w := 4) q4 (by omega) (by omega) (by omega) h5, Option.bind_some]
  unfold pX9_more pX8_forgetSearches
  simp (disch := omega) only [bnd_eq, Option.bind_some, lit_nI, nI_add, pk_mul, ald_nI, ast_nI, lt_nI, le_nI, eq_nI, sub_nI, Sum.elim_inl, Sum.elim_inr, if_pos, if_neg, if_true, if_false, mset_get, mset_cell, mrow_cell, mrow_same, true_and, false_and, and_true, and_false, if_true, if_false, ite_true, ite_false, r_customers, l2]
  refine ⟨_, _, _, rfl, rfl, ?_⟩
  refine ⟨n + 1, r, s, t, ⟨by omega, rfl, ?_, fun k hk => ?_, fun k hk => ?_⟩, ⟨fun p w hp hw => ?_, ?_, hB.2.2⟩, ?_, TapeR_c hT rfl rfl rfl rfl, hF, ⟨Or.inl rfl, Or.inl rfl, hC.2.2⟩⟩
  · simp (disch := omega) only [mset_get, mset_cell, mrow_cell, mrow_same, if_pos, if_neg, true_and, false_and, and_true, and_false, if_true, if_false, ite_true, ite_false]
  · have q := l3 k hk
    have z : k < 5 * n + 5 ∨ k = 5 * n + 5 ∨ k = 5 * n + 6 ∨ k = 5 * n + 7 ∨ k = 5 * n + 8 ∨ k = 5 * n + 9 ∨ 5 * n + 9 < k := by omega
    rcases z with z | rfl | rfl | rfl | rfl | rfl | z <;> simp (disch := omega) only [mset_get, mset_cell, mrow_cell, mrow_same, if_pos, if_neg, true_and, false_and, and_true, and_false, if_true, if_false, ite_true, ite_false]
    · exact q
    · exact q
  · simp (disch := omega) only [mset_get, mset_cell, mrow_cell, mrow_same, if_pos, if_neg, true_and, false_and, and_true, and_false, if_true, if_false, ite_true, ite_false]
    exact l4 k hk
  · by_cases cp : p = n + 1
    · subst cp
      have z : w = 0 ∨ w = 1 ∨ w = 2 ∨ w = 3 ∨ w = 4 := by omega
      rcases z with rfl | rfl | rfl | rfl | rfl
      · exact ⟨v1, h1, by simp (disch := omega) only [mset_get, mset_cell, mrow_cell, mrow_same, if_pos, if_neg, true_and, false_and, and_true, and_false, if_true, if_false, ite_true, ite_false]⟩
      · exact ⟨v2, h2, by simp (disch := omega) only [mset_get, mset_cell, mrow_cell, mrow_same, if_pos, if_neg, true_and, false_and, and_true, and_false, if_true, if_false, ite_true, ite_false]⟩
      · exact ⟨v3, h3, by simp (disch := omega) only [mset_get, mset_cell, mrow_cell, mrow_same, if_pos, if_neg, true_and, false_and, and_true, and_false, if_true, if_false, ite_true, ite_false]⟩
      · exact ⟨v4, h4, by simp (disch := omega) only [mset_get, mset_cell, mrow_cell, mrow_same, if_pos, if_neg, true_and, false_and, and_true, and_false, if_true, if_false, ite_true, ite_false]⟩
      · exact ⟨v5, h5, by simp (disch := omega) only [mset_get, mset_cell, mrow_cell, mrow_same, if_pos, if_neg, true_and, false_and, and_true, and_false, if_true, if_false, ite_true, ite_false]⟩
    · obtain ⟨v, hv, e⟩ := hB.1 p w hp hw
      exact ⟨v, hv, by simp (disch := omega) only [mset_get, mset_cell, mrow_cell, mrow_same, if_pos, if_neg, true_and, false_and, and_true, and_false, if_true, if_false, ite_true, ite_false]; exact e⟩
  · refine ⟨?_, ?_, ?_⟩
    · simp (disch := omega) only [mset_get, mset_cell, mrow_cell, mrow_same, if_pos, if_neg, true_and, false_and, and_true, and_false, if_true, if_false, ite_true, ite_false]
      exact hB.2.1.1
    · simp (disch := omega) only [mset_get, mset_cell, mrow_cell, mrow_same, if_pos, if_neg, true_and, false_and, and_true, and_false, if_true, if_false, ite_true, ite_false]
      exact hB.2.1.2.1
    · simp (disch := omega) only [mset_get, mset_cell, mrow_cell, mrow_same, if_pos, if_neg, true_and, false_and, and_true, and_false, if_true, if_false, ite_true, ite_false]
      exact hB.2.1.2.2
  · obtain ⟨hr8, hs8, p1, p2, p3, p4, p5, p6, p7, p8⟩ := hP
    refine ⟨hr8, hs8, p1, p2, ?_, ?_, fun i hi => ?_, fun i hi => ?_, fun i hi => ?_, fun k hk => ?_⟩
    · simp (disch := omega) only [mset_get, mset_cell, mrow_cell, mrow_same, if_pos, if_neg, true_and, false_and, and_true, and_false, if_true, if_false, ite_true, ite_false]
      exact p3
    · simp (disch := omega) only [mset_get, mset_cell, mrow_cell, mrow_same, if_pos, if_neg, true_and, false_and, and_true, and_false, if_true, if_false, ite_true, ite_false]
      exact p4
    · simp (disch := omega) only [mset_get, mset_cell, mrow_cell, mrow_same, if_pos, if_neg, true_and, false_and, and_true, and_false, if_true, if_false, ite_true, ite_false]
      exact p5 i hi
    · simp (disch := omega) only [mset_get, mset_cell, mrow_cell, mrow_same, if_pos, if_neg, true_and, false_and, and_true, and_false, if_true, if_false, ite_true, ite_false]
      exact p6 i hi
    · obtain ⟨p, a, b, c⟩ := p7 i hi
      exact ⟨p, a, by omega, c⟩
    · obtain ⟨f9, r9, c9, a9, h1, h2, h3, h4, h5, h6, h7, h8, h9⟩ := p8 k hk
      exact ⟨f9, r9, c9, a9, h1, h2, h3, by omega, h5, h6, h7, h8, h9⟩
theorem b8 (x : Int32) (k : Nat) (hk : k ≤ 24) : ∃ b : Nat, b < 256 ∧ (ush x (nI k)) &&& 255 = nI b ∧ vp_nar .byte ((x >>> ((nI k) &&& 31)).toInt8.toInt32) = (nI b).toInt8.toInt32 := by
  obtain ⟨b, hb, e⟩ := pk_andE (ush x (nI k)) (m := 255) 8 (by decide)
  refine ⟨b, hb, e, ?_⟩
  rw [← e, pk_vb, fa_byte_low, ← fa_byte_low (x >>> _), ← fa_byte_low (ush _ _)]
  congr 2
  apply b_ext
  intro i hi
  rw [b_and, b_and, b_255]
  by_cases h : i < 8
  · rw [b_sshr k (by omega) x hi, if_pos (by omega)]
    congr 1
    exact (b_ushr k (by omega) x i).symm
  · rw [decide_eq_false h, Bool.and_false, Bool.and_false]
theorem itr_s {σ ρ : Type} {step : σ → Option (σ ⊕ ρ)} {s s' : σ} {n : Nat} (h : step s = some (.inl s')) : itr step (n + 1) s = itr step n s' := by rw [itr, h]
theorem itr_e {σ ρ : Type} {step : σ → Option (σ ⊕ ρ)} {s : σ} {r : ρ} {n : Nat} (h : step s = some (.inr r)) : itr step (n + 1) s = some r := by rw [itr, h]
def TapeF (M1 M2 M1' M2' : Mm) : Prop := (∀ c, c ≠ 29 → c ≠ 30 → M1' c = M1 c) ∧ (∀ c, c ≠ 0 → c ≠ 3 → M2' c = M2 c) ∧ (∀ j, j ≠ 4 → M2' 0 j = M2 0 j)
theorem TapeF.rf (M1 M2 : Mm) : TapeF M1 M2 M1 M2 := ⟨fun _ _ _ => rfl, fun _ _ _ => rfl, fun _ _ => rfl⟩
theorem TapeF.tr {M1 M2 N1 N2 L1 L2 : Mm} (h : TapeF M1 M2 N1 N2) (g : TapeF N1 N2 L1 L2) : TapeF M1 M2 L1 L2 := ⟨fun c h1 h2 => by rw [g.1 c h1 h2, h.1 c h1 h2], fun c h1 h2 => by rw [g.2.1 c h1 h2, h.2.1 c h1 h2], fun j hj => by rw [g.2.2 j hj, h.2.2 j hj]⟩
theorem put1_c {M1 M2 : Mm} {t : Nat} (x : Int32) (k : Nat) (hk : k ≤ 24) (hT : TapeR t M1 M2) (ht : t < 300) : ∃ M1' M2', pX6_append_L16 x (nI k, M1) = some (.inl (nI k + (-8), M1')) ∧ pX9_put_L3 x (nI k, M2) = some (.inl (nI k + (-8), M2')) ∧ TapeR (t + 1) M1' M2' ∧ TapeF M1 M2 M1' M2' := by
  obtain ⟨t1, t2, t3, t4⟩ := hT
  obtain ⟨b, hb, e1, e2⟩ := b8 x k hk
  refine ⟨mset (mset M1 30 t (nI b)) 29 0 (nI (t + 1)), mset (mset M2 3 t ((nI b).toInt8.toInt32)) 0 4 (nI (t + 1)), ?_, ?_, ⟨by omega, rfl, rfl, fun i hi => ?_⟩, fun c h1 h2 => ?_, fun c h1 h2 => ?_, fun j hj => ?_⟩
  · unfold pX6_append_L16
    dsimp only
    rw [if_neg (nI_pos (by omega)), t2, ast_nI ht (by omega), e1]
    simp only [Option.bind_some, bnd_eq]
    rw [show mset M1 30 t (nI b) 29 0 = nI t from t2, nI_1]
  · unfold pX9_put_L3
    dsimp only
    rw [if_neg (nI_pos (by omega)), t3, ast_nI ht (by omega), e2]
    simp only [Option.bind_some, bnd_eq]
    rw [show mset M2 3 t ((nI b).toInt8.toInt32) 0 4 = nI t from t3, nI_1]
  · by_cases c : i = t
    · subst c
      exact ⟨b, hb, by simp (disch := omega) only [mset_get, mset_cell, mrow_cell, mrow_same, if_pos, if_neg, true_and, false_and, and_true, and_false, if_true, if_false, ite_true, ite_false], by simp (disch := omega) only [mset_get, mset_cell, mrow_cell, mrow_same, if_pos, if_neg, true_and, false_and, and_true, and_false, if_true, if_false, ite_true, ite_false]⟩
    · obtain ⟨b', h1, h2, h3⟩ := t4 i (by omega)
      exact ⟨b', h1, by simp (disch := omega) only [mset_get, mset_cell, mrow_cell, mrow_same, if_pos, if_neg, true_and, false_and, and_true, and_false, if_true, if_false, ite_true, ite_false]; exact h2, by simp (disch := omega) only [mset_get, mset_cell, mrow_cell, mrow_same, if_pos, if_neg, true_and, false_and, and_true, and_false, if_true, if_false, ite_true, ite_false]; exact h3⟩
  · simp (disch := omega) only [mset_get, mset_cell, mrow_cell, mrow_same, if_pos, if_neg, true_and, false_and, and_true, and_false, if_true, if_false, ite_true, ite_false]
  · simp (disch := omega) only [mset_get, mset_cell, mrow_cell, mrow_same, if_pos, if_neg, true_and, false_and, and_true, and_false, if_true, if_false, ite_true, ite_false]
  · simp (disch := omega) only [mset_get, mset_cell, mrow_cell, mrow_same, if_pos, if_neg, true_and, false_and, and_true, and_false, if_true, if_false, ite_true, ite_false]
theorem put_c {M1 M2 : Mm} {t : Nat} (x : Int32) (hT : TapeR t M1 M2) (ht : t + 4 ≤ 300) : ∃ M1' M2', pX6_append x M1 = some M1' ∧ pX9_put x M2 = some M2' ∧ TapeR (t + 4) M1' M2' ∧ TapeF M1 M2 M1' M2' := by
  obtain ⟨A1, A2, a1, a2, hA, fA⟩ := put1_c x 24 (by omega) hT (by omega)
  obtain ⟨B1, B2, b1, b2, hB, fB⟩ := put1_c x 16 (by omega) hA (by omega)
  obtain ⟨C1, C2, c1, c2, hC, fC⟩ := put1_c x 8 (by omega) hB (by omega)
  obtain ⟨D1, D2, d1, d2, hD, fD⟩ := put1_c x 0 (by omega) hC (by omega)
  refine ⟨D1, D2, ?_, ?_, hD, (((fA.tr fB).tr fC).tr fD)⟩
  · unfold pX6_append
    rw [hT.2.1, if_pos (show nI t + 4 ≤ 300 by show nI t + nI 4 ≤ nI 300; rw [nI_add, le_nI] <;> omega)]
    have e : itr (pX6_append_L16 x) (5995 + 1 + 1 + 1 + 1 + 1) (nI 24, M1) = some D1 := by
      rw [itr_s a1, itr_s (show pX6_append_L16 x (nI 24 + -8, A1) = _ from b1), itr_s (show pX6_append_L16 x (nI 16 + -8, B1) = _ from c1), itr_s (show pX6_append_L16 x (nI 8 + -8, C1) = _ from d1)]
      exact itr_e rfl
    rw [show itr (pX6_append_L16 x) fuel (24, M1) = some D1 from e]
    rfl
  · unfold pX9_put
    have e : itr (pX9_put_L3 x) (5995 + 1 + 1 + 1 + 1 + 1) (nI 24, M2) = some D2 := by
      rw [itr_s a2, itr_s (show pX9_put_L3 x (nI 24 + -8, A2) = _ from b2), itr_s (show pX9_put_L3 x (nI 16 + -8, B2) = _ from c2), itr_s (show pX9_put_L3 x (nI 8 + -8, C2) = _ from d2)]
      exact itr_e rfl
    rw [show itr (pX9_put_L3 x) fuel (24, M2) = some D2 from e]
    rfl
theorem pr_feed : PR_feed Rel := by
  intro M1 M2 x1 x2 x3 x4 x5 hR
  replace hR := Rel_t hR 0
  unfold pX8_feed pX9_feed
  simp only [bnd_eq]
  generalize mset M2 0 0 0 = N at hR ⊢
  have hR0 := hR
  obtain ⟨n, r, s, t, hL, hB, hP, hT, hF, hC⟩ := hR
  rw [hT.2.1, hT.2.2.1]
  by_cases c : t + 20 ≤ 300
  · obtain ⟨A1, A2, a1, a2, hA, fA⟩ := put_c x1 hT (by omega)
    obtain ⟨B1, B2, b1, b2, hB1, fB⟩ := put_c x2 hA (by omega)
    obtain ⟨C1, C2, c1, c2, hC1, fC⟩ := put_c x3 hB1 (by omega)
    obtain ⟨D1, D2, d1, d2, hD, fD⟩ := put_c x4 hC1 (by omega)
    obtain ⟨E1, E2, e1, e2, hE, fE⟩ := put_c x5 hD (by omega)
    have f := (((fA.tr fB).tr fC).tr fD).tr fE
    rw [if_pos (show nI t + 20 ≤ 300 by show nI t + nI 20 ≤ nI 300; rw [nI_add, le_nI] <;> omega), if_pos (show nI t + 20 ≤ 300 by show nI t + nI 20 ≤ nI 300; rw [nI_add, le_nI] <;> omega), a1, a2]
    simp only [Option.bind_some, b1, b2, c1, c2, d1, d2, e1, e2]
    rw [hE.2.1, hE.2.2.1]
    refine ⟨_, _, _, rfl, rfl, ?_⟩
    have g1 : E1 1 = M1 1 := f.1 1 (by omega) (by omega)
    have g2 : E1 2 = M1 2 := f.1 2 (by omega) (by omega)
    have g3 : E1 3 = M1 3 := f.1 3 (by omega) (by omega)
    have k1 : E2 1 = N 1 := f.2.1 1 (by omega) (by omega)
    exact ⟨n, r, s, _, LandR_c hL (by rw [g1]) g2 g3 (fun i _ => by rw [k1]), LandB_c hB g2 g3, PlanR_c hP (f.1 4 (by omega) (by omega)) (f.1 5 (by omega) (by omega)) (f.1 6 (by omega) (by omega)) (fun i _ _ => by rw [k1]), hE, by rw [f.2.2 5 (by omega), f.1 31 (by omega) (by omega), hF], CacheR_c hC (by rw [g1]) g2 g3 (f.1 39 (by omega) (by omega)) (f.1 40 (by omega) (by omega)) ⟨by rw [f.1 23 (by omega) (by omega)], by rw [f.1 24 (by omega) (by omega)], by rw [f.1 25 (by omega) (by omega)]⟩⟩
  · rw [if_neg (show ¬ nI t + 20 ≤ 300 by show ¬ nI t + nI 20 ≤ nI 300; have := hT.1; rw [nI_add, le_nI] <;> omega), if_neg (show ¬ nI t + 20 ≤ 300 by show ¬ nI t + nI 20 ≤ nI 300; have := hT.1; rw [nI_add, le_nI] <;> omega)]
    exact ⟨_, _, _, rfl, rfl, hR0⟩
