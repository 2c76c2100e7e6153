/-! PURE: customer, feed -/
theorem fact_in {w v : Nat} (hw : w < 5) (hv : v ≤ fMost w) (M : Mm) : pX3_mayBeFact (nI w) (nI v) M = some 1 := by
  rcases fact_c hw (nI v) M with ⟨a, b⟩ | ⟨v', _, e, a, b⟩
  · exfalso
    have : pX9_mayBe (nI w) (nI v) = 1 := by
      have q : pX9_mayBe (nI w) (nI v) = pX9_isIn (nI v) 0 (nI (fMost w)) &&& 1 := by
        have : w = 0 ∨ w = 1 ∨ w = 2 ∨ w = 3 ∨ w = 4 := by omega
        rcases this with rfl | rfl | rfl | rfl | rfl <;> rfl
      have f9 : fMost w ≤ 99 := by unfold fMost; split; omega; split <;> omega
      rw [q, show pX9_isIn (nI v) 0 (nI (fMost w)) = 1 from isIn_nI (a := 0) (by omega) hv (by omega)]
      rfl
    rw [this] at b
    exact one_ne b
  · exact a
theorem c_putFact {M : Mm} {b m p w v : Nat} (hm : M b 0 = nI m) (h8 : m ≤ 8) (hp : p ≤ m) (hw : w < 5) (hv : v ≤ fMost w) : pX3_putFact b (nI p) (nI w) (nI v) M = some (mset M (b + 1) (5 * p + w) (nI v)) := by
  have e : pX3_isPlace b (nI p) M = 1 := by
    unfold pX3_isPlace
    rw [hm, if_neg (nI_pos (by omega)), if_neg (by rw [lt_nI] <;> omega)]
  unfold pX3_putFact
  rw [e, if_neg one_ne, fact_in hw hv, Option.bind_some, if_neg one_ne]
  simp (disch := omega) only [bnd_eq, Option.bind_some, lit_nI, nI_add, pk_mul, ald_nI, ast_nI, lt_nI, le_nI, eq_nI, sub_nI, Sum.elim_inl, Sum.elim_inr, if_pos, if_neg]
  rw [show p * 5 + w = 5 * p + w by omega]
theorem pr_customer : PR_customer Rel := by
  intro M1 M2 x1 x2 x3 x4 x5 hR
  replace hR := Rel_t hR 0
  unfold pX8_customer pX9_customer
  simp only [bnd_eq]
  generalize mset M2 0 0 0 = N at hR ⊢
  have hR0 := hR
  obtain ⟨n, r, s, t, hL, hB, hP, hT, hF, hC⟩ := hR
  obtain ⟨hn8, l1, l2, l3, l4⟩ := hL
  rcases fact_c (w := 0) (by omega) x1 M1 with ⟨a1, b1⟩ | ⟨v1, h1, rfl, a1, b1⟩
  · rw [show pX3_mayBeFact 0 x1 M1 = some 0 from a1, show pX9_mayBe 0 x1 = 0 from b1]
    exact ⟨_, _, _, rfl, rfl, hR0⟩
  rw [show pX3_mayBeFact 0 (nI v1) M1 = some 1 from a1, show pX9_mayBe 0 (nI v1) = 1 from b1, if_neg one_ne]
  simp only [Option.bind_some, if_neg one_ne]
  rcases fact_c (w := 1) (by omega) x2 M1 with ⟨a2, b2⟩ | ⟨v2, h2, rfl, a2, b2⟩
  · rw [show pX3_mayBeFact 1 x2 M1 = some 0 from a2, show pX9_mayBe 1 x2 = 0 from b2]
    exact ⟨_, _, _, rfl, rfl, hR0⟩
  rw [show pX3_mayBeFact 1 (nI v2) M1 = some 1 from a2, show pX9_mayBe 1 (nI v2) = 1 from b2, if_neg one_ne]
  simp only [Option.bind_some, if_neg one_ne]
  rcases fact_c (w := 2) (by omega) x3 M1 with ⟨a3, b3⟩ | ⟨v3, h3, rfl, a3, b3⟩
  · rw [show pX3_mayBeFact 2 x3 M1 = some 0 from a3, show pX9_mayBe 2 x3 = 0 from b3]
    exact ⟨_, _, _, rfl, rfl, hR0⟩
  rw [show pX3_mayBeFact 2 (nI v3) M1 = some 1 from a3, show pX9_mayBe 2 (nI v3) = 1 from b3, if_neg one_ne]
  simp only [Option.bind_some, if_neg one_ne]
  rcases fact_c (w := 3) (by omega) x4 M1 with ⟨a4, b4⟩ | ⟨v4, h4, rfl, a4, b4⟩
  · rw [show pX3_mayBeFact 3 x4 M1 = some 0 from a4, show pX9_mayBe 3 x4 = 0 from b4]
    exact ⟨_, _, _, rfl, rfl, hR0⟩
  rw [show pX3_mayBeFact 3 (nI v4) M1 = some 1 from a4, show pX9_mayBe 3 (nI v4) = 1 from b4, if_neg one_ne]
  simp only [Option.bind_some, if_neg one_ne]
  rcases fact_c (w := 4) (by omega) x5 M1 with ⟨a5, b5⟩ | ⟨v5, h5, rfl, a5, b5⟩
  · rw [show pX3_mayBeFact 4 x5 M1 = some 0 from a5, show pX9_mayBe 4 x5 = 0 from b5]
    exact ⟨_, _, _, rfl, rfl, hR0⟩
  rw [show pX3_mayBeFact 4 (nI v5) M1 = some 1 from a5, show pX9_mayBe 4 (nI v5) = 1 from b5, if_neg one_ne]
  simp only [Option.bind_some, if_neg one_ne, r_customers, l1, l2]
  by_cases c8 : n = 8
  · subst c8
    rw [if_neg (show ¬ nI 8 < 8 by decide), if_pos (by rfl)]
    exact ⟨_, _, _, rfl, rfl, hR0⟩
  rw [if_pos (show nI n < 8 by show nI n < nI 8; rw [lt_nI] <;> omega), if_neg (show ¬ nI n = 8 by show ¬ nI n = nI 8; rw [eq_nI] <;> omega)]
  have ea : pX3_addCustomer 1 M1 = mset M1 1 0 (nI (n + 1)) := by
    unfold pX3_addCustomer
    rw [l1, if_neg (show ¬ (8 : Int32) ≤ nI n by show ¬ nI 8 ≤ nI n; rw [le_nI] <;> omega), nI_1]
    rfl
  rw [ea]
  have k0 : mset M1 1 0 (nI (n + 1)) 1 0 = nI (n + 1) := rfl
  have k1 : ∀ (M : Mm) (i : Nat) (v : Int32), M 1 0 = nI (n + 1) → mset M 2 i v 1 0 = nI (n + 1) := fun M i v h => h
  have q0 := k0
  rw [k0, show pX3_putFact 1 (nI (n + 1)) 0 (nI v1) _ = _ from c_putFact (w := 0) q0 (by omega) (by omega) (by omega) h1, Option.bind_some]
  have q1 := k1 _ (5 * (n + 1) + 0) (nI v1) q0
  rw [q1, show pX3_putFact 1 (nI (n + 1)) 1 (nI v2) _ = _ from c_putFact (w := 1) q1 (by omega) (by omega) (by omega) h2, Option.bind_some]
  have q2 := k1 _ (5 * (n + 1) + 1) (nI v2) q1
  rw [q2, show pX3_putFact 1 (nI (n + 1)) 2 (nI v3) _ = _ from c_putFact (w := 2) q2 (by omega) (by omega) (by omega) h3, Option.bind_some]
  have q3 := k1 _ (5 * (n + 1) + 2) (nI v3) q2
  rw [q3, show pX3_putFact 1 (nI (n + 1)) 3 (nI v4) _ = _ from c_putFact (w := 3) q3 (by omega) (by omega) (by omega) h4, Option.bind_some]
  have q4 := k1 _ (5 * (n + 1) + 3) (nI v4) q3
  rw [q4, show pX3_putFact 1 (nI (n + 1)) 4 (nI v5) _ = _ from c_putFact (w := 4) q4 (by omega) (by omega) (by omega) h5, Option.bind_some]
  unfold pX9_more pX8_forgetSearches
  simp (disch := omega) only [bnd_eq, Option.bind_some, lit_nI, nI_add, pk_mul, ald_nI, ast_nI, lt_nI, le_nI, eq_nI, sub_nI, Sum.elim_inl, Sum.elim_inr, if_pos, if_neg, mset_get, mset_cell, mrow_cell, mrow_same, true_and, false_and, and_true, and_false, if_true, if_false, ite_true, ite_false, r_customers, l2]
  refine ⟨_, _, _, rfl, rfl, ?_⟩
  refine ⟨n + 1, r, s, t, ⟨by omega, rfl, ?_, fun k hk => ?_, fun k hk => ?_⟩, ⟨fun p w hp hw => ?_, ?_, hB.2.2⟩, ?_, TapeR_c hT rfl rfl rfl rfl, hF, ⟨Or.inl rfl, Or.inl rfl⟩⟩
  · simp (disch := omega) only [mset_get, mset_cell, mrow_cell, mrow_same, if_pos, if_neg, true_and, false_and, and_true, and_false, if_true, if_false, ite_true, ite_false]
  · have q := l3 k hk
    have z : k < 5 * n + 5 ∨ k = 5 * n + 5 ∨ k = 5 * n + 6 ∨ k = 5 * n + 7 ∨ k = 5 * n + 8 ∨ k = 5 * n + 9 ∨ 5 * n + 9 < k := by omega
    rcases z with z | rfl | rfl | rfl | rfl | rfl | z <;> simp (disch := omega) only [mset_get, mset_cell, mrow_cell, mrow_same, if_pos, if_neg, true_and, false_and, and_true, and_false, if_true, if_false, ite_true, ite_false]
    · exact q
    · exact q
  · simp (disch := omega) only [mset_get, mset_cell, mrow_cell, mrow_same, if_pos, if_neg, true_and, false_and, and_true, and_false, if_true, if_false, ite_true, ite_false]
    exact l4 k hk
  · by_cases cp : p = n + 1
    · subst cp
      have z : w = 0 ∨ w = 1 ∨ w = 2 ∨ w = 3 ∨ w = 4 := by omega
      rcases z with rfl | rfl | rfl | rfl | rfl
      · exact ⟨v1, h1, by simp (disch := omega) only [mset_get, mset_cell, mrow_cell, mrow_same, if_pos, if_neg, true_and, false_and, and_true, and_false, if_true, if_false, ite_true, ite_false]⟩
      · exact ⟨v2, h2, by simp (disch := omega) only [mset_get, mset_cell, mrow_cell, mrow_same, if_pos, if_neg, true_and, false_and, and_true, and_false, if_true, if_false, ite_true, ite_false]⟩
      · exact ⟨v3, h3, by simp (disch := omega) only [mset_get, mset_cell, mrow_cell, mrow_same, if_pos, if_neg, true_and, false_and, and_true, and_false, if_true, if_false, ite_true, ite_false]⟩
      · exact ⟨v4, h4, by simp (disch := omega) only [mset_get, mset_cell, mrow_cell, mrow_same, if_pos, if_neg, true_and, false_and, and_true, and_false, if_true, if_false, ite_true, ite_false]⟩
      · exact ⟨v5, h5, by simp (disch := omega) only [mset_get, mset_cell, mrow_cell, mrow_same, if_pos, if_neg, true_and, false_and, and_true, and_false, if_true, if_false, ite_true, ite_false]⟩
    · obtain ⟨v, hv, e⟩ := hB.1 p w hp hw
      exact ⟨v, hv, by simp (disch := omega) only [mset_get, mset_cell, mrow_cell, mrow_same, if_pos, if_neg, true_and, false_and, and_true, and_false, if_true, if_false, ite_true, ite_false]; exact e⟩
  · refine ⟨?_, ?_, ?_⟩
    · simp (disch := omega) only [mset_get, mset_cell, mrow_cell, mrow_same, if_pos, if_neg, true_and, false_and, and_true, and_false, if_true, if_false, ite_true, ite_false]
      exact hB.2.1.1
    · simp (disch := omega) only [mset_get, mset_cell, mrow_cell, mrow_same, if_pos, if_neg, true_and, false_and, and_true, and_false, if_true, if_false, ite_true, ite_false]
      exact hB.2.1.2.1
    · simp (disch := omega) only [mset_get, mset_cell, mrow_cell, mrow_same, if_pos, if_neg, true_and, false_and, and_true, and_false, if_true, if_false, ite_true, ite_false]
      exact hB.2.1.2.2
  · obtain ⟨hr8, hs8, p1, p2, p3, p4, p5, p6, p7, p8⟩ := hP
    refine ⟨hr8, hs8, p1, p2, ?_, ?_, fun i hi => ?_, fun i hi => ?_, fun i hi => ?_, fun k hk => ?_⟩
    · simp (disch := omega) only [mset_get, mset_cell, mrow_cell, mrow_same, if_pos, if_neg, true_and, false_and, and_true, and_false, if_true, if_false, ite_true, ite_false]
      exact p3
    · simp (disch := omega) only [mset_get, mset_cell, mrow_cell, mrow_same, if_pos, if_neg, true_and, false_and, and_true, and_false, if_true, if_false, ite_true, ite_false]
      exact p4
    · simp (disch := omega) only [mset_get, mset_cell, mrow_cell, mrow_same, if_pos, if_neg, true_and, false_and, and_true, and_false, if_true, if_false, ite_true, ite_false]
      exact p5 i hi
    · simp (disch := omega) only [mset_get, mset_cell, mrow_cell, mrow_same, if_pos, if_neg, true_and, false_and, and_true, and_false, if_true, if_false, ite_true, ite_false]
      exact p6 i hi
    · obtain ⟨p, a, b, c⟩ := p7 i hi
      exact ⟨p, a, by omega, c⟩
    · obtain ⟨f9, r9, c9, a9, h1, h2, h3, h4, h5, h6, h7, h8, h9⟩ := p8 k hk
      exact ⟨f9, r9, c9, a9, h1, h2, h3, by omega, h5, h6, h7, h8, h9⟩
theorem b8 (x : Int32) (k : Nat) (hk : k = 24 ∨ k = 16 ∨ k = 8 ∨ k = 0) : ∃ b : Nat, b < 256 ∧ (ush x (nI k)) &&& 255 = nI b ∧ vp_nar .byte ((x >>> ((nI k) &&& 31)).toInt8.toInt32) = (nI b).toInt8.toInt32 := by
  have e : ∀ y : Int32, ∃ b : Nat, b < 256 ∧ y &&& 255 = nI b := by
    intro y
    refine ⟨y.toBitVec.toNat % 256, Nat.mod_lt _ (by omega), ?_⟩
    apply Int32.toBitVec_inj.mp
    apply BitVec.eq_of_toNat_eq
    rw [Int32.toBitVec_and, BitVec.toNat_and]
    show y.toBitVec.toNat &&& (2 ^ 8 - 1) = _
    rw [Nat.and_two_pow_sub_one_eq_mod]
    sorry
  obtain ⟨b, hb, e1⟩ := e (ush x (nI k))
  refine ⟨b, hb, e1, ?_⟩
  rw [← e1, pk_vb]
  sorry
