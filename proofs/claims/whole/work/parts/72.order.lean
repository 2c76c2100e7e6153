/-! PURE: an order is read -/
theorem td_neg (z : Int) (h : z < 0) : z.tdiv 10 = -((-z) / 10) := by
  have e : z = -(-z) := by omega
  conv => lhs; rw [e]
  rw [Int.neg_tdiv, Int.tdiv_eq_ediv_of_nonneg (by omega)]
theorem rm_neg (x : Int32) (h : x.toInt < 0) : (x - x / 10 * 10).toInt ≤ 0 := by
  have l := Int32.le_toInt x
  have d : (x / 10).toInt = -((-x.toInt) / 10) := by
    rw [Int32.toInt_div_of_ne_right x 10 (by decide)]
    exact td_neg _ h
  have t : (10 : Int32).toInt = 10 := rfl
  have m := fb_mulI (x := x / 10) (y := 10) (by rw [d, t]; omega) (by rw [d, t]; omega)
  rw [fb_subI (by rw [m, d, t]; omega) (by rw [m, d, t]; omega), m, d, t]
  omega
theorem bq3 : ∀ x, x < 512 → ∀ k, k < 9 → ((nI x >>> (nI k &&& 31)) &&& 1) = (if x.testBit k then 1 else 0) := by decide +kernel
theorem rd_cust {M : Mm} {n d : Nat} (h : M 1 0 = nI n) (hn : n ≤ 8) (hd : d < 100) : pX3_isCustomer 1 (nI d) M = (if 1 ≤ d ∧ d ≤ n then 1 else 0) := by
  unfold pX3_isCustomer
  rw [h]
  by_cases c : 1 ≤ d ∧ d ≤ n
  · rw [if_neg (show ¬ nI d < 1 by show ¬ nI d < nI 1; rw [lt_nI] <;> omega), if_neg (show ¬ nI n < nI d by rw [lt_nI] <;> omega), if_pos c]
  · rw [if_neg c]
    by_cases c1 : d < 1
    · rw [if_pos (show nI d < 1 by show nI d < nI 1; rw [lt_nI] <;> omega)]
    · rw [if_neg (show ¬ nI d < 1 by show ¬ nI d < nI 1; rw [lt_nI] <;> omega), if_pos (show nI n < nI d by rw [lt_nI] <;> omega)]
theorem ly_cust {M : Mm} {n d : Nat} (h : M 1 0 = nI n) (hn : n ≤ 8) (hd : d < 100) : pX9_isCustomer (nI d) M = some (if 1 ≤ d ∧ d ≤ n then 1 else 0) := by
  unfold pX9_isCustomer
  rw [r_customers, h, Option.bind_some, show (1 : Int32) = nI 1 from rfl]
  by_cases c : 1 ≤ d ∧ d ≤ n
  · rw [isIn_nI c.1 c.2 (by omega), if_pos c]
    rfl
  · rw [if_neg c]
    by_cases c1 : d < 1
    · rw [isIn_lo_nI c1 (by omega)]
      rfl
    · rw [isIn_hi_nI (by omega) (by omega)]
      rfl
section ORD
variable {n : Nat}
theorem r_dup0 {k : Nat} {x3 : Int32} {M : Mm} (hn : n ≤ 8) : ∀ (c i fu : Nat), i + c = n + 1 → c < fu → itr (pX9_lays_L74 (nI n) x3 (nI k) M) fu (0, nI i) = some 0
  | 0, i, fu, hi, hfu => by
    obtain ⟨fu, rfl⟩ : ∃ g, fu = g + 1 := ⟨fu - 1, by omega⟩
    rw [itr_e]
    unfold pX9_lays_L74
    rw [if_pos (show nI n < nI i by rw [lt_nI] <;> omega)]
  | c + 1, i, fu, hi, hfu => by
    obtain ⟨fu, rfl⟩ : ∃ g, fu = g + 1 := ⟨fu - 1, by omega⟩
    rw [itr_s (s' := (0, nI (i + 1)))]
    · exact r_dup0 hn c (i + 1) fu (by omega) (by omega)
    · unfold pX9_lays_L74
      dsimp only
      rw [if_neg (show ¬ nI n < nI i by rw [lt_nI] <;> omega), if_pos rfl]
      simp (disch := omega) only [bnd_eq, Option.bind_some, lit_nI, nI_add, pk_mul, ald_nI, ast_nI, lt_nI, le_nI, eq_nI, sub_nI, Sum.elim_inl, Sum.elim_inr, if_pos, if_neg, if_true, if_false]
theorem r_dup1 {k : Nat} {x3 : Int32} {M : Mm} (hn : n ≤ 8) (hk : k ≤ 8) : ∀ (c i fu : Nat), i + c = n + 1 → c < fu → ∃ r : Int32, itr (pX9_lays_L74 (nI n) x3 (nI k) M) fu (1, nI i) = some r ∧ ((r = 1 ∧ ∀ k', i ≤ k' → k' ≤ n → M 13 k' ≠ M 13 k) ∨ (r = 0 ∧ ∃ k', i ≤ k' ∧ k' ≤ n ∧ M 13 k' = M 13 k))
  | 0, i, fu, hi, hfu => by
    obtain ⟨fu, rfl⟩ : ∃ g, fu = g + 1 := ⟨fu - 1, by omega⟩
    refine ⟨1, itr_e ?_, Or.inl ⟨rfl, fun k' h1 h2 => absurd h1 (by omega)⟩⟩
    unfold pX9_lays_L74
    rw [if_pos (show nI n < nI i by rw [lt_nI] <;> omega)]
  | c + 1, i, fu, hi, hfu => by
    obtain ⟨fu, rfl⟩ : ∃ g, fu = g + 1 := ⟨fu - 1, by omega⟩
    by_cases e : M 13 i = M 13 k
    · refine ⟨0, ?_, Or.inr ⟨rfl, i, by omega, by omega, e⟩⟩
      rw [itr_s (s' := (0, nI (i + 1)))]
      · exact r_dup0 hn c (i + 1) fu (by omega) (by omega)
      · unfold pX9_lays_L74
        dsimp only
        rw [if_neg (show ¬ nI n < nI i by rw [lt_nI] <;> omega), if_neg one_ne, ald_nI (by omega) (by omega), Option.bind_some, ald_nI (by omega) (by omega), Option.bind_some, if_pos e]
        simp (disch := omega) only [bnd_eq, Option.bind_some, lit_nI, nI_add, pk_mul, ald_nI, ast_nI, lt_nI, le_nI, eq_nI, sub_nI, Sum.elim_inl, Sum.elim_inr, if_pos, if_neg, if_true, if_false]
    · obtain ⟨r, e1, h⟩ := r_dup1 (k := k) (x3 := x3) (M := M) hn hk c (i + 1) fu (by omega) (by omega)
      refine ⟨r, ?_, ?_⟩
      · rw [itr_s (s' := (1, nI (i + 1)))]
        · exact e1
        · unfold pX9_lays_L74
          dsimp only
          rw [if_neg (show ¬ nI n < nI i by rw [lt_nI] <;> omega), if_neg one_ne, ald_nI (by omega) (by omega), Option.bind_some, ald_nI (by omega) (by omega), Option.bind_some, if_neg e]
          simp (disch := omega) only [bnd_eq, Option.bind_some, lit_nI, nI_add, pk_mul, ald_nI, ast_nI, lt_nI, le_nI, eq_nI, sub_nI, Sum.elim_inl, Sum.elim_inr, if_pos, if_neg, if_true, if_false]
      · rcases h with ⟨h1, h2⟩ | ⟨h1, k', h2, h3, h4⟩
        · refine Or.inl ⟨h1, fun k' a b => ?_⟩
          by_cases c' : k' = i
          · rw [c']; exact e
          · exact h2 k' (by omega) b
        · exact Or.inr ⟨h1, k', by omega, h3, h4⟩
/-- once it is none, it stays none -/
theorem r_lays0 (hn : n ≤ 8) : ∀ (k fu : Nat) (u : Int32) (M : Mm), k ≤ n → k < fu → ∃ (u' : Int32) (M' : Mm), itr (pX9_lays_L21 (nI n)) fu (u, 0, nI k, M) = some (u', 0, M') ∧ ∀ c, c ≠ 13 → M' c = M c
  | 0, fu, u, M, hk, hfu => by
    obtain ⟨fu, rfl⟩ : ∃ g, fu = g + 1 := ⟨fu - 1, by omega⟩
    refine ⟨u, M, itr_e ?_, fun _ _ => rfl⟩
    unfold pX9_lays_L21
    rw [if_pos (show nI 0 ≤ 0 by decide)]
  | k + 1, fu, u, M, hk, hfu => by
    obtain ⟨fu, rfl⟩ : ∃ g, fu = g + 1 := ⟨fu - 1, by omega⟩
    obtain ⟨u', M', e, g⟩ := r_lays0 hn k fu (u / 10) (mset M 13 (k + 1) (rmi u 10)) (by omega) (by omega)
    refine ⟨u', M', ?_, fun c hc => by rw [g c hc, mset_cell hc]⟩
    rw [itr_s (s' := (u / 10, 0, nI k, mset M 13 (k + 1) (rmi u 10)))]
    · exact e
    · unfold pX9_lays_L21
      dsimp only
      rw [if_neg (show ¬ nI (k + 1) ≤ 0 by show ¬ nI (k + 1) ≤ nI 0; rw [le_nI] <;> omega), ast_nI (by omega) (by omega), Option.bind_some, bnd_eq, if_pos rfl, Option.bind_some]
      simp only [Sum.elim_inl, bnd_eq]
      rw [show nI (k + 1) + 1 = nI (k + 1 + 1) from nI_add _ 1, r_dup0 hn (n - k - 1) (k + 1 + 1) fuel (by omega) (by unfold fuel; omega), Option.bind_some, nI_m1]
/-- both read on -/
theorem rd_loop (hn : n ≤ 8) : ∀ (k fu u sn : Nat) (A D : Mm), k ≤ n → k < fu → u < 2147483648 → sn < 512 → A 1 0 = nI n → D 1 0 = nI n → (∀ k', k < k' → k' ≤ n → ∃ d, 1 ≤ d ∧ d ≤ n ∧ A 22 k' = nI d ∧ D 13 k' = nI d) → (∀ c, c ≤ 8 → (sn.testBit c = true ↔ ∃ k', k < k' ∧ k' ≤ n ∧ D 13 k' = nI c)) → ∃ A' D', (∀ c, c ≠ 22 → A' c = A c) ∧ (∀ c, c ≠ 13 → D' c = D c) ∧ (∀ i, i = 0 ∨ n < i → A' 22 i = A 22 i) ∧ ((itr pX5_readOrder_L43 fu (nI u, nI sn, nI k, A) = some (.inr (0, A')) ∧ ∃ u' : Int32, itr (pX9_lays_L21 (nI n)) fu (nI u, 1, nI k, D) = some (u', 0, D')) ∨ ∃ u' : Int32, itr pX5_readOrder_L43 fu (nI u, nI sn, nI k, A) = some (.inl (u', A')) ∧ itr (pX9_lays_L21 (nI n)) fu (nI u, 1, nI k, D) = some (u', 1, D') ∧ ∀ k', 0 < k' → k' ≤ n → ∃ d, 1 ≤ d ∧ d ≤ n ∧ A' 22 k' = nI d ∧ D' 13 k' = nI d)
  | 0, fu, u, sn, A, D, hk, hfu, hu, hs, hA, hD, hO, hS => by
    obtain ⟨fu, rfl⟩ : ∃ g, fu = g + 1 := ⟨fu - 1, by omega⟩
    refine ⟨A, D, fun _ _ => rfl, fun _ _ => rfl, fun _ _ => rfl, Or.inr ⟨nI u, itr_e ?_, itr_e ?_, hO⟩⟩
    · unfold pX5_readOrder_L43
      rw [if_pos (by show nI 0 < 1; decide)]
    · unfold pX9_lays_L21
      rw [if_pos (by show nI 0 ≤ 0; decide)]
  | k + 1, fu, u, sn, A, D, hk, hfu, hu, hs, hA, hD, hO, hS => by
    obtain ⟨fu, rfl⟩ : ∃ g, fu = g + 1 := ⟨fu - 1, by omega⟩
    have e10 : rmi (nI u) 10 = nI (u % 10) := by
      unfold rmi
      exact pk_rem (d := 10) hu (by omega) (by omega)
    have q10 : nI u / 10 = nI (u / 10) := pk_div (d := 10) hu (by omega) (by omega)
    obtain ⟨d, hd⟩ : ∃ d, d = u % 10 := ⟨_, rfl⟩
    rw [← hd] at e10
    have hD6 : (mset D 13 (k + 1) (nI d)) 1 0 = nI n := by rw [mset_cell (by omega)]; exact hD
    have dup := r_dup1 (n := n) (k := k + 1) (x3 := nI (u / 10)) (M := mset D 13 (k + 1) (nI d)) hn (by omega) (n - k - 1) (k + 1 + 1) fuel (by omega) (by unfold fuel; omega)
    obtain ⟨rr, e1, hr⟩ := dup
    rw [mset_same] at hr
    have nar13 : ald (mset D 13 (k + 1) (nI d)) 13 10 (nI (k + 1)) = some (nI d) := by rw [ald_nI (by omega) (by omega), mset_same]
    -- the reference's step
    have st : pX9_lays_L21 (nI n) (nI u, 1, nI (k + 1), D) = some (.inl (nI (u / 10), (if 1 ≤ d ∧ d ≤ n then rr else 0), nI k, mset D 13 (k + 1) (nI d))) := by
      unfold pX9_lays_L21
      dsimp only
      rw [if_neg (show ¬ nI (k + 1) ≤ 0 by show ¬ nI (k + 1) ≤ nI 0; rw [le_nI] <;> omega), e10, ast_nI (by omega) (by omega), Option.bind_some, bnd_eq, q10, if_neg one_ne, nar13, Option.bind_some, ly_cust hD6 hn (by omega), Option.bind_some]
      by_cases c : 1 ≤ d ∧ d ≤ n
      · rw [if_pos c, if_neg one_ne, bnd_eq, show nI (k + 1) + 1 = nI (k + 1 + 1) from nI_add _ 1, e1, Option.bind_some, Option.bind_some, if_pos c, nI_m1]
        rfl
      · rw [if_neg c, if_pos rfl, Option.bind_some, if_neg c]
        simp only [Sum.elim_inl, bnd_eq]
        rw [show nI (k + 1) + 1 = nI (k + 1 + 1) from nI_add _ 1, r_dup0 hn (n - k - 1) (k + 1 + 1) fuel (by omega) (by unfold fuel; omega), Option.bind_some, nI_m1]
    by_cases c : 1 ≤ d ∧ d ≤ n
    · rw [if_pos c] at st
      by_cases ct : sn.testBit d = true
      · -- twice
        have : rr = 0 := by
          obtain ⟨k', g1, g2, g3⟩ := (hS d (by omega)).mp ct
          rcases hr with ⟨_, h2⟩ | ⟨h1, _⟩
          · exact absurd (by rw [mset_slot (by omega)]; exact g3) (h2 k' (by omega) g2)
          · exact h1
        rw [this] at st
        obtain ⟨u', M', e2, g2⟩ := r_lays0 hn k fu (nI (u / 10)) (mset D 13 (k + 1) (nI d)) (by omega) (by omega)
        refine ⟨A, M', fun _ _ => rfl, fun c hc => by rw [g2 c hc, mset_cell hc], fun _ _ => rfl, Or.inl ⟨itr_e ?_, u', by rw [itr_s st]; exact e2⟩⟩
        unfold pX5_readOrder_L43
        dsimp only
        rw [if_neg (show ¬ nI (k + 1) < 1 by show ¬ nI (k + 1) < nI 1; rw [lt_nI] <;> omega), e10, bnd_eq, rd_cust hA hn (by omega), if_pos c, if_neg one_ne, bq3 sn hs d (by omega), if_pos ct, if_pos rfl]
      · have rr1 : rr = 1 := by
          rcases hr with ⟨h1, _⟩ | ⟨_, k', g1, g2, g3⟩
          · exact h1
          · rw [mset_slot (by omega)] at g3
            exact absurd ((hS d (by omega)).mpr ⟨k', by omega, g2, g3⟩) ct
        rw [rr1] at st
        have sl : sn ||| 2 ^ d < 512 := Nat.or_lt_two_pow (n := 9) hs (Nat.pow_lt_pow_right (by omega) (by omega))
        obtain ⟨A', D', g1, g2, g3, g4⟩ := rd_loop hn k fu (u / 10) (sn ||| 2 ^ d) (mset A 22 (k + 1) (nI d)) (mset D 13 (k + 1) (nI d)) (by omega) (by omega) (by omega) sl (by rw [mset_cell (by omega)]; exact hA) hD6 (by
          intro k' h1 h2
          by_cases e : k' = k + 1
          · rw [e, mset_same, mset_same]
            exact ⟨d, c.1, c.2, rfl, rfl⟩
          · rw [mset_slot e, mset_slot e]
            exact hO k' (by omega) h2) (by
          intro c' hc'
          rw [fb_bit_set, Bool.or_eq_true, hS c' hc']
          constructor
          · rintro (⟨k', h1, h2, h3⟩ | h)
            · exact ⟨k', by omega, h2, by rw [mset_slot (by omega)]; exact h3⟩
            · refine ⟨k + 1, by omega, by omega, ?_⟩
              rw [mset_same, of_decide_eq_true h]
          · rintro ⟨k', h1, h2, h3⟩
            by_cases e : k' = k + 1
            · rw [e, mset_same, eq_nI (by omega) (by omega)] at h3
              exact Or.inr (decide_eq_true h3.symm)
            · rw [mset_slot e] at h3
              exact Or.inl ⟨k', by omega, h2, h3⟩)
        have sc : pX5_readOrder_L43 (nI u, nI sn, nI (k + 1), A) = some (.inl (nI (u / 10), nI (sn ||| 2 ^ d), nI k, mset A 22 (k + 1) (nI d))) := by
          unfold pX5_readOrder_L43
          dsimp only
          rw [if_neg (show ¬ nI (k + 1) < 1 by show ¬ nI (k + 1) < nI 1; rw [lt_nI] <;> omega), e10, bnd_eq, rd_cust hA hn (by omega), if_pos c, if_neg one_ne, bq3 sn hs d (by omega), if_neg ct, if_neg (by decide), bnd_eq, shl1 d (by omega), fa_or, ast_nI (by omega) (by omega), Option.bind_some, bnd_eq, q10, nI_m1]
        rw [itr_s st, itr_s sc]
        exact ⟨A', D', fun c hc => by rw [g1 c hc, mset_cell hc], fun c hc => by rw [g2 c hc, mset_cell hc], fun i hi => by rw [g3 i hi, mset_slot (by omega)], g4⟩
    · rw [if_neg c] at st
      obtain ⟨u', M', e2, g2⟩ := r_lays0 hn k fu (nI (u / 10)) (mset D 13 (k + 1) (nI d)) (by omega) (by omega)
      refine ⟨A, M', fun _ _ => rfl, fun c hc => by rw [g2 c hc, mset_cell hc], fun _ _ => rfl, Or.inl ⟨itr_e ?_, u', by rw [itr_s st]; exact e2⟩⟩
      unfold pX5_readOrder_L43
      dsimp only
      rw [if_neg (show ¬ nI (k + 1) < 1 by show ¬ nI (k + 1) < nI 1; rw [lt_nI] <;> omega), e10, bnd_eq, rd_cust hA hn (by omega), if_neg c, if_pos rfl]
/-- both read an order, or none -/
theorem order_c {M1 M2 : Mm} (h1 : M1 1 0 = nI n) (h2 : M2 1 0 = nI n) (hn : n ≤ 8) (x : Int32) : ∃ A' D', (∀ c, c ≠ 17 → c ≠ 22 → A' c = M1 c) ∧ (∀ c, c ≠ 13 → D' c = M2 c) ∧ ((pX5_readOrder x M1 = some (0, A') ∧ pX9_lays x M2 = some (0, D')) ∨ (pX5_readOrder x M1 = some (1, A') ∧ pX9_lays x M2 = some (1, D') ∧ A' 17 6 = nI (n + 1) ∧ ∃ o : Nat → Nat, (∀ k, o k ≤ n) ∧ (∀ k, 1 ≤ k → k ≤ n → 1 ≤ o k) ∧ ∀ k, k ≤ n + 1 → A' 22 k = nI (o k) ∧ D' 13 k = nI (o k))) := by
  obtain ⟨V, hV⟩ : ∃ V, V = mset (mset (mset M1 17 6 (nI (n + 1))) 22 0 0) 22 (n + 1) 0 := ⟨_, rfl⟩
  have v1 : V 1 0 = nI n := by rw [hV, mset_cell (by omega), mset_cell (by omega), mset_cell (by omega)]; exact h1
  have v17 : V 17 6 = nI (n + 1) := by rw [hV, mset_cell (by omega), mset_cell (by omega), mset_same]
  have vf : ∀ c, c ≠ 17 → c ≠ 22 → V c = M1 c := fun c a b => by rw [hV, mset_cell b, mset_cell b, mset_cell a]
  have v0 : V 22 0 = 0 := by rw [hV, mset_slot (by omega), mset_same]
  have vn : V 22 (n + 1) = 0 := by rw [hV, mset_same]
  have rd : pX5_readOrder x M1 = (itr (pX5_readOrder_L43) fuel (x, 0, nI n, V)).bind fun x15 => Sum.elim (fun yx15 => if yx15.1 = 0 then (some (1, yx15.2)) else (some (0, yx15.2))) (fun r => some r) x15 := by
    unfold pX5_readOrder
    rw [bnd_eq, show M1 1 0 + 1 = nI (n + 1) by rw [h1]; exact nI_add n 1, show (0 : Int32) = nI 0 from rfl, ast_nI (by omega) (by omega), Option.bind_some, mset_cell (by omega), mset_same, ast_nI (by omega) (by omega), Option.bind_some, bnd_eq]
    rw [show mset (mset (mset M1 17 6 (nI (n + 1))) 22 0 (nI 0)) 22 (n + 1) (nI 0) = V from hV.symm, v1]
  by_cases hx : x < 0
  · obtain ⟨u', M', e, g⟩ := r_lays0 (n := n) hn n fuel x M2 (by omega) (by unfold fuel; omega)
    refine ⟨V, mset (mset M' 13 0 0) 13 (n + 1) 0, vf, fun c hc => by rw [mset_cell hc, mset_cell hc, g c hc], Or.inl ⟨?_, ?_⟩⟩
    · rw [rd]
      by_cases c : n = 0
      · subst c
        rw [show fuel = 5999 + 1 from rfl, itr_e (r := .inl (x, V))]
        · rw [Option.bind_some]
          simp only [Sum.elim_inl]
          rw [if_neg (fun e => by rw [e] at hx; exact absurd hx (by decide))]
        · unfold pX5_readOrder_L43
          rw [if_pos (by show nI 0 < 1; decide)]
      · rw [show fuel = 5999 + 1 from rfl, itr_e (r := .inr (0, V))]
        · rfl
        · unfold pX5_readOrder_L43
          dsimp only
          have neg : rmi x 10 < 1 := by
            unfold rmi
            rw [fa_lt]
            have hx' : x.toInt < 0 := by rw [fa_lt] at hx; exact hx
            have a := rm_neg x hx'
            have : (1 : Int32).toInt = 1 := rfl
            omega
          have cst : pX3_isCustomer 1 (rmi x 10) V = 0 := by
            unfold pX3_isCustomer
            rw [if_pos neg]
          rw [if_neg (show ¬ nI n < 1 by show ¬ nI n < nI 1; rw [lt_nI] <;> omega), bnd_eq, cst, if_pos rfl]
    · unfold pX9_lays
      rw [r_customers, h2, Option.bind_some, bnd_eq, if_pos hx, e, Option.bind_some, show (0 : Int32) = nI 0 from rfl, ast_nI (by omega) (by omega), Option.bind_some, show nI n + 1 = nI (n + 1) from nI_add n 1, ast_nI (by omega) (by omega), Option.bind_some, if_pos rfl]
  · obtain ⟨v, hv, rfl⟩ := nI_of hx
    obtain ⟨A', D', g1, g2, g3, g4⟩ := rd_loop hn n fuel v 0 V M2 (by omega) (by unfold fuel; omega) hv (by omega) v1 h2 (fun k' a b => absurd a (by omega)) (fun c hc => by
      constructor
      · intro h
        simp at h
      · rintro ⟨k', a, b, _⟩
        omega)
    have ly : ∀ (u is : Int32), itr (pX9_lays_L21 (nI n)) fuel (nI v, 1, nI n, M2) = some (u, is, D') → pX9_lays (nI v) M2 = if is = 0 then some (0, mset (mset D' 13 0 0) 13 (n + 1) 0) else if u = 0 then some (1, mset (mset D' 13 0 0) 13 (n + 1) 0) else some (0, mset (mset D' 13 0 0) 13 (n + 1) 0) := by
      intro u is e
      unfold pX9_lays
      rw [r_customers, h2, Option.bind_some, bnd_eq, if_neg hx, e, Option.bind_some, show ∀ N : Mm, ast N 13 10 0 0 = some (mset N 13 0 0) from fun N => ast_nI (i := 0) (by omega) (by omega), Option.bind_some, show nI n + 1 = nI (n + 1) from nI_add n 1, ast_nI (by omega) (by omega), Option.bind_some]
    refine ⟨A', mset (mset D' 13 0 0) 13 (n + 1) 0, fun c a b => by rw [g1 c b, vf c a b], fun c hc => by rw [mset_cell hc, mset_cell hc, g2 c hc], ?_⟩
    rcases g4 with ⟨e1, u', e2⟩ | ⟨u', e1, e2, g5⟩
    · refine Or.inl ⟨?_, by rw [ly _ _ e2, if_pos rfl]⟩
      rw [rd, show (nI v, (0 : Int32), nI n, V) = (nI v, nI 0, nI n, V) from rfl, e1]
      rfl
    · by_cases cu : u' = 0
      · refine Or.inr ⟨?_, by rw [ly _ _ e2, if_neg one_ne, if_pos cu], by rw [g1 17 (by omega)]; exact v17, fun k => if 1 ≤ k ∧ k ≤ n then cl (A' 22 k) else 0, fun k => ?_, fun k a b => ?_, fun k hk => ?_⟩
        · rw [rd, show (nI v, (0 : Int32), nI n, V) = (nI v, nI 0, nI n, V) from rfl, e1, Option.bind_some]
          simp only [Sum.elim_inl]
          rw [if_pos cu]
        · dsimp only
          split
          · rename_i c
            obtain ⟨d, d1, d2, d3, d4⟩ := g5 k c.1 c.2
            rw [d3, cl_nI (by omega)]
            exact d2
          · omega
        · dsimp only
          obtain ⟨d, d1, d2, d3, d4⟩ := g5 k a b
          rw [if_pos ⟨a, b⟩, d3, cl_nI (by omega)]
          exact d1
        · dsimp only
          by_cases c : 1 ≤ k ∧ k ≤ n
          · obtain ⟨d, d1, d2, d3, d4⟩ := g5 k c.1 c.2
            rw [if_pos c, d3, cl_nI (by omega), mset_slot (by omega), mset_slot (by omega)]
            exact ⟨rfl, d4⟩
          · rw [if_neg c]
            have : k = 0 ∨ k = n + 1 := by omega
            rcases this with rfl | rfl
            · rw [g3 0 (by omega), v0, mset_slot (by omega), mset_same]
              exact ⟨rfl, rfl⟩
            · rw [g3 (n + 1) (by omega), vn, mset_same]
              exact ⟨rfl, rfl⟩
      · refine Or.inl ⟨?_, by rw [ly _ _ e2, if_neg one_ne, if_neg cu]⟩
        rw [rd, show (nI v, (0 : Int32), nI n, V) = (nI v, nI 0, nI n, V) from rfl, e1, Option.bind_some]
        simp only [Sum.elim_inl]
        rw [if_neg cu]
end ORD
