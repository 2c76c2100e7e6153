/-! PURE: take -/
theorem pr_take : PR_take Rel := by
  intro M1 M2 x hR
  replace hR := Rel_t hR 0
  unfold pX8_take pX9_take
  rw [bnd_eq]
  generalize mset M2 0 0 0 = N at hR ⊢
  obtain ⟨n, A, D, rel, f2, f1, h | ⟨h1, h2, hn, a1, a17, hB, hL, hz, o, ho, ho1, h22⟩⟩ := ord_rel hR x
  · rw [h.1, h.2, Option.bind_some, Option.bind_some, if_pos rfl, if_pos rfl]
    exact ⟨_, _, _, rfl, rfl, rel⟩
  · obtain ⟨A1, A2, e1, e2, e3, e4⟩ := fill_t a1 hn hB a17 ho (fun k hk => (h22 k hk).1) hz
    obtain ⟨D2, k1, k2, k3, k4⟩ := splits_r (f := cl (A 3 8)) (rx_land hL hB ho (fun k hk => (h22 k hk).2)) (of_8 hL hB).2
    have sb := setB hB
    have bz := bz_land hB sb.2.2.2.2.2.2.2.2.1 sb.2.2.2.2.2.2.2.2.2 (of_8 hL hB).2
    have o8 : ∀ k, o k ≤ 8 := fun k => Nat.le_trans (ho k) hn
    obtain ⟨T, hT⟩ : ∃ T, T = tab (zof (A 2) (A 3) (A 3 2) (A 3 3) (cl (A 3 8))) o (n + 1) := ⟨_, rfl⟩
    have tc : TC n T := by
      refine ⟨fun k a b => ?_, ?_⟩
      · rw [hT]
        exact (tab_ok (Z := zof (A 2) (A 3) (A 3 2) (A 3 3) (cl (A 3 8))) (o := o) (fun k => bz.1 _ _ (o8 _) (o8 _)) (n + 1) k b).2 a
      · rw [hT, tab_stable _ _ _ 0 (by omega)]
        rfl
    have rc := e4.2.2.1
    rw [← hT] at rc k1 k3
    have lt : (T (n + 1)).1 < 2147483648 := by
      have := (tc.1 (n + 1) (by omega) (by omega)).1
      omega
    obtain ⟨m0, c1, c0, c2, c3⟩ := ch_end tc
    have z17 : A2 17 6 = nI (n + 1) := by rw [e3.2.1]; exact a17
    -- the class links
    obtain ⟨A3, l1, l2⟩ := c_link0 (T := T) hn z17 (n + 2) 0 fuel A2 (by omega) (fun _ _ => rfl) (fun k hk => absurd hk (by omega)) (by unfold fuel; omega)
    obtain ⟨A4, l3, l4⟩ := c_link (T := T) tc hn (B := A2) (fun k a b => ((rc k (by omega)).2.2 a).1) c1 c2 c3 m0 0 fuel A3 (by omega) l2 (by unfold fuel; omega)
    -- the reference marks
    obtain ⟨D3, p1, p2⟩ := r_mark0 (T := T) hn (x2 := nI (T (n + 1)).1) (n + 2) 0 fuel D2 (by omega) (fun _ _ => rfl) (fun k hk => absurd hk (by omega)) (by unfold fuel; omega)
    obtain ⟨D4, p3, p4⟩ := r_mark (T := T) tc hn (B := D2) (x2 := nI (T (n + 1)).1) (x3 := nI (n + 1)) (fun k a b => ((k3 k (by omega)).2.2 a).1) c1 c2 c3 m0 0 fuel D3 (by omega) p2 (by unfold fuel; omega)
    obtain ⟨A5, hA5⟩ : ∃ V, V = mset (mset A4 4 0 0) 4 1 0 := ⟨_, rfl⟩
    obtain ⟨D5, hD5⟩ : ∃ V, V = mset (mset D4 1 60 0) 1 70 0 := ⟨_, rfl⟩
    have a5 : ∀ c, c ≠ 4 → A5 c = A4 c := fun c hc => by rw [hA5, mset_cell hc, mset_cell hc]
    have d5 : ∀ c, c ≠ 1 → D5 c = D4 c := fun c hc => by rw [hD5, mset_cell hc, mset_cell hc]
    have d51 : ∀ i, i ≠ 60 → i ≠ 70 → D5 1 i = D4 1 i := fun i h6 h7 => by rw [hD5, mset_slot h7, mset_slot h6]
    have a42 : ∀ c, c < 17 ∨ (27 < c ∧ c ≠ 28) → A4 c = A c := fun c hc => by rw [l4.2.2 c (by omega), e3.1 c (by omega)]
    have d41 : D4 1 = D 1 := by rw [p4.2.2 1 (by omega), k4 1 (by omega) (by omega) (by omega)]
    obtain ⟨n', r, s, t, hL', hB', hP', hT', hF', hC'⟩ := rel
    have nn : n' = n := by
      have := hL'.2.1
      rw [a1, eq_nI (by omega) (by have := hL'.1; omega)] at this
      exact this.symm
    subst nn
    have hP2 := hP'
    obtain ⟨q1, q2, q3, q4, q5, q6, q7, q8, q9, q10⟩ := hP2
    have rr : RowRel n' 0 A5 D5 := by
      refine ⟨by omega, ?_, ?_, fun i hi => ?_, fun i hi => absurd hi (by omega)⟩
      · rw [hA5, mset_slot (by omega), mset_same]
        rfl
      · rw [hD5, mset_slot (by omega), mset_same]
        rfl
      · rw [d51 _ (by omega) (by omega), d41, a5 5 (by omega), a42 5 (by omega)]
        exact q7 i hi
    have sr : SorRel n' 0 A5 D5 := by
      refine ⟨by omega, ?_, ?_, fun i hi => ?_, fun i hi => absurd hi (by omega)⟩
      · rw [hA5, mset_same]
        rfl
      · rw [hD5, mset_same]
        rfl
      · rw [d51 _ (by omega) (by omega), d41, a5 6 (by omega), a42 6 (by omega)]
        exact q8 i hi
    have a22' : ∀ k, k ≤ n' + 1 → A5 22 k = nI (o k) ∧ D5 13 k = nI (o k) := fun k hk => by
      rw [a5 22 (by omega), l4.2.2 22 (by omega), e3.2.2.1, d5 13 (by omega), p4.2.2 13 (by omega), k4 13 (by omega) (by omega) (by omega)]
      exact h22 k hk
    obtain ⟨A6, D6, r', s', w1, w2, w3, w4, w5⟩ := t_walk (A0 := A5) (D0 := D5) (o := o) (x2 := nI (T (n' + 1)).1) tc hn (fun k a b => ⟨ho1 k a b, ho k⟩) a22' (by rw [d51 0 (by omega) (by omega), d41]; exact hL'.2.2.1) (fun j a b => by
      rw [a5 27 (by omega), l4.2.2 27 (by omega), d5 17 (by omega), p4.2.2 17 (by omega)]
      exact ⟨((rc j (by omega)).2.2 a).2, ((k3 j (by omega)).2.2 a).2⟩) (by rw [a5 17 (by omega), l4.2.2 17 (by omega)]; exact z17) c3 ⟨fun k hk => by rw [a5 28 (by omega)]; exact l4.1 k hk, fun i hi hk => by rw [a5 28 (by omega)]; exact l4.2.1 i hi hk⟩ ⟨fun k hk => by rw [d5 18 (by omega)]; exact p4.1 k hk, fun i hi hk => by rw [d5 18 (by omega)]; exact p4.2.1 i hi hk⟩ m0 0 0 fuel fuel A5 D5 (by omega) rr sr ⟨fun _ _ => rfl, fun _ _ => rfl, fun _ _ => rfl⟩ (fun _ => by rw [c2]) (by unfold fuel; omega) (by unfold fuel; omega)
    rw [c2] at w1 w2
    have wp : pX5_writePlan A2 = some A6 := by
      unfold pX5_writePlan pX5_linkBlocks
      rw [show itr pX5_linkBlocks_L2 fuel (0, A2) = _ from l1, Option.bind_some, bnd_eq, show A3 17 6 = nI (chs T (n' + 1) 0) by rw [l2.2.2 17 (by omega)]; exact z17, show itr pX5_linkBlocks_L30 fuel (nI (chs T (n' + 1) 0), 0, A3) = _ from l3, Option.bind_some, Option.bind_some, bnd_eq]
      unfold pX4_empty
      rw [bnd_eq, bnd_eq, ← hA5, show itr pX5_writePlan_L10 fuel (0, A5) = _ from w1, Option.bind_some]
    have cl : pX9_clears D4 = some D5 := by
      unfold pX9_clears
      rw [show ∀ N : Mm, ast N 1 160 60 0 = some (mset N 1 60 0) from fun N => ast_nI (i := 60) (by omega) (by omega), Option.bind_some, show ∀ N : Mm, ast N 1 160 70 0 = some (mset N 1 70 0) from fun N => ast_nI (i := 70) (by omega) (by omega), Option.bind_some, hD5]
    have cu : pX9_customers D2 = some (nI n') := by rw [r_customers, k4 1 (by omega) (by omega) (by omega), hL'.2.2.1]
    rw [h1, h2, Option.bind_some, Option.bind_some, if_neg one_ne, if_neg one_ne, e1, Option.bind_some, wp, Option.bind_some, (of_8 hL hB).1, Option.bind_some, k1, Option.bind_some, bnd_eq, cu, Option.bind_some, bnd_eq, show nI n' + 1 = nI (n' + 1) from nI_add n' 1, show itr (pX9_take_L36 (nI (T (n' + 1)).1) (nI (n' + 1))) fuel (0, D2) = _ from p1, Option.bind_some, show itr (pX9_take_L59 (nI (T (n' + 1)).1) (nI (n' + 1))) fuel (nI (n' + 1), D3) = _ from p3, Option.bind_some, cl, Option.bind_some, show itr (pX9_take_L94 (nI (T (n' + 1)).1) (nI (n' + 1))) fuel (0, 1, D5) = _ from w2, Option.bind_some, if_neg (ne_nI lt), r_sorties, w4.2.2.1, w4.2.1, Option.bind_some]
    refine ⟨_, _, _, rfl, rfl, ?_⟩
    have g6 : ∀ c, c < 4 ∨ (6 < c ∧ c < 17) ∨ 28 < c → A6 c = A c := fun c hc => by rw [w5.1 c (by omega), a5 c (by omega), a42 c (by omega)]
    have gz : ∀ c, 22 < c → c < 28 → A6 c = A2 c := fun c h1 h2 => by rw [w5.1 c (by omega), a5 c (by omega), l4.2.2 c (by omega)]
    have hd : ∀ c, c ≠ 1 → c ≠ 18 → c ≠ 8 → c ≠ 9 → (c < 14 ∨ 17 < c) → D6 c = D c := fun c h1 h2 h3 h4 h5 => by rw [w5.2.1 c h1, d5 c h1, p4.2.2 c h2, k4 c h3 h4 h5]
    have hd1 : ∀ i, i < 60 → D6 1 i = D 1 i := fun i hi => by rw [w5.2.2 i hi, d51 i (by omega) (by omega), d41]
    obtain ⟨x1, x2, x3, x4, x5⟩ := w3
    obtain ⟨y1, y2, y3, y4, y5⟩ := w4
    refine ⟨n', r', s', t, LandR_c hL' (by rw [g6 1 (by omega)]) (g6 2 (by omega)) (g6 3 (by omega)) hd1, LandB_c hB' (g6 2 (by omega)) (g6 3 (by omega)), ⟨x1, y1, x2, y2, x3, y3, x4, y4, x5, y5⟩, TapeR_c hT' (by rw [g6 29 (by omega)]) (g6 30 (by omega)) (by rw [hd 0 (by omega) (by omega) (by omega) (by omega) (by omega)]) (hd 3 (by omega) (by omega) (by omega) (by omega) (by omega)), by rw [hd 0 (by omega) (by omega) (by omega) (by omega) (by omega), g6 31 (by omega)]; exact hF', CacheR_c hC' (by rw [g6 1 (by omega)]) (g6 2 (by omega)) (g6 3 (by omega)) (g6 39 (by omega)) (g6 40 (by omega)) ⟨?_, ?_, ?_⟩⟩
    · rw [gz 23 (by omega) (by omega), e3.2.2.2.1, hz.1]
    · rw [gz 24 (by omega) (by omega), e3.2.2.2.2.1, hz.2.1]
    · rw [gz 25 (by omega) (by omega), e3.2.2.2.2.2, hz.2.2]
