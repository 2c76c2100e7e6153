/-! PURE: split, wind -/
def OC (A0 A : Mm) : Prop := (∀ c, c < 17 ∨ 27 < c → A c = A0 c) ∧ A 17 6 = A0 17 6 ∧ A 22 = A0 22 ∧ A 23 0 = 0 ∧ A 24 0 = 0 ∧ A 25 0 = 0
section SPLIT
variable {n f : Nat} {o : Nat → Nat} {wx wy : Int32}
theorem end_c {A : Mm} (h1 : A 1 0 = nI n) (hn : n ≤ 8) (hB : LandB A) (hx : WB wx) (hy : WB wy) (hf : f ≤ 2) (h17 : A 17 6 = nI (n + 1)) (ho : ∀ k, o k ≤ n) (h22 : ∀ k, k ≤ n + 1 → A 22 k = nI (o k)) (hz : A 23 0 = 0 ∧ A 24 0 = 0 ∧ A 25 0 = 0) : ∃ A1 A2, pX5_prepare (nI f) wx wy A = some A1 ∧ pX5_fill 1 A1 = some A2 ∧ pX5_lastEnd A2 = some (nI (tab (zof (A 2) (A 3) wx wy f) o (n + 1) (n + 1)).1) ∧ OC A A2 ∧ CF A1 (A 2) (A 3) wx wy f n o (n + 1) A2 := by
  obtain ⟨A1, e1, g1, g2, g3⟩ := prep_c (f := f) h1 hn hB hx hy hf
  have cx : CX (A 2) (A 3) wx wy f n o A1 := g3 o A1 ho (fun _ _ _ => rfl) (fun _ _ _ => rfl) (by rw [g2]; exact h17) (fun k hk => by rw [g1 22 (by omega)]; exact h22 k hk)
  have cf : CF A1 (A 2) (A 3) wx wy f n o (1 - 1) A1 := by
    refine ⟨cx, fun k hk => ?_, fun b hb => ?_, fun _ _ => rfl, fun _ => rfl⟩
    · rw [show k = 0 by omega, g1 23 (by omega), hz.1]
      rfl
    · rw [show b = 0 by omega, g1 24 (by omega), hz.2.1, g1 (24 + 1) (by omega), hz.2.2]
      exact ⟨rfl, rfl, fun h => absurd h (by omega)⟩
  obtain ⟨A2, e2, h2⟩ := fill_c (a := 1) (by omega) (by omega) cf
  have fr := h2.2.2.2
  refine ⟨A1, A2, e1, e2, ?_, ⟨fun c hc => by rw [fr.1 c (by omega), g1 c (by omega)], by rw [fr.1 17 (by omega)]; exact g2, by rw [fr.1 22 (by omega), g1 22 (by omega)], by rw [fr.2 23, g1 23 (by omega)]; exact hz.1, by rw [fr.2 24, g1 24 (by omega)]; exact hz.2.1, by rw [fr.2 25, g1 25 (by omega)]; exact hz.2.2⟩, h2⟩
  unfold pX5_lastEnd
  rw [show A2 17 6 = nI (n + 1) from h2.1.2.2.2.2.2.2.2.2.1, ald_nI (by omega) (by omega), (h2.2.2.1 (n + 1) (by omega)).1, Option.bind_some]
theorem Rel_o {M1 M2 A D : Mm} (h : Rel M1 M2) (f1 : ∀ c, c < 17 ∨ 27 < c → A c = M1 c) (z : A 23 0 = 0 ∧ A 24 0 = 0 ∧ A 25 0 = 0) (f2 : D 1 = M2 1) (f3 : D 3 = M2 3) (f4 : D 0 = M2 0) : Rel A D := by
  have hz : M1 23 0 = 0 ∧ M1 24 0 = 0 ∧ M1 25 0 = 0 := by
    obtain ⟨n, r, s, t, hL, hB, hP, hT, hF, hC⟩ := h
    exact hC.2.2
  exact Rel_c h (by rw [f1 1 (by omega)]) (f1 2 (by omega)) (f1 3 (by omega)) (f1 4 (by omega)) (f1 5 (by omega)) (f1 6 (by omega)) (by rw [f1 29 (by omega)]) (f1 30 (by omega)) (by rw [f1 31 (by omega)]) (f1 39 (by omega)) (f1 40 (by omega)) f2 f3 (by rw [f4]) (by rw [f4]) ⟨by rw [z.1, hz.1], by rw [z.2.1, hz.2.1], by rw [z.2.2, hz.2.2]⟩
/-- what both hold once an order is read -/
theorem ord_rel {M1 N : Mm} (hR : Rel M1 N) (x : Int32) : ∃ n A D, Rel A D ∧ (∀ c, c ≠ 13 → D c = N c) ∧ (∀ c, c ≠ 17 → c ≠ 22 → A c = M1 c) ∧ ((pX5_readOrder x M1 = some (0, A) ∧ pX9_lays x N = some (0, D)) ∨ (pX5_readOrder x M1 = some (1, A) ∧ pX9_lays x N = some (1, D) ∧ n ≤ 8 ∧ A 1 0 = nI n ∧ A 17 6 = nI (n + 1) ∧ LandB A ∧ LandR n A D ∧ (A 23 0 = 0 ∧ A 24 0 = 0 ∧ A 25 0 = 0) ∧ ∃ o : Nat → Nat, (∀ k, o k ≤ n) ∧ (∀ k, 1 ≤ k → k ≤ n → 1 ≤ o k) ∧ ∀ k, k ≤ n + 1 → A 22 k = nI (o k) ∧ D 13 k = nI (o k))) := by
  have hR0 := hR
  obtain ⟨n, r, s, t, hL, hB, hP, hT, hF, hC⟩ := hR
  obtain ⟨A, D, f1, f2, h⟩ := order_c hL.2.1 hL.2.2.1 hL.1 x
  have hz := hC.2.2
  have z : A 23 0 = 0 ∧ A 24 0 = 0 ∧ A 25 0 = 0 := ⟨by rw [f1 23 (by omega) (by omega)]; exact hz.1, by rw [f1 24 (by omega) (by omega)]; exact hz.2.1, by rw [f1 25 (by omega) (by omega)]; exact hz.2.2⟩
  have rel : Rel A D := Rel_o hR0 (fun c hc => f1 c (by omega) (by omega)) z (f2 1 (by omega)) (f2 3 (by omega)) (f2 0 (by omega))
  refine ⟨n, A, D, rel, f2, f1, ?_⟩
  rcases h with h | ⟨h1, h2, h3, h4⟩
  · exact Or.inl h
  · exact Or.inr ⟨h1, h2, hL.1, by rw [f1 1 (by omega) (by omega)]; exact hL.2.1, h3, LandB_c hB (f1 2 (by omega) (by omega)) (f1 3 (by omega) (by omega)), LandR_c hL (by rw [f1 1 (by omega) (by omega)]) (f1 2 (by omega) (by omega)) (f1 3 (by omega) (by omega)) (fun i _ => by rw [f2 1 (by omega)]), z, h4⟩
theorem fill_t {A : Mm} (h1 : A 1 0 = nI n) (hn : n ≤ 8) (hB : LandB A) (h17 : A 17 6 = nI (n + 1)) (ho : ∀ k, o k ≤ n) (h22 : ∀ k, k ≤ n + 1 → A 22 k = nI (o k)) (hz : A 23 0 = 0 ∧ A 24 0 = 0 ∧ A 25 0 = 0) : ∃ A1 A2, pX8_fillTable A = some A2 ∧ pX5_lastEnd A2 = some (nI (tab (zof (A 2) (A 3) (A 3 2) (A 3 3) (cl (A 3 8))) o (n + 1) (n + 1)).1) ∧ OC A A2 ∧ CF A1 (A 2) (A 3) (A 3 2) (A 3 3) (cl (A 3 8)) n o (n + 1) A2 := by
  have sb := setB hB
  obtain ⟨v, v1, v2⟩ := sb.2.2.2.2.2.2.1
  have e8 : A 3 8 = nI (cl (A 3 8)) := by rw [v2, cl_nI (by omega)]
  have c2 : cl (A 3 8) ≤ 2 := by rw [v2, cl_nI (by omega)]; exact v1
  obtain ⟨A1, A2, e1, e2, e3, e4, e5⟩ := end_c (f := cl (A 3 8)) h1 hn hB sb.2.2.2.2.2.2.2.2.1 sb.2.2.2.2.2.2.2.2.2 c2 h17 ho h22 hz
  refine ⟨A1, A2, ?_, e3, e4, e5⟩
  unfold pX8_fillTable
  rw [show pX3_setting 1 8 A = some (A 3 8) from c_setting (i := 8) (by omega), Option.bind_some, show pX3_setting 1 2 A = some (A 3 2) from c_setting (i := 2) (by omega), Option.bind_some, show pX3_setting 1 3 A = some (A 3 3) from c_setting (i := 3) (by omega), Option.bind_some]
  conv => lhs; arg 1; rw [e8]
  rw [e1, Option.bind_some, e2, Option.bind_some]
theorem rx_land {A D : Mm} (hL : LandR n A D) (hB : LandB A) (ho : ∀ k, o k ≤ n) (h13 : ∀ k, k ≤ n + 1 → D 13 k = nI (o k)) : RX (A 2) (A 3) (A 3 2) (A 3 3) n o D := by
  have sb := setB hB
  exact ⟨⟨A, hL.w, hB, rfl, rfl⟩, sb.2.2.2.2.2.2.2.2.1, sb.2.2.2.2.2.2.2.2.2, ho, h13⟩
theorem of_8 {A D : Mm} (hL : LandR n A D) (hB : LandB A) : pX9_of 8 D = some (nI (cl (A 3 8))) ∧ cl (A 3 8) ≤ 2 := by
  obtain ⟨v, v1, v2⟩ := (setB hB).2.2.2.2.2.2.1
  rw [show pX9_of 8 D = _ from r_of (i := 8) (by omega), hL.2.2.2.2 8 (by omega), v2, cl_nI (by omega)]
  exact ⟨rfl, v1⟩
theorem pr_split : PR_split Rel := by
  intro M1 M2 x hR
  replace hR := Rel_t hR 0
  unfold pX8_split pX9_split
  simp only [bnd_eq]
  generalize mset M2 0 0 0 = N at hR ⊢
  obtain ⟨n, A, D, rel, f2, f1, h | ⟨h1, h2, hn, a1, a17, hB, hL, hz, o, ho, ho1, h22⟩⟩ := ord_rel hR x
  · rw [h.1, h.2, Option.bind_some, Option.bind_some, if_pos rfl, if_pos rfl]
    exact ⟨_, _, _, rfl, rfl, rel⟩
  · obtain ⟨A1, A2, e1, e2, e3, e4⟩ := fill_t a1 hn hB a17 ho (fun k hk => (h22 k hk).1) hz
    obtain ⟨D2, k1, k2, k3, k4⟩ := splits_r (f := cl (A 3 8)) (rx_land hL hB ho (fun k hk => (h22 k hk).2)) (of_8 hL hB).2
    rw [h1, h2, Option.bind_some, Option.bind_some, if_neg one_ne, if_neg one_ne, e1, Option.bind_some, e2, Option.bind_some, (of_8 hL hB).1, Option.bind_some, k1, Option.bind_some]
    refine ⟨_, _, _, rfl, rfl, ?_⟩
    exact Rel_o rel e3.1 e3.2.2.2 (k4 1 (by omega) (by omega) (by omega)) (k4 3 (by omega) (by omega) (by omega)) (k4 0 (by omega) (by omega) (by omega))
/-! winds -/
theorem wnd_b : ∀ w, w < 9 → WB (rmi (nI w) 3 - 1) ∧ WB (nI w / 3 - 1) := by
  unfold WB
  decide +kernel
def wndE (A : Mm) (n : Nat) (o : Nat → Nat) (w : Nat) : Nat := (tab (zof (A 2) (A 3) (rmi (nI w) 3 - 1) (nI w / 3 - 1) (cl (A 3 8))) o (n + 1) (n + 1)).1
theorem ebw_c {A0 A : Mm} {w : Nat} (h1 : A0 1 0 = nI n) (hn : n ≤ 8) (hB : LandB A0) (h17 : A0 17 6 = nI (n + 1)) (ho : ∀ k, o k ≤ n) (h22 : ∀ k, k ≤ n + 1 → A0 22 k = nI (o k)) (hw : w < 9) (h : OC A0 A) : ∃ A2, pX8_endByWind (nI w) A = some (nI (wndE A0 n o w), A2) ∧ OC A0 A2 := by
  obtain ⟨g1, g2, g3, g4⟩ := h
  have hB' : LandB A := LandB_c hB (g1 2 (by omega)) (g1 3 (by omega))
  obtain ⟨v, v1, v2⟩ := (setB hB').2.2.2.2.2.2.1
  have e8 : A 3 8 = nI (cl (A 3 8)) := by rw [v2, cl_nI (by omega)]
  have c2 : cl (A 3 8) ≤ 2 := by rw [v2, cl_nI (by omega)]; exact v1
  obtain ⟨A1, A2, e1, e2, e3, e4, e5⟩ := end_c (f := cl (A 3 8)) (o := o) (by rw [g1 1 (by omega)]; exact h1) hn hB' (wnd_b w hw).1 (wnd_b w hw).2 c2 (by rw [g2]; exact h17) ho (fun k hk => by rw [g3]; exact h22 k hk) g4
  refine ⟨A2, ?_, ⟨fun c hc => by rw [e4.1 c hc, g1 c hc], by rw [e4.2.1, g2], by rw [e4.2.2.1, g3], e4.2.2.2⟩⟩
  unfold pX8_endByWind
  rw [show pX3_setting 1 8 A = some (A 3 8) from c_setting (i := 8) (by omega), Option.bind_some, e8, e1, Option.bind_some, e2, Option.bind_some, e3, Option.bind_some]
  unfold wndE
  rw [g1 2 (by omega), g1 3 (by omega)]
theorem sby_r {A0 D0 D : Mm} {w : Nat} (hB : LandB A0) (hL : LandR n A0 D0) (ho : ∀ k, o k ≤ n) (h13 : ∀ k, k ≤ n + 1 → D0 13 k = nI (o k)) (hw : w < 9) (h : FrR D0 D) : ∃ D2, pX9_splitBy (nI w) D = some (nI (wndE A0 n o w), D2) ∧ FrR D0 D2 := by
  have d1 : D 1 = D0 1 := h 1 (by omega) (by omega) (by omega)
  obtain ⟨V, hV⟩ : ∃ V, V = mset (mset D 1 52 (rmi (nI w) 3 - 1)) 1 53 (nI w / 3 - 1) := ⟨_, rfl⟩
  have v1 : ∀ i, V 1 i = if i = 53 then nI w / 3 - 1 else if i = 52 then rmi (nI w) 3 - 1 else D0 1 i := by
    intro i
    rw [hV, mset_get, mset_get, d1]
    by_cases c : i = 53
    · rw [if_pos ⟨rfl, c⟩, if_pos c]
    · rw [if_neg (fun g => c g.2), if_neg c]
      by_cases c2 : i = 52
      · rw [if_pos ⟨rfl, c2⟩, if_pos c2]
      · rw [if_neg (fun g => c2 g.2), if_neg c2]
  have vf : ∀ c, c ≠ 1 → V c = D c := fun c hc => by rw [hV, mset_cell hc, mset_cell hc]
  have hW : LandW n A0 V (rmi (nI w) 3 - 1) (nI w / 3 - 1) := by
    obtain ⟨l1, l2, l3, l4, l5⟩ := hL
    refine ⟨l1, l2, ?_, fun i hi => ?_, fun i hi h2 h3 => ?_, ?_, ?_⟩
    · rw [v1, if_neg (by omega), if_neg (by omega)]; exact l3
    · rw [v1, if_neg (by omega), if_neg (by omega)]; exact l4 i hi
    · rw [v1, if_neg (by omega), if_neg (by omega)]; exact l5 i hi
    · rw [v1, if_neg (by omega), if_pos rfl]
    · rw [v1, if_pos rfl]
  have rx : RX (A0 2) (A0 3) (rmi (nI w) 3 - 1) (nI w / 3 - 1) n o V := ⟨⟨A0, hW, hB, rfl, rfl⟩, (wnd_b w hw).1, (wnd_b w hw).2, ho, fun k hk => by rw [vf 13 (by omega), h 13 (by omega) (by omega) (by omega)]; exact h13 k hk⟩
  obtain ⟨v, w1, w2⟩ := (setB hB).2.2.2.2.2.2.1
  have c2 : cl (A0 3 8) ≤ 2 := by rw [w2, cl_nI (by omega)]; exact w1
  have e8 : pX9_of 8 V = some (nI (cl (A0 3 8))) := by
    rw [show pX9_of 8 V = _ from rz_of rx (i := 8) (by omega) (by omega) (by omega), w2, cl_nI (by omega)]
  obtain ⟨D2, k1, k2, k3, k4⟩ := splits_r (f := cl (A0 3 8)) rx c2
  refine ⟨mset (mset D2 1 52 (D 1 52)) 1 53 (D 1 53), ?_, ?_⟩
  · unfold pX9_splitBy
    rw [show pX9_of 2 D = some (D 1 52) from r_of (i := 2) (by omega), Option.bind_some, show pX9_of 3 D = some (D 1 53) from r_of (i := 3) (by omega), Option.bind_some, show (52 : Int32) = nI 52 from rfl, show (53 : Int32) = nI 53 from rfl, ast_nI (by omega) (by omega), Option.bind_some, ast_nI (by omega) (by omega), Option.bind_some, ← hV, e8, Option.bind_some, k1, Option.bind_some, bnd_eq, ast_nI (by omega) (by omega), Option.bind_some, ast_nI (by omega) (by omega), Option.bind_some]
    rfl
  · intro c h8 h9 hc
    by_cases c1 : c = 1
    · subst c1
      funext i
      have k := k4 1 (by omega) (by omega) (by omega)
      rw [mset_get, mset_get, k, v1, d1]
      by_cases i3 : i = 53
      · rw [if_pos ⟨rfl, i3⟩, i3]
      · rw [if_neg (fun g => i3 g.2), if_neg i3]
        by_cases i2 : i = 52
        · rw [if_pos ⟨rfl, i2⟩, i2]
        · rw [if_neg (fun g => i2 g.2), if_neg i2]
    · rw [mset_cell c1, mset_cell c1, k4 c h8 h9 hc, vf c c1, h c h8 h9 hc]
theorem wnd_best {A0 D0 : Mm} (h1 : A0 1 0 = nI n) (hn : n ≤ 8) (hB : LandB A0) (h17 : A0 17 6 = nI (n + 1)) (ho : ∀ k, o k ≤ n) (h22 : ∀ k, k ≤ n + 1 → A0 22 k = nI (o k)) (hL : LandR n A0 D0) (h13 : ∀ k, k ≤ n + 1 → D0 13 k = nI (o k)) (hlt : ∀ w, w < 9 → wndE A0 n o w < 2147483648) : ∀ (c w fu b : Nat) (A D : Mm), w + c = 9 → b < 9 → OC A0 A → FrR D0 D → c < fu → ∃ (b' : Int32) (A' D' : Mm), itr pX8_bestWind_L10 fu (nI b, nI (wndE A0 n o b), nI w, A) = some (b', A') ∧ itr pX9_wind_L41 fu (nI b, nI w, D) = some (b', D') ∧ OC A0 A' ∧ FrR D0 D'
  | 0, w, fu, b, A, D, hw, hb, hA, hD, hfu => by
    obtain ⟨fu, rfl⟩ : ∃ g, fu = g + 1 := ⟨fu - 1, by omega⟩
    refine ⟨nI b, A, D, itr_e ?_, itr_e ?_, hA, hD⟩
    · unfold pX8_bestWind_L10
      rw [if_pos (show (9 : Int32) ≤ nI w by show nI 9 ≤ nI w; rw [le_nI] <;> omega)]
    · unfold pX9_wind_L41
      rw [if_pos (show (9 : Int32) ≤ nI w by show nI 9 ≤ nI w; rw [le_nI] <;> omega)]
  | c + 1, w, fu, b, A, D, hw, hb, hA, hD, hfu => by
    obtain ⟨fu, rfl⟩ : ∃ g, fu = g + 1 := ⟨fu - 1, by omega⟩
    obtain ⟨A2, e1, a2⟩ := ebw_c h1 hn hB h17 ho h22 (show w < 9 by omega) hA
    obtain ⟨D2, e2, d2⟩ := sby_r hB hL ho h13 (show w < 9 by omega) hD
    obtain ⟨D3, e3, d3⟩ := sby_r hB hL ho h13 hb d2
    by_cases cc : wndE A0 n o b ≤ wndE A0 n o w
    · obtain ⟨b', A', D', g1, g2, g3, g4⟩ := wnd_best h1 hn hB h17 ho h22 hL h13 hlt c (w + 1) fu b A2 D3 (by omega) hb a2 d3 (by omega)
      refine ⟨b', A', D', ?_, ?_, g3, g4⟩
      · rw [itr_s (s' := (nI b, nI (wndE A0 n o b), nI (w + 1), A2))]
        · exact g1
        · unfold pX8_bestWind_L10
          dsimp only
          rw [if_neg (show ¬ (9 : Int32) ≤ nI w by show ¬ nI 9 ≤ nI w; rw [le_nI] <;> omega), e1, Option.bind_some, bnd_eq, if_pos (by show nI _ ≤ nI _; rw [le_nI (hlt _ (by omega)) (hlt _ (by omega))]; exact cc)]
          simp (disch := omega) only [bnd_eq, Option.bind_some, lit_nI, nI_add, pk_mul, ald_nI, ast_nI, lt_nI, le_nI, eq_nI, sub_nI, Sum.elim_inl, Sum.elim_inr, if_pos, if_neg, if_true, if_false]
      · rw [itr_s (s' := (nI b, nI (w + 1), D3))]
        · exact g2
        · unfold pX9_wind_L41
          dsimp only
          rw [if_neg (show ¬ (9 : Int32) ≤ nI w by show ¬ nI 9 ≤ nI w; rw [le_nI] <;> omega), e2, Option.bind_some, e3, Option.bind_some, if_pos (by show nI _ ≤ nI _; rw [le_nI (hlt _ (by omega)) (hlt _ (by omega))]; exact cc)]
          simp (disch := omega) only [bnd_eq, Option.bind_some, lit_nI, nI_add, pk_mul, ald_nI, ast_nI, lt_nI, le_nI, eq_nI, sub_nI, Sum.elim_inl, Sum.elim_inr, if_pos, if_neg, if_true, if_false]
    · obtain ⟨b', A', D', g1, g2, g3, g4⟩ := wnd_best h1 hn hB h17 ho h22 hL h13 hlt c (w + 1) fu w A2 D3 (by omega) (by omega) a2 d3 (by omega)
      refine ⟨b', A', D', ?_, ?_, g3, g4⟩
      · rw [itr_s (s' := (nI w, nI (wndE A0 n o w), nI (w + 1), A2))]
        · exact g1
        · unfold pX8_bestWind_L10
          dsimp only
          rw [if_neg (show ¬ (9 : Int32) ≤ nI w by show ¬ nI 9 ≤ nI w; rw [le_nI] <;> omega), e1, Option.bind_some, bnd_eq, if_neg (by show ¬ nI _ ≤ nI _; rw [le_nI (hlt _ (by omega)) (hlt _ (by omega))]; exact cc)]
          simp (disch := omega) only [bnd_eq, Option.bind_some, lit_nI, nI_add, pk_mul, ald_nI, ast_nI, lt_nI, le_nI, eq_nI, sub_nI, Sum.elim_inl, Sum.elim_inr, if_pos, if_neg, if_true, if_false]
      · rw [itr_s (s' := (nI w, nI (w + 1), D3))]
        · exact g2
        · unfold pX9_wind_L41
          dsimp only
          rw [if_neg (show ¬ (9 : Int32) ≤ nI w by show ¬ nI 9 ≤ nI w; rw [le_nI] <;> omega), e2, Option.bind_some, e3, Option.bind_some, if_neg (by show ¬ nI _ ≤ nI _; rw [le_nI (hlt _ (by omega)) (hlt _ (by omega))]; exact cc)]
          simp (disch := omega) only [bnd_eq, Option.bind_some, lit_nI, nI_add, pk_mul, ald_nI, ast_nI, lt_nI, le_nI, eq_nI, sub_nI, Sum.elim_inl, Sum.elim_inr, if_pos, if_neg, if_true, if_false]
theorem wndE_lt {A0 : Mm} (hB : LandB A0) (hn : n ≤ 8) (ho : ∀ k, o k ≤ n) : ∀ w, w < 9 → wndE A0 n o w < 2147483648 := by
  intro w hw
  have c2 : cl (A0 3 8) ≤ 2 := by
    obtain ⟨v, w1, w2⟩ := (setB hB).2.2.2.2.2.2.1
    rw [w2, cl_nI (by omega)]
    exact w1
  have bz := bz_land hB (wnd_b w hw).1 (wnd_b w hw).2 c2
  have := (tab_ok (Z := zof (A0 2) (A0 3) (rmi (nI w) 3 - 1) (nI w / 3 - 1) (cl (A0 3 8))) (o := o) (fun k => bz.1 _ _ (Nat.le_trans (ho _) hn) (Nat.le_trans (ho _) hn)) (n + 1) (n + 1) (by omega)).1.1
  unfold wndE
  omega
end SPLIT
