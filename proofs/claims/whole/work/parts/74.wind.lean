/-! PURE: wind -/
theorem pr_wind : PR_wind Rel := by
  intro M1 M2 x y hR
  replace hR := Rel_t hR 0
  unfold pX8_wind pX9_wind
  simp only [bnd_eq]
  generalize mset M2 0 0 0 = N at hR ⊢
  by_cases c1 : y < -1
  · rw [if_pos c1, isIn_lo c1, if_pos rfl]
    exact ⟨_, _, _, rfl, rfl, hR⟩
  rw [if_neg c1]
  by_cases c2 : 9 ≤ y
  · have c3 : 8 < y := by
      rw [fa_le] at c2
      rw [fa_lt]
      have : (9 : Int32).toInt = 9 := rfl
      have : (8 : Int32).toInt = 8 := rfl
      omega
    rw [if_pos c2, isIn_hi c3, if_pos rfl]
    exact ⟨_, _, _, rfl, rfl, hR⟩
  have c3 : ¬ (8 : Int32) < y := by
    rw [fa_le] at c2
    rw [fa_lt]
    have : (9 : Int32).toInt = 9 := rfl
    have : (8 : Int32).toInt = 8 := rfl
    omega
  rw [if_neg c2, isIn_in c1 c3, if_neg one_ne]
  obtain ⟨n, A, D, rel, f2, f1, h | ⟨h1, h2, hn, a1, a17, hB, hL, hz, o, ho, ho1, h22⟩⟩ := ord_rel hR x
  · rw [h.1, h.2, Option.bind_some, Option.bind_some, if_pos rfl, if_pos rfl]
    exact ⟨_, _, _, rfl, rfl, rel⟩
  · have oc : OC A A := ⟨fun _ _ => rfl, rfl, rfl, hz⟩
    have fr : FrR D D := fun _ _ _ _ => rfl
    have a22 : ∀ k, k ≤ n + 1 → A 22 k = nI (o k) := fun k hk => (h22 k hk).1
    have d13 : ∀ k, k ≤ n + 1 → D 13 k = nI (o k) := fun k hk => (h22 k hk).2
    have fin : ∀ A' D', OC A A' → FrR D D' → Rel A' D' := fun A' D' k1 k2 => Rel_o rel k1.1 k1.2.2.2 (k2 1 (by omega) (by omega) (by omega)) (k2 3 (by omega) (by omega) (by omega)) (k2 0 (by omega) (by omega) (by omega))
    rw [h1, h2, Option.bind_some, Option.bind_some, if_neg one_ne, if_neg one_ne]
    by_cases c4 : y = -1
    · rw [if_pos c4, if_pos c4]
      obtain ⟨A2, e1, a2⟩ := ebw_c (w := 0) a1 hn hB a17 ho a22 (by omega) oc
      obtain ⟨b', A', D', g1, g2, g3, g4⟩ := wnd_best a1 hn hB a17 ho a22 hL d13 (wndE_lt hB hn ho) 8 1 fuel 0 A2 D (by omega) (by omega) a2 fr (by unfold fuel; omega)
      have e2 : pX8_bestWind A = some (b', A') := by
        unfold pX8_bestWind
        rw [show pX8_endByWind 0 A = _ from e1, Option.bind_some, bnd_eq]
        rw [show itr pX8_bestWind_L10 fuel (0, nI (wndE A n o 0), 1, A2) = _ from g1, Option.bind_some]
      rw [e2, Option.bind_some, show itr pX9_wind_L41 fuel (0, 1, D) = _ from g2, Option.bind_some]
      exact ⟨_, _, _, rfl, rfl, fin A' D' g3 g4⟩
    · rw [if_neg c4, if_neg c4]
      have h0 : ¬ y < 0 := by
        intro g
        rw [fa_lt] at g c1
        have : (0 : Int32).toInt = 0 := rfl
        have e1 : (-1 : Int32).toInt = -1 := rfl
        have : y.toInt = -1 := by omega
        exact c4 ((fa_eq _ _).mpr (by rw [this, e1]))
      obtain ⟨w, hw, rfl⟩ := nI_of h0
      have w9 : w < 9 := by
        rw [show (9 : Int32) = nI 9 from rfl, le_nI (by omega) hw] at c2
        omega
      obtain ⟨A2, e1, a2⟩ := ebw_c (w := w) a1 hn hB a17 ho a22 w9 oc
      obtain ⟨D2, e2, d2⟩ := sby_r hB hL ho d13 w9 fr
      rw [e1, e2, Option.bind_some, Option.bind_some]
      exact ⟨_, _, _, rfl, rfl, fin A2 D2 a2 d2⟩
