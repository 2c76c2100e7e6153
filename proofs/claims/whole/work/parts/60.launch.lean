/-! PURE: launching -/
def FrL (A1 A2 M1 M2 : Mm) : Prop := (∀ c, c ≠ 8 → c ≠ 9 → c ≠ 14 → c ≠ 15 → M1 c = A1 c) ∧ (∀ c, c ≠ 0 → c ≠ 8 → c ≠ 9 → c ≠ 12 → M2 c = A2 c) ∧ (∀ j, j ≠ 18 → M2 0 j = A2 0 j)
theorem FrL.rf (A1 A2 : Mm) : FrL A1 A2 A1 A2 := ⟨fun _ _ _ _ _ => rfl, fun _ _ _ _ _ => rfl, fun _ _ => rfl⟩
def LI (P : Nat → Int32) (s i : Nat) (A1 A2 : Mm) (E base f k t : Nat) (M1 M2 : Mm) : Prop := ∃ (m : Nat) (L : Nat → Bool), FrL A1 A2 M1 M2 ∧ EvR m M1 M2 ∧ BR s (base + 1700) L M1 M2 ∧ (∀ q, q < s → (L q = true ↔ (pt P q 1 < i ∨ (pt P q 1 = i ∧ (pt P q 0 < f ∨ (pt P q 0 = f ∧ q < k)))))) ∧ m ≤ E + 2 * fb_ct L s ∧ 1 ≤ m ∧ t ≤ base + 9 * (8 * f + k)
section LAUNCH
variable {F S R P : Nat → Int32} {n r s : Nat}
/-- one launch -/
theorem launch_c {M1 M2 : Mm} {i k t m f : Nat} (C : Ctx F S R P n r s M1 M2) (hk : k < s) (hf : pt P k 0 = f) (hfr : pt P k 1 = i) (hE : EvR m M1 M2) (hm : m + 1 < 26) (ht : t + 1530 ≤ 30000) : ∃ b M1' M2', b ≤ t + 1530 ∧ pX0_launch (nI k) (nI t) M1 = some M1' ∧ EvR (m + 2) M1' M2' ∧ M1' 14 k = nI t ∧ M1' 15 k = nI b ∧ M2' 8 k = nI t ∧ M2' 9 k = nI b ∧ (∀ j, j ≠ k → M1' 14 j = M1 14 j ∧ M1' 15 j = M1 15 j ∧ M2' 8 j = M2 8 j ∧ M2' 9 j = M2 9 j) ∧ FrL M1 M2 M1' M2' ∧
    ((pX9_sortieOf (nI k) 2 M2).bind fun v10 => (ast M2 8 8 (nI k) (nI t)).bind fun M12 => (pX9_stopAt (nI i) M12).bind fun v14 => (pX9_happens (nI t) 3 v14 (nI f) M12).bind fun v16 => (pX9_stopAt (nI i) v16).bind fun v18 => (pX9_flight v18 v10 v16).bind fun v20 => (pX9_placeOf v10 3 v16).bind fun v22 => (pX9_happens ((nI t + v20) + v22) 4 v10 (nI f) v16).bind fun v25 => (pX9_sortieOf (nI k) 3 v25).bind fun v27 => (pX9_stopAt v27 v25).bind fun v29 => (pX9_flight v10 v29 v25).bind fun v31 => ast v25 9 8 (nI k) (((nI t + v20) + v22) + v31)) = some M2' := by
  obtain ⟨q1, q2, q3, q4, q5, q6, q7, q8, q9⟩ := cx_n C
  have bk := pt_b C hk
  have pi := (pl_b C i).1
  have pa := (pl_b C (pt P k 3)).1
  have f1 := flx_le C (a := pl R r i) (b := pt P k 2) (by omega) (by omega)
  have f2 := flx_le C (a := pt P k 2) (b := pl R r (pt P k 3)) (by omega) (by omega)
  have d3 := fc_b C (p := pt P k 2) (w := 3) (by omega) (by omega)
  have m3 : fMost 3 = 30 := rfl
  -- the class
  let M22 := mset M1 14 k (nI t)
  have C22 : Ctx F S R P n r s M22 M2 := Ctx_c C (fun c hc => mset_cell (by omega)) rfl
  let y := t + fl F S (S 2) (S 3) (pl R r i) (pt P k 2) + fc F (pt P k 2) 3
  let b := y + fl F S (S 2) (S 3) (pt P k 2) (pl R r (pt P k 3))
  have hy : y ≤ t + 780 := by show t + _ + _ ≤ _; omega
  have hb : b ≤ t + 1530 := by show y + _ ≤ _; omega
  let M26 := mset M22 15 k (nI b)
  let N12 := mset M2 8 k (nI t)
  have E12 : EvR m M26 N12 := EvR_c hE (by show mset _ _ _ _ 8 = _; rw [mset_cell (by omega)]; exact mset_cell (by omega)) (by show mset _ _ _ _ 9 = _; rw [mset_cell (by omega)]; exact mset_cell (by omega)) (by show mset _ _ _ _ 0 18 = _; rw [mset_cell (by omega)]) (mset_cell (by omega))
  obtain ⟨M28, N16, a1, a2, a3, a4, a5, a6⟩ := ev_c (mi := t) (kd := 3) (p := pl R r i) (f := f + 1) (x1 := nI t) (x2 := 3) (x3 := nI (pl R r i)) (x4 := nI f) E12 (by omega) (by omega) (by omega) (by omega) (by omega) rfl rfl rfl (nI_pred _).symm
  obtain ⟨M30, N25, b1, b2, b3, b4, b5, b6⟩ := ev_c (mi := y) (kd := 4) (p := pt P k 2) (f := f + 1) (x1 := nI y) (x2 := 4) (x3 := nI (pt P k 2)) (x4 := nI f) a3 (by omega) (by omega) (by omega) (by omega) (by omega) rfl rfl rfl (nI_pred _).symm
  have C12 : Ctx F S R P n r s M1 N12 := Ctx_c C (fun c hc => rfl) (mset_cell (by omega))
  have C16 : Ctx F S R P n r s M1 N16 := Ctx_c C12 (fun c hc => rfl) (a5 1 (by omega) (by omega))
  have C25 : Ctx F S R P n r s M1 N25 := Ctx_c C16 (fun c hc => rfl) (b5 1 (by omega) (by omega))
  have k1 : ∀ c, c ≠ 8 → c ≠ 9 → M30 c = M26 c := fun c g1 g2 => by rw [b4 c g1 g2, a4 c g1 g2]
  have k2 : ∀ c, c ≠ 0 → c ≠ 12 → N25 c = N12 c := fun c g1 g2 => by rw [b5 c g1 g2, a5 c g1 g2]
  refine ⟨b, M30, mset N25 9 k (nI b), hb, ?_, ?_, ?_, ?_, ?_, ?_, fun j hj => ⟨?_, ?_, ?_, ?_⟩, ⟨fun c g1 g2 g3 g4 => ?_, fun c g1 g2 g3 g4 => ?_, fun j hj => ?_⟩, ?_⟩
  · unfold pX0_launch
    rw [show pX3_setting 1 2 M1 = _ from cx_set C (i := 2) (by omega), show pX3_setting 1 3 M1 = _ from cx_set C (i := 3) (by omega), show pX4_part 4 (nI k) 0 M1 = _ from cx_part C (w := 0) hk (by omega), show pX4_part 4 (nI k) 2 M1 = _ from cx_part C (w := 2) hk (by omega), show pX4_part 4 (nI k) 1 M1 = _ from cx_part C (w := 1) hk (by omega), show pX4_part 4 (nI k) 3 M1 = _ from cx_part C (w := 3) hk (by omega)]
    simp only [Option.bind_some]
    rw [cx_place C (by omega), cx_place C (by omega)]
    simp only [Option.bind_some]
    rw [hfr, cx_flight C (by omega) (by omega), show pX3_fact 1 (nI (pt P k 2)) 3 M1 = _ from cx_fact C (w := 3) (by omega) (by omega)]
    simp only [Option.bind_some, bnd_eq]
    rw [ast_nI (by omega) (by omega)]
    simp only [Option.bind_some]
    rw [show pX3_flight 1 (nI (pt P k 2)) (nI (pl R r (pt P k 3))) (S 2) (S 3) (mset M1 14 k (nI t)) = _ from cx_flight C22 (by omega) (by omega)]
    simp only [Option.bind_some, nI_add]
    rw [ast_nI (by omega) (by omega)]
    simp only [Option.bind_some]
    rw [hf, show pX1_note (nI t) 3 (nI (pl R r i)) (nI f) (mset (mset M1 14 k (nI t)) 15 k (nI (t + fl F S (S 2) (S 3) (pl R r i) (pt P k 2) + fc F (pt P k 2) 3 + fl F S (S 2) (S 3) (pt P k 2) (pl R r (pt P k 3))))) = _ from a1]
    simp only [Option.bind_some]
    rw [show pX1_note (nI (t + fl F S (S 2) (S 3) (pl R r i) (pt P k 2) + fc F (pt P k 2) 3)) 4 (nI (pt P k 2)) (nI f) M28 = _ from b1]
    rfl
  · exact EvR_c b3 rfl rfl (by rw [mset_cell (by omega)]) (mset_cell (by omega))
  · rw [k1 14 (by omega) (by omega)]
    show mset (mset M1 14 k (nI t)) 15 k (nI b) 14 k = _
    rw [mset_cell (by omega), mset_same]
  · rw [k1 15 (by omega) (by omega)]
    exact mset_same _ _ _ _
  · rw [mset_cell (by omega), k2 8 (by omega) (by omega)]
    exact mset_same _ _ _ _
  · exact mset_same _ _ _ _
  · rw [k1 14 (by omega) (by omega)]
    show mset (mset M1 14 k (nI t)) 15 k (nI b) 14 j = _
    rw [mset_cell (by omega), mset_slot hj]
  · rw [k1 15 (by omega) (by omega)]
    show mset (mset M1 14 k (nI t)) 15 k (nI b) 15 j = _
    rw [mset_slot hj, mset_cell (by omega)]
  · rw [mset_cell (by omega), k2 8 (by omega) (by omega)]
    exact mset_slot hj
  · rw [mset_slot hj, k2 9 (by omega) (by omega)]
    show mset M2 8 k (nI t) 9 j = _
    rw [mset_cell (by omega)]
  · rw [k1 c g1 g2]
    show mset (mset M1 14 k (nI t)) 15 k (nI b) c = _
    rw [mset_cell g4, mset_cell g3]
  · rw [mset_cell g3, k2 c g1 g4]
    exact mset_cell g2
  · rw [mset_cell (by omega), b6 j hj, a6 j hj]
    show mset M2 8 k (nI t) 0 j = _
    rw [mset_cell (by omega)]
  · rw [show pX9_sortieOf (nI k) 2 M2 = _ from rx_part C (w := 2) hk (by omega), ast_nI (by omega) (by omega)]
    simp only [Option.bind_some]
    rw [show pX9_stopAt (nI i) (mset M2 8 k (nI t)) = _ from rx_place C12 (by omega)]
    simp only [Option.bind_some]
    rw [show pX9_happens (nI t) 3 (nI (pl R r i)) (nI f) (mset M2 8 k (nI t)) = _ from a2]
    simp only [Option.bind_some]
    rw [rx_place C16 (by omega), show pX9_placeOf (nI (pt P k 2)) 3 N16 = _ from rx_fact C16 (w := 3) (by omega) (by omega)]
    simp only [Option.bind_some]
    rw [rx_flight C16 (by omega) (by omega)]
    simp only [Option.bind_some, nI_add]
    rw [show pX9_happens (nI (t + fl F S (S 2) (S 3) (pl R r i) (pt P k 2) + fc F (pt P k 2) 3)) 4 (nI (pt P k 2)) (nI f) N16 = _ from b2]
    simp only [Option.bind_some]
    rw [show pX9_sortieOf (nI k) 3 N25 = _ from rx_part C25 (w := 3) hk (by omega)]
    simp only [Option.bind_some]
    rw [rx_place C25 (by omega)]
    simp only [Option.bind_some]
    rw [rx_flight C25 (by omega) (by omega)]
    simp only [Option.bind_some, nI_add]
    rw [ast_nI (by omega) (by omega)]
/-- a pass over the sorties, by one flyer -/
theorem pass_c {A1 A2 M1 M2 : Mm} {i t f E base : Nat} (CA : Ctx F S R P n r s A1 A2) (hf : f ≤ 1) (hi : i ≤ 9) (hb : base ≤ 25000) (hE : E + 2 * s ≤ 26) (h : LI P s i A1 A2 E base f 0 t M1 M2) : ∃ t' M1' M2', itr (pX0_launchAll_L22 (nI i) (nI f)) fuel (nI t, 0, M1) = some (nI t', M1') ∧ itr (pX9_launches_L14 (nI i) (nI f)) fuel (nI t, 0, M2) = some (nI t', M2') ∧ LI P s i A1 A2 E base (f + 1) 0 t' M1' M2' := by
  obtain ⟨q1, q2, q3, q4, q5, q6, q7, q8, q9⟩ := cx_n CA
  have s6 := (sx CA).2.2.1
  let I : Int32 × Int32 × Mm → Int32 × Int32 × Mm → Prop := fun a b => ∃ t k : Nat, a.1 = nI t ∧ b.1 = nI t ∧ a.2.1 = nI k ∧ b.2.1 = nI k ∧ k ≤ s ∧ LI P s i A1 A2 E base f k t a.2.2 b.2.2
  let Q : Int32 × Mm → Int32 × Mm → Prop := fun x y => ∃ t' : Nat, x.1 = nI t' ∧ y.1 = nI t' ∧ LI P s i A1 A2 E base (f + 1) 0 t' x.2 y.2
  obtain ⟨x, y, hx, hy, t', e1, e2, e3⟩ := itr_2 (f := pX0_launchAll_L22 (nI i) (nI f)) (g := pX9_launches_L14 (nI i) (nI f)) I (fun a => s - cl a.2.1) Q (fun a b hI => by
    obtain ⟨t, k, a1, a2, a3, a4, a5, m, L, l1, l2, l3, l4, l5, l7, l6⟩ := hI
    obtain ⟨at', ak, N1⟩ := a
    obtain ⟨bt, bk', N2⟩ := b
    dsimp only at a1 a2 a3 a4 l1 l2 l3
    subst a1 a2 a3 a4
    have C : Ctx F S R P n r s N1 N2 := Ctx_c CA (fun c hc => l1.1 c (by omega) (by omega) (by omega) (by omega)) (l1.2.1 1 (by omega) (by omega) (by omega) (by omega))
    have z5 : N1 4 1 = nI s := (cx_n C).2.2.2.2.1
    unfold pX0_launchAll_L22 pX9_launches_L14
    dsimp only
    rw [rx_sorties C, Option.bind_some]
    by_cases c : k = s
    · subst c
      right
      rw [if_pos (show N1 4 1 ≤ nI k by rw [z5]; exact Int32.le_refl _), if_pos (Int32.le_refl _)]
      refine ⟨_, _, rfl, rfl, t, rfl, rfl, m, L, l1, l2, l3, fun q hq => ?_, l5, l7, by omega⟩
      rw [l4 q hq]
      constructor <;> intro h <;> omega
    · left
      have hk : k < s := by omega
      have bk := pt_b C hk
      have mu : s - cl (nI k + 1) < s - cl (nI k) := by
        rw [nI_1, cl_nI (by omega), cl_nI (by omega)]
        omega
      rw [if_neg (show ¬ N1 4 1 ≤ nI k by rw [z5, le_nI] <;> omega), if_neg (show ¬ nI s ≤ nI k by rw [le_nI] <;> omega)]
      rw [show pX4_part 4 (nI k) 1 N1 = _ from cx_part C (w := 1) hk (by omega), show pX4_part 4 (nI k) 0 N1 = _ from cx_part C (w := 0) hk (by omega), show pX9_sortieOf (nI k) 1 N2 = _ from rx_part C (w := 1) hk (by omega), show pX9_sortieOf (nI k) 0 N2 = _ from rx_part C (w := 0) hk (by omega)]
      simp only [Option.bind_some]
      by_cases ci : pt P k 1 = i
      · have hci : nI (pt P k 1) = nI i := by rw [ci]
        rw [if_pos hci, if_pos hci]
        by_cases cf : pt P k 0 = f
        · have hcf : nI (pt P k 0) = nI f := by rw [cf]
          rw [if_pos hcf, if_pos hcf]
          rw [show pX3_setting 1 6 N1 = _ from cx_set C (i := 6) (by omega), show pX9_of 6 N2 = _ from rx_set C (i := 6) (by omega)]
          simp only [Option.bind_some, bnd_eq]
          rw [s6.2, nI_add]
          have Lk : L k = false := by
            cases hl : L k with
            | false => rfl
            | true => have := (l4 k hk).mp hl; omega
          have ctl : fb_ct L s < s := by
            rcases Nat.lt_or_ge (fb_ct L s) s with h | h
            · exact h
            · have := fb_ct_all.mp (Nat.le_antisymm (fb_ct_le _ _) h) k hk
              rw [Lk] at this
              cases this
          obtain ⟨b, N1', N2', g1, g2, g3, g4, g5, g6, g7, g8, g9, g10⟩ := launch_c (t := t + cl (S 6)) C hk cf ci l2 (by omega) (by omega)
          let L' : Nat → Bool := fun q => if q = k then true else L q
          have ctn : fb_ct L' s = fb_ct L s + 1 := ct_one hk Lk (if_pos rfl) (fun q _ hq => if_neg hq)
          rw [g2]
          simp only [Option.bind_some]
          refine ⟨(nI (t + cl (S 6)), nI k + 1, N1'), (nI (t + cl (S 6)), nI k + 1, N2'), rfl, ?_, ⟨t + cl (S 6), k + 1, rfl, rfl, nI_1 k, nI_1 k, by omega, m + 2, L', ⟨fun c h1 h2 h3 h4 => by rw [← l1.1 c h1 h2 h3 h4]; exact g9.1 c h1 h2 h3 h4, fun c h1 h2 h3 h4 => by rw [← l1.2.1 c h1 h2 h3 h4]; exact g9.2.1 c h1 h2 h3 h4, fun j hj => by rw [← l1.2.2 j hj]; exact g9.2.2 j hj⟩, g3, fun q hq hl => ?_, fun q hq => ?_, by show m + 2 ≤ E + 2 * fb_ct L' s; omega, by omega, by omega⟩, mu⟩
          · rw [← Option.bind_some (f := fun M33 => some (Sum.inl (nI (t + cl (S 6)), nI k + 1, M33))), ← g10]
            simp only [Option.bind_assoc]
          · by_cases e : q = k
            · subst e
              show N1' 14 q = N2' 8 q ∧ ∃ b, b ≤ base + 1700 ∧ N1' 15 q = nI b ∧ N2' 9 q = nI b
              rw [g4, g6]
              exact ⟨rfl, b, by omega, g5, g7⟩
            · obtain ⟨w1, w2, w3, w4⟩ := g8 q e
              show N1' 14 q = N2' 8 q ∧ ∃ b, b ≤ base + 1700 ∧ N1' 15 q = nI b ∧ N2' 9 q = nI b
              rw [w1, w2, w3, w4]
              have : L q = true := by
                have hl' : (if q = k then true else L q) = true := hl
                rw [if_neg e] at hl'
                exact hl'
              exact l3 q hq this
          · show (if q = k then true else L q) = true ↔ _
            by_cases e : q = k
            · subst e
              rw [if_pos rfl]
              exact ⟨fun _ => by omega, fun _ => rfl⟩
            · rw [if_neg e, l4 q hq]
              constructor <;> intro h <;> omega
        · have hcf : ¬ nI (pt P k 0) = nI f := by rw [eq_nI (by omega) (by omega)]; exact cf
          rw [if_neg hcf, if_neg hcf]
          refine ⟨_, _, rfl, rfl, ⟨t, k + 1, rfl, rfl, nI_1 k, nI_1 k, by omega, m, L, l1, l2, l3, fun q hq => ?_, l5, l7, by omega⟩, mu⟩
          rw [l4 q hq]
          by_cases e : q = k
          · subst e
            constructor <;> intro h <;> omega
          · constructor <;> intro h <;> omega
      · have hci : ¬ nI (pt P k 1) = nI i := by rw [eq_nI (by omega) (by omega)]; exact ci
        rw [if_neg hci, if_neg hci]
        refine ⟨_, _, rfl, rfl, ⟨t, k + 1, rfl, rfl, nI_1 k, nI_1 k, by omega, m, L, l1, l2, l3, fun q hq => ?_, l5, l7, by omega⟩, mu⟩
        rw [l4 q hq]
        by_cases e : q = k
        · subst e
          constructor <;> intro h <;> omega
        · constructor <;> intro h <;> omega) fuel (nI t, nI 0, M1) (nI t, nI 0, M2) ⟨t, 0, rfl, rfl, rfl, rfl, by omega, h⟩ (by show s - cl (nI 0) < 6000; omega)
  refine ⟨t', x.2, y.2, ?_, ?_, e3⟩
  · rw [show itr (pX0_launchAll_L22 (nI i) (nI f)) fuel (nI t, 0, M1) = _ from hx, ← e1]
  · rw [show itr (pX9_launches_L14 (nI i) (nI f)) fuel (nI t, 0, M2) = _ from hy, ← e2]
/-- a flyer that no sortie has -/
theorem pass_id {M1 M2 : Mm} {i f : Nat} (t : Int32) (C : Ctx F S R P n r s M1 M2) (hf : f ≤ 1) (h : ∀ k, k < s → pt P k 0 ≠ f) : itr (pX9_launches_L14 (nI i) (nI f)) fuel (t, 0, M2) = some (t, M2) := by
  obtain ⟨q1, q2, q3, q4, q5, q6, q7, q8, q9⟩ := cx_n C
  obtain ⟨x, hx, e⟩ := itr_I (step := pX9_launches_L14 (nI i) (nI f)) (fun a => ∃ k, k ≤ s ∧ a = (t, nI k, M2)) (fun a => s - cl a.2.1) (fun x => x = (t, M2)) (fun a ha => by
    obtain ⟨k, hk, rfl⟩ := ha
    unfold pX9_launches_L14
    dsimp only
    rw [rx_sorties C, Option.bind_some]
    by_cases c : k = s
    · subst c
      rw [if_pos (Int32.le_refl _)]
      exact Or.inr ⟨_, rfl, rfl⟩
    · have hk' : k < s := by omega
      have bk := pt_b C hk'
      rw [if_neg (show ¬ nI s ≤ nI k by rw [le_nI] <;> omega), show pX9_sortieOf (nI k) 1 M2 = _ from rx_part C (w := 1) hk' (by omega), show pX9_sortieOf (nI k) 0 M2 = _ from rx_part C (w := 0) hk' (by omega)]
      simp only [Option.bind_some]
      rw [if_neg (show ¬ nI (pt P k 0) = nI f by rw [eq_nI (by omega) (by omega)]; exact h k hk'), ite_self]
      refine Or.inl ⟨_, rfl, ⟨k + 1, by omega, by rw [nI_1]⟩, ?_⟩
      show s - cl (nI k + 1) < s - cl (nI k)
      rw [nI_1, cl_nI (by omega), cl_nI (by omega)]
      omega) fuel (t, nI 0, M2) ⟨0, by omega, rfl⟩ (by show s - cl (nI 0) < 6000; omega)
  rw [show itr (pX9_launches_L14 (nI i) (nI f)) fuel (t, 0, M2) = _ from hx, e]
end LAUNCH
