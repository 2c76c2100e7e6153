/-! PURE: stop by stop -/
def Fr0 (B1 B2 M1 M2 : Mm) : Prop := (∀ c, c < 8 ∨ 16 < c → M1 c = B1 c) ∧ (∀ c, c ≠ 0 → (c < 4 ∨ 12 < c) → M2 c = B2 c) ∧ (∀ j, j ≠ 18 → M2 0 j = B2 0 j)
def RR (F S R : Nat → Int32) (r i t : Nat) (M1 M2 : Mm) : Prop := (∀ j, j < i → M1 10 j = M2 4 j ∧ M1 11 j = M2 5 j ∧ M1 12 j = M2 6 j ∧ M1 13 j = M2 7 j) ∧ (∀ j, j + 1 < i → M1 10 (j + 1) = M1 12 j + nI (dr F S (pl R r j) (pl R r (j + 1)))) ∧ (1 ≤ i → M1 12 (i - 1) = nI t)
def TI (F S R P : Nat → Int32) (r s : Nat) (B1 B2 : Mm) (i t : Nat) (M1 M2 : Mm) : Prop := ∃ (m : Nat) (L : Nat → Bool), Fr0 B1 B2 M1 M2 ∧ EvR m M1 M2 ∧ BR s (2000 * i + 1600) L M1 M2 ∧ KR s M1 M2 ∧ (∀ q, q < s → (L q = true ↔ pt P q 1 < i)) ∧ (∀ k, k < s → pt P k 3 < i → M2 11 k = 1) ∧ m ≤ i + min (i - 1) r + fb_ct (cg M2) s + 2 * fb_ct L s ∧ (1 ≤ i → 1 ≤ m) ∧ t ≤ 2000 * i ∧ RR F S R r i t M1 M2
section STOPS
variable {F S R P : Nat → Int32} {n r s : Nat}
theorem launchAll_c {A1 A2 : Mm} {i t E base m : Nat} {L : Nat → Bool} (C : Ctx F S R P n r s A1 A2) (G : Good S R P n r s) (hi : i ≤ 9) (hb : base ≤ 25000) (hE : E + 2 * s ≤ 26) (h1 : EvR m A1 A2) (h2 : BR s (base + 1700) L A1 A2) (h3 : ∀ q, q < s → (L q = true ↔ pt P q 1 < i)) (h4 : m ≤ E + 2 * fb_ct L s) (h5 : 1 ≤ m) (h6 : t ≤ base) : ∃ (t' m' : Nat) (M1' M2' : Mm) (L' : Nat → Bool), pX0_launchAll (nI i) (nI t) A1 = some (nI t', M1') ∧ pX9_launches (nI i) (nI t) A2 = some (nI t', M2') ∧ FrL A1 A2 M1' M2' ∧ EvR m' M1' M2' ∧ BR s (base + 1700) L' M1' M2' ∧ (∀ q, q < s → (L' q = true ↔ pt P q 1 < i + 1)) ∧ m' ≤ E + 2 * fb_ct L' s ∧ 1 ≤ m' ∧ t' ≤ base + 144 := by
  obtain ⟨q1, q2, q3, q4, q5, q6, q7, q8, q9⟩ := cx_n C
  have s8 := (sx C).2.2.2.2.1
  have l0 : LI P s i A1 A2 E base 0 0 t A1 A2 := ⟨m, L, FrL.rf _ _, h1, h2, fun q hq => by rw [h3 q hq]; constructor <;> intro h <;> omega, h4, h5, by omega⟩
  have cc : ∀ {M1 M2 : Mm}, FrL A1 A2 M1 M2 → Ctx F S R P n r s M1 M2 := fun h => Ctx_c C (fun c hc => h.1 c (by omega) (by omega) (by omega) (by omega)) (h.2.1 1 (by omega) (by omega) (by omega) (by omega))
  have cs : ∀ {M1 M2 : Mm} {f t : Nat}, FrL A1 A2 M1 M2 → f < 10 → cl (S 8) ≤ f → pX0_launchAll_L5 (nI i) (nI t, nI f, M1) = some (.inr (nI t, M1)) := by
    intro M1 M2 f t h hf hs
    unfold pX0_launchAll_L5
    dsimp only
    rw [show pX3_setting 1 8 M1 = _ from cx_set (cc h) (i := 8) (by omega), Option.bind_some, if_pos (by rw [s8.2, le_nI] <;> omega)]
  have cg' : ∀ {M1 M2 M1' : Mm} {f t t' : Nat}, FrL A1 A2 M1 M2 → f < 10 → ¬ cl (S 8) ≤ f → itr (pX0_launchAll_L22 (nI i) (nI f)) fuel (nI t, 0, M1) = some (nI t', M1') → pX0_launchAll_L5 (nI i) (nI t, nI f, M1) = some (.inl (nI t', nI (f + 1), M1')) := by
    intro M1 M2 M1' f t t' h hf hs hp
    unfold pX0_launchAll_L5
    dsimp only
    rw [show pX3_setting 1 8 M1 = _ from cx_set (cc h) (i := 8) (by omega), Option.bind_some, if_neg (by rw [s8.2, le_nI] <;> omega), hp, Option.bind_some, nI_1]
  have rg : ∀ {M2 M2' : Mm} {f t t' : Nat}, f < 2 → itr (pX9_launches_L14 (nI i) (nI f)) fuel (nI t, 0, M2) = some (nI t', M2') → pX9_launches_L5 (nI i) (nI t, nI f, M2) = some (.inl (nI t', nI (f + 1), M2')) := by
    intro M2 M2' f t t' hf hp
    unfold pX9_launches_L5
    dsimp only
    rw [if_neg (show ¬ (2 : Int32) ≤ nI f by show ¬ nI 2 ≤ nI f; rw [le_nI] <;> omega), hp, Option.bind_some, nI_1]
  have rs : ∀ {M2 : Mm} {t : Nat}, pX9_launches_L5 (nI i) (nI t, nI 2, M2) = some (.inr (nI t, M2)) := by
    intro M2 t
    unfold pX9_launches_L5
    dsimp only
    rw [if_pos (by decide)]
  have fin : ∀ {t' : Nat} {M1' M2' : Mm} {f : Nat}, (∀ k, k < s → pt P k 0 < f) → f ≤ 2 → LI P s i A1 A2 E base f 0 t' M1' M2' → ∃ (m' : Nat) (L' : Nat → Bool), FrL A1 A2 M1' M2' ∧ EvR m' M1' M2' ∧ BR s (base + 1700) L' M1' M2' ∧ (∀ q, q < s → (L' q = true ↔ pt P q 1 < i + 1)) ∧ m' ≤ E + 2 * fb_ct L' s ∧ 1 ≤ m' ∧ t' ≤ base + 144 := by
    intro t' M1' M2' f hf hf2 h
    obtain ⟨m', L', l1, l2, l3, l4, l5, l6, l7⟩ := h
    refine ⟨m', L', l1, l2, l3, fun q hq => ?_, l5, l6, by omega⟩
    have := hf q hq
    rw [l4 q hq]
    constructor <;> intro h <;> omega
  unfold pX0_launchAll pX9_launches
  have h012 : cl (S 8) = 0 ∨ cl (S 8) = 1 ∨ cl (S 8) = 2 := by omega
  rcases h012 with h8 | h8 | h8
  · have hz : ∀ k, k < s → pt P k 0 < 0 := fun k hk => by have := G.1 k hk; omega
    obtain ⟨m', L', f1, f2⟩ := fin hz (by omega) l0
    refine ⟨t, m', A1, A2, L', ?_, ?_, f1, f2⟩
    · have e : itr (pX0_launchAll_L5 (nI i)) (5999 + 1) (nI t, nI 0, A1) = some (nI t, A1) := by
        rw [itr_e (cs (FrL.rf A1 A2) (by omega) (by omega))]
      rw [show itr (pX0_launchAll_L5 (nI i)) fuel (nI t, 0, A1) = _ from e]
      rfl
    · have e : itr (pX9_launches_L5 (nI i)) (5997 + 1 + 1 + 1) (nI t, nI 0, A2) = some (nI t, A2) := by
        rw [itr_s (rg (by omega) (pass_id (nI t) C (by omega) (fun k hk => by have := hz k hk; omega))), itr_s (rg (by omega) (pass_id (nI t) C (by omega) (fun k hk => by have := hz k hk; omega))), itr_e rs]
      rw [show itr (pX9_launches_L5 (nI i)) fuel (nI t, 0, A2) = _ from e]
      rfl
  · have hz : ∀ k, k < s → pt P k 0 < 1 := fun k hk => by have := G.1 k hk; omega
    obtain ⟨t1, M1a, M2a, a1, a2, a3⟩ := pass_c C (by omega) hi hb hE l0
    obtain ⟨m', L', f1, f2⟩ := fin hz (by omega) a3
    refine ⟨t1, m', M1a, M2a, L', ?_, ?_, f1, f2⟩
    · have e : itr (pX0_launchAll_L5 (nI i)) (5998 + 1 + 1) (nI t, nI 0, A1) = some (nI t1, M1a) := by
        rw [itr_s (cg' (FrL.rf A1 A2) (by omega) (by omega) a1), itr_e (cs f1 (by omega) (by omega))]
      rw [show itr (pX0_launchAll_L5 (nI i)) fuel (nI t, 0, A1) = _ from e]
      rfl
    · have e : itr (pX9_launches_L5 (nI i)) (5997 + 1 + 1 + 1) (nI t, nI 0, A2) = some (nI t1, M2a) := by
        rw [itr_s (rg (by omega) a2), itr_s (rg (by omega) (pass_id (nI t1) (cc f1) (by omega) (fun k hk => by have := hz k hk; omega))), itr_e rs]
      rw [show itr (pX9_launches_L5 (nI i)) fuel (nI t, 0, A2) = _ from e]
      rfl
  · have hz : ∀ k, k < s → pt P k 0 < 2 := fun k hk => by have := G.1 k hk; omega
    obtain ⟨t1, M1a, M2a, a1, a2, a3⟩ := pass_c C (by omega) hi hb hE l0
    have fa : FrL A1 A2 M1a M2a := by obtain ⟨_, _, h, _⟩ := a3; exact h
    obtain ⟨t2, M1b, M2b, b1, b2, b3⟩ := pass_c C (by omega) hi hb hE a3
    obtain ⟨m', L', f1, f2⟩ := fin hz (by omega) b3
    refine ⟨t2, m', M1b, M2b, L', ?_, ?_, f1, f2⟩
    · have e : itr (pX0_launchAll_L5 (nI i)) (5997 + 1 + 1 + 1) (nI t, nI 0, A1) = some (nI t2, M1b) := by
        rw [itr_s (cg' (FrL.rf A1 A2) (by omega) (by omega) a1), itr_s (cg' fa (by omega) (by omega) b1), itr_e (cs f1 (by omega) (by omega))]
      rw [show itr (pX0_launchAll_L5 (nI i)) fuel (nI t, 0, A1) = _ from e]
      rfl
    · have e : itr (pX9_launches_L5 (nI i)) (5997 + 1 + 1 + 1) (nI t, nI 0, A2) = some (nI t2, M2b) := by
        rw [itr_s (rg (by omega) a2), itr_s (rg (by omega) b2), itr_e rs]
      rw [show itr (pX9_launches_L5 (nI i)) fuel (nI t, 0, A2) = _ from e]
      rfl
/-- coming to a stop, and serving there -/
theorem come_c {M1 M2 : Mm} {i t m : Nat} (C : Ctx F S R P n r s M1 M2) (hi : i < r + 2) (ht : t ≤ 2000 * i) (hE : EvR m M1 M2) (hm : m + (if 1 ≤ i ∧ i ≤ r then 1 else 0) < 26) : ∃ (u w m' : Nat) (M1' M2' : Mm), u = t + (if i = 0 then 0 else dr F S (pl R r (i - 1)) (pl R r i)) ∧ w ≤ 2000 * i + 930 ∧ m' = m + 1 + (if 1 ≤ i ∧ i ≤ r then 1 else 0) ∧ EvR m' M1' M2' ∧ (∀ c, c ≠ 8 → c ≠ 9 → c ≠ 10 → M1' c = M1 c) ∧ (∀ j, M1' 10 j = if j = i then nI u else M1 10 j) ∧ (∀ c, c ≠ 0 → c ≠ 4 → c ≠ 12 → M2' c = M2 c) ∧ (∀ j, M2' 4 j = if j = i then nI u else M2 4 j) ∧ (∀ j, j ≠ 18 → M2' 0 j = M2 0 j) ∧
    (∀ (β : Type) (f : Int32 → Int32 × Mm → Option β), ((pX4_placeAt 4 (nI i) M1).bind fun v14 => Option.bind (α := Int32) (if nI i ≤ 0 then (some (nI t)) else ((pX4_placeAt 4 (nI i - 1) M1).bind fun v41 => (pX3_drive 1 v41 v14 M1).bind fun v43 => bnd (nI t + v43) fun v45 => some v45)) fun j16 => (ast M1 10 10 (nI i) j16).bind fun M19 => (pX1_note j16 0 v14 (-1) M19).bind fun v21 => Option.bind (α := Int32 × Mm) (if v14 = 0 then (some (j16, v21)) else ((pX3_fact 1 v14 2 v21).bind fun v36 => bnd (j16 + v36) fun v38 => (pX1_note v38 1 v14 (-1) v21).bind fun v39 => some (v38, v39))) fun j23 => f v14 j23) = f (nI (pl R r i)) (nI w, M1')) ∧
    (∀ (β : Type) (f : Int32 → Int32 → Mm → Option β), ((pX9_stopAt (nI i) M2).bind fun v18 => Option.bind (α := Int32) (if nI i ≤ 0 then (some (nI t)) else ((pX9_stopAt (nI i - 1) M2).bind fun v115 => (pX9_drive v115 v18 M2).bind fun v117 => bnd (nI t + v117) fun v119 => some v119)) fun j20 => (ast M2 4 10 (nI i) j20).bind fun M23 => (pX9_happens j20 0 v18 (-1) M23).bind fun v25 => (pX9_service v18 v25).bind fun v27 => bnd (j20 + v27) fun v29 => Option.bind (α := Mm) (if v18 ≤ 0 then (some v25) else ((pX9_happens v29 1 v18 (-1) v25).bind fun v113 => some v113)) fun j30 => f v18 v29 j30) = f (nI (pl R r i)) (nI w) M2') := by
  obtain ⟨q1, q2, q3, q4, q5, q6, q7, q8, q9⟩ := cx_n C
  have pi := (pl_b C i).1
  have pi1 := (pl_b C (i - 1)).1
  have dle := drx_le C (a := pl R r (i - 1)) (b := pl R r i) (by omega) (by omega)
  have fle := fc_b C (p := pl R r i) (w := 2) (by omega) (by omega)
  have m2 : fMost 2 = 30 := rfl
  obtain ⟨u, hu⟩ : ∃ u, u = t + (if i = 0 then 0 else dr F S (pl R r (i - 1)) (pl R r i)) := ⟨_, rfl⟩
  have hub : u ≤ t + 900 := by rw [hu]; split <;> omega
  have eu1 : (if nI i ≤ 0 then (some (nI t) : Option Int32) else (pX4_placeAt 4 (nI i - 1) M1).bind fun v41 => (pX3_drive 1 v41 (nI (pl R r i)) M1).bind fun v43 => bnd (nI t + v43) fun v45 => some v45) = some (nI u) := by
    by_cases c : i = 0
    · subst c
      rw [if_pos (by decide), hu, if_pos rfl]
      rfl
    · rw [if_neg (nI_nle (by omega) (by omega)), show nI i - 1 = nI (i - 1) from sub_nI (b := 1) (by omega), cx_place C (by omega), Option.bind_some, cx_drive C pi1 pi, Option.bind_some, bnd_eq, nI_add, hu, if_neg c]
  have eu2 : (if nI i ≤ 0 then (some (nI t) : Option Int32) else (pX9_stopAt (nI i - 1) M2).bind fun v41 => (pX9_drive v41 (nI (pl R r i)) M2).bind fun v43 => bnd (nI t + v43) fun v45 => some v45) = some (nI u) := by
    by_cases c : i = 0
    · subst c
      rw [if_pos (by decide), hu, if_pos rfl]
      rfl
    · rw [if_neg (nI_nle (by omega) (by omega)), show nI i - 1 = nI (i - 1) from sub_nI (b := 1) (by omega), rx_place C (by omega), Option.bind_some, rx_drive C (by omega) (by omega), Option.bind_some, bnd_eq, nI_add, hu, if_neg c]
  let A1 := mset M1 10 i (nI u)
  let A2 := mset M2 4 i (nI u)
  have EA : EvR m A1 A2 := EvR_c hE (mset_cell (by omega)) (mset_cell (by omega)) (by show mset M2 4 i (nI u) 0 18 = _; rw [mset_cell (by omega)]) (mset_cell (by omega))
  obtain ⟨D1, D2, a1, a2, a3, a4, a5, a6⟩ := ev_c (mi := u) (kd := 0) (p := pl R r i) (f := 0) (x1 := nI u) (x2 := 0) (x3 := nI (pl R r i)) (x4 := -1) EA (by omega) (by omega) (by omega) (by omega) (by omega) rfl rfl rfl rfl
  have CD : Ctx F S R P n r s D1 D2 := Ctx_c C (fun c hc => by rw [a4 c (by omega) (by omega)]; exact mset_cell (by omega)) (by rw [a5 1 (by omega) (by omega)]; exact mset_cell (by omega))
  by_cases c0 : 1 ≤ i ∧ i ≤ r
  · have p1 := (pl_b C i).2 c0.1 c0.2
    rw [if_pos c0] at hm ⊢
    obtain ⟨w, hw⟩ : ∃ w, w = u + fc F (pl R r i) 2 := ⟨_, rfl⟩
    obtain ⟨G1, G2, b1, b2, b3, b4, b5, b6⟩ := ev_c (mi := w) (kd := 1) (p := pl R r i) (f := 0) (x1 := nI w) (x2 := 1) (x3 := nI (pl R r i)) (x4 := -1) a3 (by omega) (by omega) (by omega) (by omega) (by omega) rfl rfl rfl rfl
    refine ⟨u, w, m + 1 + 1, G1, G2, hu, by omega, rfl, b3, fun c h1 h2 h3 => ?_, fun j => ?_, fun c h1 h2 h3 => ?_, fun j => ?_, fun j hj => ?_, fun β f => ?_, fun β f => ?_⟩
    · rw [b4 c h1 h2, a4 c h1 h2]
      exact mset_cell h3
    · rw [b4 10 (by omega) (by omega), a4 10 (by omega) (by omega)]
      show mset M1 10 i (nI u) 10 j = _
      rw [mset_get]
      simp
    · rw [b5 c h1 h3, a5 c h1 h3]
      exact mset_cell h2
    · rw [b5 4 (by omega) (by omega), a5 4 (by omega) (by omega)]
      show mset M2 4 i (nI u) 4 j = _
      rw [mset_get]
      simp
    · rw [b6 j hj, a6 j hj]
      show mset M2 4 i (nI u) 0 j = _
      rw [mset_cell (by omega)]
    · rw [cx_place C (by omega)]
      simp only [Option.bind_some]
      rw [eu1]
      simp only [Option.bind_some]
      rw [ast_nI (by omega) (by omega)]
      simp only [Option.bind_some]
      rw [show pX1_note (nI u) 0 (nI (pl R r i)) (-1) (mset M1 10 i (nI u)) = _ from a1]
      simp only [Option.bind_some]
      rw [if_neg (nI_ne0 (by omega) (by omega)), show pX3_fact 1 (nI (pl R r i)) 2 D1 = _ from cx_fact CD (w := 2) pi (by omega)]
      simp only [Option.bind_some, bnd_eq]
      rw [nI_add, ← hw, b1]
      rfl
    · rw [rx_place C (by omega)]
      simp only [Option.bind_some]
      rw [eu2]
      simp only [Option.bind_some]
      rw [ast_nI (by omega) (by omega)]
      simp only [Option.bind_some]
      rw [show pX9_happens (nI u) 0 (nI (pl R r i)) (-1) (mset M2 4 i (nI u)) = _ from a2]
      simp only [Option.bind_some]
      rw [show pX9_service (nI (pl R r i)) D2 = some (nI (fc F (pl R r i) 2)) by
        unfold pX9_service
        rw [if_neg (nI_ne0 (by omega) (by omega)), show pX9_placeOf (nI (pl R r i)) 2 D2 = _ from rx_fact CD (w := 2) (by omega) (by omega)]
        rfl]
      simp only [Option.bind_some, bnd_eq]
      rw [nI_add, ← hw, if_neg (nI_nle (by omega) (by omega)), b2]
      rfl
  · have p0 : pl R r i = 0 := if_neg c0
    rw [if_neg c0] at hm ⊢
    refine ⟨u, u, m + 1 + 0, D1, D2, hu, by omega, rfl, a3, fun c h1 h2 h3 => ?_, fun j => ?_, fun c h1 h2 h3 => ?_, fun j => ?_, fun j hj => ?_, fun β f => ?_, fun β f => ?_⟩
    · rw [a4 c h1 h2]
      exact mset_cell h3
    · rw [a4 10 (by omega) (by omega)]
      show mset M1 10 i (nI u) 10 j = _
      rw [mset_get]
      simp
    · rw [a5 c h1 h3]
      exact mset_cell h2
    · rw [a5 4 (by omega) (by omega)]
      show mset M2 4 i (nI u) 4 j = _
      rw [mset_get]
      simp
    · rw [a6 j hj]
      show mset M2 4 i (nI u) 0 j = _
      rw [mset_cell (by omega)]
    · rw [cx_place C (by omega)]
      simp only [Option.bind_some]
      rw [eu1]
      simp only [Option.bind_some]
      rw [ast_nI (by omega) (by omega)]
      simp only [Option.bind_some]
      rw [show pX1_note (nI u) 0 (nI (pl R r i)) (-1) (mset M1 10 i (nI u)) = _ from a1]
      simp only [Option.bind_some]
      rw [if_pos (by rw [p0]; rfl)]
      rfl
    · rw [rx_place C (by omega)]
      simp only [Option.bind_some]
      rw [eu2]
      simp only [Option.bind_some]
      rw [ast_nI (by omega) (by omega)]
      simp only [Option.bind_some]
      rw [show pX9_happens (nI u) 0 (nI (pl R r i)) (-1) (mset M2 4 i (nI u)) = _ from a2]
      simp only [Option.bind_some]
      rw [show pX9_service (nI (pl R r i)) D2 = some (nI 0) by
        unfold pX9_service
        rw [if_pos (by rw [p0]; rfl)]
        rfl]
      simp only [Option.bind_some, bnd_eq]
      rw [nI_add, Nat.add_zero, if_pos (by rw [p0]; decide)]
      rfl
end STOPS
