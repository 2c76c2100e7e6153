/-! PURE: land and plan as both sides see them -/
def pt (P : Nat → Int32) (k w : Nat) : Nat := cl (P (4 * k + w))
def pl (R : Nat → Int32) (r i : Nat) : Nat := if 1 ≤ i ∧ i ≤ r then cl (R (i - 1)) else 0
def fc (F : Nat → Int32) (p w : Nat) : Nat := cl (F (5 * p + w))
def Ctx (F S R P : Nat → Int32) (n r s : Nat) (M1 M2 : Mm) : Prop := M1 2 = F ∧ M1 3 = S ∧ M1 5 = R ∧ M1 6 = P ∧ LandR n M1 M2 ∧ LandB M1 ∧ PlanR n r s M1 M2
theorem Ctx_c {F S R P : Nat → Int32} {n r s : Nat} {M1 M2 M1' M2' : Mm} (h : Ctx F S R P n r s M1 M2) (e : ∀ c, c < 7 → M1' c = M1 c) (g : M2' 1 = M2 1) : Ctx F S R P n r s M1' M2' := by
  obtain ⟨h1, h2, h3, h4, h5, h6, h7⟩ := h
  have e1 := e 1 (by omega)
  have e2 := e 2 (by omega)
  have e3 := e 3 (by omega)
  have e4 := e 4 (by omega)
  have e5 := e 5 (by omega)
  have e6 := e 6 (by omega)
  exact ⟨by rw [e2, h1], by rw [e3, h2], by rw [e5, h3], by rw [e6, h4], LandR_c h5 (by rw [e1]) e2 e3 (fun i _ => by rw [g]), LandB_c h6 e2 e3, PlanR_c h7 e4 e5 e6 (fun i _ _ => by rw [g])⟩
section CTX
variable {F S R P : Nat → Int32} {n r s : Nat} {M1 M2 : Mm}
theorem cx_n (C : Ctx F S R P n r s M1 M2) : M1 1 0 = nI n ∧ n ≤ 8 ∧ M1 4 0 = nI r ∧ r ≤ 8 ∧ M1 4 1 = nI s ∧ s ≤ 8 ∧ M2 1 0 = nI n ∧ M2 1 60 = nI r ∧ M2 1 70 = nI s := by
  obtain ⟨h1, h2, h3, h4, ⟨a1, a2, a3, a4, a5⟩, h6, ⟨b1, b2, b3, b4, b5, b6, b7, b8, b9, b10⟩⟩ := C
  exact ⟨a2, a1, b3, b1, b4, b2, a3, b5, b6⟩
theorem cx_p (C : Ctx F S R P n r s M1 M2) : (∀ i, i < 8 → M2 1 (61 + i) = M1 5 i) ∧ (∀ i, i < 32 → M2 1 (71 + i) = M1 6 i) ∧ (∀ i, i < r → ∃ p, 1 ≤ p ∧ p ≤ n ∧ M1 5 i = nI p) := by
  obtain ⟨h1, h2, h3, h4, ⟨a1, a2, a3, a4, a5⟩, h6, ⟨b1, b2, b3, b4, b5, b6, b7, b8, b9, b10⟩⟩ := C
  exact ⟨b7, b8, b9⟩
theorem pt_b (C : Ctx F S R P n r s M1 M2) {k : Nat} (hk : k < s) : pt P k 0 ≤ 1 ∧ pt P k 1 ≤ 9 ∧ 1 ≤ pt P k 2 ∧ pt P k 2 ≤ n ∧ pt P k 3 ≤ 9 ∧ P (4 * k) = nI (pt P k 0) ∧ P (4 * k + 1) = nI (pt P k 1) ∧ P (4 * k + 2) = nI (pt P k 2) ∧ P (4 * k + 3) = nI (pt P k 3) := by
  obtain ⟨h1, h2, h3, h4, ⟨a1, a2, a3, a4, a5⟩, h6, ⟨b1, b2, b3, b4, b5, b6, b7, b8, b9, b10⟩⟩ := C
  obtain ⟨fl, fr, c, at9, c1, c2, c3, c4, c5, d1, d2, d3, d4⟩ := b10 k hk
  rw [h4] at d1 d2 d3 d4
  unfold pt
  rw [Nat.add_zero, d1, d2, d3, d4, cl_nI (by omega), cl_nI (by omega), cl_nI (by omega), cl_nI (by omega)]
  exact ⟨c1, c2, c3, c4, c5, rfl, rfl, rfl, rfl⟩
theorem pt_e (C : Ctx F S R P n r s M1 M2) {k w : Nat} (hk : k < s) (hw : w < 4) : P (4 * k + w) = nI (pt P k w) := by
  obtain ⟨_, _, _, _, _, e0, e1, e2, e3⟩ := pt_b C hk
  have : w = 0 ∨ w = 1 ∨ w = 2 ∨ w = 3 := by omega
  rcases this with rfl | rfl | rfl | rfl
  · exact e0
  · exact e1
  · exact e2
  · exact e3
theorem pl_b (C : Ctx F S R P n r s M1 M2) (i : Nat) : pl R r i ≤ n ∧ (1 ≤ i → i ≤ r → 1 ≤ pl R r i) := by
  obtain ⟨h1, h2, h3, h4, ⟨a1, a2, a3, a4, a5⟩, h6, ⟨b1, b2, b3, b4, b5, b6, b7, b8, b9, b10⟩⟩ := C
  unfold pl
  by_cases c : 1 ≤ i ∧ i ≤ r
  · rw [if_pos c]
    obtain ⟨p, p1, p2, e⟩ := b9 (i - 1) (by omega)
    rw [h3] at e
    rw [e, cl_nI (by omega)]
    exact ⟨p2, fun _ _ => p1⟩
  · rw [if_neg c]
    exact ⟨by omega, fun h1 h2 => absurd ⟨h1, h2⟩ c⟩
theorem pl_0 (R : Nat → Int32) (r : Nat) : pl R r 0 = 0 ∧ pl R r (r + 1) = 0 := ⟨if_neg (by omega), if_neg (by omega)⟩
theorem cx_part (C : Ctx F S R P n r s M1 M2) {k w : Nat} (hk : k < s) (hw : w < 4) : pX4_part 4 (nI k) (nI w) M1 = some (nI (pt P k w)) := by
  have q := cx_n C
  rw [c_part q.2.2.2.2.1 q.2.2.2.2.2.1 hk hw, show M1 (4 + 2) = P from C.2.2.2.1, pt_e C hk hw]
theorem rx_part (C : Ctx F S R P n r s M1 M2) {k w : Nat} (hk : k < s) (hw : w < 4) : pX9_sortieOf (nI k) (nI w) M2 = some (nI (pt P k w)) := by
  have q := cx_n C
  rw [r_sortieOf (by omega), ← pt_e C hk hw, ← C.2.2.2.1, Nat.add_assoc, (cx_p C).2.1 _ (by omega)]
theorem cx_place (C : Ctx F S R P n r s M1 M2) {i : Nat} (hi : i < 2147483648) : pX4_placeAt 4 (nI i) M1 = some (nI (pl R r i)) := by
  have q := cx_n C
  rw [c_placeAt q.2.2.1 q.2.2.2.1 hi]
  unfold plc pl
  by_cases c : 1 ≤ i ∧ i ≤ r
  · rw [if_pos c, if_pos c]
    obtain ⟨p, p1, p2, e⟩ := (cx_p C).2.2 (i - 1) (by omega)
    rw [show M1 (4 + 1) = M1 5 from rfl, ← C.2.2.1, e, cl_nI (by omega)]
  · rw [if_neg c, if_neg c]
    rfl
theorem rx_place (C : Ctx F S R P n r s M1 M2) {i : Nat} (hi : i < 2147483648) : pX9_stopAt (nI i) M2 = some (nI (pl R r i)) := by
  have q := cx_n C
  unfold pX9_stopAt pl
  rw [show (60 : Int32) = nI 60 from rfl, r_ald (by omega), q.2.2.2.2.2.2.2.1, Option.bind_some]
  by_cases c : 1 ≤ i ∧ i ≤ r
  · rw [if_pos c, if_neg (by rw [show (1 : Int32) = nI 1 from rfl, isIn_nI (by omega) (by omega) (by omega)]; exact one_ne)]
    obtain ⟨p, p1, p2, e⟩ := (cx_p C).2.2 (i - 1) (by omega)
    rw [show (61 : Int32) + nI i - 1 = nI (61 + (i - 1)) by rw [show (61 : Int32) = nI 61 from rfl, show (1 : Int32) = nI 1 from rfl, nI_add, pk_sub (by omega)]; congr 1; omega]
    rw [r_ald (by omega), (cx_p C).1 _ (by omega), ← C.2.2.1, e, cl_nI (by omega)]
    rfl
  · rw [if_neg c]
    rw [if_pos]
    · rfl
    · by_cases c1 : 1 ≤ i
      · exact isIn_hi_nI (by omega) (by omega)
      · exact isIn_lo_nI (a := 1) (by omega) (by omega)
theorem cx_fact (C : Ctx F S R P n r s M1 M2) {p w : Nat} (hp : p ≤ n) (hw : w < 5) : pX3_fact 1 (nI p) (nI w) M1 = some (nI (fc F p w)) := by
  have q := cx_n C
  rw [c_fact q.1 q.2.1 hp hw]
  unfold fc
  rw [← C.1, (fct C.2.2.2.2.2.1 (by omega) hw).1]
theorem rx_fact (C : Ctx F S R P n r s M1 M2) {p w : Nat} (hp : p ≤ 8) (hw : w < 5) : pX9_placeOf (nI p) (nI w) M2 = some (nI (fc F p w)) := by
  unfold fc
  rw [r_placeOf (by omega), ← C.1, (fct C.2.2.2.2.2.1 (by omega) hw).1, Nat.add_assoc, C.2.2.2.2.1.2.2.2.1 _ (by omega)]
theorem fc_b (C : Ctx F S R P n r s M1 M2) {p w : Nat} (hp : p ≤ 8) (hw : w < 5) : fc F p w ≤ fMost w := by
  unfold fc
  rw [← C.1]
  exact (fct C.2.2.2.2.2.1 hp hw).2
theorem fc_0 (C : Ctx F S R P n r s M1 M2) : fc F 0 2 = 0 := by
  unfold fc
  rw [← C.1, show M1 2 (5 * 0 + 2) = 0 from C.2.2.2.2.2.1.2.1.1]
  rfl
theorem cx_set (C : Ctx F S R P n r s M1 M2) {i : Nat} (hi : i < 10) : pX3_setting 1 (nI i) M1 = some (S i) := by
  rw [c_setting hi, show M1 (1 + 2) = S from C.2.1]
theorem rx_set (C : Ctx F S R P n r s M1 M2) {i : Nat} (hi : i < 10) : pX9_of (nI i) M2 = some (S i) := by
  rw [r_of (by omega), C.2.2.2.2.1.2.2.2.2 i hi, C.2.1]
theorem cx_drive (C : Ctx F S R P n r s M1 M2) {a b : Nat} (ha : a ≤ n) (hb : b ≤ n) : pX3_drive 1 (nI a) (nI b) M1 = some (nI (dr F S a b)) := by
  have q := cx_n C
  rw [c_drive q.1 q.2.1 C.2.2.2.2.2.1 ha hb, C.1, C.2.1]
theorem rx_drive (C : Ctx F S R P n r s M1 M2) {a b : Nat} (ha : a ≤ 8) (hb : b ≤ 8) : pX9_drive (nI a) (nI b) M2 = some (nI (dr F S a b)) := by
  rw [r_drive C.2.2.2.2.1.w C.2.2.2.2.2.1 ha hb, C.1, C.2.1]
theorem drx_le (C : Ctx F S R P n r s M1 M2) {a b : Nat} (ha : a ≤ 8) (hb : b ≤ 8) : dr F S a b ≤ 900 := by
  rw [← C.1, ← C.2.1]
  exact dr_le C.2.2.2.2.2.1 ha hb
theorem cx_flight (C : Ctx F S R P n r s M1 M2) {a b : Nat} (ha : a ≤ n) (hb : b ≤ n) : pX3_flight 1 (nI a) (nI b) (S 2) (S 3) M1 = some (nI (fl F S (S 2) (S 3) a b)) := by
  have q := cx_n C
  have z := setB C.2.2.2.2.2.1
  have g := flI_b C.2.2.2.2.2.1 (a := a) (b := b) z.2.2.2.2.2.2.2.2.1 z.2.2.2.2.2.2.2.2.2 (by omega) (by omega)
  rw [C.2.1, C.1] at g
  rw [c_flight q.1 q.2.1 ha hb, C.1, C.2.1, g.1]
theorem rx_flight (C : Ctx F S R P n r s M1 M2) {a b : Nat} (ha : a ≤ 8) (hb : b ≤ 8) : pX9_flight (nI a) (nI b) M2 = some (nI (fl F S (S 2) (S 3) a b)) := by
  have z := setB C.2.2.2.2.2.1
  have g := flI_b C.2.2.2.2.2.1 (a := a) (b := b) z.2.2.2.2.2.2.2.2.1 z.2.2.2.2.2.2.2.2.2 (by omega) (by omega)
  have k := r_flight C.2.2.2.2.1.w ha hb
  rw [C.2.1, C.1] at g k
  rw [k, g.1]
theorem flx_le (C : Ctx F S R P n r s M1 M2) {a b : Nat} (ha : a ≤ 8) (hb : b ≤ 8) : fl F S (S 2) (S 3) a b ≤ 750 := by
  have z := setB C.2.2.2.2.2.1
  have g := flI_b C.2.2.2.2.2.1 (a := a) (b := b) z.2.2.2.2.2.2.2.2.1 z.2.2.2.2.2.2.2.2.2 (by omega) (by omega)
  rw [C.2.1, C.1] at g
  exact g.2
/-- settings by numbers -/
theorem sx (C : Ctx F S R P n r s M1 M2) : (cl (S 4) ≤ 99 ∧ S 4 = nI (cl (S 4))) ∧ (cl (S 5) ≤ 999 ∧ S 5 = nI (cl (S 5))) ∧ (cl (S 6) ≤ 9 ∧ S 6 = nI (cl (S 6))) ∧ (cl (S 7) ≤ 9 ∧ S 7 = nI (cl (S 7))) ∧ (cl (S 8) ≤ 2 ∧ S 8 = nI (cl (S 8))) ∧ (cl (S 9) ≤ 1 ∧ S 9 = nI (cl (S 9))) := by
  have z := setB C.2.2.2.2.2.1
  rw [C.2.1] at z
  obtain ⟨_, _, ⟨a, a1, a2⟩, ⟨b, b0, b1, b2⟩, ⟨c, c1, c2⟩, ⟨d, d1, d2⟩, ⟨e, e1, e2⟩, ⟨f, f1, f2⟩, _⟩ := z
  rw [a2, b2, c2, d2, e2, f2, cl_nI (by omega), cl_nI (by omega), cl_nI (by omega), cl_nI (by omega), cl_nI (by omega), cl_nI (by omega)]
  exact ⟨⟨a1, rfl⟩, ⟨b1, rfl⟩, ⟨c1, rfl⟩, ⟨d1, rfl⟩, ⟨e1, rfl⟩, ⟨f1, rfl⟩⟩
theorem cx_stops (C : Ctx F S R P n r s M1 M2) : pX4_stops 4 M1 = nI (r + 2) := by
  unfold pX4_stops
  rw [(cx_n C).2.2.1]
  exact nI_add r 2
theorem rx_stops (C : Ctx F S R P n r s M1 M2) : pX9_stops M2 = some (nI (r + 2)) := by
  rw [r_stops, (cx_n C).2.2.2.2.2.2.2.1]
  exact congrArg some (nI_add r 2)
theorem rx_sorties (C : Ctx F S R P n r s M1 M2) : pX9_sorties M2 = some (nI s) := by
  rw [r_sorties, (cx_n C).2.2.2.2.2.2.2.2]
theorem rx_customers (C : Ctx F S R P n r s M1 M2) : pX9_customers M2 = some (nI n) := by
  rw [r_customers, (cx_n C).2.2.2.2.2.2.1]
theorem cx_light (C : Ctx F S R P n r s M1 M2) {p : Nat} (hp : p ≤ n) : pX3_isLight 1 (nI p) M1 = some (if fc F p 4 ≤ cl (S 4) then 1 else 0) := by
  have q := cx_n C
  have z := (sx C).1
  have f9 := fc_b C (p := p) (w := 4) (by omega) (by omega)
  have m4 : fMost 4 = 99 := rfl
  unfold pX3_isLight
  rw [show pX3_fact 1 (nI p) 4 M1 = _ from cx_fact C (w := 4) hp (by omega), show pX3_setting 1 4 M1 = _ from cx_set C (i := 4) (by omega)]
  simp only [Option.bind_some]
  by_cases c : fc F p 4 ≤ cl (S 4)
  · rw [if_pos c, if_neg (show ¬ S 4 < nI (fc F p 4) by rw [z.2, lt_nI] <;> omega)]
  · rw [if_neg c, if_pos (show S 4 < nI (fc F p 4) by rw [z.2, lt_nI] <;> omega)]
theorem rx_light (C : Ctx F S R P n r s M1 M2) {p : Nat} (hp : p ≤ 8) : pX9_isLight (nI p) M2 = some (if fc F p 4 ≤ cl (S 4) then 1 else 0) := by
  have q := cx_n C
  have z := (sx C).1
  have f9 := fc_b C (p := p) (w := 4) (by omega) (by omega)
  have m4 : fMost 4 = 99 := rfl
  unfold pX9_isLight
  rw [show pX9_placeOf (nI p) 4 M2 = _ from rx_fact C (w := 4) hp (by omega), show pX9_of 4 M2 = _ from rx_set C (i := 4) (by omega)]
  simp only [Option.bind_some]
  by_cases c : fc F p 4 ≤ cl (S 4)
  · rw [if_pos c, if_neg (show ¬ S 4 < nI (fc F p 4) by rw [z.2, lt_nI] <;> omega)]
  · rw [if_neg c, if_pos (show S 4 < nI (fc F p 4) by rw [z.2, lt_nI] <;> omega)]
end CTX
/-- the first index that is bad -/
def ff (bad : Nat → Bool) : Nat → Nat → Option Nat
  | 0, _ => none
  | c + 1, k => if bad k then some k else ff bad c (k + 1)
def ffo {ρ : Type} (val : Nat → ρ) : Option Nat → Unit ⊕ ρ
  | none => .inl ()
  | some k => .inr (val k)
theorem ff_none {bad : Nat → Bool} : ∀ {c k : Nat}, ff bad c k = none → ∀ j, k ≤ j → j < k + c → bad j = false
  | 0, k, _, j, h1, h2 => absurd h2 (by omega)
  | c + 1, k, h, j, h1, h2 => by
    rw [ff] at h
    by_cases b : bad k = true
    · rw [if_pos b] at h; cases h
    · rw [if_neg b] at h
      by_cases e : j = k
      · subst e; exact Bool.not_eq_true _ ▸ b
      · exact ff_none h j (by omega) (by omega)
theorem ff_some {bad : Nat → Bool} : ∀ {c k j : Nat}, ff bad c k = some j → k ≤ j ∧ j < k + c ∧ bad j = true
  | 0, k, j, h => by cases h
  | c + 1, k, j, h => by
    rw [ff] at h
    by_cases b : bad k = true
    · rw [if_pos b] at h; cases h; exact ⟨by omega, by omega, b⟩
    · rw [if_neg b] at h
      have := ff_some h
      exact ⟨by omega, by omega, this.2.2⟩
theorem itr_ff {ρ : Type} {step : Int32 → Option (Int32 ⊕ (Unit ⊕ ρ))} (bad : Nat → Bool) (val : Nat → ρ) (e : Nat) (h1 : ∀ k, k < e → bad k = false → step (nI k) = some (.inl (nI (k + 1)))) (h2 : ∀ k, k < e → bad k = true → step (nI k) = some (.inr (.inr (val k)))) (h3 : step (nI e) = some (.inr (.inl ()))) : ∀ (c k f : Nat), k + c = e → c < f → itr step f (nI k) = some (ffo val (ff bad c k))
  | 0, k, f, hk, hf => by
    obtain ⟨f, rfl⟩ : ∃ g, f = g + 1 := ⟨f - 1, by omega⟩
    rw [show k = e by omega, itr_e h3]
    rfl
  | c + 1, k, f, hk, hf => by
    obtain ⟨f, rfl⟩ : ∃ g, f = g + 1 := ⟨f - 1, by omega⟩
    rw [ff]
    by_cases b : bad k = true
    · rw [if_pos b, itr_e (h2 k (by omega) b)]
      rfl
    · rw [if_neg b, itr_s (h1 k (by omega) (by simpa using b))]
      exact itr_ff bad val e h1 h2 h3 c (k + 1) f (by omega) (by omega)
