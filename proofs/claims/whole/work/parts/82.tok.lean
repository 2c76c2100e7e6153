/-! PURE: the pieces of a text -/
def isBl (b : Nat) : Bool := b == 32 || b == 10
def isLe (b : Nat) : Bool := decide (97 ≤ b) && decide (b ≤ 122)
def isDg (b : Nat) : Bool := decide (48 ≤ b) && decide (b ≤ 57)
theorem sb_f : ∀ b, b < 256 → ((nI b).toInt8.toInt32 = 32 ↔ b = 32) ∧ ((nI b).toInt8.toInt32 = 10 ↔ b = 10) ∧ pX9_isIn (nI b).toInt8.toInt32 97 122 = (if isLe b then 1 else 0) ∧ pX9_isIn (nI b).toInt8.toInt32 48 57 = (if isDg b then 1 else 0) ∧ (nI b).toInt8.toInt32 &&& 255 = nI b ∧ (isDg b = true → (nI b).toInt8.toInt32 = nI b) ∧ (isLe b = true → (nI b).toInt8.toInt32 = nI b) := by decide +kernel
theorem cb_f : ∀ b, b < 256 → (nI b = 32 ↔ b = 32) ∧ (nI b = 10 ↔ b = 10) ∧ (nI b = 59 ↔ b = 59) ∧ (nI b = 45 ↔ b = 45) ∧ (nI b < 97 ↔ b < 97) ∧ (122 < nI b ↔ 122 < b) ∧ (nI b < 48 ↔ b < 48) ∧ (57 < nI b ↔ 57 < b) ∧ pX9_isIn (nI b) 97 122 = (if isLe b then 1 else 0) := by decide +kernel
theorem ch_f : ∀ b, b < 256 → (b = 59 → isLe b = false ∧ isDg b = false) ∧ (b = 45 → isLe b = false ∧ isDg b = false) ∧ (isLe b = true → isDg b = false) ∧ (isBl b = true → isLe b = false ∧ isDg b = false ∧ b ≠ 59 ∧ b ≠ 45) := by decide +kernel
def rn (P : Nat → Bool) (B : Nat → Nat) (t : Nat) : Nat → Nat → Nat
  | 0, p => p
  | c + 1, p => if p < t ∧ P (B p) = true then rn P B t c (p + 1) else p
def rnd (P : Nat → Bool) (B : Nat → Nat) (t p : Nat) : Nat := rn P B t (t - p) p
def dn (B : Nat → Nat) (fd : Nat) : Nat → Nat
  | 0 => 0
  | k + 1 => dn B fd k * 10 + (B (fd + k) - 48)
def kI (B : Nat → Nat) (t fd : Nat) : Nat := if 1 ≤ rnd isDg B t fd - fd ∧ rnd isDg B t fd - fd ≤ 3 then 2 else 4
def tk (B : Nat → Nat) (t q : Nat) : Nat := if q < t then (if B q = 59 then 3 else if isLe (B q) = true then 1 else if isDg (B q) = true then kI B t q else if B q = 45 then kI B t (q + 1) else 4) else 0
def te (B : Nat → Nat) (t q : Nat) : Nat := if q < t then (if B q = 59 then q + 1 else if isLe (B q) = true then rnd isLe B t (q + 1) else if isDg (B q) = true then rnd isDg B t q else if B q = 45 then rnd isDg B t (q + 1) else q + 1) else q
def tv (B : Nat → Nat) (t q : Nat) : Int32 := if isDg (B q) = true then nI (dn B q (rnd isDg B t q - q)) else -(nI (dn B (q + 1) (rnd isDg B t (q + 1) - (q + 1))))
section TOK
variable {B : Nat → Nat} {t : Nat}
theorem rnd_y {P : Nat → Bool} {p : Nat} (h : p < t) (hp : P (B p) = true) : rnd P B t p = rnd P B t (p + 1) := by
  unfold rnd
  rw [show t - p = (t - (p + 1)) + 1 by omega, rn, if_pos ⟨h, hp⟩]
theorem rnd_n {P : Nat → Bool} {p : Nat} (h : ¬ (p < t ∧ P (B p) = true)) : rnd P B t p = p := by
  unfold rnd
  cases hc : t - p with
  | zero => rfl
  | succ c => rw [rn, if_neg h]
theorem rn_b {P : Nat → Bool} : ∀ c p, p + c ≤ t → p ≤ rn P B t c p ∧ rn P B t c p ≤ t
  | 0, p, h => ⟨Nat.le_refl _, h⟩
  | c + 1, p, h => by
    rw [rn]
    split
    · have := rn_b (P := P) c (p + 1) (by omega)
      exact ⟨by omega, this.2⟩
    · exact ⟨Nat.le_refl _, by omega⟩
theorem rnd_b {P : Nat → Bool} {p : Nat} (h : p ≤ t) : p ≤ rnd P B t p ∧ rnd P B t p ≤ t := rn_b _ _ (by omega)
theorem rn_at {P : Nat → Bool} : ∀ c p, p + c = t → ¬ (rn P B t c p < t ∧ P (B (rn P B t c p)) = true)
  | 0, p, h => fun g => by
    have : rn P B t 0 p = p := rfl
    rw [this] at g
    omega
  | c + 1, p, h => by
    rw [rn]
    split
    · exact rn_at c (p + 1) (by omega)
    · rename_i g
      exact g
theorem rnd_at {P : Nat → Bool} {p : Nat} (h : p ≤ t) : ¬ (rnd P B t p < t ∧ P (B (rnd P B t p)) = true) := rn_at _ _ (by omega)
def TXA (B : Nat → Nat) (t : Nat) (M : Mm) : Prop := t ≤ 300 ∧ M 29 0 = nI t ∧ ∀ i, i < t → B i < 256 ∧ M 30 i = nI (B i)
def TXD (B : Nat → Nat) (t : Nat) (M : Mm) : Prop := t ≤ 300 ∧ M 0 6 = nI t ∧ ∀ i, i < t → B i < 256 ∧ M 3 i = (nI (B i)).toInt8.toInt32
def F1 (M M' : Mm) : Prop := (∀ c, c ≠ 31 → M' c = M c) ∧ ∀ i, i < 6 ∨ 9 < i → M' 31 i = M 31 i
def G1 (M M' : Mm) : Prop := (∀ c, c ≠ 0 → M' c = M c) ∧ ∀ i, i ≠ 5 → i ≠ 7 → i ≠ 8 → M' 0 i = M 0 i
theorem F1_t {M M' M'' : Mm} (h : F1 M M') (h2 : F1 M' M'') : F1 M M'' := ⟨fun c hc => by rw [h2.1 c hc, h.1 c hc], fun i hi => by rw [h2.2 i hi, h.2 i hi]⟩
theorem G1_t {M M' M'' : Mm} (h : G1 M M') (h2 : G1 M' M'') : G1 M M'' := ⟨fun c hc => by rw [h2.1 c hc, h.1 c hc], fun i a b c => by rw [h2.2 i a b c, h.2 i a b c]⟩
theorem F1_s {M : Mm} {i : Nat} {v : Int32} (h : 6 ≤ i) (h2 : i ≤ 9) : F1 M (mset M 31 i v) := ⟨fun c hc => mset_cell hc, fun k hk => mset_slot (by omega)⟩
theorem G1_s {M : Mm} {i : Nat} {v : Int32} (h : i = 5 ∨ i = 7 ∨ i = 8) : G1 M (mset M 0 i v) := ⟨fun c hc => mset_cell hc, fun k a b c => mset_slot (by omega)⟩
theorem TXA_c {M M' : Mm} (h : TXA B t M) (e : M' 29 = M 29) (e2 : M' 30 = M 30) : TXA B t M' := by
  unfold TXA at h ⊢
  rw [e, e2]
  exact h
theorem TXA_f {M M' : Mm} (h : TXA B t M) (f : F1 M M') : TXA B t M' := TXA_c h (f.1 29 (by omega)) (f.1 30 (by omega))
theorem TXD_f {M M' : Mm} (h : TXD B t M) (f : G1 M M') : TXD B t M' := by
  unfold TXD at h ⊢
  rw [f.1 3 (by omega), f.2 6 (by omega) (by omega) (by omega)]
  exact h
theorem by_c {M : Mm} (h : TXA B t M) {q : Nat} (hq : q ≤ 1000) : pX6_byteAt (nI q) M = some (if q < t then nI (B q) else -1) := by
  obtain ⟨h1, h2, h3⟩ := h
  unfold pX6_byteAt
  rw [if_neg (nI_pos (by omega)), h2]
  by_cases c : q < t
  · rw [if_neg (show ¬ nI t ≤ nI q by rw [le_nI] <;> omega), if_pos c, ald_nI (by omega) (by omega), (h3 q c).2, Option.bind_some]
  · rw [if_pos (show nI t ≤ nI q by rw [le_nI] <;> omega), if_neg c]
theorem bl_c {M : Mm} (h : TXA B t M) {q : Nat} (hq : q < t) : pX6_hasBlankAt (nI q) M = some (if isBl (B q) = true then 1 else 0) := by
  have t3 := h.1
  have f := cb_f _ (h.2.2 q hq).1
  unfold pX6_hasBlankAt
  rw [by_c h (by omega), if_pos hq, Option.bind_some, Option.bind_some]
  unfold isBl
  by_cases c : B q = 32
  · rw [if_pos (f.1.mpr c), if_pos (by simp [c])]
  · rw [if_neg (fun g => c (f.1.mp g))]
    by_cases c2 : B q = 10
    · rw [if_pos (f.2.1.mpr c2), if_pos (by simp [c2])]
    · rw [if_neg (fun g => c2 (f.2.1.mp g)), if_neg (by simp [c, c2])]
theorem le_c {M : Mm} (h : TXA B t M) {q : Nat} (hq : q < t) : pX6_hasLetterAt (nI q) M = some (if isLe (B q) = true then 1 else 0) := by
  have t3 := h.1
  have f := cb_f _ (h.2.2 q hq).1
  unfold pX6_hasLetterAt
  rw [by_c h (by omega), if_pos hq, Option.bind_some, Option.bind_some]
  unfold isLe
  by_cases c : B q < 97
  · rw [if_pos (f.2.2.2.2.1.mpr c), if_neg (by simp; omega)]
  · rw [if_neg (fun g => c (f.2.2.2.2.1.mp g))]
    by_cases c2 : 122 < B q
    · rw [if_pos (f.2.2.2.2.2.1.mpr c2), if_neg (by simp; omega)]
    · rw [if_neg (fun g => c2 (f.2.2.2.2.2.1.mp g)), if_pos (by simp; omega)]
theorem dg_c {M : Mm} (h : TXA B t M) {q : Nat} (hq : q < t) : pX6_hasDigitAt (nI q) M = some (if isDg (B q) = true then 1 else 0) := by
  have t3 := h.1
  have f := cb_f _ (h.2.2 q hq).1
  unfold pX6_hasDigitAt
  rw [by_c h (by omega), if_pos hq, Option.bind_some, Option.bind_some]
  unfold isDg
  by_cases c : B q < 48
  · rw [if_pos (f.2.2.2.2.2.2.1.mpr c), if_neg (by simp; omega)]
  · rw [if_neg (fun g => c (f.2.2.2.2.2.2.1.mp g))]
    by_cases c2 : 57 < B q
    · rw [if_pos (f.2.2.2.2.2.2.2.1.mpr c2), if_neg (by simp; omega)]
    · rw [if_neg (fun g => c2 (f.2.2.2.2.2.2.2.1.mp g)), if_pos (by simp; omega)]
/-! the class's loops -/
theorem sk_c : ∀ (c p fu : Nat) (M : Mm), p + c = t → TXA B t M → M 31 7 = nI p → c < fu → ∃ M', itr pX7_step_L8 fu M = some M' ∧ F1 M M' ∧ M' 31 7 = nI (rnd isBl B t p) ∧ M' 31 8 = M 31 8
  | 0, p, fu, M, hp, h, h7, hfu => by
    obtain ⟨fu, rfl⟩ : ∃ g, fu = g + 1 := ⟨fu - 1, by omega⟩
    have t3 := h.1
    refine ⟨M, itr_e ?_, ⟨fun _ _ => rfl, fun _ _ => rfl⟩, by rw [rnd_n (by omega)]; exact h7, rfl⟩
    unfold pX7_step_L8
    rw [if_pos (show M 29 0 ≤ M 31 7 by rw [h.2.1, h7, le_nI] <;> omega)]
  | c + 1, p, fu, M, hp, h, h7, hfu => by
    obtain ⟨fu, rfl⟩ : ∃ g, fu = g + 1 := ⟨fu - 1, by omega⟩
    have t3 := h.1
    have n1 : ¬ M 29 0 ≤ M 31 7 := by rw [h.2.1, h7, le_nI] <;> omega
    have b := bl_c h (q := p) (by omega)
    by_cases cb : isBl (B p) = true
    · rw [if_pos cb] at b
      obtain ⟨M', e1, e2, e3, e4⟩ := sk_c c (p + 1) fu (mset M 31 7 (nI (p + 1))) (by omega) (TXA_f h (F1_s (by omega) (by omega))) (mset_same _ _ _ _) (by omega)
      refine ⟨M', ?_, F1_t (F1_s (by omega) (by omega)) e2, by rw [rnd_y (by omega) cb]; exact e3, by rw [e4, mset_slot (by omega)]⟩
      rw [itr_s (s' := mset M 31 7 (nI (p + 1)))]
      · exact e1
      · unfold pX7_step_L8
        rw [if_neg n1, h7, b, Option.bind_some, if_neg one_ne, bnd_eq, show nI p + 1 = nI (p + 1) from nI_add p 1]
    · rw [if_neg cb] at b
      refine ⟨M, itr_e ?_, ⟨fun _ _ => rfl, fun _ _ => rfl⟩, by rw [rnd_n (fun g => cb g.2)]; exact h7, rfl⟩
      unfold pX7_step_L8
      rw [if_neg n1, h7, b, Option.bind_some, if_pos rfl]
theorem wd_c : ∀ (c p fu : Nat) (M : Mm), p + c = t → TXA B t M → M 31 8 = nI p → c < fu → ∃ M', itr pX7_stepWord_L5 fu M = some M' ∧ F1 M M' ∧ M' 31 8 = nI (rnd isLe B t p) ∧ M' 31 7 = M 31 7 ∧ M' 31 6 = M 31 6
  | 0, p, fu, M, hp, h, h7, hfu => by
    obtain ⟨fu, rfl⟩ : ∃ g, fu = g + 1 := ⟨fu - 1, by omega⟩
    have t3 := h.1
    refine ⟨M, itr_e ?_, ⟨fun _ _ => rfl, fun _ _ => rfl⟩, by rw [rnd_n (by omega)]; exact h7, rfl, rfl⟩
    unfold pX7_stepWord_L5
    rw [if_pos (show M 29 0 ≤ M 31 8 by rw [h.2.1, h7, le_nI] <;> omega)]
  | c + 1, p, fu, M, hp, h, h7, hfu => by
    obtain ⟨fu, rfl⟩ : ∃ g, fu = g + 1 := ⟨fu - 1, by omega⟩
    have t3 := h.1
    have n1 : ¬ M 29 0 ≤ M 31 8 := by rw [h.2.1, h7, le_nI] <;> omega
    have b := le_c h (q := p) (by omega)
    by_cases cb : isLe (B p) = true
    · rw [if_pos cb] at b
      obtain ⟨M', e1, e2, e3, e4, e5⟩ := wd_c c (p + 1) fu (mset M 31 8 (nI (p + 1))) (by omega) (TXA_f h (F1_s (by omega) (by omega))) (mset_same _ _ _ _) (by omega)
      refine ⟨M', ?_, F1_t (F1_s (by omega) (by omega)) e2, by rw [rnd_y (by omega) cb]; exact e3, by rw [e4, mset_slot (by omega)], by rw [e5, mset_slot (by omega)]⟩
      rw [itr_s (s' := mset M 31 8 (nI (p + 1)))]
      · exact e1
      · unfold pX7_stepWord_L5
        rw [if_neg n1, h7, b, Option.bind_some, if_neg one_ne, bnd_eq, show nI p + 1 = nI (p + 1) from nI_add p 1]
    · rw [if_neg cb] at b
      refine ⟨M, itr_e ?_, ⟨fun _ _ => rfl, fun _ _ => rfl⟩, by rw [rnd_n (fun g => cb g.2)]; exact h7, rfl, rfl⟩
      unfold pX7_stepWord_L5
      rw [if_neg n1, h7, b, Option.bind_some, if_pos rfl]
theorem in_c {fd : Nat} {x2 : Int32} {M : Mm} (h : TXA B t M) : ∀ (c k fu : Nat), fd + k + c = t → c < fu → itr (pX7_stepInt_L5 (nI fd) x2 M) fu (nI k, nI (dn B fd k)) = some (nI (rnd isDg B t (fd + k) - fd), nI (dn B fd (rnd isDg B t (fd + k) - fd)))
  | 0, k, fu, hk, hfu => by
    obtain ⟨fu, rfl⟩ : ∃ g, fu = g + 1 := ⟨fu - 1, by omega⟩
    have t3 := h.1
    rw [itr_e]
    unfold pX7_stepInt_L5
    dsimp only
    rw [if_pos (show M 29 0 ≤ nI fd + nI k by rw [h.2.1, nI_add, le_nI] <;> omega), rnd_n (by omega), show fd + k - fd = k by omega]
  | c + 1, k, fu, hk, hfu => by
    obtain ⟨fu, rfl⟩ : ∃ g, fu = g + 1 := ⟨fu - 1, by omega⟩
    have t3 := h.1
    have n1 : ¬ M 29 0 ≤ nI fd + nI k := by rw [h.2.1, nI_add, le_nI] <;> omega
    have b := dg_c h (q := fd + k) (by omega)
    by_cases cb : isDg (B (fd + k)) = true
    · rw [if_pos cb] at b
      have b48 : 48 ≤ B (fd + k) := by
        unfold isDg at cb
        simp at cb
        omega
      rw [itr_s (s' := (nI (k + 1), nI (dn B fd (k + 1)))), in_c h c (k + 1) fu (by omega) (by omega), rnd_y (p := fd + k) (by omega) cb]
      · rfl
      · unfold pX7_stepInt_L5
        dsimp only
        rw [if_neg n1, nI_add, b, Option.bind_some, if_neg one_ne, by_c h (by omega), if_pos (by omega), Option.bind_some, bnd_eq, show nI (dn B fd k) * 10 + nI (B (fd + k)) - 48 = nI (dn B fd (k + 1)) by
          rw [dn, show (10 : Int32) = nI 10 from rfl, pk_mul, nI_add, show (48 : Int32) = nI 48 from rfl, sub_nI (by omega)]
          congr 1
          omega, show nI k + 1 = nI (k + 1) from nI_add k 1]
    · rw [if_neg cb] at b
      rw [itr_e, rnd_n (fun g => cb g.2), show fd + k - fd = k by omega]
      unfold pX7_stepInt_L5
      dsimp only
      rw [if_neg n1, nI_add, b, Option.bind_some, if_pos rfl]
theorem stepInt_c {fd : Nat} {x2 : Int32} {M : Mm} (h : TXA B t M) (hf : fd ≤ t) : ∃ M', pX7_stepInt (nI fd) x2 M = some M' ∧ F1 M M' ∧ M' 31 6 = nI (kI B t fd) ∧ M' 31 7 = M 31 7 ∧ M' 31 8 = nI (rnd isDg B t fd) ∧ M' 31 9 = x2 * nI (dn B fd (rnd isDg B t fd - fd)) := by
  have t3 := h.1
  have rb := rnd_b (P := isDg) (B := B) hf
  have e : itr (pX7_stepInt_L5 (nI fd) x2 M) fuel (0, 0) = _ := in_c (x2 := x2) h (t - fd) 0 fuel (by omega) (by unfold fuel; omega)
  rw [Nat.add_zero] at e
  have ad : nI fd + nI (rnd isDg B t fd - fd) = nI (rnd isDg B t fd) := by rw [nI_add]; congr 1; omega
  have fin : ∀ v : Int32, F1 M (mset (mset (mset M 31 6 v) 31 9 (x2 * nI (dn B fd (rnd isDg B t fd - fd)))) 31 8 (nI (rnd isDg B t fd))) ∧ (mset (mset (mset M 31 6 v) 31 9 (x2 * nI (dn B fd (rnd isDg B t fd - fd)))) 31 8 (nI (rnd isDg B t fd))) 31 6 = v := fun v => ⟨F1_t (F1_t (F1_s (by omega) (by omega)) (F1_s (by omega) (by omega))) (F1_s (by omega) (by omega)), by rw [mset_slot (by omega), mset_slot (by omega), mset_same]⟩
  have fin2 : ∀ v : Int32, (mset (mset (mset M 31 6 v) 31 9 (x2 * nI (dn B fd (rnd isDg B t fd - fd)))) 31 8 (nI (rnd isDg B t fd))) 31 7 = M 31 7 ∧ (mset (mset (mset M 31 6 v) 31 9 (x2 * nI (dn B fd (rnd isDg B t fd - fd)))) 31 8 (nI (rnd isDg B t fd))) 31 8 = nI (rnd isDg B t fd) ∧ (mset (mset (mset M 31 6 v) 31 9 (x2 * nI (dn B fd (rnd isDg B t fd - fd)))) 31 8 (nI (rnd isDg B t fd))) 31 9 = x2 * nI (dn B fd (rnd isDg B t fd - fd)) := fun v => ⟨by rw [mset_slot (by omega), mset_slot (by omega), mset_slot (by omega)], mset_same _ _ _ _, by rw [mset_slot (by omega), mset_same]⟩
  unfold pX7_stepInt
  rw [e, Option.bind_some]
  dsimp only
  rw [ad]
  unfold kI
  by_cases c1 : rnd isDg B t fd - fd < 1
  · rw [if_pos (show nI (rnd isDg B t fd - fd) < 1 by show nI (rnd isDg B t fd - fd) < nI 1; rw [lt_nI] <;> omega), if_neg (by omega)]
    exact ⟨_, rfl, (fin 4).1, (fin 4).2, (fin2 4).1, (fin2 4).2.1, (fin2 4).2.2⟩
  · rw [if_neg (show ¬ nI (rnd isDg B t fd - fd) < 1 by show ¬ nI (rnd isDg B t fd - fd) < nI 1; rw [lt_nI] <;> omega)]
    by_cases c3 : 3 < rnd isDg B t fd - fd
    · rw [if_pos (show (3 : Int32) < nI (rnd isDg B t fd - fd) by show nI 3 < nI (rnd isDg B t fd - fd); rw [lt_nI] <;> omega), if_neg (by omega)]
      exact ⟨_, rfl, (fin 4).1, (fin 4).2, (fin2 4).1, (fin2 4).2.1, (fin2 4).2.2⟩
    · rw [if_neg (show ¬ (3 : Int32) < nI (rnd isDg B t fd - fd) by show ¬ nI 3 < nI (rnd isDg B t fd - fd); rw [lt_nI] <;> omega), if_pos (by omega)]
      exact ⟨_, rfl, (fin 2).1, (fin 2).2, (fin2 2).1, (fin2 2).2.1, (fin2 2).2.2⟩
/-- the class steps on by one piece -/
theorem step_c {M : Mm} {p : Nat} (h : TXA B t M) (hp : p ≤ t) (h8 : M 31 8 = nI p) : ∃ M', pX7_step M = some M' ∧ F1 M M' ∧ M' 31 7 = nI (rnd isBl B t p) ∧ M' 31 6 = nI (tk B t (rnd isBl B t p)) ∧ M' 31 8 = nI (te B t (rnd isBl B t p)) ∧ (tk B t (rnd isBl B t p) = 2 → M' 31 9 = tv B t (rnd isBl B t p)) := by
  have t3 := h.1
  obtain ⟨M1, e1, f1, g1, g2⟩ := sk_c (t - p) p fuel (mset M 31 7 (nI p)) (by omega) (TXA_f h (F1_s (by omega) (by omega))) (mset_same _ _ _ _) (by unfold fuel; omega)
  have qb := rnd_b (P := isBl) (B := B) hp
  generalize rnd isBl B t p = q at *
  obtain ⟨V, hV⟩ : ∃ V, V = mset M1 31 8 (nI (q + 1)) := ⟨_, rfl⟩
  have fV : F1 M V := by rw [hV]; exact F1_t (F1_t (F1_s (by omega) (by omega)) f1) (F1_s (by omega) (by omega))
  have hVt : TXA B t V := TXA_f h fV
  have v7 : V 31 7 = nI q := by rw [hV, mset_slot (by omega)]; exact g1
  have v8 : V 31 8 = nI (q + 1) := by rw [hV, mset_same]
  unfold pX7_step
  rw [bnd_eq, h8, e1, Option.bind_some, g1, show nI q + 1 = nI (q + 1) from nI_add q 1, bnd_eq, ← hV]
  unfold tk te
  by_cases cq : q < t
  · have f := cb_f _ (hVt.2.2 q cq).1
    have cf := ch_f _ (hVt.2.2 q cq).1
    rw [if_pos (show V 31 7 < V 29 0 by rw [v7, hVt.2.1, lt_nI] <;> omega), v7, by_c hVt (by omega), if_pos cq, Option.bind_some, if_pos cq, if_pos cq]
    by_cases c59 : B q = 59
    · rw [if_pos (f.2.2.1.mpr c59), bnd_eq, if_pos c59, if_pos c59]
      exact ⟨_, rfl, F1_t fV (F1_s (by omega) (by omega)), by rw [mset_slot (by omega)]; exact v7, mset_same _ _ _ _, by rw [mset_slot (by omega)]; exact v8, fun h => absurd h (by omega)⟩
    · rw [if_neg (fun g => c59 (f.2.2.1.mp g)), if_neg c59, if_neg c59, le_c hVt cq, Option.bind_some]
      by_cases cl : isLe (B q) = true
      · rw [if_pos cl, if_neg one_ne, if_pos cl, if_pos cl]
        obtain ⟨M2, e2, f2, k1, k2, k3⟩ := wd_c (t - (q + 1)) (q + 1) fuel (mset V 31 6 1) (by omega) (TXA_f hVt (F1_s (by omega) (by omega))) (by rw [mset_slot (by omega)]; exact v8) (by unfold fuel; omega)
        unfold pX7_stepWord
        rw [bnd_eq, e2, Option.bind_some, Option.bind_some]
        exact ⟨M2, rfl, F1_t fV (F1_t (F1_s (by omega) (by omega)) f2), by rw [k2, mset_slot (by omega)]; exact v7, by rw [k3, mset_same]; rfl, k1, fun h => absurd h (by omega)⟩
      · rw [if_neg cl, if_pos rfl, if_neg cl, if_neg cl, dg_c hVt cq, Option.bind_some]
        by_cases cd : isDg (B q) = true
        · rw [if_pos cd, if_neg one_ne, if_pos cd, if_pos cd]
          obtain ⟨M2, e2, f2, k1, k2, k3, k4⟩ := stepInt_c (x2 := 1) hVt (show q ≤ t by omega)
          rw [e2, Option.bind_some]
          refine ⟨M2, rfl, F1_t fV f2, by rw [k2]; exact v7, k1, k3, fun _ => ?_⟩
          rw [k4]
          unfold tv
          rw [if_pos cd, Int32.one_mul]
        · rw [if_neg cd, if_pos rfl, if_neg cd, if_neg cd, Option.bind_some]
          by_cases c45 : B q = 45
          · rw [if_pos (f.2.2.2.1.mpr c45), if_pos c45, if_pos c45, show nI q + 1 = nI (q + 1) from nI_add q 1]
            obtain ⟨M2, e2, f2, k1, k2, k3, k4⟩ := stepInt_c (x2 := -1) hVt (show q + 1 ≤ t by omega)
            rw [e2, Option.bind_some]
            refine ⟨M2, rfl, F1_t fV f2, by rw [k2]; exact v7, k1, k3, fun _ => ?_⟩
            rw [k4]
            unfold tv
            rw [if_neg cd]
            generalize nI (dn B (q + 1) (rnd isDg B t (q + 1) - (q + 1))) = y
            grind
          · rw [if_neg (fun g => c45 (f.2.2.2.1.mp g)), bnd_eq, if_neg c45, if_neg c45]
            exact ⟨_, rfl, F1_t fV (F1_s (by omega) (by omega)), by rw [mset_slot (by omega)]; exact v7, mset_same _ _ _ _, by rw [mset_slot (by omega)]; exact v8, fun h => absurd h (by omega)⟩
  · rw [if_neg (show ¬ V 31 7 < V 29 0 by rw [v7, hVt.2.1, lt_nI] <;> omega), bnd_eq, bnd_eq, if_neg cq, if_neg cq]
    refine ⟨_, rfl, F1_t (F1_t fV (F1_s (by omega) (by omega))) (F1_s (by omega) (by omega)), ?_, ?_, ?_, fun h => absurd h (by omega)⟩
    · rw [mset_slot (by omega), mset_slot (by omega)]; exact v7
    · rw [mset_slot (by omega), mset_same]; rfl
    · rw [mset_same, mset_slot (by omega)]; exact v7
end TOK
