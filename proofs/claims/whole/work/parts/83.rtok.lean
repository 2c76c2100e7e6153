/-! PURE: the pieces of a text, the reference's side -/
section RTOK
variable {B : Nat → Nat} {t : Nat}
theorem r_at {M : Mm} (h : TXD B t M) {q : Nat} (hq : q < t) : ald M 3 300 (nI q) = some (nI (B q)).toInt8.toInt32 := by
  have t3 := h.1
  rw [ald_nI (by omega) (by omega), (h.2.2 q hq).2]
theorem sk_r : ∀ (c p fu : Nat) (M : Mm), p + c = t → TXD B t M → M 0 7 = nI p → c < fu → ∃ M', itr pX9_here_L0 fu M = some M' ∧ (∀ c, c ≠ 0 → M' c = M c) ∧ (∀ i, i ≠ 7 → M' 0 i = M 0 i) ∧ M' 0 7 = nI (rnd isBl B t p)
  | 0, p, fu, M, hp, h, h7, hfu => by
    obtain ⟨fu, rfl⟩ : ∃ g, fu = g + 1 := ⟨fu - 1, by omega⟩
    have t3 := h.1
    refine ⟨M, itr_e ?_, fun _ _ => rfl, fun _ _ => rfl, by rw [rnd_n (by omega)]; exact h7⟩
    unfold pX9_here_L0
    rw [if_pos (show M 0 6 ≤ M 0 7 by rw [h.2.1, h7, le_nI] <;> omega)]
  | c + 1, p, fu, M, hp, h, h7, hfu => by
    obtain ⟨fu, rfl⟩ : ∃ g, fu = g + 1 := ⟨fu - 1, by omega⟩
    have t3 := h.1
    have n1 : ¬ M 0 6 ≤ M 0 7 := by rw [h.2.1, h7, le_nI] <;> omega
    have f := sb_f _ (h.2.2 p (by omega)).1
    have st : pX9_here_L0 M = if isBl (B p) = true then some (.inl (mset M 0 7 (nI (p + 1)))) else some (.inr M) := by
      unfold pX9_here_L0
      rw [if_neg n1, h7, r_at h (by omega), Option.bind_some]
      unfold isBl
      by_cases c1 : B p = 32
      · rw [if_pos (f.1.mpr c1), Option.bind_some, if_pos (by simp [c1])]
        simp only [Sum.elim_inl, bnd_eq]
        rw [show nI p + 1 = nI (p + 1) from nI_add p 1]
      · rw [if_neg (fun g => c1 (f.1.mp g)), Option.bind_some]
        by_cases c2 : B p = 10
        · rw [if_pos (f.2.1.mpr c2), Option.bind_some, if_pos (by simp [c2])]
          simp only [Sum.elim_inl, bnd_eq]
          rw [show nI p + 1 = nI (p + 1) from nI_add p 1]
        · rw [if_neg (fun g => c2 (f.2.1.mp g)), Option.bind_some, if_neg (by simp [c1, c2])]
          rfl
    by_cases cb : isBl (B p) = true
    · rw [if_pos cb] at st
      obtain ⟨M', e1, e2, e3, e4⟩ := sk_r c (p + 1) fu (mset M 0 7 (nI (p + 1))) (by omega) (TXD_f h (G1_s (by omega))) (mset_same _ _ _ _) (by omega)
      refine ⟨M', by rw [itr_s st]; exact e1, fun c hc => by rw [e2 c hc, mset_cell hc], fun i hi => by rw [e3 i hi, mset_slot hi], by rw [rnd_y (by omega) cb]; exact e4⟩
    · rw [if_neg cb] at st
      exact ⟨M, itr_e st, fun _ _ => rfl, fun _ _ => rfl, by rw [rnd_n (fun g => cb g.2)]; exact h7⟩
theorem here_r {M : Mm} {p : Nat} (h : TXD B t M) (hp : p ≤ t) (h7 : M 0 7 = nI p) : ∃ M', pX9_here M = some (if rnd isBl B t p < t then nI (B (rnd isBl B t p)) else -1, M') ∧ (∀ c, c ≠ 0 → M' c = M c) ∧ (∀ i, i ≠ 7 → M' 0 i = M 0 i) ∧ M' 0 7 = nI (rnd isBl B t p) := by
  have t3 := h.1
  obtain ⟨M', e1, e2, e3, e4⟩ := sk_r (t - p) p fuel M (by omega) h h7 (by unfold fuel; omega)
  have qb := rnd_b (P := isBl) (B := B) hp
  generalize rnd isBl B t p = q at *
  have h' : TXD B t M' := TXD_f h ⟨e2, fun i a b c => e3 i b⟩
  refine ⟨M', ?_, e2, e3, e4⟩
  unfold pX9_here
  rw [e1, Option.bind_some]
  by_cases c : q < t
  · rw [if_neg (show ¬ M' 0 6 ≤ M' 0 7 by rw [h'.2.1, e4, le_nI] <;> omega), e4, r_at h' c, Option.bind_some, (sb_f _ (h'.2.2 q c).1).2.2.2.2.1, if_pos c]
  · rw [if_pos (show M' 0 6 ≤ M' 0 7 by rw [h'.2.1, e4, le_nI] <;> omega), if_neg c]
theorem dg_r {M : Mm} (h : TXD B t M) {q : Nat} (hq : q ≤ t) : pX9_isDigitAt (nI q) M = some (if q < t ∧ isDg (B q) = true then 1 else 0) := by
  have t3 := h.1
  unfold pX9_isDigitAt
  rw [h.2.1]
  by_cases c : q < t
  · rw [if_neg (show ¬ nI t ≤ nI q by rw [le_nI] <;> omega), r_at h c, Option.bind_some, (sb_f _ (h.2.2 q c).1).2.2.2.1]
    by_cases c2 : isDg (B q) = true
    · rw [if_pos c2, if_neg one_ne, if_pos ⟨c, c2⟩]
    · rw [if_neg c2, if_pos rfl, if_neg (fun g => c2 g.2)]
  · rw [if_pos (show nI t ≤ nI q by rw [le_nI] <;> omega), if_neg (fun g => c g.1)]
theorem in_r {fd : Nat} {x2 : Int32} : ∀ (c k fu : Nat) (M : Mm), fd + k + c = t → TXD B t M → M 0 7 = nI (fd + k) → c < fu → ∃ M', itr (pX9_number_L95 x2 (nI fd)) fu (nI (dn B fd (min k 3)), M) = some (nI (dn B fd (min (rnd isDg B t (fd + k) - fd) 3)), M') ∧ (∀ c, c ≠ 0 → M' c = M c) ∧ (∀ i, i ≠ 7 → M' 0 i = M 0 i) ∧ M' 0 7 = nI (rnd isDg B t (fd + k))
  | 0, k, fu, M, hk, h, h7, hfu => by
    obtain ⟨fu, rfl⟩ : ∃ g, fu = g + 1 := ⟨fu - 1, by omega⟩
    have t3 := h.1
    rw [rnd_n (by omega), show fd + k - fd = k by omega]
    refine ⟨M, itr_e ?_, fun _ _ => rfl, fun _ _ => rfl, h7⟩
    unfold pX9_number_L95
    dsimp only
    rw [show pX9_isDigitAt (M 0 7) M = pX9_isDigitAt (nI (fd + k)) M by rw [h7], dg_r h (by omega), if_neg (by omega), Option.bind_some, if_pos rfl]
  | c + 1, k, fu, M, hk, h, h7, hfu => by
    obtain ⟨fu, rfl⟩ : ∃ g, fu = g + 1 := ⟨fu - 1, by omega⟩
    have t3 := h.1
    by_cases cb : isDg (B (fd + k)) = true
    · have b48 : 48 ≤ B (fd + k) := by
        unfold isDg at cb
        simp at cb
        omega
      obtain ⟨M', e1, e2, e3, e4⟩ := in_r (fd := fd) (x2 := x2) c (k + 1) fu (mset M 0 7 (nI (fd + (k + 1)))) (by omega) (TXD_f h (G1_s (by omega))) (mset_same _ _ _ _) (by omega)
      rw [rnd_y (p := fd + k) (by omega) cb]
      refine ⟨M', ?_, fun c hc => by rw [e2 c hc, mset_cell hc], fun i hi => by rw [e3 i hi, mset_slot hi], e4⟩
      rw [itr_s (s' := (nI (dn B fd (min (k + 1) 3)), mset M 0 7 (nI (fd + (k + 1)))))]
      · exact e1
      · unfold pX9_number_L95
        dsimp only
        rw [show pX9_isDigitAt (M 0 7) M = pX9_isDigitAt (nI (fd + k)) M by rw [h7], dg_r h (by omega), if_pos ⟨by omega, cb⟩, Option.bind_some, if_neg one_ne]
        by_cases c3 : 3 ≤ k
        · rw [if_pos (show (3 : Int32) ≤ M 0 7 - nI fd by rw [h7, sub_nI (by omega)]; show nI 3 ≤ nI (fd + k - fd); rw [le_nI] <;> omega), bnd_eq, bnd_eq, h7, show nI (fd + k) + 1 = nI (fd + (k + 1)) from nI_add (fd + k) 1, show min k 3 = min (k + 1) 3 by omega]
        · rw [if_neg (show ¬ (3 : Int32) ≤ M 0 7 - nI fd by rw [h7, sub_nI (by omega)]; show ¬ nI 3 ≤ nI (fd + k - fd); rw [le_nI] <;> omega), h7, show nI (fd + k) + 1 = nI (fd + (k + 1)) from nI_add (fd + k) 1, r_at h (by omega), Option.bind_some, bnd_eq, bnd_eq, (sb_f _ (h.2.2 (fd + k) (by omega)).1).2.2.2.2.2.1 cb, show min k 3 = k by omega, show min (k + 1) 3 = k + 1 by omega, show 10 * nI (dn B fd k) + nI (B (fd + k)) - 48 = nI (dn B fd (k + 1)) by
            rw [dn, show (10 : Int32) = nI 10 from rfl, pk_mul, nI_add, show (48 : Int32) = nI 48 from rfl, sub_nI (by omega)]
            congr 1
            omega]
    · rw [rnd_n (fun g => cb g.2), show fd + k - fd = k by omega]
      refine ⟨M, itr_e ?_, fun _ _ => rfl, fun _ _ => rfl, h7⟩
      unfold pX9_number_L95
      dsimp only
      rw [show pX9_isDigitAt (M 0 7) M = pX9_isDigitAt (nI (fd + k)) M by rw [h7], dg_r h (by omega), if_neg (fun g => cb g.2), Option.bind_some, if_pos rfl]
theorem fails_0 {M : Mm} {k q : Nat} (h : M 0 5 = 0) : pX9_fails (nI k) (nI q) M = mset M 0 5 (nI (k + 8 * q)) := by
  unfold pX9_fails
  rw [if_pos h, bnd_eq, show nI k + 8 * nI q = nI (k + 8 * q) by simp (disch := omega) only [bnd_eq, Option.bind_some, lit_nI, nI_add, pk_mul, ald_nI, ast_nI, lt_nI, le_nI, eq_nI, sub_nI, Sum.elim_inl, Sum.elim_inr, if_pos, if_neg, if_true, if_false]]
/-- a number is read, or there is none -/
theorem number_r {M : Mm} {p : Nat} (h : TXD B t M) (hp : p ≤ t) (h7 : M 0 7 = nI p) (h5 : M 0 5 = 0) : ∃ (v : Int32) (M' : Mm), pX9_number M = some (v, M') ∧ G1 M M' ∧ ((tk B t (rnd isBl B t p) = 2 ∧ v = tv B t (rnd isBl B t p) ∧ M' 0 5 = 0 ∧ M' 0 7 = nI (te B t (rnd isBl B t p)) ∧ M' 0 8 = nI (rnd isBl B t p)) ∨ (tk B t (rnd isBl B t p) ≠ 2 ∧ M' 0 5 = nI (1 + 8 * rnd isBl B t p))) := by
  have t3 := h.1
  obtain ⟨M1, e1, f1, f2, f3⟩ := here_r h hp h7
  have qb := rnd_b (P := isBl) (B := B) hp
  generalize rnd isBl B t p = q at *
  obtain ⟨V, hV⟩ : ∃ V, V = mset M1 0 8 (nI q) := ⟨_, rfl⟩
  have g1 : G1 M V := by
    rw [hV]
    exact G1_t ⟨f1, fun i a b c => f2 i b⟩ (G1_s (by omega))
  have hVt : TXD B t V := TXD_f h g1
  have v7 : V 0 7 = nI q := by rw [hV, mset_slot (by omega)]; exact f3
  have v8 : V 0 8 = nI q := by rw [hV, mset_same]
  have v5 : V 0 5 = 0 := by rw [hV, mset_slot (by omega), f2 5 (by omega)]; exact h5
  -- the digits from fd on
  have run : ∀ (fd : Nat) (j6 : Int32), fd ≤ t → (fd < t ∧ isDg (B fd) = true) → ∃ M', itr (pX9_number_L95 j6 (nI fd)) fuel (0, mset V 0 7 (nI fd)) = some (nI (dn B fd (min (rnd isDg B t fd - fd) 3)), M') ∧ G1 M M' ∧ M' 0 7 = nI (rnd isDg B t fd) ∧ M' 0 8 = nI q ∧ M' 0 5 = 0 ∧ 1 ≤ rnd isDg B t fd - fd ∧ rnd isDg B t fd ≤ t := by
    intro fd j6 hf hd
    obtain ⟨M', r1, r2, r3, r4⟩ := in_r (B := B) (t := t) (fd := fd) (x2 := j6) (t - fd) 0 fuel (mset V 0 7 (nI fd)) (by omega) (TXD_f hVt (G1_s (by omega))) (mset_same _ _ _ _) (by unfold fuel; omega)
    rw [Nat.add_zero] at r1 r4
    have b1 := rnd_b (P := isDg) (B := B) (t := t) (p := fd + 1) (by omega)
    have b2 : rnd isDg B t fd = rnd isDg B t (fd + 1) := rnd_y hd.1 hd.2
    exact ⟨M', r1, G1_t g1 (G1_t (G1_s (by omega)) ⟨r2, fun i a b c => r3 i b⟩), r4, by rw [r3 8 (by omega), mset_slot (by omega)]; exact v8, by rw [r3 5 (by omega), mset_slot (by omega)]; exact v5, by omega, by omega⟩
  unfold pX9_number
  rw [if_pos h5, e1, Option.bind_some, bnd_eq]
  dsimp only
  rw [f3, bnd_eq, ← hV]
  have f45 : (if q < t then nI (B q) else -1) = (45 : Int32) ↔ q < t ∧ B q = 45 := by
    by_cases c : q < t
    · rw [if_pos c, (cb_f _ (hVt.2.2 q c).1).2.2.2.1]
      exact ⟨fun g => ⟨c, g⟩, fun g => g.2⟩
    · rw [if_neg c]
      exact ⟨fun g => absurd g (by decide), fun g => absurd g.1 c⟩
  unfold tk te tv kI
  by_cases cm : q < t ∧ B q = 45
  · have cf := (ch_f _ (hVt.2.2 q cm.1).1).2.1 cm.2
    rw [if_pos (f45.mpr cm), bnd_eq, if_neg one_ne, bnd_eq, v7, show nI q + 1 = nI (q + 1) from nI_add q 1, dg_r hVt (show q + 1 ≤ t by omega), Option.bind_some]
    have n59 : ¬ B q = 59 := by omega
    have nle : ¬ isLe (B q) = true := by rw [cf.1]; decide
    have nd : ¬ isDg (B q) = true := by rw [cf.2]; decide
    rw [if_pos cm.1, if_pos cm.1, if_neg n59, if_neg n59, if_neg nle, if_neg nle, if_neg nd, if_neg nd, if_neg nd, if_pos cm.2, if_pos cm.2]
    by_cases cd : q + 1 < t ∧ isDg (B (q + 1)) = true
    · rw [if_pos cd, if_neg one_ne, bnd_eq, show (if (1 : Int32) = 0 then (0 : Int32) else 1) = 1 from rfl, show nI q + 1 = nI (q + 1) from nI_add q 1, bnd_eq, mset_same, bnd_eq]
      obtain ⟨M', r1, r2, r3, r4, r5, r6, r7⟩ := run (q + 1) 1 (by omega) cd
      rw [r1, Option.bind_some, bnd_eq, if_neg one_ne]
      dsimp only
      by_cases c3 : rnd isDg B t (q + 1) - (q + 1) ≤ 3
      · rw [if_pos (show M' 0 7 - nI (q + 1) ≤ 3 by rw [r3, sub_nI (by omega)]; show nI (rnd isDg B t (q + 1) - (q + 1)) ≤ nI 3; rw [le_nI] <;> omega), if_pos (by omega), show min (rnd isDg B t (q + 1) - (q + 1)) 3 = rnd isDg B t (q + 1) - (q + 1) by omega]
        exact ⟨_, _, rfl, r2, Or.inl ⟨rfl, rfl, r5, r3, r4⟩⟩
      · rw [if_neg (show ¬ M' 0 7 - nI (q + 1) ≤ 3 by rw [r3, sub_nI (by omega)]; show ¬ nI (rnd isDg B t (q + 1) - (q + 1)) ≤ nI 3; rw [le_nI] <;> omega), if_neg (by omega), bnd_eq, r4, show (1 : Int32) = nI 1 from rfl, fails_0 r5]
        exact ⟨_, _, rfl, G1_t r2 (G1_s (by omega)), Or.inr ⟨by omega, mset_same _ _ _ _⟩⟩
    · rw [if_neg cd, if_pos rfl, bnd_eq, v8, show (1 : Int32) = nI 1 from rfl, fails_0 v5, rnd_n cd, if_neg (by omega)]
      exact ⟨_, _, rfl, G1_t g1 (G1_s (by omega)), Or.inr ⟨by omega, mset_same _ _ _ _⟩⟩
  · rw [if_neg (fun g => cm (f45.mp g)), bnd_eq, if_pos rfl, bnd_eq, v7, dg_r hVt (show q ≤ t by omega), Option.bind_some]
    by_cases cd : q < t ∧ isDg (B q) = true
    · have ch := ch_f _ (hVt.2.2 q cd.1).1
      have n59 : B q ≠ 59 := fun e => by have := (ch.1 e).2; rw [cd.2] at this; cases this
      have nle : ¬ isLe (B q) = true := fun e => by have := ch.2.2.1 e; rw [cd.2] at this; cases this
      rw [if_pos cd, if_neg one_ne, bnd_eq, show (if (0 : Int32) = 0 then (0 : Int32) else 1) = 0 from rfl, show nI q + 0 = nI q from Int32.add_zero _, bnd_eq, mset_same, bnd_eq, if_pos cd.1, if_pos cd.1, if_neg n59, if_neg n59, if_neg nle, if_neg nle, if_pos cd.2, if_pos cd.2, if_pos cd.2]
      obtain ⟨M', r1, r2, r3, r4, r5, r6, r7⟩ := run q 0 (by omega) cd
      rw [r1, Option.bind_some, bnd_eq, if_pos rfl]
      dsimp only
      by_cases c3 : rnd isDg B t q - q ≤ 3
      · rw [if_pos (show M' 0 7 - nI (q) ≤ 3 by rw [r3, sub_nI (by omega)]; show nI (rnd isDg B t q - q) ≤ nI 3; rw [le_nI] <;> omega), if_pos (by omega), show min (rnd isDg B t q - q) 3 = rnd isDg B t q - q by omega]
        exact ⟨_, _, rfl, r2, Or.inl ⟨rfl, rfl, r5, r3, r4⟩⟩
      · rw [if_neg (show ¬ M' 0 7 - nI (q) ≤ 3 by rw [r3, sub_nI (by omega)]; show ¬ nI (rnd isDg B t q - q) ≤ nI 3; rw [le_nI] <;> omega), if_neg (by omega), bnd_eq, r4, show (1 : Int32) = nI 1 from rfl, fails_0 r5]
        exact ⟨_, _, rfl, G1_t r2 (G1_s (by omega)), Or.inr ⟨by omega, mset_same _ _ _ _⟩⟩
    · rw [if_neg cd, if_pos rfl, bnd_eq, v8, show (1 : Int32) = nI 1 from rfl, fails_0 v5]
      refine ⟨_, _, rfl, G1_t g1 (G1_s (by omega)), Or.inr ⟨?_, mset_same _ _ _ _⟩⟩
      by_cases cq : q < t
      · rw [if_pos cq]
        by_cases c1 : B q = 59
        · rw [if_pos c1]
          omega
        · rw [if_neg c1]
          by_cases c2 : isLe (B q) = true
          · rw [if_pos c2]
            omega
          · rw [if_neg c2, if_neg (fun g => cd ⟨cq, g⟩), if_neg (fun g => cm ⟨cq, g⟩)]
            omega
      · rw [if_neg cq]
        omega
/-! words -/
def wcode (B : Nat → Nat) (f : Nat) : Nat → Nat
  | 0 => 0
  | k + 1 => 32 * wcode B f k + (B (f + k) - 96)
theorem wd_r {f : Nat} : ∀ (c k fu : Nat) (M : Mm), f + k + c = t → TXD B t M → M 0 7 = nI (f + k) → M 0 8 = nI f → c < fu → ∃ M', itr pX9_word_L28 fu (if k ≤ 6 then nI (wcode B f k) else 0, M) = some (if rnd isLe B t (f + k) - f ≤ 6 then nI (wcode B f (rnd isLe B t (f + k) - f)) else 0, M') ∧ (∀ c, c ≠ 0 → M' c = M c) ∧ (∀ i, i ≠ 7 → M' 0 i = M 0 i) ∧ M' 0 7 = nI (rnd isLe B t (f + k))
  | 0, k, fu, M, hk, h, h7, h8, hfu => by
    obtain ⟨fu, rfl⟩ : ∃ g, fu = g + 1 := ⟨fu - 1, by omega⟩
    have t3 := h.1
    rw [rnd_n (by omega), show f + k - f = k by omega]
    refine ⟨M, itr_e ?_, fun _ _ => rfl, fun _ _ => rfl, h7⟩
    unfold pX9_word_L28
    dsimp only
    rw [if_pos (show M 0 6 ≤ M 0 7 by rw [h.2.1, h7, le_nI] <;> omega)]
  | c + 1, k, fu, M, hk, h, h7, h8, hfu => by
    obtain ⟨fu, rfl⟩ : ∃ g, fu = g + 1 := ⟨fu - 1, by omega⟩
    have t3 := h.1
    have n1 : ¬ M 0 6 ≤ M 0 7 := by rw [h.2.1, h7, le_nI] <;> omega
    have sf := sb_f _ (h.2.2 (f + k) (by omega)).1
    by_cases cb : isLe (B (f + k)) = true
    · have b97 : 97 ≤ B (f + k) := by
        unfold isLe at cb
        simp at cb
        omega
      obtain ⟨M', e1, e2, e3, e4⟩ := wd_r (f := f) c (k + 1) fu (mset M 0 7 (nI (f + (k + 1)))) (by omega) (TXD_f h (G1_s (by omega))) (mset_same _ _ _ _) (by rw [mset_slot (by omega)]; exact h8) (by omega)
      rw [rnd_y (p := f + k) (by omega) cb]
      refine ⟨M', ?_, fun c hc => by rw [e2 c hc, mset_cell hc], fun i hi => by rw [e3 i hi, mset_slot hi], e4⟩
      rw [itr_s (s' := (if k + 1 ≤ 6 then nI (wcode B f (k + 1)) else 0, mset M 0 7 (nI (f + (k + 1)))))]
      · exact e1
      · unfold pX9_word_L28
        dsimp only
        rw [if_neg n1, show ald M 3 300 (M 0 7) = ald M 3 300 (nI (f + k)) by rw [h7], r_at h (by omega), Option.bind_some, sf.2.2.1, if_pos cb, if_neg one_ne]
        by_cases c6 : 6 ≤ k
        · rw [if_pos (show (6 : Int32) ≤ M 0 7 - M 0 8 by rw [h7, h8, sub_nI (by omega)]; show nI 6 ≤ nI (f + k - f); rw [le_nI] <;> omega), bnd_eq, h7, show nI (f + k) + 1 = nI (f + (k + 1)) from nI_add (f + k) 1, if_neg (show ¬ k + 1 ≤ 6 by omega)]
        · rw [if_neg (show ¬ (6 : Int32) ≤ M 0 7 - M 0 8 by rw [h7, h8, sub_nI (by omega)]; show ¬ nI 6 ≤ nI (f + k - f); rw [le_nI] <;> omega), Option.bind_some, bnd_eq, bnd_eq, h7, show nI (f + k) + 1 = nI (f + (k + 1)) from nI_add (f + k) 1, sf.2.2.2.2.2.2 cb, if_pos (show k ≤ 6 by omega), if_pos (show k + 1 ≤ 6 by omega), show 32 * nI (wcode B f k) + nI (B (f + k)) - 96 = nI (wcode B f (k + 1)) by
            rw [wcode, show (32 : Int32) = nI 32 from rfl, pk_mul, nI_add, show (96 : Int32) = nI 96 from rfl, sub_nI (by omega)]
            congr 1
            omega]
    · rw [rnd_n (fun g => cb g.2), show f + k - f = k by omega]
      refine ⟨M, itr_e ?_, fun _ _ => rfl, fun _ _ => rfl, h7⟩
      unfold pX9_word_L28
      dsimp only
      rw [if_neg n1, show ald M 3 300 (M 0 7) = ald M 3 300 (nI (f + k)) by rw [h7], r_at h (by omega), Option.bind_some, sf.2.2.1, if_neg cb, if_pos rfl]
theorem word_r {M : Mm} {p : Nat} (h : TXD B t M) (hp : p ≤ t) (h7 : M 0 7 = nI p) : ∃ (v : Int32) (M' : Mm), pX9_word M = some (v, M') ∧ G1 M M' ∧ M' 0 5 = M 0 5 ∧ M' 0 8 = nI (rnd isBl B t p) ∧ ((tk B t (rnd isBl B t p) ≠ 1 ∧ v = 0) ∨ (tk B t (rnd isBl B t p) = 1 ∧ M' 0 7 = nI (te B t (rnd isBl B t p)) ∧ v = if te B t (rnd isBl B t p) - rnd isBl B t p ≤ 6 then nI (wcode B (rnd isBl B t p) (te B t (rnd isBl B t p) - rnd isBl B t p)) else 0)) := by
  have t3 := h.1
  obtain ⟨M1, e1, f1, f2, f3⟩ := here_r h hp h7
  have qb := rnd_b (P := isBl) (B := B) hp
  generalize rnd isBl B t p = q at *
  obtain ⟨V, hV⟩ : ∃ V, V = mset M1 0 8 (nI q) := ⟨_, rfl⟩
  have g1 : G1 M V := by
    rw [hV]
    exact G1_t ⟨f1, fun i a b c => f2 i b⟩ (G1_s (by omega))
  have hVt : TXD B t V := TXD_f h g1
  have v7 : V 0 7 = nI q := by rw [hV, mset_slot (by omega)]; exact f3
  have v8 : V 0 8 = nI q := by rw [hV, mset_same]
  have v5 : V 0 5 = M 0 5 := by rw [hV, mset_slot (by omega), f2 5 (by omega)]
  unfold pX9_word
  rw [e1, Option.bind_some, bnd_eq]
  dsimp only
  rw [f3, bnd_eq, ← hV]
  unfold tk te
  by_cases cq : q < t
  · rw [if_pos cq, (cb_f _ (hVt.2.2 q cq).1).2.2.2.2.2.2.2.2]
    by_cases cl : isLe (B q) = true
    · have n59 : B q ≠ 59 := fun e => by have := ((ch_f _ (hVt.2.2 q cq).1).1 e).1; rw [cl] at this; cases this
      obtain ⟨M', r1, r2, r3, r4⟩ := wd_r (B := B) (f := q) (t - q) 0 fuel V (by omega) hVt (by rw [Nat.add_zero]; exact v7) v8 (by unfold fuel; omega)
      rw [Nat.add_zero] at r1 r4
      rw [rnd_y cq cl] at r1 r4
      rw [if_pos cl, if_neg one_ne, show itr pX9_word_L28 fuel (0, V) = _ from r1, Option.bind_some, if_pos cq, if_neg n59, if_pos cl, if_pos cq, if_neg n59, if_pos cl]
      exact ⟨_, M', rfl, G1_t g1 ⟨r2, fun i a b c => r3 i b⟩, by rw [r3 5 (by omega)]; exact v5, by rw [r3 8 (by omega)]; exact v8, Or.inr ⟨rfl, r4, rfl⟩⟩
    · rw [if_neg cl, if_pos rfl, if_pos cq]
      refine ⟨_, V, rfl, g1, v5, v8, Or.inl ⟨?_, rfl⟩⟩
      by_cases c1 : B q = 59
      · rw [if_pos c1]
        omega
      · rw [if_neg c1, if_neg cl]
        unfold kI
        split
        · split <;> omega
        · split
          · split <;> omega
          · omega
  · rw [if_neg cq, show pX9_isIn (-1) 97 122 = 0 from rfl, if_pos rfl, if_neg cq]
    exact ⟨_, V, rfl, g1, v5, v8, Or.inl ⟨by omega, rfl⟩⟩
end RTOK
