/-! PURE: the class's table -/
theorem van0 (a b c d e V : Int32) (h : V + b + c = a + d + e) : a - b - (c - d - e) = V := by grind
theorem van1 (a b c d e f g k V : Int32) (h : V + b + c + f = a + d + e + g + k) : a - b - ((c - d - e) + (f - g - k)) = V := by grind
theorem van_n {a b c d e V : Nat} (h : V + b + c = a + d + e) : nI a - nI b - (nI c - nI d - nI e) = nI V := van0 _ _ _ _ _ _ (by rw [nI_add, nI_add, nI_add, nI_add, h])
theorem van_m {a b c d e f g k V : Nat} (h : V + b + c + f = a + d + e + g + k) : nI a - nI b - ((nI c - nI d - nI e) + (nI f - nI g - nI k)) = nI V := van1 _ _ _ _ _ _ _ _ _ (by rw [nI_add, nI_add, nI_add, nI_add, nI_add, nI_add, nI_add, h])
def BZ (Z : Tp) : Prop := (∀ a b, a ≤ 8 → b ≤ 8 → zl Z a b ≤ 1000) ∧ (∀ a b c, a ≤ 8 → b ≤ 8 → c ≤ 8 → zt Z a b c ≤ 2000) ∧ (∀ a b c, zl Z a c ≤ zl Z a b + zl Z b c) ∧ zL Z ≤ 9 ∧ zK Z ≤ 9 ∧ zB Z ≤ 999 ∧ zf Z ≤ 2
def CX (F S : Nat → Int32) (wx wy : Int32) (f n : Nat) (o : Nat → Nat) (M : Mm) : Prop := BZ (zof F S wx wy f) ∧ n ≤ 8 ∧ (∀ k, o k ≤ n) ∧ M 17 1 = nI f ∧ M 17 2 = nI (zL (zof F S wx wy f)) ∧ M 17 3 = nI (zK (zof F S wx wy f)) ∧ M 17 4 = nI (zB (zof F S wx wy f)) ∧ M 17 5 = (if zh (zof F S wx wy f) = true then 1 else 0) ∧ M 17 6 = nI (n + 1) ∧ (∀ a b, a ≤ n → b ≤ n → M 18 (a * 9 + b) = nI (zl (zof F S wx wy f) a b)) ∧ (∀ a b, a ≤ n → b ≤ n → M 19 (a * 9 + b) = nI (fl F S wx wy a b)) ∧ (∀ a, a ≤ n → M 20 a = nI (fc F a 3)) ∧ (∀ a, a ≤ n → M 21 a = if zi (zof F S wx wy f) a = true then 1 else 0) ∧ ∀ k, k ≤ n + 1 → M 22 k = nI (o k)
theorem CX_c {F S : Nat → Int32} {wx wy : Int32} {f n : Nat} {o : Nat → Nat} {M M' : Mm} (h : CX F S wx wy f n o M) (g : ∀ c, 16 < c → c < 23 → M' c = M c) : CX F S wx wy f n o M' := by
  unfold CX at h ⊢
  rw [g 17 (by omega) (by omega), g 18 (by omega) (by omega), g 19 (by omega) (by omega), g 20 (by omega) (by omega), g 21 (by omega) (by omega), g 22 (by omega) (by omega)]
  exact h
def FrC (B M : Mm) : Prop := (∀ c, c < 23 ∨ 27 < c → M c = B c) ∧ ∀ c, M c 0 = B c 0
def CI (B : Mm) (F S : Nat → Int32) (wx wy : Int32) (f n : Nat) (o : Nat → Nat) (T : Nat → En) (j : Nat) (y : En) (M : Mm) : Prop := CX F S wx wy f n o M ∧ (∀ k, k ≤ j → M 23 k = nI (zsv (zof F S wx wy f) o k)) ∧ Rows 24 T j M ∧ RowR 24 M j y ∧ FrC B M
section FILL
variable {B : Mm} {F S : Nat → Int32} {wx wy : Int32} {f n : Nat} {o : Nat → Nat} {T : Nat → En} {j : Nat} {y : En} {M : Mm}
theorem cz_o (h : CX F S wx wy f n o M) {k : Nat} (hk : k ≤ n + 1) : ald M 22 10 (nI k) = some (nI (o k)) := by
  obtain ⟨h1, h2, h3, h4, h5, h6, h7, h8, h9, h10, h11, h12, h13, h14⟩ := h
  rw [ald_nI (by omega) (by omega), h14 k hk]
theorem cz_lg (h : CX F S wx wy f n o M) {a b : Nat} (ha : a ≤ n) (hb : b ≤ n) : ald M 18 81 (nI a * 9 + nI b) = some (nI (zl (zof F S wx wy f) a b)) := by
  obtain ⟨h1, h2, h3, h4, h5, h6, h7, h8, h9, h10, h11, h12, h13, h14⟩ := h
  rw [show nI a * 9 + nI b = nI (a * 9 + b) by simp (disch := omega) only [bnd_eq, Option.bind_some, lit_nI, nI_add, pk_mul, ald_nI, ast_nI, lt_nI, le_nI, eq_nI, sub_nI, Sum.elim_inl, Sum.elim_inr, if_pos, if_neg, if_true, if_false], ald_nI (by omega) (by omega), h10 a b ha hb]
theorem cz_fl (h : CX F S wx wy f n o M) {a b : Nat} (ha : a ≤ n) (hb : b ≤ n) : ald M 19 81 (nI a * 9 + nI b) = some (nI (fl F S wx wy a b)) := by
  obtain ⟨h1, h2, h3, h4, h5, h6, h7, h8, h9, h10, h11, h12, h13, h14⟩ := h
  rw [show nI a * 9 + nI b = nI (a * 9 + b) by simp (disch := omega) only [bnd_eq, Option.bind_some, lit_nI, nI_add, pk_mul, ald_nI, ast_nI, lt_nI, le_nI, eq_nI, sub_nI, Sum.elim_inl, Sum.elim_inr, if_pos, if_neg, if_true, if_false], ald_nI (by omega) (by omega), h11 a b ha hb]
theorem cz_leg (h : CX F S wx wy f n o M) {a b : Nat} (ha : a ≤ n + 1) (hb : b ≤ n + 1) : pX5_leg (nI a) (nI b) M = some (nI (zl (zof F S wx wy f) (o a) (o b))) := by
  unfold pX5_leg
  rw [cz_o h ha, Option.bind_some, cz_o h hb, Option.bind_some, cz_lg h (h.2.2.1 _) (h.2.2.1 _), Option.bind_some]
theorem cz_trip (h : CX F S wx wy f n o M) {a b c : Nat} (ha : a ≤ n + 1) (hb : b ≤ n + 1) (hc : c ≤ n + 1) : pX5_trip (nI a) (nI b) (nI c) M = some (nI (zt (zof F S wx wy f) (o a) (o b) (o c))) := by
  have q := h.2.2.1
  have d := h.2.2.2.2.2.2.2.2.2.2.2.1 (o b) (q _)
  have n8 := h.2.1
  have := q b
  unfold pX5_trip
  rw [cz_o h hb, Option.bind_some, cz_o h ha, Option.bind_some, cz_fl h (q _) (q _), Option.bind_some, ald_nI (by omega) (by omega), d, Option.bind_some, cz_o h hc, Option.bind_some, cz_fl h (q _) (q _), Option.bind_some, nI_add, nI_add]
  rfl
theorem cz_spared (h : CX F S wx wy f n o M) {a c : Nat} (h0 : 1 ≤ a) (ha : a ≤ n + 1) (hc : c + 1 ≤ n + 1) (hs : ∀ k, k ≤ j → M 23 k = nI (zsv (zof F S wx wy f) o k)) (h1 : a - 1 ≤ j) (h2 : c + 1 ≤ j) : pX5_spared (nI a) (nI c) M = some (nI (zsv (zof F S wx wy f) o (c + 1)) - nI (zsv (zof F S wx wy f) o (a - 1)) - nI (zl (zof F S wx wy f) (o (a - 1)) (o (c + 1)))) := by
  have q := h.2.2.1
  have n8 := h.2.1
  unfold pX5_spared
  rw [show nI a - 1 = nI (a - 1) from sub_nI (b := 1) (by omega), show nI c + 1 = nI (c + 1) from nI_add c 1, cz_o h (by omega), Option.bind_some, cz_o h (by omega), Option.bind_some, cz_lg h (q _) (q _), Option.bind_some, ald_nI (by omega) (by omega), hs _ h2, Option.bind_some, ald_nI (by omega) (by omega), hs _ h1, Option.bind_some]
theorem cz_lasts (h : CX F S wx wy f n o M) {lf bk ct : Nat} (h1 : lf ≤ bk) (h2 : lf ≤ ct) (h3 : bk < 100000) (h4 : ct < 100000) : pX5_lasts (nI lf) (nI bk) (nI ct) M = if okB (zof F S wx wy f) lf bk ct = true then 1 else 0 := by
  have b9 := h.1.2.2.2.2.2.1
  have g7 := h.2.2.2.2.2.2.1
  have g8 := h.2.2.2.2.2.2.2.1
  unfold pX5_lasts okB
  rw [g7, g8, sub_nI h1, sub_nI h2]
  cases hz : zh (zof F S wx wy f) with
  | true =>
    rw [if_neg (by decide), if_pos rfl]
    by_cases c : ct - lf ≤ zB (zof F S wx wy f)
    · rw [if_neg (show ¬ nI (zB (zof F S wx wy f)) < nI (ct - lf) by rw [lt_nI] <;> omega), if_pos (decide_eq_true c)]
    · rw [if_pos (show nI (zB (zof F S wx wy f)) < nI (ct - lf) by rw [lt_nI] <;> omega), if_neg (by simpa using c)]
  | false =>
    rw [if_pos (by decide), if_neg (show ¬ false = true by decide)]
    by_cases c : bk - lf ≤ zB (zof F S wx wy f)
    · rw [if_neg (show ¬ nI (zB (zof F S wx wy f)) < nI (bk - lf) by rw [lt_nI] <;> omega), if_pos (decide_eq_true c)]
    · rw [if_pos (show nI (zB (zof F S wx wy f)) < nI (bk - lf) by rw [lt_nI] <;> omega), if_neg (by simpa using c)]
theorem CI_put (h : CI B F S wx wy f n o T j y M) (h0 : 1 ≤ j) (e m b s : Nat) : CI B F S wx wy f n o T j (e, m, b, s) (mset (mset (mset (mset M 24 j (nI e)) 25 j (nI m)) 26 j (nI b)) 27 j (nI s)) := by
  obtain ⟨h1, h2, h3, h4, h5, h6⟩ := h
  refine ⟨CX_c h1 (fun c a b => by rw [mset_cell (by omega), mset_cell (by omega), mset_cell (by omega), mset_cell (by omega)]), ?_, ?_, ?_, fun c d => by rw [mset_cell (by omega), mset_cell (by omega), mset_cell (by omega), mset_cell (by omega), h5 c d], fun c => by rw [mset_slot (by omega), mset_slot (by omega), mset_slot (by omega), mset_slot (by omega), h6 c]⟩
  · intro k hk
    rw [mset_cell (by omega), mset_cell (by omega), mset_cell (by omega), mset_cell (by omega)]
    exact h2 k hk
  · intro b' hb
    rw [mset_slot (by omega), mset_slot (by omega), mset_slot (by omega), mset_slot (by omega), mset_slot (by omega), mset_slot (by omega), mset_slot (by omega), mset_slot (by omega), mset_slot (by omega), mset_slot (by omega), mset_slot (by omega), mset_slot (by omega), mset_slot (by omega), mset_slot (by omega), mset_slot (by omega), mset_slot (by omega)]
    exact h3 b' hb
  · refine ⟨?_, ?_, ?_, ?_⟩
    · simp (disch := omega) only [mset_get, mset_cell, mrow_cell, mrow_same, if_pos, if_neg, true_and, false_and, and_true, and_false, if_true, if_false, ite_true, ite_false]
    · simp (disch := omega) only [mset_get, mset_cell, mrow_cell, mrow_same, if_pos, if_neg, true_and, false_and, and_true, and_false, if_true, if_false, ite_true, ite_false]
    · simp (disch := omega) only [mset_get, mset_cell, mrow_cell, mrow_same, if_pos, if_neg, true_and, false_and, and_true, and_false, if_true, if_false, ite_true, ite_false]
    · simp (disch := omega) only [mset_get, mset_cell, mrow_cell, mrow_same, if_pos, if_neg, true_and, false_and, and_true, and_false, if_true, if_false, ite_true, ite_false]
theorem cz_offer (h : CI B F S wx wy f n o T j y M) {b s m d : Nat} (h0 : 1 ≤ j) (hj : j ≤ 9) (hb : b < j) (hm : pJ6_bitCount_0f7a4 (nI s) = nI m) (hm2 : m ≤ 2) (hd : d ≤ 100000) (hy : EnOk j y) (hT : (T b).1 ≤ 1000 * b ∧ (T b).2.1 ≤ 2 * b) : ∃ M', pX5_offer (nI b) (nI j) (nI s) (nI d) M = some M' ∧ CI B F S wx wy f n o T j (cand ((T b).1 + d) ((T b).2.1 + m) b s y) M' := by
  have h' := h
  obtain ⟨h1, h2, h3, h4, h5⟩ := h'
  have r := h3 b hb
  have y1 := hy.1
  have y2 := hy.2.1
  unfold pX5_offer
  rw [ald_nI (by omega) (by omega), r.1, Option.bind_some, bnd_eq, ald_nI (by omega) (by omega), show M 25 b = _ from r.2.1, Option.bind_some, hm, bnd_eq, ald_nI (by omega) (by omega), h4.1, Option.bind_some, nI_add, nI_add]
  unfold cand
  by_cases c1 : (T b).1 + d < y.1
  · rw [if_pos (show nI ((T b).1 + d) < nI y.1 by rw [lt_nI] <;> omega), if_pos (Or.inl c1), Option.bind_some]
    exact ⟨_, by simp (disch := omega) only [bnd_eq, Option.bind_some, lit_nI, nI_add, pk_mul, ald_nI, ast_nI, lt_nI, le_nI, eq_nI, sub_nI, Sum.elim_inl, Sum.elim_inr, if_pos, if_neg, if_true, if_false], CI_put h h0 _ _ _ _⟩
  · rw [if_neg (show ¬ nI ((T b).1 + d) < nI y.1 by rw [lt_nI] <;> omega), Option.bind_some]
    by_cases c2 : (T b).1 + d = y.1
    · rw [if_pos (show nI ((T b).1 + d) = nI y.1 by rw [c2]), ald_nI (by omega) (by omega), show M 25 j = _ from h4.2.1, Option.bind_some]
      by_cases c3 : (T b).2.1 + m < y.2.1
      · rw [if_neg (show ¬ nI y.2.1 ≤ nI ((T b).2.1 + m) by rw [le_nI] <;> omega), if_pos (Or.inr ⟨c2, c3⟩), Option.bind_some]
        exact ⟨_, by simp (disch := omega) only [bnd_eq, Option.bind_some, lit_nI, nI_add, pk_mul, ald_nI, ast_nI, lt_nI, le_nI, eq_nI, sub_nI, Sum.elim_inl, Sum.elim_inr, if_pos, if_neg, if_true, if_false], CI_put h h0 _ _ _ _⟩
      · rw [if_pos (show nI y.2.1 ≤ nI ((T b).2.1 + m) by rw [le_nI] <;> omega), if_neg (show ¬ ((T b).1 + d < y.1 ∨ ((T b).1 + d = y.1 ∧ (T b).2.1 + m < y.2.1)) by omega), Option.bind_some]
        exact ⟨M, rfl, h⟩
    · rw [if_neg (show ¬ nI ((T b).1 + d) = nI y.1 by rw [eq_nI] <;> omega), if_neg (show ¬ ((T b).1 + d < y.1 ∨ ((T b).1 + d = y.1 ∧ (T b).2.1 + m < y.2.1)) by omega), Option.bind_some]
      exact ⟨M, rfl, h⟩
theorem bc1 : ∀ p, p < 8 → pJ6_bitCount_0f7a4 (nI (2 ^ p)) = nI 1 := by decide +kernel
theorem bc2 : ∀ q, q < 8 → ∀ p, p < q → pJ6_bitCount_0f7a4 (nI (2 ^ p + 2 ^ q)) = nI 2 ∧ nI (2 ^ p) ||| nI (2 ^ q) = nI (2 ^ p + 2 ^ q) := by decide +kernel
theorem bitq {b p : Nat} (hp : p < 8) : pX5_bit (nI b) (nI (b + 1 + p)) = nI (2 ^ p) := by
  unfold pX5_bit
  rw [sub_nI (by omega), show (1 : Int32) = nI 1 from rfl, sub_nI (by omega), show b + 1 + p - b - 1 = p by omega]
  exact shl1 p (by omega)
theorem cz_one (h : CI B F S wx wy f n o T j y M) {b w p : Nat} (hj : j = b + 1 + w) (hn : j ≤ n + 1) (hp : p < w) (hy : EnOk j y) (hT : (T b).1 ≤ 1000 * b ∧ (T b).2.1 ≤ 2 * b) : ∃ M', pX5_offerOne (nI b) (nI j) (nI (b + 1 + p)) M = some M' ∧ CI B F S wx wy f n o T j (ofr T b (2 ^ p) 1 y (d1 (zof F S wx wy f) o b w p)) M' := by
  subst hj
  have h' := h
  obtain ⟨h1, h2, h3, h4, h5⟩ := h'
  have n8 := h1.2.1
  have q := h1.2.2.1
  have o8 : ∀ k, o k ≤ 8 := fun k => Nat.le_trans (q k) n8
  have bz := h1.1
  have y1 := hy.1
  have wy1 := way1 (Z := zof F S wx wy f) (o := o) (b := b) hp
  have pw := (pth_le (Z := zof F S wx wy f) bz.1 o8 (b := b) (fz := one p) (w + 1)).1
  have t2 : zt (zof F S wx wy f) (o b) (o (b + 1 + p)) (o (b + 1 + w)) ≤ 2000 := bz.2.1 _ _ _ (o8 _) (o8 _) (o8 _)
  have l9 := bz.2.2.2.1
  have k9 := bz.2.2.2.2.1
  have ge := fun d => d1_ge (Z := zof F S wx wy f) (o := o) (b := b) (w := w) (p := p) (d := d)
  have le := fun d => d1_le (Z := zof F S wx wy f) (o := o) (b := b) (w := w) (p := p) (d := d)
  have e1 : M 17 2 = nI (zL (zof F S wx wy f)) := h1.2.2.2.2.1
  have e2 : M 17 3 = nI (zK (zof F S wx wy f)) := h1.2.2.2.2.2.1
  unfold pX5_offerOne
  rw [ald_nI (by omega) (by omega), h2 (b + 1 + w) (by omega), Option.bind_some, ald_nI (by omega) (by omega), h2 b (by omega), Option.bind_some, cz_spared h1 (j := b + 1 + w) (by omega) (by omega) (by omega) h2 (by omega) (by omega), Option.bind_some, bnd_eq, e1, nI_add]
  rw [van_n (V := zL (zof F S wx wy f) + (pth (zof F S wx wy f) o b (one p) (w + 1)).1) (by rw [show b + 1 + p + 1 = b + p + 2 by omega, show b + 1 + p - 1 = b + p by omega]; omega)]
  rw [ald_nI (by omega) (by omega), (h3 b (by omega)).1, Option.bind_some, ald_nI (by omega) (by omega), h4.1, Option.bind_some, e2, nI_add, nI_add]
  by_cases c : (T b).1 + (zL (zof F S wx wy f) + (pth (zof F S wx wy f) o b (one p) (w + 1)).1) + zK (zof F S wx wy f) ≤ y.1
  · rw [if_pos (by rw [le_nI] <;> omega), cz_trip h1 (by omega) (by omega) (by omega), Option.bind_some, bnd_eq, bnd_eq, nI_add, mmax_nI (by omega) (by omega), cz_lasts h1 (by omega) (by omega) (by omega) (by omega)]
    unfold d1 at ge le ⊢
    by_cases c2 : okB (zof F S wx wy f) (zL (zof F S wx wy f)) (zL (zof F S wx wy f) + zt (zof F S wx wy f) (o b) (o (b + 1 + p)) (o (b + 1 + w))) (max (zL (zof F S wx wy f) + (pth (zof F S wx wy f) o b (one p) (w + 1)).1) (zL (zof F S wx wy f) + zt (zof F S wx wy f) (o b) (o (b + 1 + p)) (o (b + 1 + w)))) = true
    · rw [if_pos c2] at ge le
      rw [if_pos c2, if_pos c2, if_neg one_ne, bitq (by omega), nI_add]
      have l2 := le _ rfl
      obtain ⟨M', m1, m2⟩ := cz_offer h (b := b) (s := 2 ^ p) (m := 1) (by omega) (by omega) (by omega) (bc1 p (by omega)) (by omega) (d := _) (Nat.le_trans l2 (by omega)) hy hT
      rw [m1, Option.bind_some]
      exact ⟨M', rfl, m2⟩
    · rw [if_neg c2, if_neg c2, if_pos rfl]
      exact ⟨M, rfl, h⟩
  · rw [if_neg (by rw [le_nI] <;> omega)]
    refine ⟨M, rfl, ?_⟩
    cases hd : d1 (zof F S wx wy f) o b w p with
    | none => exact h
    | some d =>
      have := ge d hd
      rw [show ofr T b (2 ^ p) 1 y (some d) = y from cand_no (by omega)]
      exact h
theorem cz_two (h : CI B F S wx wy f n o T j y M) {b w p q : Nat} (hj : j = b + 1 + w) (hn : j ≤ n + 1) (hp : p < q) (hq : q < w) (hy : EnOk j y) (hT : (T b).1 ≤ 1000 * b ∧ (T b).2.1 ≤ 2 * b) : ∃ M', pX5_offerTwo (nI b) (nI j) (nI (b + 1 + p)) (nI (b + 1 + q)) M = some M' ∧ CI B F S wx wy f n o T j (ofr T b (2 ^ p + 2 ^ q) 2 y (d2 (zof F S wx wy f) o b w p q)) M' := by
  subst hj
  have h' := h
  obtain ⟨h1, h2, h3, h4, h5⟩ := h'
  have n8 := h1.2.1
  have qn := h1.2.2.1
  have o8 : ∀ k, o k ≤ 8 := fun k => Nat.le_trans (qn k) n8
  have bz := h1.1
  have y1 := hy.1
  have pw := (pth_le (Z := zof F S wx wy f) bz.1 o8 (b := b) (fz := two p q) (w + 1)).1
  have t1 : zt (zof F S wx wy f) (o b) (o (b + 1 + p)) (o (b + 1 + w)) ≤ 2000 := bz.2.1 _ _ _ (o8 _) (o8 _) (o8 _)
  have t2 : zt (zof F S wx wy f) (o b) (o (b + 1 + q)) (o (b + 1 + w)) ≤ 2000 := bz.2.1 _ _ _ (o8 _) (o8 _) (o8 _)
  have l9 := bz.2.2.2.1
  have k9 := bz.2.2.2.2.1
  have ge := fun d => d2_ge (Z := zof F S wx wy f) (o := o) (b := b) (w := w) (p := p) (q := q) (d := d)
  have le := fun d => d2_le (Z := zof F S wx wy f) (o := o) (b := b) (w := w) (p := p) (q := q) (d := d)
  have e1 : M 17 2 = nI (zL (zof F S wx wy f)) := h1.2.2.2.2.1
  have e2 : M 17 3 = nI (zK (zof F S wx wy f)) := h1.2.2.2.2.2.1
  obtain ⟨sp, hsp, hv⟩ : ∃ sp : Int32, (if nI (b + 1 + q) = nI (b + 1 + p) + 1 then ((pX5_spared (nI (b + 1 + p)) (nI (b + 1 + q)) M).bind fun v28 => some v28) else ((pX5_spared (nI (b + 1 + p)) (nI (b + 1 + p)) M).bind fun v30 => (pX5_spared (nI (b + 1 + q)) (nI (b + 1 + q)) M).bind fun v32 => some (v30 + v32))) = some sp ∧ nI (2 * zL (zof F S wx wy f) + zsv (zof F S wx wy f) o (b + 1 + w)) - nI (zsv (zof F S wx wy f) o b) - sp = nI (2 * zL (zof F S wx wy f) + (pth (zof F S wx wy f) o b (two p q) (w + 1)).1) := by
    by_cases c : q = p + 1
    · subst c
      have wyq := way2a (Z := zof F S wx wy f) (o := o) (b := b) hq
      refine ⟨_, ?_, van_n (c := zsv (zof F S wx wy f) o (b + p + 3)) (d := zsv (zof F S wx wy f) o (b + p)) (e := zl (zof F S wx wy f) (o (b + p)) (o (b + p + 3))) (by omega)⟩
      rw [if_pos (show nI (b + 1 + (p + 1)) = nI (b + 1 + p) + 1 from (nI_add (b + 1 + p) 1).symm), cz_spared h1 (j := b + 1 + w) (by omega) (by omega) (by omega) h2 (by omega) (by omega), Option.bind_some, show b + 1 + (p + 1) + 1 = b + p + 3 by omega, show b + 1 + p - 1 = b + p by omega]
    · have wyq := way2b (Z := zof F S wx wy f) (o := o) (b := b) (p := p) (q := q) (by omega) hq
      refine ⟨_, ?_, van_m (c := zsv (zof F S wx wy f) o (b + p + 2)) (d := zsv (zof F S wx wy f) o (b + p)) (e := zl (zof F S wx wy f) (o (b + p)) (o (b + p + 2))) (f := zsv (zof F S wx wy f) o (b + q + 2)) (g := zsv (zof F S wx wy f) o (b + q)) (k := zl (zof F S wx wy f) (o (b + q)) (o (b + q + 2))) (by omega)⟩
      rw [if_neg (show ¬ nI (b + 1 + q) = nI (b + 1 + p) + 1 by rw [show nI (b + 1 + p) + 1 = nI (b + 1 + p + 1) from nI_add _ 1, eq_nI (by omega) (by omega)]; omega), cz_spared h1 (j := b + 1 + w) (by omega) (by omega) (by omega) h2 (by omega) (by omega), Option.bind_some, cz_spared h1 (j := b + 1 + w) (by omega) (by omega) (by omega) h2 (by omega) (by omega), Option.bind_some, show b + 1 + p + 1 = b + p + 2 by omega, show b + 1 + p - 1 = b + p by omega, show b + 1 + q + 1 = b + q + 2 by omega, show b + 1 + q - 1 = b + q by omega]
  unfold pX5_offerTwo
  rw [hsp, Option.bind_some, ald_nI (by omega) (by omega), h2 (b + 1 + w) (by omega), Option.bind_some, ald_nI (by omega) (by omega), h2 b (by omega), Option.bind_some, bnd_eq, e1, e2, show (2 : Int32) = nI 2 from rfl, pk_mul, pk_mul, nI_add, hv]
  rw [ald_nI (by omega) (by omega), (h3 b (by omega)).1, Option.bind_some, ald_nI (by omega) (by omega), h4.1, Option.bind_some, nI_add, nI_add]
  by_cases c : (T b).1 + (2 * zL (zof F S wx wy f) + (pth (zof F S wx wy f) o b (two p q) (w + 1)).1) + 2 * zK (zof F S wx wy f) ≤ y.1
  · rw [if_pos (by rw [le_nI] <;> omega), cz_trip h1 (by omega) (by omega) (by omega), Option.bind_some, bnd_eq, cz_trip h1 (by omega) (by omega) (by omega), Option.bind_some, bnd_eq, bnd_eq, bnd_eq, nI_add, nI_add]
    unfold d2 at ge le ⊢
    generalize hk0 : zL (zof F S wx wy f) + zt (zof F S wx wy f) (o b) (o (b + 1 + p)) (o (b + 1 + w)) = k0 at *
    generalize hk1 : 2 * zL (zof F S wx wy f) + zt (zof F S wx wy f) (o b) (o (b + 1 + q)) (o (b + 1 + w)) = k1 at *
    generalize hvv : 2 * zL (zof F S wx wy f) + (pth (zof F S wx wy f) o b (two p q) (w + 1)).1 = vv at *
    rw [mmax_nI (by omega) (by omega), mmax_nI (by omega) (by omega), nI_add, nI_add, mmax_nI (by omega) (by omega), mmax_nI (by omega) (by omega), bnd_eq, bnd_eq, bnd_eq, bitq (by omega), bitq (by omega), (bc2 q (by omega) p hp).2]
    unfold d2a at ge le ⊢
    by_cases c0 : k0 ≤ k1
    · rw [if_pos c0] at ge le
      rw [if_neg (show ¬ nI k1 < nI k0 by rw [lt_nI] <;> omega), if_pos c0]
      dsimp only
      rw [cz_lasts h1 (by omega) (by omega) (by omega) (by omega), cz_lasts h1 (by omega) (by omega) (by omega) (by omega), mmax_nI (by omega) (by omega), nI_add]
      by_cases g1 : okB (zof F S wx wy f) (zL (zof F S wx wy f)) k0 (max vv k0) = true
      · rw [if_pos g1, if_neg one_ne]
        by_cases g2 : okB (zof F S wx wy f) (2 * zL (zof F S wx wy f)) k1 (max (max vv k0 + zK (zof F S wx wy f)) k1) = true
        · rw [if_pos ⟨g1, g2⟩] at ge le
          rw [if_pos g2, if_neg one_ne, if_pos ⟨g1, g2⟩]
          have l2 := le _ rfl
          have mm : max (max vv k0) (max (max vv k0 + zK (zof F S wx wy f)) k1) = max (max vv k0 + zK (zof F S wx wy f)) k1 := by omega
          obtain ⟨M', m1, m2⟩ := cz_offer h (b := b) (s := 2 ^ p + 2 ^ q) (m := 2) (by omega) (by omega) (by omega) (bc2 q (by omega) p hp).1 (by omega) (d := max (max vv k0 + zK (zof F S wx wy f)) k1 + zK (zof F S wx wy f)) (by omega) hy hT
          rw [mm, m1, Option.bind_some]
          exact ⟨M', rfl, m2⟩
        · rw [if_neg g2, if_pos rfl, if_neg (fun g => g2 g.2)]
          exact ⟨M, rfl, h⟩
      · rw [if_neg g1, if_pos rfl, if_neg (fun g => g1 g.1)]
        exact ⟨M, rfl, h⟩
    · rw [if_neg c0] at ge le
      rw [if_pos (show nI k1 < nI k0 by rw [lt_nI] <;> omega), if_neg c0]
      dsimp only
      rw [cz_lasts h1 (by omega) (by omega) (by omega) (by omega), cz_lasts h1 (by omega) (by omega) (by omega) (by omega), mmax_nI (by omega) (by omega), nI_add]
      by_cases g1 : okB (zof F S wx wy f) (zL (zof F S wx wy f)) k0 (max (max vv k1 + zK (zof F S wx wy f)) k0) = true
      · rw [if_pos g1, if_neg one_ne]
        by_cases g2 : okB (zof F S wx wy f) (2 * zL (zof F S wx wy f)) k1 (max vv k1) = true
        · rw [if_pos ⟨g1, g2⟩] at ge le
          rw [if_pos g2, if_neg one_ne, if_pos ⟨g1, g2⟩]
          have l2 := le _ rfl
          have mm : max (max (max vv k1 + zK (zof F S wx wy f)) k0) (max vv k1) = max (max vv k1 + zK (zof F S wx wy f)) k0 := by omega
          obtain ⟨M', m1, m2⟩ := cz_offer h (b := b) (s := 2 ^ p + 2 ^ q) (m := 2) (by omega) (by omega) (by omega) (bc2 q (by omega) p hp).1 (by omega) (d := max (max vv k1 + zK (zof F S wx wy f)) k0 + zK (zof F S wx wy f)) (by omega) hy hT
          rw [mm, m1, Option.bind_some]
          exact ⟨M', rfl, m2⟩
        · rw [if_neg g2, if_pos rfl, if_neg (fun g => g2 g.2)]
          exact ⟨M, rfl, h⟩
      · rw [if_neg g1, if_pos rfl, if_neg (fun g => g1 g.1)]
        exact ⟨M, rfl, h⟩
  · rw [if_neg (by rw [le_nI] <;> omega)]
    refine ⟨M, rfl, ?_⟩
    cases hd : d2 (zof F S wx wy f) o b w p q with
    | none => exact h
    | some d =>
      have := ge d hd
      rw [show ofr T b (2 ^ p + 2 ^ q) 2 y (some d) = y from cand_no (by omega)]
      exact h
end FILL
