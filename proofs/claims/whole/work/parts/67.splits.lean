/-! PURE: the reference's table, whole -/
def RowR (c : Nat) (M : Mm) (k : Nat) (y : En) : Prop := M c k = nI y.1 ∧ M (c + 1) k = nI y.2.1 ∧ M (c + 2) k = nI y.2.2.1 ∧ M (c + 3) k = nI y.2.2.2
def Rows (c : Nat) (T : Nat → En) (j : Nat) (M : Mm) : Prop := ∀ b, b < j → M c b = nI (T b).1 ∧ M (c + 1) b = nI (T b).2.1 ∧ (1 ≤ b → M (c + 2) b = nI (T b).2.2.1 ∧ M (c + 3) b = nI (T b).2.2.2)
def FrR (B M : Mm) : Prop := ∀ c, c ≠ 8 → c ≠ 9 → (c < 14 ∨ 17 < c) → M c = B c
def RI (B : Mm) (F S : Nat → Int32) (wx wy : Int32) (n : Nat) (o : Nat → Nat) (T : Nat → En) (to : Nat) (y : En) (M : Mm) : Prop := RX F S wx wy n o M ∧ Rows 14 T to M ∧ RowR 14 M to y ∧ FrR B M
theorem ne_nI {a : Nat} (h : a < 2147483648) : ¬ nI a = -1 := by
  intro e
  have := congrArg Int32.toInt e
  rw [nI_toInt h] at this
  have e1 : (-1 : Int32).toInt = -1 := rfl
  omega
theorem srun_ok {Z : Tp} {o : Nat → Nat} {T : Nat → En} {b w : Nat} (hT : (T b).2.1 ≤ 2 * b) (hw : w ≤ 8) : ∀ (c s : Nat) (x : En), 1 ≤ s → s + c ≤ 2 ^ w → EnOk (b + 1 + w) x → EnOk (b + 1 + w) (srun Z o T b w s c x)
  | 0, s, x, _, _, h => h
  | c + 1, s, x, hs, hc, h => by
    rw [srun]
    have h8 : 2 ^ w ≤ 2 ^ 8 := Nat.pow_le_pow_right (by omega) hw
    refine srun_ok hT hw c (s + 1) _ (by omega) (by omega) ?_
    unfold stp
    have g := hib_w w (by omega) s (by omega) hs
    split
    · exact off1_ok h hT g
    · rename_i c1
      split
      · exact off2_ok h hT (hib_lo s (by omega) hs c1) g
      · exact h
theorem d1_le {Z : Tp} {o : Nat → Nat} {b w p d : Nat} (h : d1 Z o b w p = some d) : d ≤ zL Z + (pth Z o b (one p) (w + 1)).1 + zt Z (o b) (o (b + 1 + p)) (o (b + 1 + w)) + zK Z := by
  unfold d1 at h
  split at h
  · cases h
    omega
  · cases h
theorem d2_le {Z : Tp} {o : Nat → Nat} {b w p q d : Nat} (h : d2 Z o b w p q = some d) : d ≤ 2 * zL Z + (pth Z o b (two p q) (w + 1)).1 + zt Z (o b) (o (b + 1 + p)) (o (b + 1 + w)) + zt Z (o b) (o (b + 1 + q)) (o (b + 1 + w)) + 2 * zL Z + 2 * zK Z := by
  unfold d2 d2a at h
  split at h
  · split at h
    · cases h
      omega
    · cases h
  · split at h
    · cases h
      omega
    · cases h
section SPL
variable {B : Mm} {F S : Nat → Int32} {wx wy : Int32} {n : Nat} {o : Nat → Nat} {T : Nat → En} {to : Nat} {y : En} {M : Mm} {f : Nat}
theorem RI_l {M' : Mm} (h : RI B F S wx wy n o T to y M) (g : ∀ c, c ≠ 8 → c ≠ 9 → M' c = M c) : RI B F S wx wy n o T to y M' := by
  obtain ⟨h1, h2, h3, h4⟩ := h
  refine ⟨RX_c h1 (g 1 (by omega) (by omega)) (g 13 (by omega) (by omega)), ?_, ?_, fun c a b d => by rw [g c a b, h4 c a b d]⟩
  · intro b hb
    rw [g 14 (by omega) (by omega), g (14 + 1) (by omega) (by omega), g (14 + 2) (by omega) (by omega), g (14 + 3) (by omega) (by omega)]
    exact h2 b hb
  · unfold RowR
    rw [g 14 (by omega) (by omega), g (14 + 1) (by omega) (by omega), g (14 + 2) (by omega) (by omega), g (14 + 3) (by omega) (by omega)]
    exact h3
def putR (M : Mm) (to e m b s : Nat) : Mm := mset (mset (mset (mset M 14 to (nI e)) 15 to (nI m)) 16 to (nI b)) 17 to (nI s)
theorem RI_put (h1 : RX F S wx wy n o M) (h2 : Rows 14 T to M) (h4 : FrR B M) (e m b s : Nat) : RI B F S wx wy n o T to (e, m, b, s) (putR M to e m b s) := by
  unfold putR
  refine ⟨RX_c h1 (by rw [mset_cell (by omega), mset_cell (by omega), mset_cell (by omega), mset_cell (by omega)]) (by rw [mset_cell (by omega), mset_cell (by omega), mset_cell (by omega), mset_cell (by omega)]), ?_, ?_, fun c a b d => by rw [mset_cell (by omega), mset_cell (by omega), mset_cell (by omega), mset_cell (by omega), h4 c a b d]⟩
  · intro b' hb
    rw [mset_slot (by omega), mset_slot (by omega), mset_slot (by omega), mset_slot (by omega), mset_slot (by omega), mset_slot (by omega), mset_slot (by omega), mset_slot (by omega), mset_slot (by omega), mset_slot (by omega), mset_slot (by omega), mset_slot (by omega), mset_slot (by omega), mset_slot (by omega), mset_slot (by omega), mset_slot (by omega)]
    exact h2 b' hb
  · refine ⟨?_, ?_, ?_, ?_⟩
    · simp (disch := omega) only [mset_get, mset_cell, mrow_cell, mrow_same, if_pos, if_neg, true_and, false_and, and_true, and_false, if_true, if_false, ite_true, ite_false]
    · simp (disch := omega) only [mset_get, mset_cell, mrow_cell, mrow_same, if_pos, if_neg, true_and, false_and, and_true, and_false, if_true, if_false, ite_true, ite_false]
    · simp (disch := omega) only [mset_get, mset_cell, mrow_cell, mrow_same, if_pos, if_neg, true_and, false_and, and_true, and_false, if_true, if_false, ite_true, ite_false]
    · simp (disch := omega) only [mset_get, mset_cell, mrow_cell, mrow_same, if_pos, if_neg, true_and, false_and, and_true, and_false, if_true, if_false, ite_true, ite_false]
theorem r_offer (h : RI B F S wx wy n o T to y M) {b s m : Nat} {x2 x5 : Int32} {lt : Bool} {d : Option Nat} (ht : to ≤ 9) (hb : b < to) (hs : s < 256) (h5 : ¬ x5 ≤ nI s) (hm : pX9_bits (nI s) = some (nI m)) (hm2 : m ≤ f) (hf : f ≤ 2) (hl : pX9_isLightSet (nI b) (nI s) M = some (if lt = true then 1 else 0)) (hd : lt = true → ∃ M', pX9_lasts (nI b) (nI to) (nI s) M = some (opI d, M') ∧ ∀ c, c ≠ 8 → c ≠ 9 → M' c = M c) (hd2 : ∀ v, d = some v → v ≤ 100000) (hy : EnOk to y) (hT : (T b).1 ≤ 1000 * b ∧ (T b).2.1 ≤ 2 * b) : ∃ M', pX9_splits_L70 (nI f) x2 (nI to) (nI b) x5 (nI s, M) = some (.inl (nI (s + 1), M')) ∧ RI B F S wx wy n o T to (if lt = true then ofr T b s m y d else y) M' := by
  unfold pX9_splits_L70
  dsimp only
  rw [if_neg h5, hm, Option.bind_some, if_neg (show ¬ nI f < nI m by rw [lt_nI] <;> omega), hl, Option.bind_some]
  cases lt with
  | false =>
    rw [if_pos (by decide), if_neg (by decide)]
    exact ⟨M, by simp (disch := omega) only [bnd_eq, Option.bind_some, lit_nI, nI_add, pk_mul, ald_nI, ast_nI, lt_nI, le_nI, eq_nI, sub_nI, Sum.elim_inl, Sum.elim_inr, if_pos, if_neg, if_true, if_false], h⟩
  | true =>
    obtain ⟨M', e1, g⟩ := hd rfl
    have h' := RI_l h g
    obtain ⟨k1, k2, k3, k4⟩ := h'
    rw [if_neg (by decide), if_pos rfl, e1, Option.bind_some]
    dsimp only
    rw [bnd_eq]
    cases d with
    | none =>
      rw [show opI none = -1 from rfl, if_pos rfl]
      exact ⟨M', by simp (disch := omega) only [bnd_eq, Option.bind_some, lit_nI, nI_add, pk_mul, ald_nI, ast_nI, lt_nI, le_nI, eq_nI, sub_nI, Sum.elim_inl, Sum.elim_inr, if_pos, if_neg, if_true, if_false], RI_l h g⟩
    | some v =>
      have v1 := hd2 v rfl
      have y1 := hy.1
      have y2 := hy.2.1
      rw [show opI (some v) = nI v from rfl, if_neg (ne_nI (by omega))]
      have q := k2 b hb
      rw [ald_nI (by omega) (by omega), q.1, Option.bind_some, bnd_eq, ald_nI (by omega) (by omega), show M' 15 b = _ from q.2.1, Option.bind_some, Option.bind_some, bnd_eq, ald_nI (by omega) (by omega), k3.1, Option.bind_some, if_neg (ne_nI (by omega)), Option.bind_some, Option.bind_some, nI_add, nI_add]
      by_cases c1 : y.1 < (T b).1 + v
      · rw [if_pos (show nI y.1 < nI ((T b).1 + v) by rw [lt_nI] <;> omega), show ofr T b s m y (some v) = y from if_neg (show ¬ ((T b).1 + v < y.1 ∨ ((T b).1 + v = y.1 ∧ (T b).2.1 + m < y.2.1)) by omega), Option.bind_some]
        exact ⟨M', by simp (disch := omega) only [bnd_eq, Option.bind_some, lit_nI, nI_add, pk_mul, ald_nI, ast_nI, lt_nI, le_nI, eq_nI, sub_nI, Sum.elim_inl, Sum.elim_inr, if_pos, if_neg, if_true, if_false], ⟨k1, k2, k3, k4⟩⟩
      · rw [if_neg (show ¬ nI y.1 < nI ((T b).1 + v) by rw [lt_nI] <;> omega)]
        by_cases c2 : (T b).1 + v = y.1
        · rw [if_pos (show nI ((T b).1 + v) = nI y.1 by rw [c2]), ald_nI (by omega) (by omega), show M' 15 to = _ from k3.2.1, Option.bind_some]
          by_cases c3 : (T b).2.1 + m < y.2.1
          · rw [if_pos (show nI ((T b).2.1 + m) < nI y.2.1 by rw [lt_nI] <;> omega), show ofr T b s m y (some v) = ((T b).1 + v, (T b).2.1 + m, b, s) from if_pos (Or.inr ⟨c2, c3⟩), Option.bind_some]
            refine ⟨putR M' to ((T b).1 + v) ((T b).2.1 + m) b s, ?_, RI_put k1 k2 k4 _ _ _ _⟩
            simp (disch := omega) only [bnd_eq, Option.bind_some, lit_nI, nI_add, pk_mul, ald_nI, ast_nI, lt_nI, le_nI, eq_nI, sub_nI, Sum.elim_inl, Sum.elim_inr, if_pos, if_neg, if_true, if_false]
            rfl
          · rw [if_neg (show ¬ nI ((T b).2.1 + m) < nI y.2.1 by rw [lt_nI] <;> omega), show ofr T b s m y (some v) = y from if_neg (show ¬ ((T b).1 + v < y.1 ∨ ((T b).1 + v = y.1 ∧ (T b).2.1 + m < y.2.1)) by omega), Option.bind_some]
            exact ⟨M', by simp (disch := omega) only [bnd_eq, Option.bind_some, lit_nI, nI_add, pk_mul, ald_nI, ast_nI, lt_nI, le_nI, eq_nI, sub_nI, Sum.elim_inl, Sum.elim_inr, if_pos, if_neg, if_true, if_false], ⟨k1, k2, k3, k4⟩⟩
        · rw [if_neg (show ¬ nI ((T b).1 + v) = nI y.1 by rw [eq_nI] <;> omega), show ofr T b s m y (some v) = ((T b).1 + v, (T b).2.1 + m, b, s) from if_pos (Or.inl (show (T b).1 + v < y.1 by omega)), Option.bind_some]
          refine ⟨putR M' to ((T b).1 + v) ((T b).2.1 + m) b s, ?_, RI_put k1 k2 k4 _ _ _ _⟩
          simp (disch := omega) only [bnd_eq, Option.bind_some, lit_nI, nI_add, pk_mul, ald_nI, ast_nI, lt_nI, le_nI, eq_nI, sub_nI, Sum.elim_inl, Sum.elim_inr, if_pos, if_neg, if_true, if_false]
          rfl
/-- one set -/
theorem r_set (h : RI B F S wx wy n o T to y M) {b w s : Nat} {x2 : Int32} (ht : to ≤ n + 1) (hb : to = b + 1 + w) (hs : 1 ≤ s) (hs2 : s < 2 ^ w) (hf : f ≤ 2) (hy : EnOk to y) (hT : (T b).1 ≤ 1000 * b ∧ (T b).2.1 ≤ 2 * b) : ∃ M', pX9_splits_L70 (nI f) x2 (nI to) (nI b) (nI (2 ^ w)) (nI s, M) = some (.inl (nI (s + 1), M')) ∧ RI B F S wx wy n o T to (stp (zof F S wx wy f) o T b w s y) M' := by
  have q := rz_n h.1
  have bb := rz_b h.1
  have zb := zo_b (f := f) h.1
  have l9 : zL (zof F S wx wy f) ≤ 9 := bb.2.2.2.2.2.2.1.1
  have k9 : zK (zof F S wx wy f) ≤ 9 := bb.2.2.2.2.2.2.2.1.1
  have h8 : 2 ^ w ≤ 2 ^ 8 := Nat.pow_le_pow_right (by omega) (by omega)
  have hw' := hib_w w (by omega) s hs2 hs
  have o8 : ∀ k, o k ≤ 8 := fun k => Nat.le_trans (q.2.2 k) q.1
  have pw : ∀ fz, (pth (zof F S wx wy f) o b fz (w + 1)).1 ≤ 1000 * (w + 1) := fun fz => (pth_le (Z := zof F S wx wy f) zb.1 o8 (b := b) (fz := fz) (w + 1)).1
  have t2 : ∀ p, zt (zof F S wx wy f) (o b) (o (b + 1 + p)) (o (b + 1 + w)) ≤ 2000 := fun p => zb.2.1 _ _ _ (o8 _) (o8 _) (o8 _)
  have h5 : ¬ nI (2 ^ w) ≤ nI s := by rw [le_nI] <;> omega
  unfold stp
  by_cases c1 : s = 2 ^ hib s
  · rw [if_pos c1]
    have hm : pX9_bits (nI s) = some (nI 1) := by rw [bits_n s (by omega), c1, pop1 _ (by omega)]
    by_cases cf : 1 ≤ f
    · have hl := r_lightset (f := f) h.1 (b := b) (w := w) (x := s) hs hs2 (by omega) (zi (zof F S wx wy f) (o (b + 1 + hib s))) (by
        constructor
        · intro hz k hk ht
          rw [c1, tbq1 _ (by omega) k (by omega)] at ht
          unfold one at ht
          rw [show k = hib s by simpa using ht]
          exact hz
        · intro hz
          refine hz (hib s) (by omega) ?_
          rw [show s.testBit (hib s) = (2 ^ hib s).testBit (hib s) from congrArg (fun z => z.testBit (hib s)) c1, tbq1 _ (by omega) _ (by omega)]
          unfold one
          simp)
      obtain ⟨M', e, hR⟩ := r_offer (f := f) h (b := b) (s := s) (m := 1) (x2 := x2) (d := d1 (zof F S wx wy f) o b w (hib s)) (by omega) (by omega) (by omega) h5 hm cf hf hl (fun _ => by
        have z := r_lasts1 (f := f) h.1 (b := b) (w := w) (p := hib s) hw' (by omega)
        rw [← c1, ← hb] at z
        exact z) (fun v hv => by
        have := d1_le hv
        have := pw (one (hib s))
        have := t2 (hib s)
        omega) hy hT
      refine ⟨M', e, ?_⟩
      unfold off1
      rw [← c1]
      by_cases cz : zi (zof F S wx wy f) (o (b + 1 + hib s)) = true
      · rw [if_pos cz] at hR
        rw [if_pos ⟨cf, cz⟩]
        exact hR
      · rw [if_neg cz] at hR
        rw [if_neg (fun g => cz g.2)]
        exact hR
    · refine ⟨M, ?_, ?_⟩
      · unfold pX9_splits_L70
        dsimp only
        rw [if_neg h5, hm, Option.bind_some, if_pos (show nI f < nI 1 by rw [lt_nI] <;> omega)]
        simp (disch := omega) only [bnd_eq, Option.bind_some, lit_nI, nI_add, pk_mul, ald_nI, ast_nI, lt_nI, le_nI, eq_nI, sub_nI, Sum.elim_inl, Sum.elim_inr, if_pos, if_neg, if_true, if_false]
      · unfold off1
        rw [if_neg (fun g => cf g.1)]
        exact h
  · rw [if_neg c1]
    by_cases c2 : s = 2 ^ hib (s - 2 ^ hib s) + 2 ^ hib s
    · rw [if_pos c2]
      have hlo := hib_lo s (by omega) hs c1
      generalize hp : hib (s - 2 ^ hib s) = p at *
      generalize hq : hib s = r at *
      have hm : pX9_bits (nI s) = some (nI 2) := by rw [bits_n s (by omega), c2, pop2 _ (by omega) _ hlo]
      by_cases cf : 2 ≤ f
      · have hl := r_lightset (f := f) h.1 (b := b) (w := w) (x := s) hs hs2 (by omega) (zi (zof F S wx wy f) (o (b + 1 + p)) && zi (zof F S wx wy f) (o (b + 1 + r))) (by
          constructor
          · intro hz k hk ht
            rw [Bool.and_eq_true] at hz
            rw [c2, tbq2 _ (by omega) _ hlo k (by omega)] at ht
            unfold two at ht
            have : k = p ∨ k = r := by simpa using ht
            rcases this with rfl | rfl
            · exact hz.1
            · exact hz.2
          · intro hz
            rw [Bool.and_eq_true]
            constructor
            · refine hz p (by omega) ?_
              rw [c2, tbq2 _ (by omega) _ hlo _ (by omega)]
              unfold two
              simp
            · refine hz r (by omega) ?_
              rw [c2, tbq2 _ (by omega) _ hlo _ (by omega)]
              unfold two
              simp)
        obtain ⟨M', e, hR⟩ := r_offer (f := f) h (b := b) (s := s) (m := 2) (x2 := x2) (d := d2 (zof F S wx wy f) o b w p r) (by omega) (by omega) (by omega) h5 hm cf hf hl (fun _ => by
          have z := r_lasts2 (f := f) h.1 (b := b) (w := w) (p := p) (q := r) hlo hw' (by omega)
          rw [← c2, ← hb] at z
          exact z) (fun v hv => by
          have := d2_le hv
          have := pw (two p r)
          have := t2 p
          have := t2 r
          omega) hy hT
        refine ⟨M', e, ?_⟩
        unfold off2
        rw [← c2]
        by_cases cz : zi (zof F S wx wy f) (o (b + 1 + p)) = true ∧ zi (zof F S wx wy f) (o (b + 1 + r)) = true
        · rw [if_pos (by rw [Bool.and_eq_true]; exact cz)] at hR
          rw [if_pos ⟨cf, cz⟩]
          exact hR
        · rw [if_neg (by rw [Bool.and_eq_true]; exact cz)] at hR
          rw [if_neg (fun g => cz g.2)]
          exact hR
      · refine ⟨M, ?_, ?_⟩
        · unfold pX9_splits_L70
          dsimp only
          rw [if_neg h5, hm, Option.bind_some, if_pos (show nI f < nI 2 by rw [lt_nI] <;> omega)]
          simp (disch := omega) only [bnd_eq, Option.bind_some, lit_nI, nI_add, pk_mul, ald_nI, ast_nI, lt_nI, le_nI, eq_nI, sub_nI, Sum.elim_inl, Sum.elim_inr, if_pos, if_neg, if_true, if_false]
        · unfold off2
          rw [if_neg (fun g => cf g.1)]
          exact h
    · rw [if_neg c2]
      have p3 : 3 ≤ pop s := by
        rcases pop3 s (by omega) hs with g | g | g
        · exact absurd g c1
        · exact absurd g c2
        · exact g
      have p8 : pop s < 100 := by
        unfold pop
        omega
      refine ⟨M, ?_, h⟩
      unfold pX9_splits_L70
      dsimp only
      rw [if_neg h5, bits_n s (by omega), Option.bind_some, if_pos (show nI f < nI (pop s) by rw [lt_nI] <;> omega)]
      simp (disch := omega) only [bnd_eq, Option.bind_some, lit_nI, nI_add, pk_mul, ald_nI, ast_nI, lt_nI, le_nI, eq_nI, sub_nI, Sum.elim_inl, Sum.elim_inr, if_pos, if_neg, if_true, if_false]
end SPL
