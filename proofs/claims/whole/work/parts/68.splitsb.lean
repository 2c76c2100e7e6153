/-! PURE: the reference's table, its loops -/
theorem shl1 : ∀ w, w < 9 → (1 : Int32) <<< (nI w &&& 31) = nI (2 ^ w) := by decide +kernel
theorem nI_m1 (k : Nat) : nI (k + 1) + (-1) = nI k := by
  rw [← nI_add k 1]
  show nI k + 1 + (-1) = nI k
  generalize nI k = x
  grind
section SPM
variable {B : Mm} {F S : Nat → Int32} {wx wy : Int32} {n : Nat} {o : Nat → Nat} {T : Nat → En} {to : Nat} {f : Nat}
theorem r_sets {b w : Nat} {x2 : Int32} (ht : to ≤ n + 1) (hn : n ≤ 8) (hb : to = b + 1 + w) (hf : f ≤ 2) (hT : (T b).1 ≤ 1000 * b ∧ (T b).2.1 ≤ 2 * b) : ∀ (c s fu : Nat) (M : Mm) (y : En), s + c = 2 ^ w → 1 ≤ s → RI B F S wx wy n o T to y M → EnOk to y → c < fu → ∃ M', itr (pX9_splits_L70 (nI f) x2 (nI to) (nI b) (nI (2 ^ w))) fu (nI s, M) = some M' ∧ RI B F S wx wy n o T to (srun (zof F S wx wy f) o T b w s c y) M'
  | 0, s, fu, M, y, hs, h1, h, hy, hfu => by
    obtain ⟨fu, rfl⟩ : ∃ g, fu = g + 1 := ⟨fu - 1, by omega⟩
    have h8 : 2 ^ w ≤ 2 ^ 8 := Nat.pow_le_pow_right (by omega) (by omega)
    refine ⟨M, itr_e ?_, h⟩
    unfold pX9_splits_L70
    rw [if_pos (show nI (2 ^ w) ≤ nI s by rw [le_nI] <;> omega)]
  | c + 1, s, fu, M, y, hs, h1, h, hy, hfu => by
    obtain ⟨fu, rfl⟩ : ∃ g, fu = g + 1 := ⟨fu - 1, by omega⟩
    obtain ⟨M', e, h'⟩ := r_set (f := f) (x2 := x2) h ht hb h1 (by omega) hf hy hT
    rw [itr_s e, srun]
    refine r_sets ht hn hb hf hT c (s + 1) fu M' _ (by omega) (by omega) h' ?_ (by omega)
    have z := srun_ok (Z := zof F S wx wy f) (o := o) (T := T) (b := b) (w := w) hT.2 (by omega) 1 s y h1 (by omega) (by rw [← hb]; exact hy)
    rw [← hb] at z
    exact z
theorem r_block {M : Mm} {y : En} {b w : Nat} {x2 : Int32} (h : RI B F S wx wy n o T to y M) (ht : to ≤ n + 1) (hn : n ≤ 8) (hb : to = b + 1 + w) (hw : 1 ≤ w) (hf : f ≤ 2) (hT : (T b).1 ≤ 1000 * b ∧ (T b).2.1 ≤ 2 * b) (hy : EnOk to y) : ∃ M', pX9_splits_L40 (nI f) x2 (nI to) (nI b, M) = some (.inl (nI b + (-1), M')) ∧ RI B F S wx wy n o T to (highs (zof F S wx wy f) o T b w y w) M' := by
  have h8 : 2 ^ w ≤ 2 ^ 8 := Nat.pow_le_pow_right (by omega) (by omega)
  have p := Nat.two_pow_pos w
  obtain ⟨M', e, h'⟩ := r_sets (x2 := x2) (f := f) ht hn hb hf hT (2 ^ w - 1) 1 fuel M y (by omega) (by omega) h hy (by unfold fuel; omega)
  refine ⟨M', ?_, by rw [srun_highs w (by omega)] at h'; exact h'⟩
  unfold pX9_splits_L40
  dsimp only
  rw [if_neg (nI_pos (by omega)), bnd_eq, bnd_eq, show nI to - nI b - 1 = nI w by rw [sub_nI (by omega), show (1 : Int32) = nI 1 from rfl, sub_nI (by omega)]; congr 1; omega, shl1 w (by omega), if_neg (show ¬ nI b = nI to - 1 by rw [show (1 : Int32) = nI 1 from rfl, sub_nI (by omega), eq_nI (by omega) (by omega)]; omega), show (1 : Int32) = nI 1 from rfl, e, Option.bind_some]
theorem r_first {M : Mm} {x2 : Int32} (h1 : RX F S wx wy n o M) (h2 : Rows 14 T to M) (h4 : FrR B M) (h14 : M 14 to = -1) (ht : to ≤ n + 1) (h0 : 1 ≤ to) (hf : f ≤ 2) (hT : (T (to - 1)).1 ≤ 1000 * (to - 1) ∧ (T (to - 1)).2.1 ≤ 2 * (to - 1)) : ∃ M', pX9_splits_L40 (nI f) x2 (nI to) (nI (to - 1), M) = some (.inl (nI (to - 1) + (-1), M')) ∧ RI B F S wx wy n o T to (bls (zof F S wx wy f) o T to 0) M' := by
  have q := rz_n h1
  have zb := zo_b (f := f) h1
  have o8 : ∀ k, o k ≤ 8 := fun k => Nat.le_trans (q.2.2 k) q.1
  have l1 := zb.1 (o (to - 1)) (o to) (o8 _) (o8 _)
  have e : itr (pX9_splits_L70 (nI f) x2 (nI to) (nI (to - 1)) (nI 1)) fuel (0, M) = some (putR M to ((T (to - 1)).1 + zl (zof F S wx wy f) (o (to - 1)) (o to)) ((T (to - 1)).2.1) (to - 1) 0) := by
    rw [show fuel = 5998 + 1 + 1 from rfl, itr_s (s' := (nI 1, putR M to ((T (to - 1)).1 + zl (zof F S wx wy f) (o (to - 1)) (o to)) ((T (to - 1)).2.1) (to - 1) 0)), itr_e]
    · unfold pX9_splits_L70
      rw [if_pos (show nI 1 ≤ nI 1 by decide)]
    · have ls : pX9_isLightSet (nI (to - 1)) 0 M = some 1 := by
        unfold pX9_isLightSet
        rw [show fuel = 5999 + 1 from rfl, itr_e (r := .inl ())]
        · rfl
        · unfold pX9_isLightSet_L2
          rw [if_pos (by decide)]
      have la := r_lasts0 (f := f) h1 (b := to - 1) (by omega)
      rw [show to - 1 + 1 + 0 = to by omega] at la
      have lb : pX9_lasts (nI (to - 1)) (nI to) 0 M = _ := la
      have r1 := h2 (to - 1) (by omega)
      unfold pX9_splits_L70
      dsimp only
      rw [if_neg (show ¬ nI 1 ≤ 0 by decide), show pX9_bits 0 = some (nI 0) from bits_n 0 (by omega), Option.bind_some, if_neg (show ¬ nI f < nI 0 by rw [lt_nI] <;> omega), ls, Option.bind_some, if_neg one_ne, lb, Option.bind_some]
      dsimp only
      rw [bnd_eq, if_neg (ne_nI (by omega)), ald_nI (by omega) (by omega), r1.1, Option.bind_some, bnd_eq, ald_nI (by omega) (by omega), show M 15 (to - 1) = _ from r1.2.1, Option.bind_some, Option.bind_some, bnd_eq, ald_nI (by omega) (by omega), h14, Option.bind_some, if_pos rfl, Option.bind_some]
      simp (disch := omega) only [bnd_eq, Option.bind_some, lit_nI, nI_add, pk_mul, ald_nI, ast_nI, lt_nI, le_nI, eq_nI, sub_nI, Sum.elim_inl, Sum.elim_inr, if_pos, if_neg, if_true, if_false]
      rfl
  refine ⟨_, ?_, RI_put h1 h2 h4 _ _ _ _⟩
  unfold pX9_splits_L40
  dsimp only
  rw [if_neg (nI_pos (by omega)), bnd_eq, bnd_eq, show nI to - nI (to - 1) - 1 = nI 0 by rw [sub_nI (by omega), show (1 : Int32) = nI 1 from rfl, sub_nI (by omega)]; congr 1; omega, shl1 0 (by omega), if_pos (show nI (to - 1) = nI to - 1 by rw [show (1 : Int32) = nI 1 from rfl, sub_nI (by omega)]), show 2 ^ 0 = 1 from rfl, e, Option.bind_some]
theorem r_blocks {x2 : Int32} (ht : to ≤ n + 1) (hn : n ≤ 8) (h0 : 1 ≤ to) (hf : f ≤ 2) (hT : ∀ b, b < to → (T b).1 ≤ 1000 * b ∧ (T b).2.1 ≤ 2 * b) (hl : zl (zof F S wx wy f) (o (to - 1)) (o to) ≤ 1000) : ∀ (k c fu : Nat) (M : Mm), k + c = to - 1 → RI B F S wx wy n o T to (bls (zof F S wx wy f) o T to c) M → k < fu → ∃ M', itr (pX9_splits_L40 (nI f) x2 (nI to)) fu (nI k + (-1), M) = some M' ∧ RI B F S wx wy n o T to (bls (zof F S wx wy f) o T to (to - 1)) M'
  | 0, c, fu, M, hk, h, hfu => by
    obtain ⟨fu, rfl⟩ : ∃ g, fu = g + 1 := ⟨fu - 1, by omega⟩
    refine ⟨M, itr_e ?_, by rw [show to - 1 = c by omega]; exact h⟩
    unfold pX9_splits_L40
    rw [if_pos (show nI 0 + (-1) < 0 by decide)]
  | k + 1, c, fu, M, hk, h, hfu => by
    obtain ⟨fu, rfl⟩ : ∃ g, fu = g + 1 := ⟨fu - 1, by omega⟩
    have ok := bls_ok (Z := zof F S wx wy f) (o := o) (T := T) hl h0 hT c (by omega)
    obtain ⟨M', e, h'⟩ := r_block (f := f) (x2 := x2) (b := k) (w := c + 1) h ht hn (by omega) (by omega) hf (hT k (by omega)) ok
    rw [show nI (k + 1) + (-1) = nI k from nI_m1 k, itr_s e]
    refine r_blocks ht hn h0 hf hT hl k (c + 1) fu M' (by omega) ?_ (by omega)
    rw [bls, show to - 2 - c = k by omega]
    exact h'
theorem Rows_14 {M : Mm} {v : Int32} (h : Rows 14 T to M) : Rows 14 T to (mset M 14 to v) := by
  intro b hb
  rw [mset_slot (by omega), mset_slot (by omega), mset_slot (by omega), mset_slot (by omega)]
  exact h b hb
theorem r_tab {x2 : Int32} (hx : x2 = nI n) (hn : n ≤ 8) (hf : f ≤ 2) (hl : ∀ k, zl (zof F S wx wy f) (o k) (o (k + 1)) ≤ 1000) : ∀ (c j fu : Nat) (M : Mm), j + c = n + 1 → RX F S wx wy n o M → Rows 14 (tab (zof F S wx wy f) o j) (j + 1) M → FrR B M → c < fu → ∃ M', itr (pX9_splits_L21 (nI f) x2) fu (nI (j + 1), M) = some M' ∧ RX F S wx wy n o M' ∧ Rows 14 (tab (zof F S wx wy f) o (n + 1)) (n + 2) M' ∧ FrR B M'
  | 0, j, fu, M, hj, h1, h2, h3, hfu => by
    obtain ⟨fu, rfl⟩ : ∃ g, fu = g + 1 := ⟨fu - 1, by omega⟩
    refine ⟨M, itr_e ?_, h1, by rw [show n + 1 = j by omega, show n + 2 = j + 1 by omega]; exact h2, h3⟩
    unfold pX9_splits_L21
    rw [hx, if_pos (show nI n + 1 < nI (j + 1) by simp (disch := omega) only [bnd_eq, Option.bind_some, lit_nI, nI_add, pk_mul, ald_nI, ast_nI, lt_nI, le_nI, eq_nI, sub_nI, Sum.elim_inl, Sum.elim_inr, if_pos, if_neg, if_true, if_false]; omega)]
  | c + 1, j, fu, M, hj, h1, h2, h3, hfu => by
    obtain ⟨fu, rfl⟩ : ∃ g, fu = g + 1 := ⟨fu - 1, by omega⟩
    have tb := fun b (hb : b < j + 1) => (tab_ok (Z := zof F S wx wy f) hl j b (by omega)).1
    obtain ⟨M1, e1, i1⟩ := r_first (f := f) (x2 := x2) (to := j + 1) (B := B) (T := tab (zof F S wx wy f) o j) (M := mset M 14 (j + 1) (-1)) (RX_c h1 (mset_cell (by omega)) (mset_cell (by omega))) (Rows_14 h2) (fun c a b d => by rw [mset_cell (by omega), h3 c a b d]) (mset_same _ _ _ _) (by omega) (by omega) hf (tb _ (by omega))
    obtain ⟨M2, e2, i2⟩ := r_blocks (f := f) (x2 := x2) (to := j + 1) (B := B) (T := tab (zof F S wx wy f) o j) (by omega) hn (by omega) hf tb (hl j) j 0 5999 M1 (by omega) i1 (by omega)
    rw [show j + 1 - 1 = j by omega] at e1
    have st : pX9_splits_L21 (nI f) x2 (nI (j + 1), M) = some (.inl (nI (j + 1 + 1), M2)) := by
      unfold pX9_splits_L21
      dsimp only
      rw [hx, if_neg (show ¬ nI n + 1 < nI (j + 1) by simp (disch := omega) only [bnd_eq, Option.bind_some, lit_nI, nI_add, pk_mul, ald_nI, ast_nI, lt_nI, le_nI, eq_nI, sub_nI, Sum.elim_inl, Sum.elim_inr, if_pos, if_neg, if_true, if_false]; omega), ast_nI (by omega) (by omega), Option.bind_some, bnd_eq, show nI (j + 1) - 1 = nI j from sub_nI (a := j + 1) (b := 1) (by omega), ← hx, show fuel = 5999 + 1 from rfl, itr_s e1]
      rw [e2, Option.bind_some]
      simp (disch := omega) only [bnd_eq, Option.bind_some, lit_nI, nI_add, pk_mul, ald_nI, ast_nI, lt_nI, le_nI, eq_nI, sub_nI, Sum.elim_inl, Sum.elim_inr, if_pos, if_neg, if_true, if_false]
    rw [itr_s st]
    refine r_tab hx hn hf hl c (j + 1) fu M2 (by omega) i2.1 ?_ i2.2.2.2 (by omega)
    intro b hb
    by_cases cb : b = j + 1
    · subst cb
      rw [tab_last]
      have := i2.2.2.1
      rw [show j + 1 - 1 = j by omega] at this
      exact ⟨this.1, this.2.1, fun _ => ⟨this.2.2.1, this.2.2.2⟩⟩
    · rw [show tab (zof F S wx wy f) o (j + 1) b = tab (zof F S wx wy f) o j b by rw [tab]; exact if_neg cb]
      exact i2.2.1 b (by omega)
theorem splits_r {M : Mm} (h : RX F S wx wy n o M) (hf : f ≤ 2) : ∃ M', pX9_splits (nI f) M = some (nI (tab (zof F S wx wy f) o (n + 1) (n + 1)).1, M') ∧ RX F S wx wy n o M' ∧ Rows 14 (tab (zof F S wx wy f) o (n + 1)) (n + 2) M' ∧ FrR M M' := by
  have q := rz_n h
  have zb := zo_b (f := f) h
  have o8 : ∀ k, o k ≤ 8 := fun k => Nat.le_trans (q.2.2 k) q.1
  obtain ⟨M', e, h1, h2, h3⟩ := r_tab (B := M) (x2 := nI n) (f := f) (F := F) (S := S) (wx := wx) (wy := wy) (o := o) rfl q.1 hf (fun k => zb.1 _ _ (o8 _) (o8 _)) (n + 1) 0 fuel (mset (mset M 14 0 (nI 0)) 15 0 (nI 0)) (by omega) (RX_c h (by rw [mset_cell (by omega), mset_cell (by omega)]) (by rw [mset_cell (by omega), mset_cell (by omega)])) (by
    intro b hb
    rw [show b = 0 by omega]
    exact ⟨rfl, rfl, fun h => absurd h (by omega)⟩) (fun c a b d => by rw [mset_cell (by omega), mset_cell (by omega)]) (by unfold fuel; omega)
  refine ⟨M', ?_, h1, h2, h3⟩
  have r := h2 (n + 1) (by omega)
  unfold pX9_splits
  rw [r_customers, q.2.1, Option.bind_some, show (0 : Int32) = nI 0 from rfl, ast_nI (by omega) (by omega), Option.bind_some, ast_nI (by omega) (by omega), Option.bind_some, show (1 : Int32) = nI (0 + 1) from rfl, e, Option.bind_some, show nI n + nI (0 + 1) = nI (n + 1) by rw [nI_add], ald_nI (by omega) (by omega), r.1, Option.bind_some]
end SPM
