/-! PURE: the class's table, its loops -/
theorem lows_nl {Z : Tp} {o : Nat → Nat} {T : Nat → En} {b w q : Nat} {x : En} (h : ¬ zi Z (o (b + 1 + q)) = true) : ∀ c, lows Z o T b w q x c = x
  | 0 => rfl
  | c + 1 => by
    rw [lows, lows_nl h c]
    exact if_neg (fun g => h g.2.2)
section FILM
variable {B : Mm} {F S : Nat → Int32} {wx wy : Int32} {f n : Nat} {o : Nat → Nat} {T : Nat → En} {j : Nat}
theorem cz_lt {M : Mm} (h : CX F S wx wy f n o M) {k : Nat} (hk : k ≤ n + 1) : ((ald M 22 10 (nI k)).bind fun v9 => ald M 21 9 v9) = some (if zi (zof F S wx wy f) (o k) = true then 1 else 0) := by
  have q := h.2.2.1
  have l := h.2.2.2.2.2.2.2.2.2.2.2.2.1 (o k) (q _)
  have n8 := h.2.1
  have := q k
  rw [cz_o h hk, Option.bind_some, ald_nI (by omega) (by omega), l]
theorem c_lows {b w q : Nat} {x : En} (hj : j = b + 1 + w) (hn : j ≤ n + 1) (hq : q < w) (hz : zi (zof F S wx wy f) (o (b + 1 + q)) = true) (hx : EnOk j x) (hT : (T b).1 ≤ 1000 * b ∧ (T b).2.1 ≤ 2 * b) : ∀ (k c fu : Nat) (M : Mm), c + k = q → CI B F S wx wy f n o T j (lows (zof F S wx wy f) o T b w q x c) M → k < fu → ∃ M', itr (pX5_offerBlocks_L38 (nI b) (nI j) (nI (b + 1 + q))) fu (nI (b + 1 + c), M) = some M' ∧ CI B F S wx wy f n o T j (lows (zof F S wx wy f) o T b w q x q) M'
  | 0, c, fu, M, hk, h, hfu => by
    obtain ⟨fu, rfl⟩ : ∃ g, fu = g + 1 := ⟨fu - 1, by omega⟩
    have n8 := h.1.2.1
    refine ⟨M, itr_e ?_, by rw [show q = c by omega] at h ⊢; exact h⟩
    unfold pX5_offerBlocks_L38
    rw [if_pos (show nI (b + 1 + q) ≤ nI (b + 1 + c) by rw [le_nI] <;> omega)]
  | k + 1, c, fu, M, hk, h, hfu => by
    obtain ⟨fu, rfl⟩ : ∃ g, fu = g + 1 := ⟨fu - 1, by omega⟩
    have n8 := h.1.2.1
    have f2 : f ≤ 2 := h.1.1.2.2.2.2.2.2
    have fe : M 17 1 = nI f := h.1.2.2.2.1
    by_cases c1 : f ≤ 1
    · refine ⟨M, itr_e ?_, by rw [lows_f (show zf (zof F S wx wy f) ≤ 1 from c1)] at h ⊢; exact h⟩
      unfold pX5_offerBlocks_L38
      dsimp only
      rw [if_neg (show ¬ nI (b + 1 + q) ≤ nI (b + 1 + c) by rw [le_nI] <;> omega), if_pos (show M 17 1 ≤ 1 by rw [fe]; show nI f ≤ nI 1; rw [le_nI] <;> omega)]
    · have ok := lows_ok (Z := zof F S wx wy f) (o := o) (T := T) (b := b) (w := w) (by rw [← hj]; exact hx) hT.2 hq c (by omega)
      rw [← hj] at ok
      have lt := cz_lt h.1 (k := b + 1 + c) (by omega)
      rw [cz_o h.1 (by omega), Option.bind_some] at lt
      by_cases cz : zi (zof F S wx wy f) (o (b + 1 + c)) = true
      · rw [if_pos cz] at lt
        obtain ⟨M', e, h'⟩ := cz_two h hj hn (p := c) (q := q) (by omega) hq ok hT
        rw [itr_s (s' := (nI (b + 1 + (c + 1)), M'))]
        · refine c_lows hj hn hq hz hx hT k (c + 1) fu M' (by omega) ?_ (by omega)
          rw [lows, off2, if_pos ⟨show 2 ≤ f by omega, cz, hz⟩]
          exact h'
        · unfold pX5_offerBlocks_L38
          dsimp only
          rw [if_neg (show ¬ nI (b + 1 + q) ≤ nI (b + 1 + c) by rw [le_nI] <;> omega), if_neg (show ¬ M 17 1 ≤ 1 by rw [fe]; show ¬ nI f ≤ nI 1; rw [le_nI] <;> omega), cz_o h.1 (by omega), Option.bind_some, lt, Option.bind_some, if_neg one_ne, e, Option.bind_some]
          simp (disch := omega) only [bnd_eq, Option.bind_some, lit_nI, nI_add, pk_mul, ald_nI, ast_nI, lt_nI, le_nI, eq_nI, sub_nI, Sum.elim_inl, Sum.elim_inr, if_pos, if_neg, if_true, if_false]
          rfl
      · rw [if_neg cz] at lt
        rw [itr_s (s' := (nI (b + 1 + (c + 1)), M))]
        · refine c_lows hj hn hq hz hx hT k (c + 1) fu M (by omega) ?_ (by omega)
          rw [lows, off2, if_neg (fun g => cz g.2.1)]
          exact h
        · unfold pX5_offerBlocks_L38
          dsimp only
          rw [if_neg (show ¬ nI (b + 1 + q) ≤ nI (b + 1 + c) by rw [le_nI] <;> omega), if_neg (show ¬ M 17 1 ≤ 1 by rw [fe]; show ¬ nI f ≤ nI 1; rw [le_nI] <;> omega), cz_o h.1 (by omega), Option.bind_some, lt, Option.bind_some, if_pos rfl]
          simp (disch := omega) only [bnd_eq, Option.bind_some, lit_nI, nI_add, pk_mul, ald_nI, ast_nI, lt_nI, le_nI, eq_nI, sub_nI, Sum.elim_inl, Sum.elim_inr, if_pos, if_neg, if_true, if_false]
          rfl
theorem c_highs {b w : Nat} {x : En} (hj : j = b + 1 + w) (hn : j ≤ n + 1) (hf : 1 ≤ f) (hx : EnOk j x) (hT : (T b).1 ≤ 1000 * b ∧ (T b).2.1 ≤ 2 * b) : ∀ (k q fu : Nat) (M : Mm), q + k = w → CI B F S wx wy f n o T j (highs (zof F S wx wy f) o T b w x q) M → k < fu → ∃ M', itr (pX5_offerBlocks_L4 (nI b) (nI j)) fu (nI (b + 1 + q), M) = some M' ∧ CI B F S wx wy f n o T j (highs (zof F S wx wy f) o T b w x w) M'
  | 0, q, fu, M, hk, h, hfu => by
    obtain ⟨fu, rfl⟩ : ∃ g, fu = g + 1 := ⟨fu - 1, by omega⟩
    have n8 := h.1.2.1
    refine ⟨M, itr_e ?_, by rw [show w = q by omega] at h ⊢; exact h⟩
    unfold pX5_offerBlocks_L4
    rw [if_pos (show nI j ≤ nI (b + 1 + q) by rw [le_nI] <;> omega)]
  | k + 1, q, fu, M, hk, h, hfu => by
    obtain ⟨fu, rfl⟩ : ∃ g, fu = g + 1 := ⟨fu - 1, by omega⟩
    have n8 := h.1.2.1
    have ok := highs_ok (Z := zof F S wx wy f) (o := o) (T := T) (b := b) (w := w) (by rw [← hj]; exact hx) hT.2 q (by omega)
    rw [← hj] at ok
    have lt := cz_lt h.1 (k := b + 1 + q) (by omega)
    rw [cz_o h.1 (by omega), Option.bind_some] at lt
    by_cases cz : zi (zof F S wx wy f) (o (b + 1 + q)) = true
    · rw [if_pos cz] at lt
      obtain ⟨M', e, h'⟩ := cz_one h hj hn (p := q) (by omega) ok hT
      have h2 : CI B F S wx wy f n o T j (off1 (zof F S wx wy f) o T b w q (highs (zof F S wx wy f) o T b w x q)) M' := by
        rw [off1, if_pos ⟨hf, cz⟩]
        exact h'
      have ok2 := off1_ok (Z := zof F S wx wy f) (o := o) (T := T) (b := b) (w := w) (p := q) (x := highs (zof F S wx wy f) o T b w x q) (by rw [← hj]; exact ok) hT.2 (by omega)
      rw [← hj] at ok2
      obtain ⟨M2, e2, h3⟩ := c_lows (q := q) (x := off1 (zof F S wx wy f) o T b w q (highs (zof F S wx wy f) o T b w x q)) hj hn (by omega) cz ok2 hT q 0 fuel M' (by omega) h2 (by unfold fuel; omega)
      rw [itr_s (s' := (nI (b + 1 + (q + 1)), M2))]
      · exact c_highs hj hn hf hx hT k (q + 1) fu M2 (by omega) h3 (by omega)
      · unfold pX5_offerBlocks_L4
        dsimp only
        rw [if_neg (show ¬ nI j ≤ nI (b + 1 + q) by rw [le_nI] <;> omega), cz_o h.1 (by omega), Option.bind_some, lt, Option.bind_some, if_neg one_ne, e, Option.bind_some, bnd_eq, show nI b + 1 = nI (b + 1 + 0) from nI_add b 1, e2, Option.bind_some]
        simp (disch := omega) only [bnd_eq, Option.bind_some, lit_nI, nI_add, pk_mul, ald_nI, ast_nI, lt_nI, le_nI, eq_nI, sub_nI, Sum.elim_inl, Sum.elim_inr, if_pos, if_neg, if_true, if_false]
        rfl
    · rw [if_neg cz] at lt
      rw [itr_s (s' := (nI (b + 1 + (q + 1)), M))]
      · refine c_highs hj hn hf hx hT k (q + 1) fu M (by omega) ?_ (by omega)
        rw [highs, lows_nl cz, off1, if_neg (fun g => cz g.2)]
        exact h
      · unfold pX5_offerBlocks_L4
        dsimp only
        rw [if_neg (show ¬ nI j ≤ nI (b + 1 + q) by rw [le_nI] <;> omega), cz_o h.1 (by omega), Option.bind_some, lt, Option.bind_some, if_pos rfl]
        simp (disch := omega) only [bnd_eq, Option.bind_some, lit_nI, nI_add, pk_mul, ald_nI, ast_nI, lt_nI, le_nI, eq_nI, sub_nI, Sum.elim_inl, Sum.elim_inr, if_pos, if_neg, if_true, if_false]
        rfl
theorem c_blocks (hn : j ≤ n + 1) (h0 : 1 ≤ j) (hT : ∀ b, b < j → (T b).1 ≤ 1000 * b ∧ (T b).2.1 ≤ 2 * b) : ∀ (k c fu : Nat) (M : Mm), k + c = j - 1 → CI B F S wx wy f n o T j (bls (zof F S wx wy f) o T j c) M → k < fu → ∃ M', itr (pX5_fill_L23 (nI j)) fu (nI k + (-1), M) = some M' ∧ CI B F S wx wy f n o T j (bls (zof F S wx wy f) o T j (j - 1)) M'
  | 0, c, fu, M, hk, h, hfu => by
    obtain ⟨fu, rfl⟩ : ∃ g, fu = g + 1 := ⟨fu - 1, by omega⟩
    refine ⟨M, itr_e ?_, by rw [show j - 1 = c by omega]; exact h⟩
    unfold pX5_fill_L23
    rw [if_pos (show nI 0 + (-1) < 0 by decide)]
  | k + 1, c, fu, M, hk, h, hfu => by
    obtain ⟨fu, rfl⟩ : ∃ g, fu = g + 1 := ⟨fu - 1, by omega⟩
    have n8 := h.1.2.1
    have bz := h.1.1
    have o8 : ∀ k, o k ≤ 8 := fun k => Nat.le_trans (h.1.2.2.1 k) n8
    have f2 : f ≤ 2 := bz.2.2.2.2.2.2
    have fe : M 17 1 = nI f := h.1.2.2.2.1
    have l9 := bz.2.2.2.1
    have k9 := bz.2.2.2.2.1
    have zl1 := bz.1 (o k) (o j) (o8 _) (o8 _)
    rw [show nI (k + 1) + (-1) = nI k from nI_m1 k]
    by_cases c0 : f = 0
    · refine ⟨M, itr_e ?_, by rw [bls_f (show zf (zof F S wx wy f) = 0 from c0)] at h ⊢; exact h⟩
      unfold pX5_fill_L23
      dsimp only
      rw [if_neg (nI_pos (by omega)), if_pos (show M 17 1 ≤ 0 by rw [fe]; show nI f ≤ nI 0; rw [le_nI] <;> omega)]
    · have ok := bls_ok (Z := zof F S wx wy f) (o := o) (T := T) (to := j) (bz.1 _ _ (o8 _) (o8 _)) h0 hT c (by omega)
      have y1 := ok.1
      have hTk := hT k (by omega)
      have so : pX5_soonest (nI k) (nI j) M = some (nI ((T k).1 + zL (zof F S wx wy f) + zl (zof F S wx wy f) (o k) (o j) + zK (zof F S wx wy f))) := by
        unfold pX5_soonest
        rw [ald_nI (by omega) (by omega), (h.2.2.1 k (by omega)).1, Option.bind_some, cz_leg h.1 (by omega) (by omega), Option.bind_some, show M 17 2 = nI (zL (zof F S wx wy f)) from h.1.2.2.2.2.1, show M 17 3 = nI (zK (zof F S wx wy f)) from h.1.2.2.2.2.2.1, nI_add, nI_add, nI_add]
      have e24 : M 24 j = _ := h.2.2.2.1.1
      by_cases cp : (bls (zof F S wx wy f) o T j c).1 < (T k).1 + zL (zof F S wx wy f) + zl (zof F S wx wy f) (o k) (o j) + zK (zof F S wx wy f)
      · rw [itr_s (s' := (nI k + (-1), M))]
        · refine c_blocks hn h0 hT k (c + 1) fu M (by omega) ?_ (by omega)
          rw [bls, show j - 2 - c = k by omega, highs_no bz.2.2.1 (by rw [show k + 1 + (c + 1) = j by omega]; exact cp) (c + 1) (by omega)]
          exact h
        · unfold pX5_fill_L23
          dsimp only
          rw [if_neg (nI_pos (by omega)), if_neg (show ¬ M 17 1 ≤ 0 by rw [fe]; show ¬ nI f ≤ nI 0; rw [le_nI] <;> omega), so, Option.bind_some, ald_nI (by omega) (by omega), e24, Option.bind_some, if_pos (by rw [lt_nI] <;> omega)]
      · obtain ⟨M', e, h'⟩ := c_highs (b := k) (w := c + 1) (x := bls (zof F S wx wy f) o T j c) (by omega) hn (by omega) ok hTk (c + 1) 0 fuel M (by omega) h (by unfold fuel; omega)
        rw [itr_s (s' := (nI k + (-1), M'))]
        · refine c_blocks hn h0 hT k (c + 1) fu M' (by omega) ?_ (by omega)
          rw [bls, show j - 2 - c = k by omega]
          exact h'
        · unfold pX5_fill_L23
          dsimp only
          rw [if_neg (nI_pos (by omega)), if_neg (show ¬ M 17 1 ≤ 0 by rw [fe]; show ¬ nI f ≤ nI 0; rw [le_nI] <;> omega), so, Option.bind_some, ald_nI (by omega) (by omega), e24, Option.bind_some, if_neg (by rw [lt_nI] <;> omega)]
          unfold pX5_offerBlocks
          rw [bnd_eq, show nI k + 1 = nI (k + 1 + 0) from nI_add k 1, e, Option.bind_some, Option.bind_some]
def CF (B : Mm) (F S : Nat → Int32) (wx wy : Int32) (f n : Nat) (o : Nat → Nat) (j : Nat) (M : Mm) : Prop := CX F S wx wy f n o M ∧ (∀ k, k ≤ j → M 23 k = nI (zsv (zof F S wx wy f) o k)) ∧ Rows 24 (tab (zof F S wx wy f) o j) (j + 1) M ∧ FrC B M
def vanR (M : Mm) (j s e m : Nat) : Mm := mset (mset (mset (mset (mset M 23 (j + 1) (nI s)) 24 (j + 1) (nI e)) 25 (j + 1) (nI m)) 26 (j + 1) (nI j)) 27 (j + 1) (nI 0)
theorem dec2 (x : Int32) : x + 1 - 2 = x + (-1) := by grind
theorem c_fills : ∀ (c j fu : Nat) (M : Mm), j + c = n + 1 → CF B F S wx wy f n o j M → c < fu → ∃ M', itr pX5_fill_L6 fu (nI (j + 1), M) = some M' ∧ CF B F S wx wy f n o (n + 1) M'
  | 0, j, fu, M, hj, h, hfu => by
    obtain ⟨fu, rfl⟩ : ∃ g, fu = g + 1 := ⟨fu - 1, by omega⟩
    have n8 := h.1.2.1
    refine ⟨M, itr_e ?_, by rw [show n + 1 = j by omega]; exact h⟩
    unfold pX5_fill_L6
    dsimp only
    rw [if_pos (show M 17 6 < nI (j + 1) by rw [show M 17 6 = nI (n + 1) from h.1.2.2.2.2.2.2.2.2.1, lt_nI] <;> omega)]
  | c + 1, j, fu, M, hj, h, hfu => by
    obtain ⟨fu, rfl⟩ : ∃ g, fu = g + 1 := ⟨fu - 1, by omega⟩
    obtain ⟨h1, h2, h3, h4⟩ := h
    have n8 := h1.2.1
    have bz := h1.1
    have o8 : ∀ k, o k ≤ 8 := fun k => Nat.le_trans (h1.2.2.1 k) n8
    have hl : ∀ k, zl (zof F S wx wy f) (o k) (o (k + 1)) ≤ 1000 := fun k => bz.1 _ _ (o8 _) (o8 _)
    have tb := fun b (hb : b < j + 1) => (tab_ok (Z := zof F S wx wy f) hl j b (by omega)).1
    have rj := h3 j (by omega)
    obtain ⟨V, hV⟩ : ∃ V, V = vanR M j (zsv (zof F S wx wy f) o j + zl (zof F S wx wy f) (o j) (o (j + 1))) ((tab (zof F S wx wy f) o j j).1 + zl (zof F S wx wy f) (o j) (o (j + 1))) (tab (zof F S wx wy f) o j j).2.1 := ⟨_, rfl⟩
    have ev : pX5_beginWithVan (nI (j + 1)) M = some V := by
      unfold pX5_beginWithVan
      rw [show nI (j + 1) - 1 = nI j from sub_nI (a := j + 1) (b := 1) (by omega), cz_leg h1 (by omega) (by omega), Option.bind_some, ald_nI (by omega) (by omega), h2 j (by omega), Option.bind_some, ast_nI (by omega) (by omega), Option.bind_some, ald_nI (by omega) (by omega), mset_cell (by omega), rj.1, Option.bind_some, ast_nI (by omega) (by omega), Option.bind_some, ald_nI (by omega) (by omega), mset_cell (by omega), mset_cell (by omega), show M 25 j = _ from rj.2.1, Option.bind_some, ast_nI (by omega) (by omega), Option.bind_some, ast_nI (by omega) (by omega), Option.bind_some, ast_nI (by omega) (by omega), Option.bind_some, nI_add, nI_add, hV]
      rfl
    have hv : CI B F S wx wy f n o (tab (zof F S wx wy f) o j) (j + 1) (bls (zof F S wx wy f) o (tab (zof F S wx wy f) o j) (j + 1) 0) V := by
      rw [hV]
      unfold vanR
      refine ⟨CX_c h1 (fun c a b => by rw [mset_cell (by omega), mset_cell (by omega), mset_cell (by omega), mset_cell (by omega), mset_cell (by omega)]), ?_, ?_, ?_, fun c d => by rw [mset_cell (by omega), mset_cell (by omega), mset_cell (by omega), mset_cell (by omega), mset_cell (by omega), h4.1 c d], fun c => by rw [mset_slot (by omega), mset_slot (by omega), mset_slot (by omega), mset_slot (by omega), mset_slot (by omega), h4.2 c]⟩
      · intro k hk
        rw [mset_cell (by omega), mset_cell (by omega), mset_cell (by omega), mset_cell (by omega)]
        by_cases ck : k = j + 1
        · rw [ck, mset_same, zsv]
        · rw [mset_slot ck]
          exact h2 k (by omega)
      · intro b' hb
        rw [mset_slot (by omega), mset_slot (by omega), mset_slot (by omega), mset_slot (by omega), mset_slot (by omega), mset_slot (by omega), mset_slot (by omega), mset_slot (by omega), mset_slot (by omega), mset_slot (by omega), mset_slot (by omega), mset_slot (by omega), mset_slot (by omega), mset_slot (by omega), mset_slot (by omega), mset_slot (by omega), mset_slot (by omega), mset_slot (by omega), mset_slot (by omega), mset_slot (by omega)]
        exact h3 b' hb
      · rw [bls, show j + 1 - 1 = j by omega]
        refine ⟨?_, ?_, ?_, ?_⟩
        · rw [mset_cell (by omega), mset_cell (by omega), mset_cell (by omega), mset_same]
        · rw [mset_cell (by omega), mset_cell (by omega), mset_same]
        · rw [mset_cell (by omega), mset_same]
        · rw [mset_same]
    obtain ⟨M2, e2, i2⟩ := c_blocks (j := j + 1) (by omega) (by omega) tb j 0 fuel V (by omega) hv (by unfold fuel; omega)
    rw [itr_s (s' := (nI (j + 1 + 1), M2))]
    · refine c_fills c (j + 1) fu M2 (by omega) ⟨i2.1, i2.2.1, ?_, i2.2.2.2.2⟩ (by omega)
      intro b hb
      by_cases cb : b = j + 1
      · subst cb
        rw [tab_last]
        have := i2.2.2.2.1
        rw [show j + 1 - 1 = j by omega] at this
        exact ⟨this.1, this.2.1, fun _ => ⟨this.2.2.1, this.2.2.2⟩⟩
      · rw [show tab (zof F S wx wy f) o (j + 1) b = tab (zof F S wx wy f) o j b by rw [tab]; exact if_neg cb]
        exact i2.2.2.1 b (by omega)
    · unfold pX5_fill_L6
      dsimp only
      rw [if_neg (show ¬ M 17 6 < nI (j + 1) by rw [show M 17 6 = nI (n + 1) from h1.2.2.2.2.2.2.2.2.1, lt_nI] <;> omega), ev, Option.bind_some, bnd_eq, show nI (j + 1) - 2 = nI j + (-1) by rw [← nI_add j 1]; exact dec2 _, e2, Option.bind_some]
      simp (disch := omega) only [bnd_eq, Option.bind_some, lit_nI, nI_add, pk_mul, ald_nI, ast_nI, lt_nI, le_nI, eq_nI, sub_nI, Sum.elim_inl, Sum.elim_inr, if_pos, if_neg, if_true, if_false]
theorem fill_c {M : Mm} {a : Nat} (h0 : 1 ≤ a) (ha : a ≤ n + 2) (h : CF B F S wx wy f n o (a - 1) M) : ∃ M', pX5_fill (nI a) M = some M' ∧ CF B F S wx wy f n o (n + 1) M' := by
  have n8 := h.1.2.1
  obtain ⟨M', e, h'⟩ := c_fills (n + 2 - a) (a - 1) fuel M (by omega) h (by unfold fuel; omega)
  refine ⟨M', ?_, h'⟩
  unfold pX5_fill
  rw [bnd_eq, show (1 : Int32) = nI 1 from rfl, mmax_nI (by omega) (by omega), show max 1 a = a - 1 + 1 by omega, e, Option.bind_some]
end FILM
