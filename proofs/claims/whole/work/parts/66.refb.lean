/-! PURE: the reference's blocks -/
def opI : Option Nat → Int32
  | none => -1
  | some d => nI d
section REFB
variable {F S : Nat → Int32} {wx wy : Int32} {n : Nat} {o : Nat → Nat} {M : Mm} {f : Nat}
theorem zh_c (h : RX F S wx wy n o M) : (zh (zof F S wx wy f) = true ∧ S 9 = 1) ∨ (zh (zof F S wx wy f) = false ∧ ¬ S 9 = 1) := by
  by_cases c : S 9 = 1
  · exact Or.inl ⟨decide_eq_true c, c⟩
  · exact Or.inr ⟨decide_eq_false c, c⟩
/-- one flyer is caught -/
theorem r_catch (h : RX F S wx wy n o M) {k i t lf bk : Nat} {x5 x9 : Int32} (h5 : ¬ x5 ≤ nI i) (hk : (if nI i = 0 then x9 else 1 - x9) = nI k) (hk2 : k < 2) (hl : M 8 k = nI lf) (hb : M 9 k = nI bk) (l1 : lf ≤ bk) (l2 : bk < 100000) (l3 : t < 100000) : pX9_lasts_L228 x5 x9 M (nI t, nI i) = if okB (zof F S wx wy f) lf bk (max t bk) = true then some (.inl (nI (max t bk + zK (zof F S wx wy f)), nI (i + 1))) else some (.inr (.inr (-1, M))) := by
  have bb := rz_b h
  have m8 : ∀ inst : Decidable (nI bk ≤ nI t), @ite _ (nI bk ≤ nI t) inst (some (nI t)) ((some (nI bk)).bind fun v => some v) = some (nI (max t bk)) := by
    intro inst
    by_cases c : bk ≤ t
    · rw [if_pos (by rw [le_nI] <;> omega), Nat.max_eq_left c]
    · rw [if_neg (by rw [le_nI] <;> omega), Nat.max_eq_right (by omega)]
      rfl
  have mb : max t bk < 100000 := by omega
  have b9 : zB (zof F S wx wy f) ≤ 999 := bb.2.2.2.2.2.1.1
  have o9 : pX9_of 9 M = some (S 9) := rz_of h (i := 9) (by omega) (by omega) (by omega)
  have o5 : pX9_of 5 M = some (nI (zB (zof F S wx wy f))) := by
    rw [show pX9_of 5 M = _ from rz_of h (i := 5) (by omega) (by omega) (by omega)]
    exact congrArg some bb.2.2.2.2.2.1.2
  have o7 : pX9_of 7 M = some (nI (zK (zof F S wx wy f))) := by
    rw [show pX9_of 7 M = _ from rz_of h (i := 7) (by omega) (by omega) (by omega)]
    exact congrArg some bb.2.2.2.2.2.2.2.1.2
  have a9 : ald M 9 8 (nI k) = some (nI bk) := by rw [ald_nI (by omega) (by omega), hb]
  have a8 : ald M 8 8 (nI k) = some (nI lf) := by rw [ald_nI (by omega) (by omega), hl]
  unfold pX9_lasts_L228
  dsimp only
  rw [if_neg h5, bnd_eq, hk, a9, Option.bind_some, m8, Option.bind_some, o9, Option.bind_some, a8, o5, o7]
  unfold okB
  rcases zh_c (f := f) h with ⟨c1, c2⟩ | ⟨c1, c2⟩
  · rw [if_pos c2, c1, Option.bind_some, Option.bind_some, sub_nI (show lf ≤ max t bk by omega), if_pos (rfl : true = true)]
    by_cases c : max t bk - lf ≤ zB (zof F S wx wy f)
    · rw [if_pos (show nI (max t bk - lf) ≤ nI (zB (zof F S wx wy f)) by rw [le_nI] <;> omega), if_pos (decide_eq_true c), Option.bind_some, bnd_eq, nI_add, nI_1]
    · rw [if_neg (show ¬ nI (max t bk - lf) ≤ nI (zB (zof F S wx wy f)) by rw [le_nI] <;> omega), if_neg (show ¬ decide (max t bk - lf ≤ zB (zof F S wx wy f)) = true by simpa using c)]
  · rw [if_neg c2, c1, Option.bind_some, Option.bind_some, Option.bind_some, sub_nI l1, if_neg (show ¬ false = true by decide)]
    by_cases c : bk - lf ≤ zB (zof F S wx wy f)
    · rw [if_pos (show nI (bk - lf) ≤ nI (zB (zof F S wx wy f)) by rw [le_nI] <;> omega), if_pos (decide_eq_true c), Option.bind_some, bnd_eq, nI_add, nI_1]
    · rw [if_neg (show ¬ nI (bk - lf) ≤ nI (zB (zof F S wx wy f)) by rw [le_nI] <;> omega), if_neg (show ¬ decide (bk - lf ≤ zB (zof F S wx wy f)) = true by simpa using c)]
theorem r_nomore {i : Nat} {t x9 : Int32} (hi : i < 100) : pX9_lasts_L228 (nI i) x9 M (t, nI i) = some (.inr (.inl t)) := by
  unfold pX9_lasts_L228
  rw [if_pos (by show nI i ≤ nI i; rw [le_nI] <;> omega)]
theorem r_lasts0 (h : RX F S wx wy n o M) {b : Nat} (hb : b + 1 ≤ n + 1) : pX9_lasts (nI b) (nI (b + 1 + 0)) (nI 0) M = some (nI (zl (zof F S wx wy f) (o b) (o (b + 1))), M) := by
  have q := rz_n h
  unfold pX9_lasts
  rw [rz_o h (by omega), Option.bind_some, rz_o h (by omega), Option.bind_some, r_sent0 (by omega), Option.bind_some]
  dsimp only
  have v := r_van (f := f) h (b := b) (w := 0) (x := 0) (t0 := 0) (s := 0) (fz := fun _ => false) (by omega) (by omega) (fun k hk => by rw [bq1 0 (by omega) k (by omega)]; simp)
  rw [show ((0 : Int32), nI (o b), (0 : Int32)) = (nI 0, nI (o b), 0) from rfl, v, Option.bind_some, if_neg (by decide), Option.bind_some]
  simp only [Sum.elim_inl]
  rw [show fuel = 5999 + 1 from rfl, show ∀ t : Int32, ((t, (0 : Int32)) : Int32 × Int32) = (t, nI 0) from fun _ => rfl, show pX9_lasts_L228 0 0 M = pX9_lasts_L228 (nI 0) 0 M from rfl, itr_e (r_nomore (i := 0) (by omega))]
  simp only [Option.bind_some, Sum.elim_inl]
  congr 3
  show 0 + (0 + zl (zof F S wx wy f) (o b) (o (b + 1 + 0))) = _
  rw [Nat.add_zero, Nat.zero_add, Nat.zero_add]
theorem r_lasts1 (h : RX F S wx wy n o M) {b w p : Nat} (hp : p < w) (hb : b + 1 + w ≤ n + 1) : ∃ M', pX9_lasts (nI b) (nI (b + 1 + w)) (nI (2 ^ p)) M = some (opI (d1 (zof F S wx wy f) o b w p), M') ∧ ∀ c, c ≠ 8 → c ≠ 9 → M' c = M c := by
  have q := rz_n h
  have bb := rz_b h
  have zb := zo_b (f := f) h
  have l9 : zL (zof F S wx wy f) ≤ 9 := bb.2.2.2.2.2.2.1.1
  have x8 : 2 ^ p < 2 ^ 8 := Nat.pow_lt_pow_right (by omega) (by omega)
  have t2 : zt (zof F S wx wy f) (o b) (o (b + 1 + p)) (o (b + 1 + w)) ≤ 2000 := zb.2.1 _ _ _ (Nat.le_trans (q.2.2 _) q.1) (Nat.le_trans (q.2.2 _) q.1) (Nat.le_trans (q.2.2 _) q.1)
  have pw := (pth_le (Z := zof F S wx wy f) zb.1 (fun k => Nat.le_trans (q.2.2 k) q.1) (b := b) (fz := one p) (w + 1)).1
  have h' : RX F S wx wy n o (mA (zof F S wx wy f) o b w p M) := RX_c h (mA_f _ _ _ _ _ _ (by omega) (by omega)) (mA_f _ _ _ _ _ _ (by omega) (by omega))
  refine ⟨mA (zof F S wx wy f) o b w p M, ?_, fun c h8 h9 => mA_f _ _ _ _ _ _ h8 h9⟩
  unfold pX9_lasts
  rw [rz_o h (by omega), Option.bind_some, rz_o h (by omega), Option.bind_some, r_sent1 (f := f) h hp hb, Option.bind_some]
  dsimp only
  have v := r_van (f := f) h' (b := b) (w := w) (x := 2 ^ p) (t0 := zL (zof F S wx wy f)) (s := 1) (fz := one p) (by omega) (by omega) (fun k hk => by rw [bq1 _ x8 k (by omega), tbq1 p (by omega) k (by omega)])
  rw [v, Option.bind_some, if_neg (by decide), Option.bind_some]
  simp only [Sum.elim_inl]
  have ct := r_catch (f := f) h' (k := 0) (i := 0) (t := zL (zof F S wx wy f) + (pth (zof F S wx wy f) o b (one p) (w + 1)).1) (lf := zL (zof F S wx wy f)) (bk := zL (zof F S wx wy f) + zt (zof F S wx wy f) (o b) (o (b + 1 + p)) (o (b + 1 + w))) (x5 := 1) (x9 := 0) (by decide) (by rfl) (by omega) (by rfl) (by rfl) (by omega) (by omega) (by omega)
  rw [show fuel = 5998 + 1 + 1 from rfl, show ∀ t : Int32, ((t, (0 : Int32)) : Int32 × Int32) = (t, nI 0) from fun _ => rfl]
  unfold d1
  by_cases c : okB (zof F S wx wy f) (zL (zof F S wx wy f)) (zL (zof F S wx wy f) + zt (zof F S wx wy f) (o b) (o (b + 1 + p)) (o (b + 1 + w))) (max (zL (zof F S wx wy f) + (pth (zof F S wx wy f) o b (one p) (w + 1)).1) (zL (zof F S wx wy f) + zt (zof F S wx wy f) (o b) (o (b + 1 + p)) (o (b + 1 + w)))) = true
  · rw [if_pos c] at ct
    rw [itr_s ct, show (1 : Int32) = nI 1 from rfl, itr_e (r_nomore (i := 1) (by omega)), if_pos c]
    rfl
  · rw [if_neg c] at ct
    rw [itr_e ct, if_neg c]
    rfl
theorem r_lasts2 (h : RX F S wx wy n o M) {b w p q : Nat} (hp : p < q) (hq : q < w) (hb : b + 1 + w ≤ n + 1) : ∃ M', pX9_lasts (nI b) (nI (b + 1 + w)) (nI (2 ^ p + 2 ^ q)) M = some (opI (d2 (zof F S wx wy f) o b w p q), M') ∧ ∀ c, c ≠ 8 → c ≠ 9 → M' c = M c := by
  have qn := rz_n h
  have bb := rz_b h
  have zb := zo_b (f := f) h
  have l9 : zL (zof F S wx wy f) ≤ 9 := bb.2.2.2.2.2.2.1.1
  have k9 : zK (zof F S wx wy f) ≤ 9 := bb.2.2.2.2.2.2.2.1.1
  have x8 : 2 ^ p + 2 ^ q < 2 ^ 8 := by
    have e : 2 ^ p < 2 ^ q := Nat.pow_lt_pow_right (by omega) hp
    have e1 : 2 ^ (q + 1) ≤ 2 ^ 8 := Nat.pow_le_pow_right (by omega) (by omega)
    rw [Nat.pow_succ] at e1
    omega
  have t1 : zt (zof F S wx wy f) (o b) (o (b + 1 + p)) (o (b + 1 + w)) ≤ 2000 := zb.2.1 _ _ _ (Nat.le_trans (qn.2.2 _) qn.1) (Nat.le_trans (qn.2.2 _) qn.1) (Nat.le_trans (qn.2.2 _) qn.1)
  have t2 : zt (zof F S wx wy f) (o b) (o (b + 1 + q)) (o (b + 1 + w)) ≤ 2000 := zb.2.1 _ _ _ (Nat.le_trans (qn.2.2 _) qn.1) (Nat.le_trans (qn.2.2 _) qn.1) (Nat.le_trans (qn.2.2 _) qn.1)
  have pw := (pth_le (Z := zof F S wx wy f) zb.1 (fun k => Nat.le_trans (qn.2.2 k) qn.1) (b := b) (fz := two p q) (w + 1)).1
  have h' : RX F S wx wy n o (mB (zof F S wx wy f) o b w p q M) := RX_c h (mB_f _ _ _ _ _ _ _ (by omega) (by omega)) (mB_f _ _ _ _ _ _ _ (by omega) (by omega))
  refine ⟨mB (zof F S wx wy f) o b w p q M, ?_, fun c h8 h9 => mB_f _ _ _ _ _ _ _ h8 h9⟩
  unfold pX9_lasts
  rw [rz_o h (by omega), Option.bind_some, rz_o h (by omega), Option.bind_some, r_sent2 (f := f) h hp hq hb, Option.bind_some]
  dsimp only
  have v := r_van (f := f) h' (b := b) (w := w) (x := 2 ^ p + 2 ^ q) (t0 := 2 * zL (zof F S wx wy f)) (s := 2) (fz := two p q) (by omega) (by omega) (fun k hk => by rw [bq1 _ x8 k (by omega), tbq2 q (by omega) p hp k (by omega)])
  rw [v, Option.bind_some, if_pos rfl]
  have e0 : mB (zof F S wx wy f) o b w p q M 9 0 = nI (zL (zof F S wx wy f) + zt (zof F S wx wy f) (o b) (o (b + 1 + p)) (o (b + 1 + w))) := rfl
  have e1 : mB (zof F S wx wy f) o b w p q M 9 1 = nI (2 * zL (zof F S wx wy f) + zt (zof F S wx wy f) (o b) (o (b + 1 + q)) (o (b + 1 + w))) := rfl
  have f0 : mB (zof F S wx wy f) o b w p q M 8 0 = nI (zL (zof F S wx wy f)) := rfl
  have f1 : mB (zof F S wx wy f) o b w p q M 8 1 = nI (2 * zL (zof F S wx wy f)) := rfl
  unfold d2 d2a
  generalize hk0 : zL (zof F S wx wy f) + zt (zof F S wx wy f) (o b) (o (b + 1 + p)) (o (b + 1 + w)) = k0 at *
  generalize hk1 : 2 * zL (zof F S wx wy f) + zt (zof F S wx wy f) (o b) (o (b + 1 + q)) (o (b + 1 + w)) = k1 at *
  generalize hv : 2 * zL (zof F S wx wy f) + (pth (zof F S wx wy f) o b (two p q) (w + 1)).1 = vv at *
  generalize mB (zof F S wx wy f) o b w p q M = N at *
  rw [show (1 : Int32) = nI 1 from rfl, show (0 : Int32) = nI 0 from rfl, ald_nI (by omega) (by omega), ald_nI (by omega) (by omega), e0, e1]
  simp only [Option.bind_some]
  rw [show fuel = 5997 + 1 + 1 + 1 from rfl]
  by_cases c : k0 ≤ k1
  · rw [if_pos (show nI k0 ≤ nI k1 by rw [le_nI] <;> omega), if_pos c]
    simp only [Option.bind_some, Sum.elim_inl]
    have c1 := r_catch (f := f) h' (k := 0) (i := 0) (t := vv) (lf := zL (zof F S wx wy f)) (bk := k0) (x5 := 2) (x9 := nI 0) (by decide) (by rfl) (by omega) f0 e0 (by omega) (by omega) (by omega)
    by_cases g1 : okB (zof F S wx wy f) (zL (zof F S wx wy f)) k0 (max vv k0) = true
    · rw [if_pos g1] at c1
      have c2 := r_catch (f := f) h' (k := 1) (i := 1) (t := max vv k0 + zK (zof F S wx wy f)) (lf := 2 * zL (zof F S wx wy f)) (bk := k1) (x5 := 2) (x9 := nI 0) (by decide) (by rfl) (by omega) f1 e1 (by omega) (by omega) (by omega)
      rw [itr_s c1]
      by_cases g2 : okB (zof F S wx wy f) (2 * zL (zof F S wx wy f)) k1 (max (max vv k0 + zK (zof F S wx wy f)) k1) = true
      · rw [if_pos g2] at c2
        rw [itr_s c2, show (2 : Int32) = nI 2 from rfl, itr_e (r_nomore (i := 2) (by omega)), if_pos ⟨g1, g2⟩]
        rfl
      · rw [if_neg g2] at c2
        rw [itr_e c2, if_neg (fun g => g2 g.2)]
        rfl
    · rw [if_neg g1] at c1
      rw [itr_e c1, if_neg (fun g => g1 g.1)]
      rfl
  · rw [if_neg (show ¬ nI k0 ≤ nI k1 by rw [le_nI] <;> omega), if_neg c]
    have c1 := r_catch (f := f) h' (k := 1) (i := 0) (t := vv) (lf := 2 * zL (zof F S wx wy f)) (bk := k1) (x5 := 2) (x9 := nI 1) (by decide) (by rfl) (by omega) f1 e1 (by omega) (by omega) (by omega)
    by_cases g1 : okB (zof F S wx wy f) (2 * zL (zof F S wx wy f)) k1 (max vv k1) = true
    · rw [if_pos g1] at c1
      have c2 := r_catch (f := f) h' (k := 0) (i := 1) (t := max vv k1 + zK (zof F S wx wy f)) (lf := zL (zof F S wx wy f)) (bk := k0) (x5 := 2) (x9 := nI 1) (by decide) (by rfl) (by omega) f0 e0 (by omega) (by omega) (by omega)
      rw [itr_s c1]
      by_cases g2 : okB (zof F S wx wy f) (zL (zof F S wx wy f)) k0 (max (max vv k1 + zK (zof F S wx wy f)) k0) = true
      · rw [if_pos g2] at c2
        rw [itr_s c2, show (2 : Int32) = nI 2 from rfl, itr_e (r_nomore (i := 2) (by omega)), if_pos ⟨g2, g1⟩]
        rfl
      · rw [if_neg g2] at c2
        rw [itr_e c2, if_neg (fun g => g2 g.1)]
        rfl
    · rw [if_neg g1] at c1
      rw [itr_e c1, if_neg (fun g => g1 g.2)]
      rfl
end REFB
