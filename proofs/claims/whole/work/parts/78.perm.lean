/-! PURE: orders, one after the other -/
def pv (o : Nat → Nat) : Nat → Nat
  | 0 => 0
  | k + 1 => if o (k + 2) < o (k + 1) then pv o k else k + 1
def grr (o : Nat → Nat) (c : Nat) : Nat → Nat
  | 0 => 0
  | i + 1 => if i + 1 ≤ c + 1 then i + 1 else if o (i + 1) < o c then grr o c i else i + 1
def sw (o : Nat → Nat) (a b : Nat) : Nat → Nat := fun k => if k = b then o a else if k = a then o b else o k
def rv : Nat → (Nat → Nat) → Nat → Nat → (Nat → Nat)
  | 0, o, _, _ => o
  | f + 1, o, l, h => if l < h then rv f (sw o l h) (l + 1) (h - 1) else o
def nxo (n : Nat) (o : Nat → Nat) : Nat → Nat := rv n (sw o (pv o (n - 1)) (grr o (pv o (n - 1)) n)) (pv o (n - 1) + 1) n
def nm (o : Nat → Nat) : Nat → Nat
  | 0 => 0
  | k + 1 => nm o k * 10 + o (k + 1)
def dig (n v : Nat) : Nat → Nat := fun k => v / 10 ^ (n - k) % 10
def endN (n : Nat) : Nat → Nat → Bool
  | 0, v => pv (dig n v) (n - 1) == 0
  | k + 1, v => pv (dig n v) (n - 1) == 0 || endN n k (nm (nxo n (dig n v)) n)
def endF (n : Nat) : Nat → (Nat → Nat) → Bool
  | 0, o => pv o (n - 1) == 0
  | k + 1, o => pv o (n - 1) == 0 || endF n k (nxo n o)
theorem end7 : endN 7 5039 1234567 = true := by decide +kernel
theorem end6 : endN 6 5039 123456 = true := by decide +kernel
theorem end5 : endN 5 5039 12345 = true := by decide +kernel
theorem end4 : endN 4 5039 1234 = true := by decide +kernel
theorem end3 : endN 3 5039 123 = true := by decide +kernel
theorem end2 : endN 2 5039 12 = true := by decide +kernel
theorem end1 : endN 1 5039 1 = true := by decide +kernel
theorem end0 : endN 0 5039 0 = true := by decide +kernel
def idn (n : Nat) : Nat → Nat := fun k => if k ≤ n then k else 0
section PERM
variable {n : Nat} {o o' : Nat → Nat}
theorem pv_le (o : Nat → Nat) : ∀ m, pv o m ≤ m
  | 0 => Nat.le_refl _
  | m + 1 => by
    rw [pv]
    split
    · exact Nat.le_trans (pv_le o m) (by omega)
    · exact Nat.le_refl _
theorem pv_up (o : Nat → Nat) : ∀ m, 1 ≤ pv o m → o (pv o m) ≤ o (pv o m + 1)
  | 0, h => absurd h (by show ¬ 1 ≤ 0; omega)
  | m + 1, h => by
    rw [pv] at h ⊢
    split at h
    · rename_i c
      rw [if_pos c]
      exact pv_up o m h
    · rename_i c
      rw [if_neg c]
      show o (m + 1) ≤ o (m + 2)
      omega
theorem grr_b (o : Nat → Nat) (c : Nat) : ∀ i, c + 1 ≤ i → c + 1 ≤ grr o c i ∧ grr o c i ≤ i
  | 0, h => absurd h (by omega)
  | i + 1, h => by
    rw [grr]
    split
    · exact ⟨h, Nat.le_refl _⟩
    · split
      · have := grr_b o c i (by omega)
        exact ⟨this.1, by omega⟩
      · exact ⟨h, Nat.le_refl _⟩
theorem pv_cong : ∀ m, (∀ k, 1 ≤ k → k ≤ m + 1 → o k = o' k) → pv o m = pv o' m
  | 0, _ => rfl
  | m + 1, h => by rw [pv, pv, h (m + 2) (by omega) (by omega), h (m + 1) (by omega) (by omega), pv_cong m (fun k a b => h k a (by omega))]
theorem grr_cong {c : Nat} (hc : 1 ≤ c) : ∀ i, c ≤ i → (∀ k, 1 ≤ k → k ≤ i → o k = o' k) → grr o c i = grr o' c i
  | 0, _, _ => rfl
  | i + 1, h1, h => by
    rw [grr, grr, h (i + 1) (by omega) (by omega), h c hc h1]
    by_cases e : i + 1 ≤ c + 1
    · rw [if_pos e, if_pos e]
    · rw [if_neg e, if_neg e, grr_cong hc i (by omega) (fun k a b => h k a (by omega))]
theorem sw_cong {a b : Nat} (ha : 1 ≤ a) (ha2 : a ≤ n) (hb : 1 ≤ b) (hb2 : b ≤ n) (h : ∀ k, 1 ≤ k → k ≤ n → o k = o' k) : ∀ k, 1 ≤ k → k ≤ n → sw o a b k = sw o' a b k := by
  intro k h1 h2
  unfold sw
  rw [h a ha ha2, h b hb hb2, h k h1 h2]
theorem rv_cong : ∀ (f : Nat) (o o' : Nat → Nat) (l h : Nat), 1 ≤ l → h ≤ n → (∀ k, 1 ≤ k → k ≤ n → o k = o' k) → ∀ k, 1 ≤ k → k ≤ n → rv f o l h k = rv f o' l h k
  | 0, o, o', l, h, _, _, e, k, a, b => e k a b
  | f + 1, o, o', l, h, hl, hh, e, k, a, b => by
    rw [rv, rv]
    by_cases c : l < h
    · rw [if_pos c, if_pos c]
      exact rv_cong f _ _ (l + 1) (h - 1) (by omega) (by omega) (sw_cong hl (by omega) (by omega) hh e) k a b
    · rw [if_neg c, if_neg c]
      exact e k a b
theorem nxo_cong (hc : 1 ≤ pv o (n - 1)) (h : ∀ k, 1 ≤ k → k ≤ n → o k = o' k) : ∀ k, 1 ≤ k → k ≤ n → nxo n o k = nxo n o' k := by
  intro k h1 h2
  have p := pv_cong (o := o) (o' := o') (n - 1) (fun k a b => h k a (by omega))
  have pl := pv_le o (n - 1)
  have g := grr_cong (o := o) (o' := o') hc n (by omega) h
  have gb := grr_b o (pv o (n - 1)) n (by omega)
  unfold nxo
  rw [← p, ← g]
  exact rv_cong n _ _ _ _ (by omega) (Nat.le_refl _) (sw_cong hc (by omega) (by omega) gb.2 h) k h1 h2
theorem sw_le {B a b : Nat} (h : ∀ k, o k ≤ B) : ∀ k, sw o a b k ≤ B := by
  intro k
  unfold sw
  split
  · exact h _
  · split
    · exact h _
    · exact h _
theorem rv_le {B : Nat} : ∀ (f : Nat) (o : Nat → Nat) (l h : Nat), (∀ k, o k ≤ B) → ∀ k, rv f o l h k ≤ B
  | 0, o, l, h, e, k => e k
  | f + 1, o, l, h, e, k => by
    rw [rv]
    split
    · exact rv_le f _ _ _ (sw_le e) k
    · exact e k
theorem nxo_le {B : Nat} (h : ∀ k, o k ≤ B) : ∀ k, nxo n o k ≤ B := rv_le _ _ _ _ (sw_le h)
theorem rv_out : ∀ (f : Nat) (o : Nat → Nat) (l h k : Nat), (k < l ∨ h < k) → rv f o l h k = o k
  | 0, o, l, h, k, _ => rfl
  | f + 1, o, l, h, k, e => by
    rw [rv]
    split
    · rw [rv_out f _ _ _ _ (by omega)]
      unfold sw
      rw [if_neg (by omega), if_neg (by omega)]
    · rfl
theorem nxo_out {k : Nat} (hc : 1 ≤ pv o (n - 1)) (h : k < pv o (n - 1) ∨ n < k) : nxo n o k = o k := by
  have pl := pv_le o (n - 1)
  have gb := grr_b o (pv o (n - 1)) n (by omega)
  unfold nxo
  rw [rv_out _ _ _ _ _ (by omega)]
  unfold sw
  rw [if_neg (by omega), if_neg (by omega)]
theorem nm_cong : ∀ m, (∀ k, 1 ≤ k → k ≤ m → o k = o' k) → nm o m = nm o' m
  | 0, _ => rfl
  | m + 1, h => by rw [nm, nm, nm_cong m (fun k a b => h k a (by omega)), h (m + 1) (by omega) (by omega)]
theorem nm_lt (h : ∀ k, o k ≤ 8) : ∀ m, nm o m < 10 ^ m
  | 0 => by show 0 < 1; omega
  | m + 1 => by
    have := nm_lt h m
    have := h (m + 1)
    rw [nm, Nat.pow_succ]
    omega
theorem dig_nm (h : ∀ k, o k ≤ 8) : ∀ (m k : Nat), 1 ≤ k → k ≤ m → dig m (nm o m) k = o k
  | 0, k, a, b => absurd a (by omega)
  | m + 1, k, a, b => by
    have h9 := h (m + 1)
    by_cases c : k = m + 1
    · rw [c]
      unfold dig
      rw [Nat.sub_self, Nat.pow_zero, Nat.div_one, nm]
      omega
    · have ih := dig_nm h m k a (by omega)
      unfold dig at ih ⊢
      rw [show m + 1 - k = (m - k) + 1 by omega, Nat.pow_succ, Nat.mul_comm, ← Nat.div_div_eq_div_mul, nm, show (nm o m * 10 + o (m + 1)) / 10 = nm o m by omega]
      exact ih
theorem end_NF (hn : 1 ≤ n) : ∀ (k : Nat) (o : Nat → Nat), (∀ k, o k ≤ 8) → endN n k (nm o n) = true → endF n k o = true
  | 0, o, h, e => by
    rw [endN] at e
    rw [endF, ← pv_cong (o := dig n (nm o n)) (o' := o) (n - 1) (fun k a b => dig_nm h n k a (by omega))]
    exact e
  | k + 1, o, h, e => by
    have p := pv_cong (o := dig n (nm o n)) (o' := o) (n - 1) (fun k a b => dig_nm h n k a (by omega))
    rw [endN, p] at e
    rw [endF]
    by_cases c : pv o (n - 1) = 0
    · rw [c]
      rfl
    · have c' : (pv o (n - 1) == 0) = false := by simpa using c
      rw [c', Bool.false_or] at e ⊢
      have q := nm_cong (o := nxo n (dig n (nm o n))) (o' := nxo n o) n (nxo_cong (by rw [p]; omega) (fun k a b => dig_nm h n k a b))
      rw [q] at e
      exact end_NF hn k (nxo n o) (nxo_le h) e
theorem end_F (hn : n ≤ 7) : endF n 5039 (idn n) = true := by
  by_cases c : n = 0
  · subst c
    rw [endF]
    rfl
  · have : n = 1 ∨ n = 2 ∨ n = 3 ∨ n = 4 ∨ n = 5 ∨ n = 6 ∨ n = 7 := by omega
    have b : ∀ k, idn n k ≤ 8 := fun k => by unfold idn; split <;> omega
    refine end_NF (by omega) 5039 (idn n) b ?_
    rcases this with rfl | rfl | rfl | rfl | rfl | rfl | rfl
    · exact end1
    · exact end2
    · exact end3
    · exact end4
    · exact end5
    · exact end6
    · exact end7
end PERM
