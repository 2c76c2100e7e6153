/-! PURE: the table by numbers -/
abbrev Tp := (Nat → Nat → Nat) × (Nat → Nat → Nat → Nat) × (Nat → Bool) × Nat × Nat × Nat × Bool × Nat
abbrev En := Nat × Nat × Nat × Nat
def zl (Z : Tp) : Nat → Nat → Nat := Z.1
def zt (Z : Tp) : Nat → Nat → Nat → Nat := Z.2.1
def zi (Z : Tp) : Nat → Bool := Z.2.2.1
def zL (Z : Tp) : Nat := Z.2.2.2.1
def zK (Z : Tp) : Nat := Z.2.2.2.2.1
def zB (Z : Tp) : Nat := Z.2.2.2.2.2.1
def zh (Z : Tp) : Bool := Z.2.2.2.2.2.2.1
def zf (Z : Tp) : Nat := Z.2.2.2.2.2.2.2
def pth (Z : Tp) (o : Nat → Nat) (b : Nat) (fz : Nat → Bool) : Nat → Nat × Nat
  | 0 => (0, o b)
  | k + 1 => if fz k then pth Z o b fz k else ((pth Z o b fz k).1 + zl Z (pth Z o b fz k).2 (o (b + 1 + k)), o (b + 1 + k))
def one (p : Nat) : Nat → Bool := fun k => k == p
def two (p q : Nat) : Nat → Bool := fun k => k == p || k == q
def okB (Z : Tp) (left back caught : Nat) : Bool := decide ((if zh Z then caught else back) - left ≤ zB Z)
def d1 (Z : Tp) (o : Nat → Nat) (b w p : Nat) : Option Nat :=
  if okB Z (zL Z) (zL Z + zt Z (o b) (o (b + 1 + p)) (o (b + 1 + w))) (max (zL Z + (pth Z o b (one p) (w + 1)).1) (zL Z + zt Z (o b) (o (b + 1 + p)) (o (b + 1 + w)))) then some (max (zL Z + (pth Z o b (one p) (w + 1)).1) (zL Z + zt Z (o b) (o (b + 1 + p)) (o (b + 1 + w))) + zK Z) else none
def d2a (Z : Tp) (v k0 k1 : Nat) : Option Nat :=
  if k0 ≤ k1 then (if okB Z (zL Z) k0 (max v k0) = true ∧ okB Z (2 * zL Z) k1 (max (max v k0 + zK Z) k1) = true then some (max (max v k0 + zK Z) k1 + zK Z) else none)
  else (if okB Z (zL Z) k0 (max (max v k1 + zK Z) k0) = true ∧ okB Z (2 * zL Z) k1 (max v k1) = true then some (max (max v k1 + zK Z) k0 + zK Z) else none)
def d2 (Z : Tp) (o : Nat → Nat) (b w p q : Nat) : Option Nat :=
  d2a Z (2 * zL Z + (pth Z o b (two p q) (w + 1)).1) (zL Z + zt Z (o b) (o (b + 1 + p)) (o (b + 1 + w))) (2 * zL Z + zt Z (o b) (o (b + 1 + q)) (o (b + 1 + w)))
def cand (e m b s : Nat) (x : En) : En := if e < x.1 ∨ (e = x.1 ∧ m < x.2.1) then (e, m, b, s) else x
def ofr (T : Nat → En) (b s m : Nat) (x : En) : Option Nat → En
  | none => x
  | some d => cand ((T b).1 + d) ((T b).2.1 + m) b s x
def off1 (Z : Tp) (o : Nat → Nat) (T : Nat → En) (b w p : Nat) (x : En) : En := if 1 ≤ zf Z ∧ zi Z (o (b + 1 + p)) = true then ofr T b (2 ^ p) 1 x (d1 Z o b w p) else x
def off2 (Z : Tp) (o : Nat → Nat) (T : Nat → En) (b w p q : Nat) (x : En) : En := if 2 ≤ zf Z ∧ zi Z (o (b + 1 + p)) = true ∧ zi Z (o (b + 1 + q)) = true then ofr T b (2 ^ p + 2 ^ q) 2 x (d2 Z o b w p q) else x
def lows (Z : Tp) (o : Nat → Nat) (T : Nat → En) (b w q : Nat) (x : En) : Nat → En
  | 0 => x
  | c + 1 => off2 Z o T b w c q (lows Z o T b w q x c)
def highs (Z : Tp) (o : Nat → Nat) (T : Nat → En) (b w : Nat) (x : En) : Nat → En
  | 0 => x
  | q + 1 => lows Z o T b w q (off1 Z o T b w q (highs Z o T b w x q)) q
def bls (Z : Tp) (o : Nat → Nat) (T : Nat → En) (to : Nat) : Nat → En
  | 0 => ((T (to - 1)).1 + zl Z (o (to - 1)) (o to), (T (to - 1)).2.1, to - 1, 0)
  | c + 1 => highs Z o T (to - 2 - c) (c + 1) (bls Z o T to c) (c + 1)
def tab (Z : Tp) (o : Nat → Nat) : Nat → Nat → En
  | 0 => fun _ => (0, 0, 0, 0)
  | j + 1 => fun k => if k = j + 1 then bls Z o (tab Z o j) (j + 1) j else tab Z o j k
def zsv (Z : Tp) (o : Nat → Nat) : Nat → Nat
  | 0 => 0
  | k + 1 => zsv Z o k + zl Z (o k) (o (k + 1))
/-! entries hold -/
def Sh (to b s : Nat) : Prop := (s = 0 ∧ b + 1 = to) ∨ (∃ p, p + b + 1 < to ∧ s = 2 ^ p) ∨ ∃ p q, p < q ∧ q + b + 1 < to ∧ s = 2 ^ p + 2 ^ q
def EnOk (to : Nat) (x : En) : Prop := x.1 ≤ 1000 * to ∧ x.2.1 ≤ 2 * to ∧ x.2.2.1 < to ∧ Sh to x.2.2.1 x.2.2.2
theorem cand_ok {to e m b s : Nat} {x : En} (h : EnOk to x) (hm : m ≤ 2 * to) (hb : b < to) (hs : Sh to b s) : EnOk to (cand e m b s x) := by
  unfold cand
  split
  · rename_i c
    have := h.1
    exact ⟨by show e ≤ _; rcases c with c | c <;> omega, hm, hb, hs⟩
  · exact h
section SPEC
variable {Z : Tp} {o : Nat → Nat} {T : Nat → En}
theorem off1_ok {b w p : Nat} {x : En} (h : EnOk (b + 1 + w) x) (hT : (T b).2.1 ≤ 2 * b) (hp : p < w) : EnOk (b + 1 + w) (off1 Z o T b w p x) := by
  unfold off1
  split
  · cases d1 Z o b w p with
    | none => exact h
    | some d => exact cand_ok h (by omega) (by omega) (Or.inr (Or.inl ⟨p, by omega, rfl⟩))
  · exact h
theorem off2_ok {b w p q : Nat} {x : En} (h : EnOk (b + 1 + w) x) (hT : (T b).2.1 ≤ 2 * b) (hp : p < q) (hq : q < w) : EnOk (b + 1 + w) (off2 Z o T b w p q x) := by
  unfold off2
  split
  · cases d2 Z o b w p q with
    | none => exact h
    | some d => exact cand_ok h (by omega) (by omega) (Or.inr (Or.inr ⟨p, q, hp, by omega, rfl⟩))
  · exact h
theorem lows_ok {b w q : Nat} {x : En} (h : EnOk (b + 1 + w) x) (hT : (T b).2.1 ≤ 2 * b) (hq : q < w) : ∀ c, c ≤ q → EnOk (b + 1 + w) (lows Z o T b w q x c)
  | 0, _ => h
  | c + 1, hc => off2_ok (lows_ok h hT hq c (by omega)) hT (by omega) hq
theorem highs_ok {b w : Nat} {x : En} (h : EnOk (b + 1 + w) x) (hT : (T b).2.1 ≤ 2 * b) : ∀ q, q ≤ w → EnOk (b + 1 + w) (highs Z o T b w x q)
  | 0, _ => h
  | q + 1, hc => lows_ok (off1_ok (highs_ok h hT q (by omega)) hT (by omega)) hT (by omega) q (by omega)
theorem bls_ok {to : Nat} (hl : zl Z (o (to - 1)) (o to) ≤ 1000) (ht : 1 ≤ to) (hT : ∀ b, b < to → (T b).1 ≤ 1000 * b ∧ (T b).2.1 ≤ 2 * b) : ∀ c, c < to → EnOk to (bls Z o T to c)
  | 0, _ => by
    have := hT (to - 1) (by omega)
    exact ⟨by show (T (to - 1)).1 + zl Z (o (to - 1)) (o to) ≤ _; omega, by show (T (to - 1)).2.1 ≤ _; omega, by show to - 1 < to; omega, Or.inl ⟨rfl, by show to - 1 + 1 = to; omega⟩⟩
  | c + 1, hc => by
    have h := bls_ok hl ht hT c (by omega)
    have e : to - 2 - c + 1 + (c + 1) = to := by omega
    have z := highs_ok (Z := Z) (o := o) (T := T) (b := to - 2 - c) (w := c + 1) (x := bls Z o T to c) (by rw [e]; exact h) (hT _ (by omega)).2 (c + 1) (by omega)
    rw [e] at z
    exact z
theorem tab_stable (Z : Tp) (o : Nat → Nat) : ∀ (j k : Nat), k ≤ j → tab Z o j k = tab Z o k k
  | 0, k, h => by rw [show k = 0 by omega]
  | j + 1, k, h => by
    by_cases c : k = j + 1
    · rw [c]
    · have e : tab Z o (j + 1) k = tab Z o j k := by
        rw [tab]
        exact if_neg c
      rw [e]
      exact tab_stable Z o j k (by omega)
theorem tab_last (Z : Tp) (o : Nat → Nat) (j : Nat) : tab Z o (j + 1) (j + 1) = bls Z o (tab Z o j) (j + 1) j := by
  rw [tab]
  exact if_pos rfl
theorem tab_ok (hl : ∀ k, zl Z (o k) (o (k + 1)) ≤ 1000) : ∀ (j k : Nat), k ≤ j → ((tab Z o j k).1 ≤ 1000 * k ∧ (tab Z o j k).2.1 ≤ 2 * k) ∧ (1 ≤ k → EnOk k (tab Z o j k))
  | 0, k, h => by
    rw [show k = 0 by omega]
    exact ⟨⟨Nat.le_refl _, Nat.le_refl _⟩, fun h => absurd h (by omega)⟩
  | j + 1, k, h => by
    by_cases c : k = j + 1
    · subst c
      have z := bls_ok (Z := Z) (o := o) (T := tab Z o j) (to := j + 1) (hl j) (by omega) (fun b hb => (tab_ok hl j b (by omega)).1) j (by omega)
      rw [tab_last]
      exact ⟨⟨z.1, z.2.1⟩, fun _ => z⟩
    · have e : tab Z o (j + 1) k = tab Z o j k := by
        rw [tab]
        exact if_neg c
      rw [e]
      exact tab_ok hl j k (by omega)
/-! the van's way by sums -/
theorem pth_0 {b : Nat} {fz : Nat → Bool} : ∀ k, (∀ i, i < k → fz i = false) → (pth Z o b fz k).1 + zsv Z o b = zsv Z o (b + k) ∧ (pth Z o b fz k).2 = o (b + k)
  | 0, _ => ⟨Nat.zero_add _, rfl⟩
  | k + 1, h => by
    have z := pth_0 (b := b) k (fun i hi => h i (by omega))
    rw [pth, h k (by omega), if_neg (by decide), z.2]
    have e : b + 1 + k = b + k + 1 := by omega
    rw [e, show b + (k + 1) = b + k + 1 by omega, zsv, ← z.1]
    exact ⟨by show _ + _ + _ = _; omega, rfl⟩
theorem pth_seg {b k0 : Nat} {fz : Nat → Bool} : ∀ c, (∀ i, k0 ≤ i → i < k0 + c + 1 → fz i = false) → (pth Z o b fz (k0 + c + 1)).1 + zsv Z o (b + 1 + k0) = (pth Z o b fz k0).1 + zl Z (pth Z o b fz k0).2 (o (b + 1 + k0)) + zsv Z o (b + 1 + k0 + c) ∧ (pth Z o b fz (k0 + c + 1)).2 = o (b + 1 + k0 + c)
  | 0, h => by
    rw [Nat.add_zero, Nat.add_zero, pth, h k0 (by omega) (by omega), if_neg (by decide)]
    exact ⟨rfl, rfl⟩
  | c + 1, h => by
    have z := pth_seg (b := b) c (fun i h1 h2 => h i h1 (by omega))
    rw [show k0 + (c + 1) + 1 = k0 + c + 1 + 1 by omega, pth, h (k0 + c + 1) (by omega) (by omega), if_neg (by decide), z.2]
    have e : b + 1 + (k0 + c + 1) = b + 1 + k0 + c + 1 := by omega
    rw [e, show b + 1 + k0 + (c + 1) = b + 1 + k0 + c + 1 by omega, zsv]
    exact ⟨by show _ + _ + _ = _; omega, rfl⟩
theorem one_no {p i : Nat} (h : i ≠ p) : one p i = false := by
  unfold one
  simpa using h
theorem two_no {p q i : Nat} (h : i ≠ p) (h2 : i ≠ q) : two p q i = false := by
  unfold two
  simp [h, h2]
theorem pth_skip {b k : Nat} {fz : Nat → Bool} (h : fz k = true) : pth Z o b fz (k + 1) = pth Z o b fz k := by rw [pth, if_pos h]
theorem way1 {b w p : Nat} (hp : p < w) : (pth Z o b (one p) (w + 1)).1 + zsv Z o b + zsv Z o (b + p + 2) = zsv Z o (b + p) + zl Z (o (b + p)) (o (b + p + 2)) + zsv Z o (b + 1 + w) := by
  have a := pth_0 (Z := Z) (o := o) (b := b) (fz := one p) p (fun i hi => one_no (by omega))
  have s := pth_skip (Z := Z) (o := o) (b := b) (k := p) (fz := one p) (by unfold one; simp)
  have c := pth_seg (Z := Z) (o := o) (b := b) (k0 := p + 1) (fz := one p) (w - p - 1) (fun i h1 h2 => one_no (by omega))
  rw [s, a.2, show p + 1 + (w - p - 1) + 1 = w + 1 by omega, show b + 1 + (p + 1) + (w - p - 1) = b + 1 + w by omega, show b + 1 + (p + 1) = b + p + 2 by omega] at c
  have c1 := c.1
  omega
theorem way2a {b w p : Nat} (hp : p + 1 < w) : (pth Z o b (two p (p + 1)) (w + 1)).1 + zsv Z o b + zsv Z o (b + p + 3) = zsv Z o (b + p) + zl Z (o (b + p)) (o (b + p + 3)) + zsv Z o (b + 1 + w) := by
  have a := pth_0 (Z := Z) (o := o) (b := b) (fz := two p (p + 1)) p (fun i hi => two_no (by omega) (by omega))
  have s := pth_skip (Z := Z) (o := o) (b := b) (k := p) (fz := two p (p + 1)) (by unfold two; simp)
  have s2 := pth_skip (Z := Z) (o := o) (b := b) (k := p + 1) (fz := two p (p + 1)) (by unfold two; simp)
  have c := pth_seg (Z := Z) (o := o) (b := b) (k0 := p + 1 + 1) (fz := two p (p + 1)) (w - p - 2) (fun i h1 h2 => two_no (by omega) (by omega))
  rw [s2, s, a.2, show p + 1 + 1 + (w - p - 2) + 1 = w + 1 by omega, show b + 1 + (p + 1 + 1) + (w - p - 2) = b + 1 + w by omega, show b + 1 + (p + 1 + 1) = b + p + 3 by omega] at c
  have c1 := c.1
  omega
theorem way2b {b w p q : Nat} (hp : p + 1 < q) (hq : q < w) : (pth Z o b (two p q) (w + 1)).1 + zsv Z o b + zsv Z o (b + p + 2) + zsv Z o (b + q + 2) = zsv Z o (b + p) + zl Z (o (b + p)) (o (b + p + 2)) + zsv Z o (b + q) + zl Z (o (b + q)) (o (b + q + 2)) + zsv Z o (b + 1 + w) := by
  have a := pth_0 (Z := Z) (o := o) (b := b) (fz := two p q) p (fun i hi => two_no (by omega) (by omega))
  have s := pth_skip (Z := Z) (o := o) (b := b) (k := p) (fz := two p q) (by unfold two; simp)
  have m := pth_seg (Z := Z) (o := o) (b := b) (k0 := p + 1) (fz := two p q) (q - p - 2) (fun i h1 h2 => two_no (by omega) (by omega))
  have s2 := pth_skip (Z := Z) (o := o) (b := b) (k := q) (fz := two p q) (by unfold two; simp)
  have c := pth_seg (Z := Z) (o := o) (b := b) (k0 := q + 1) (fz := two p q) (w - q - 1) (fun i h1 h2 => two_no (by omega) (by omega))
  rw [s, a.2, show p + 1 + (q - p - 2) + 1 = q by omega, show b + 1 + (p + 1) + (q - p - 2) = b + q by omega, show b + 1 + (p + 1) = b + p + 2 by omega] at m
  rw [s2, m.2, show q + 1 + (w - q - 1) + 1 = w + 1 by omega, show b + 1 + (q + 1) + (w - q - 1) = b + 1 + w by omega, show b + 1 + (q + 1) = b + q + 2 by omega] at c
  have c1 := c.1
  have m1 := m.1
  omega
theorem zsv_mono (Z : Tp) (o : Nat → Nat) (a : Nat) : ∀ c, zsv Z o a ≤ zsv Z o (a + c)
  | 0 => Nat.le_refl _
  | c + 1 => by
    have := zsv_mono Z o a c
    rw [← Nat.add_assoc, zsv]
    omega
theorem zsv_le (hl : ∀ k, zl Z (o k) (o (k + 1)) ≤ 1000) : ∀ k, zsv Z o k ≤ 1000 * k
  | 0 => Nat.le_refl _
  | k + 1 => by
    have := zsv_le hl k
    have := hl k
    rw [zsv]
    omega
theorem pth_le (hl : ∀ a b, a ≤ 8 → b ≤ 8 → zl Z a b ≤ 1000) (ho : ∀ k, o k ≤ 8) {b : Nat} {fz : Nat → Bool} : ∀ k, (pth Z o b fz k).1 ≤ 1000 * k ∧ (pth Z o b fz k).2 ≤ 8
  | 0 => ⟨Nat.le_refl _, ho b⟩
  | k + 1 => by
    have z := pth_le hl ho (b := b) (fz := fz) k
    rw [pth]
    split
    · exact ⟨by omega, z.2⟩
    · have := hl _ (o (b + 1 + k)) z.2 (ho _)
      exact ⟨by show _ + _ ≤ _; omega, ho _⟩
/-- no way is shorter than the straight one -/
theorem pth_ge (tri : ∀ a b c, zl Z a c ≤ zl Z a b + zl Z b c) {b : Nat} {fz : Nat → Bool} : ∀ k, pth Z o b fz k = (0, o b) ∨ zl Z (o b) (pth Z o b fz k).2 ≤ (pth Z o b fz k).1
  | 0 => Or.inl rfl
  | k + 1 => by
    have z := pth_ge tri (b := b) (fz := fz) k
    rw [pth]
    split
    · exact z
    · refine Or.inr ?_
      show zl Z (o b) (o (b + 1 + k)) ≤ (pth Z o b fz k).1 + zl Z (pth Z o b fz k).2 (o (b + 1 + k))
      rcases z with z | z
      · rw [z]
        show _ ≤ 0 + zl Z (o b) (o (b + 1 + k))
        omega
      · have := tri (o b) (pth Z o b fz k).2 (o (b + 1 + k))
        omega
theorem pth_end (tri : ∀ a b c, zl Z a c ≤ zl Z a b + zl Z b c) {b w : Nat} {fz : Nat → Bool} (hw : fz w = false) : zl Z (o b) (o (b + 1 + w)) ≤ (pth Z o b fz (w + 1)).1 := by
  have z := pth_ge tri (o := o) (b := b) (fz := fz) (w + 1)
  rw [pth, hw, if_neg (by decide)] at z ⊢
  rcases z with z | z
  · have e := congrArg Prod.snd z
    have e1 := congrArg Prod.fst z
    have := pth_ge tri (o := o) (b := b) (fz := fz) w
    show _ ≤ (pth Z o b fz w).1 + zl Z (pth Z o b fz w).2 (o (b + 1 + w))
    rcases this with y | y
    · rw [y]
      show _ ≤ 0 + zl Z (o b) (o (b + 1 + w))
      omega
    · have := tri (o b) (pth Z o b fz w).2 (o (b + 1 + w))
      omega
  · exact z
/-! what is no better changes nothing -/
theorem cand_no {e m b s : Nat} {x : En} (h : x.1 < e) : cand e m b s x = x := if_neg (by omega)
theorem d1_ge {b w p d : Nat} (h : d1 Z o b w p = some d) : zL Z + (pth Z o b (one p) (w + 1)).1 + zK Z ≤ d := by
  unfold d1 at h
  split at h
  · cases h
    omega
  · cases h
theorem d2_ge {b w p q d : Nat} (h : d2 Z o b w p q = some d) : 2 * zL Z + (pth Z o b (two p q) (w + 1)).1 + 2 * zK Z ≤ d := by
  unfold d2 d2a at h
  split at h
  · split at h
    · cases h
      omega
    · cases h
  · split at h
    · cases h
      omega
    · cases h
theorem off1_no {b w p : Nat} {x : En} (h : x.1 < (T b).1 + zL Z + (pth Z o b (one p) (w + 1)).1 + zK Z) : off1 Z o T b w p x = x := by
  unfold off1
  split
  · cases hd : d1 Z o b w p with
    | none => rfl
    | some d =>
      have := d1_ge hd
      exact cand_no (by omega)
  · rfl
theorem off2_no {b w p q : Nat} {x : En} (h : x.1 < (T b).1 + 2 * zL Z + (pth Z o b (two p q) (w + 1)).1 + 2 * zK Z) : off2 Z o T b w p q x = x := by
  unfold off2
  split
  · cases hd : d2 Z o b w p q with
    | none => rfl
    | some d =>
      have := d2_ge hd
      exact cand_no (by omega)
  · rfl
theorem lows_no (tri : ∀ a b c, zl Z a c ≤ zl Z a b + zl Z b c) {b w q : Nat} {x : En} (hq : q < w) (h : x.1 < (T b).1 + zL Z + zl Z (o b) (o (b + 1 + w)) + zK Z) : ∀ c, c ≤ q → lows Z o T b w q x c = x
  | 0, _ => rfl
  | c + 1, hc => by
    have := pth_end tri (o := o) (b := b) (w := w) (fz := two c q) (two_no (by omega) (by omega))
    rw [lows, lows_no tri hq h c (by omega), off2_no (by omega)]
theorem highs_no (tri : ∀ a b c, zl Z a c ≤ zl Z a b + zl Z b c) {b w : Nat} {x : En} (h : x.1 < (T b).1 + zL Z + zl Z (o b) (o (b + 1 + w)) + zK Z) : ∀ q, q ≤ w → highs Z o T b w x q = x
  | 0, _ => rfl
  | q + 1, hq => by
    have := pth_end tri (o := o) (b := b) (w := w) (fz := one q) (one_no (by omega))
    rw [highs, highs_no tri h q (by omega), off1_no (by omega), lows_no tri (by omega) h q (by omega)]
/-! no flyers -/
theorem lows_f {b w q : Nat} {x : En} (h : zf Z ≤ 1) : ∀ c, lows Z o T b w q x c = x
  | 0 => rfl
  | c + 1 => by
    rw [lows, lows_f h c]
    exact if_neg (by omega)
theorem highs_f {b w : Nat} {x : En} (h : zf Z = 0) : ∀ q, highs Z o T b w x q = x
  | 0 => rfl
  | q + 1 => by
    rw [highs, highs_f h q, lows_f (by omega)]
    exact if_neg (by omega)
theorem bls_f {to : Nat} (h : zf Z = 0) : ∀ c, bls Z o T to c = bls Z o T to 0
  | 0 => rfl
  | c + 1 => by
    show highs Z o T (to - 2 - c) (c + 1) (bls Z o T to c) (c + 1) = _
    rw [highs_f h, bls_f h c]
/-! sets, as numbers -/
def hib (x : Nat) : Nat := if x < 2 then 0 else if x < 4 then 1 else if x < 8 then 2 else if x < 16 then 3 else if x < 32 then 4 else if x < 64 then 5 else if x < 128 then 6 else 7
def stp (Z : Tp) (o : Nat → Nat) (T : Nat → En) (b w s : Nat) (x : En) : En :=
  if s = 2 ^ hib s then off1 Z o T b w (hib s) x else if s = 2 ^ hib (s - 2 ^ hib s) + 2 ^ hib s then off2 Z o T b w (hib (s - 2 ^ hib s)) (hib s) x else x
def srun (Z : Tp) (o : Nat → Nat) (T : Nat → En) (b w : Nat) : Nat → Nat → En → En
  | _, 0, x => x
  | s, c + 1, x => srun Z o T b w (s + 1) c (stp Z o T b w s x)
theorem srun_add {b w : Nat} : ∀ (c d s : Nat) (x : En), srun Z o T b w s (c + d) x = srun Z o T b w (s + c) d (srun Z o T b w s c x)
  | 0, d, s, x => by rw [Nat.zero_add, Nat.add_zero]; rfl
  | c + 1, d, s, x => by
    rw [show c + 1 + d = c + d + 1 by omega, srun, srun_add c d, srun, show s + 1 + c = s + (c + 1) by omega]
theorem srun_id {b w : Nat} : ∀ (c s : Nat) (x : En), (∀ t, s ≤ t → t < s + c → ∀ y, stp Z o T b w t y = y) → srun Z o T b w s c x = x
  | 0, s, x, _ => rfl
  | c + 1, s, x, h => by
    rw [srun, h s (by omega) (by omega)]
    exact srun_id c (s + 1) x (fun t h1 h2 => h t (by omega) (by omega))
theorem hib1 : ∀ q, q < 8 → hib (2 ^ q) = q := by decide +kernel
theorem hib2 : ∀ q, q < 8 → ∀ l, l < q → hib (2 ^ l + 2 ^ q) = q ∧ hib (2 ^ l + 2 ^ q - 2 ^ q) = l ∧ 2 ^ l + 2 ^ q ≠ 2 ^ q := by decide +kernel
theorem hib3 : ∀ q, q < 8 → ∀ l, l < q → ∀ y, y < 2 ^ l - 1 → 2 ^ q + (2 ^ l + 1 + y) ≠ 2 ^ hib (2 ^ q + (2 ^ l + 1 + y)) ∧ 2 ^ q + (2 ^ l + 1 + y) ≠ 2 ^ hib (2 ^ q + (2 ^ l + 1 + y) - 2 ^ hib (2 ^ q + (2 ^ l + 1 + y))) + 2 ^ hib (2 ^ q + (2 ^ l + 1 + y)) := by decide +kernel
theorem stp1 {b w q : Nat} {x : En} (hq : q < 8) : stp Z o T b w (2 ^ q) x = off1 Z o T b w q x := by
  unfold stp
  rw [hib1 q hq, if_pos rfl]
theorem stp2 {b w l q : Nat} {x : En} (hq : q < 8) (hl : l < q) : stp Z o T b w (2 ^ l + 2 ^ q) x = off2 Z o T b w l q x := by
  unfold stp
  obtain ⟨h1, h2, h3⟩ := hib2 q hq l hl
  rw [h1, if_neg h3, h2, if_pos rfl]
theorem stp3 {b w l q t : Nat} {x : En} (hq : q < 8) (hl : l < q) (h1 : 2 ^ q + 2 ^ l < t) (h2 : t < 2 ^ q + 2 ^ (l + 1)) : stp Z o T b w t x = x := by
  have e : 2 ^ (l + 1) = 2 ^ l + 2 ^ l := by rw [Nat.pow_succ]; omega
  obtain ⟨y, rfl⟩ : ∃ y, t = 2 ^ q + (2 ^ l + 1 + y) := ⟨t - 2 ^ q - 2 ^ l - 1, by omega⟩
  obtain ⟨g1, g2⟩ := hib3 q hq l hl y (by omega)
  unfold stp
  rw [if_neg g1, if_neg g2]
theorem srun_lows {b w q : Nat} {x : En} (hq : q < 8) : ∀ l, l ≤ q → srun Z o T b w (2 ^ q + 1) (2 ^ l - 1) x = lows Z o T b w q x l
  | 0, _ => rfl
  | l + 1, hl => by
    have e : 2 ^ (l + 1) = 2 ^ l + 2 ^ l := by rw [Nat.pow_succ]; omega
    have p := Nat.two_pow_pos l
    rw [show 2 ^ (l + 1) - 1 = 2 ^ l - 1 + (1 + (2 ^ l - 1)) by omega, srun_add, srun_lows hq l (by omega), srun_add, show 2 ^ q + 1 + (2 ^ l - 1) = 2 ^ l + 2 ^ q by omega]
    rw [show srun Z o T b w (2 ^ l + 2 ^ q) 1 (lows Z o T b w q x l) = stp Z o T b w (2 ^ l + 2 ^ q) (lows Z o T b w q x l) from rfl, stp2 hq (by omega), srun_id _ _ _ (fun t h1 h2 y => stp3 hq (l := l) (by omega) (by omega) (by omega))]
    rfl
theorem srun_highs {b w : Nat} {x : En} : ∀ q, q ≤ 8 → srun Z o T b w 1 (2 ^ q - 1) x = highs Z o T b w x q
  | 0, _ => rfl
  | q + 1, hq => by
    have e : 2 ^ (q + 1) = 2 ^ q + 2 ^ q := by rw [Nat.pow_succ]; omega
    have p := Nat.two_pow_pos q
    rw [show 2 ^ (q + 1) - 1 = 2 ^ q - 1 + (1 + (2 ^ q - 1)) by omega, srun_add, srun_highs q (by omega), srun_add, show 1 + (2 ^ q - 1) = 2 ^ q by omega]
    rw [show srun Z o T b w (2 ^ q) 1 (highs Z o T b w x q) = stp Z o T b w (2 ^ q) (highs Z o T b w x q) from rfl, stp1 (by omega), srun_lows (by omega) q (by omega)]
    rfl
end SPEC
/-! the table of a beginning -/
section CONG
variable {Z : Tp} {o o' : Nat → Nat} {T : Nat → En}
theorem pth_cong {b : Nat} {fz : Nat → Bool} : ∀ k, (∀ i, i ≤ b + k → o i = o' i) → pth Z o b fz k = pth Z o' b fz k
  | 0, h => by rw [pth, pth, h b (by omega)]
  | k + 1, h => by rw [pth, pth, pth_cong k (fun i hi => h i (by omega)), h (b + 1 + k) (by omega)]
theorem off1_cong {b w p : Nat} {x : En} (hp : p < w) (h : ∀ i, i ≤ b + 1 + w → o i = o' i) : off1 Z o T b w p x = off1 Z o' T b w p x := by
  unfold off1 d1
  rw [pth_cong (o := o) (o' := o') (w + 1) (fun i hi => h i (by omega)), h b (by omega), h (b + 1 + p) (by omega), h (b + 1 + w) (by omega)]
theorem off2_cong {b w p q : Nat} {x : En} (hp : p < q) (hq : q < w) (h : ∀ i, i ≤ b + 1 + w → o i = o' i) : off2 Z o T b w p q x = off2 Z o' T b w p q x := by
  unfold off2 d2
  rw [pth_cong (o := o) (o' := o') (w + 1) (fun i hi => h i (by omega)), h b (by omega), h (b + 1 + p) (by omega), h (b + 1 + q) (by omega), h (b + 1 + w) (by omega)]
theorem lows_cong {b w q : Nat} {x : En} (hq : q < w) (h : ∀ i, i ≤ b + 1 + w → o i = o' i) : ∀ c, c ≤ q → lows Z o T b w q x c = lows Z o' T b w q x c
  | 0, _ => rfl
  | c + 1, hc => by rw [lows, lows, lows_cong hq h c (by omega), off2_cong (by omega) hq h]
theorem highs_cong {b w : Nat} {x : En} (h : ∀ i, i ≤ b + 1 + w → o i = o' i) : ∀ q, q ≤ w → highs Z o T b w x q = highs Z o' T b w x q
  | 0, _ => rfl
  | q + 1, hq => by rw [highs, highs, highs_cong h q (by omega), off1_cong (by omega) h, lows_cong (by omega) h q (by omega)]
theorem bls_cong {to : Nat} (ht : 1 ≤ to) (h : ∀ i, i ≤ to → o i = o' i) : ∀ c, c < to → bls Z o T to c = bls Z o' T to c
  | 0, _ => by rw [bls, bls, h (to - 1) (by omega), h to (by omega)]
  | c + 1, hc => by rw [bls, bls, bls_cong ht h c (by omega), highs_cong (fun i hi => h i (by omega)) (c + 1) (by omega)]
theorem tab_cong : ∀ j, (∀ i, i ≤ j → o i = o' i) → tab Z o j = tab Z o' j
  | 0, _ => rfl
  | j + 1, h => by rw [tab, tab, tab_cong j (fun i hi => h i (by omega)), bls_cong (by omega) h j (by omega)]
theorem zsv_cong : ∀ j, (∀ i, i ≤ j → o i = o' i) → zsv Z o j = zsv Z o' j
  | 0, _ => rfl
  | j + 1, h => by rw [zsv, zsv, zsv_cong j (fun i hi => h i (by omega)), h j (by omega), h (j + 1) (by omega)]
end CONG
