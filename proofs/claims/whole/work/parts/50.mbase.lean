/-! PURE BASICS: memories, indices, loops -/
theorem mset_get (M : Mm) (k i : Nat) (v : Int32) (a j : Nat) : mset M k i v a j = if a = k ∧ j = i then v else M a j := by
  unfold mset
  by_cases h : a = k
  · subst h
    by_cases h2 : j = i
    · simp [upd, h2]
    · simp [upd, h2]
  · simp [h]
theorem mset_same (M : Mm) (k i : Nat) (v : Int32) : mset M k i v k i = v := by simp [mset_get]
theorem mset_cell {M : Mm} {k i : Nat} {v : Int32} {a : Nat} (h : a ≠ k) : mset M k i v a = M a := by
  unfold mset
  rw [if_neg h]
theorem mset_slot {M : Mm} {k i : Nat} {v : Int32} {a j : Nat} (h : j ≠ i) : mset M k i v a j = M a j := by simp [mset_get, h]
theorem mrow_cell {M : Mm} {k : Nat} {f : Nat → Int32} {a : Nat} (h : a ≠ k) : mrow M k f a = M a := by
  unfold mrow
  rw [if_neg h]
theorem mrow_same (M : Mm) (k : Nat) (f : Nat → Int32) : mrow M k f k = f := by
  unfold mrow
  rw [if_pos rfl]
theorem lit_nI (n : Nat) : (OfNat.ofNat n : Int32) = nI n := Eq.trans (b := nI n) rfl rfl
theorem lt_nI {a b : Nat} (ha : a < 2147483648) (hb : b < 2147483648) : (nI a < nI b) = (a < b) := propext (nI_ltI ha hb)
theorem le_nI {a b : Nat} (ha : a < 2147483648) (hb : b < 2147483648) : (nI a ≤ nI b) = (a ≤ b) := propext (nI_leI ha hb)
theorem eq_nI {a b : Nat} (ha : a < 2147483648) (hb : b < 2147483648) : (nI a = nI b) = (a = b) := propext (nI_eq ha hb)
theorem sub_nI {a b : Nat} (h : b ≤ a) : nI a - nI b = nI (a - b) := pk_sub h
theorem inb_nI {i n : Nat} (h : i < n) (hn : n < 2147483648) : inb (nI i) n = true := decide_eq_true (vp_in_nI h hn)
theorem ald_nI {M : Mm} {k n i : Nat} (h : i < n) (hn : n < 2147483648) : ald M k n (nI i) = some (M k i) := by
  unfold ald
  rw [if_pos (inb_nI h hn), nI_clamp (by omega)]
theorem ast_nI {M : Mm} {k n i : Nat} {v : Int32} (h : i < n) (hn : n < 2147483648) : ast M k n (nI i) v = some (mset M k i v) := by
  unfold ast
  rw [if_pos (inb_nI h hn), nI_clamp (by omega)]
theorem sld_nI {l : List Int32} {i : Nat} (h : i < l.length) (hn : l.length < 2147483648) : sld l (nI i) = some (l.getD i 0) := by
  unfold sld
  rw [if_pos (inb_nI h hn), nI_clamp (by omega)]
theorem bnd_eq {α β : Type} (e : α) (f : α → β) : bnd e f = f e := rfl
/-- a loop, by an invariant and a measure -/
theorem itr_I {σ ρ : Type} {step : σ → Option (σ ⊕ ρ)} (I : σ → Prop) (μ : σ → Nat) (Q : ρ → Prop) (hs : ∀ s, I s → (∃ s', step s = some (.inl s') ∧ I s' ∧ μ s' < μ s) ∨ (∃ x, step s = some (.inr x) ∧ Q x)) : ∀ (n : Nat) (s : σ), I s → μ s < n → ∃ x, itr step n s = some x ∧ Q x
  | 0, s, _, h => absurd h (Nat.not_lt_zero _)
  | n + 1, s, hI, h => by
    rcases hs s hI with ⟨s', e, h1, h2⟩ | ⟨x, e, h1⟩
    · obtain ⟨x, e2, h3⟩ := itr_I I μ Q hs n s' h1 (by omega)
      exact ⟨x, by rw [itr, e]; exact e2, h3⟩
    · exact ⟨x, by rw [itr, e], h1⟩
/-- two loops side by side, step by step -/
theorem itr_2 {σ τ ρ π : Type} {f : σ → Option (σ ⊕ ρ)} {g : τ → Option (τ ⊕ π)} (I : σ → τ → Prop) (μ : σ → Nat) (Q : ρ → π → Prop)
    (hs : ∀ s t, I s t → (∃ s' t', f s = some (.inl s') ∧ g t = some (.inl t') ∧ I s' t' ∧ μ s' < μ s) ∨ (∃ x y, f s = some (.inr x) ∧ g t = some (.inr y) ∧ Q x y)) : ∀ (n : Nat) (s : σ) (t : τ), I s t → μ s < n → ∃ x y, itr f n s = some x ∧ itr g n t = some y ∧ Q x y
  | 0, s, _, _, h => absurd h (Nat.not_lt_zero _)
  | n + 1, s, t, hI, h => by
    rcases hs s t hI with ⟨s', t', e1, e2, h1, h2⟩ | ⟨x, y, e1, e2, h1⟩
    · obtain ⟨x, y, e3, e4, h3⟩ := itr_2 I μ Q hs n s' t' h1 (by omega)
      exact ⟨x, y, by rw [itr, e1]; exact e3, by rw [itr, e2]; exact e4, h3⟩
    · exact ⟨x, y, by rw [itr, e1], by rw [itr, e2], h1⟩
/-! THE RELATION of the two memories -/
def fMost (w : Nat) : Nat := if w < 2 then 50 else if w < 4 then 30 else 99
def LandR (n : Nat) (M1 M2 : Mm) : Prop := n ≤ 8 ∧ M1 1 0 = nI n ∧ M2 1 0 = nI n ∧ (∀ i, i < 45 → M2 1 (1 + i) = M1 2 i) ∧ (∀ i, i < 10 → M2 1 (50 + i) = M1 3 i)
/-- bounds of places and settings -/
def LandB (M1 : Mm) : Prop := (∀ p w, p ≤ 8 → w < 5 → ∃ v : Nat, v ≤ fMost w ∧ M1 2 (5 * p + w) = nI v) ∧ (M1 2 2 = 0 ∧ M1 2 3 = 0 ∧ M1 2 4 = 0) ∧ ∀ i, i < 10 → (stL1.getD i 0).toInt ≤ (M1 3 i).toInt ∧ (M1 3 i).toInt ≤ (stL2.getD i 0).toInt
def PlanR (n r s : Nat) (M1 M2 : Mm) : Prop := r ≤ 8 ∧ s ≤ 8 ∧ M1 4 0 = nI r ∧ M1 4 1 = nI s ∧ M2 1 60 = nI r ∧ M2 1 70 = nI s ∧ (∀ i, i < 8 → M2 1 (61 + i) = M1 5 i) ∧ (∀ i, i < 32 → M2 1 (71 + i) = M1 6 i) ∧ (∀ i, i < r → ∃ p, 1 ≤ p ∧ p ≤ n ∧ M1 5 i = nI p) ∧
  ∀ k, k < s → ∃ fl fr c at9 : Nat, fl ≤ 1 ∧ fr ≤ 9 ∧ 1 ≤ c ∧ c ≤ n ∧ at9 ≤ 9 ∧ M1 6 (4 * k) = nI fl ∧ M1 6 (4 * k + 1) = nI fr ∧ M1 6 (4 * k + 2) = nI c ∧ M1 6 (4 * k + 3) = nI at9
def TapeR (t : Nat) (M1 M2 : Mm) : Prop := t ≤ 300 ∧ M1 29 0 = nI t ∧ M2 0 4 = nI t ∧ ∀ i, i < t → ∃ b : Nat, b < 256 ∧ M1 30 i = nI b ∧ M2 3 i = (nI b).toInt8.toInt32
/-- the reference's search finds e, o, whatever its other cells hold -/
def isBest (M1 : Mm) (fl e o : Int32) : Prop := ∀ (n : Nat) (M2 : Mm), LandR n M1 M2 → n ≤ 7 → ∃ M2', pX9_seeks fl M2 = some M2' ∧ M2' 0 25 = e ∧ M2' 0 26 = o ∧ M2' 1 = M2 1 ∧ M2' 3 = M2 3 ∧ M2' 0 4 = M2 0 4 ∧ M2' 0 5 = M2 0 5
def CacheR (M1 : Mm) : Prop := (M1 39 0 = 0 ∨ (M1 39 0 = 1 ∧ isBest M1 (M1 3 8) (M1 39 1) (M1 39 2))) ∧ (M1 40 0 = 0 ∨ (M1 40 0 = 1 ∧ isBest M1 0 (M1 40 1) (M1 40 2))) ∧ (M1 23 0 = 0 ∧ M1 24 0 = 0 ∧ M1 25 0 = 0)
def Rel (M1 M2 : Mm) : Prop := ∃ n r s t : Nat, LandR n M1 M2 ∧ LandB M1 ∧ PlanR n r s M1 M2 ∧ TapeR t M1 M2 ∧ M2 0 5 = M1 31 5 ∧ CacheR M1
/-! accessors, by numbers -/
theorem c_setting {M : Mm} {b i : Nat} (h : i < 10) : pX3_setting b (nI i) M = some (M (b + 2) i) := by
  unfold pX3_setting
  simp only [lit_nI]
  rw [if_neg (by rw [lt_nI] <;> omega), if_neg (by rw [le_nI] <;> omega), ald_nI h (by omega)]
  rfl
theorem c_fact {M : Mm} {b n p w : Nat} (hn : M b 0 = nI n) (hn8 : n ≤ 8) (hp : p ≤ n) (hw : w < 5) : pX3_fact b (nI p) (nI w) M = some (M (b + 1) (5 * p + w)) := by
  unfold pX3_fact
  simp only [lit_nI, hn, pk_mul, nI_add]
  rw [if_neg (by rw [lt_nI] <;> omega), if_neg (by rw [lt_nI] <;> omega), if_neg (by rw [lt_nI] <;> omega), if_neg (by rw [le_nI] <;> omega), ald_nI (by omega) (by omega)]
  rw [show p * 5 + w = 5 * p + w by omega]
  rfl
theorem c_part {M : Mm} {b s k w : Nat} (hs : M b 1 = nI s) (hs8 : s ≤ 8) (hk : k < s) (hw : w < 4) : pX4_part b (nI k) (nI w) M = some (M (b + 2) (4 * k + w)) := by
  unfold pX4_part
  simp only [lit_nI, hs, pk_mul, nI_add]
  rw [if_neg (by rw [lt_nI] <;> omega), if_neg (by rw [le_nI] <;> omega), if_neg (by rw [lt_nI] <;> omega), if_neg (by rw [le_nI] <;> omega), ald_nI (by omega) (by omega)]
  rw [show k * 4 + w = 4 * k + w by omega]
  rfl
def plc (M : Mm) (b r i : Nat) : Int32 := if 1 ≤ i ∧ i ≤ r then M (b + 1) (i - 1) else 0
theorem c_placeAt {M : Mm} {b r i : Nat} (hr : M b 0 = nI r) (hr8 : r ≤ 8) (hi : i < 2147483648) : pX4_placeAt b (nI i) M = some (plc M b r i) := by
  unfold pX4_placeAt plc
  simp only [lit_nI, hr]
  by_cases h1 : i < 1
  · rw [if_pos (by rw [lt_nI] <;> omega), if_neg (by omega)]
  · rw [if_neg (by rw [lt_nI] <;> omega)]
    by_cases h2 : r < i
    · rw [if_pos (by rw [lt_nI] <;> omega), if_neg (by omega)]
    · rw [if_neg (by rw [lt_nI] <;> omega), if_pos (by omega), sub_nI (by omega), ald_nI (by omega) (by omega)]
      rfl
