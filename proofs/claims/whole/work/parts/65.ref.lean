/-! PURE: the reference's table -/
def zof (F S : Nat → Int32) (wx wy : Int32) (f : Nat) : Tp := (fun a b => dr F S a b + fc F b 2, fun a c z => fl F S wx wy a c + fc F c 3 + fl F S wx wy c z, fun c => decide (fc F c 4 ≤ cl (S 4)), cl (S 6), cl (S 7), cl (S 5), decide (S 9 = 1), f)
def RX (F S : Nat → Int32) (wx wy : Int32) (n : Nat) (o : Nat → Nat) (M : Mm) : Prop := (∃ M1 : Mm, LandW n M1 M wx wy ∧ LandB M1 ∧ M1 2 = F ∧ M1 3 = S) ∧ WB wx ∧ WB wy ∧ (∀ k, o k ≤ n) ∧ ∀ k, k ≤ n + 1 → M 13 k = nI (o k)
theorem itr_st {σ ρ : Type} {step : σ → Option (σ ⊕ ρ)} (st : Nat → σ) (e : Nat) (x : ρ) (h : ∀ k, k < e → step (st k) = some (.inl (st (k + 1)))) (h2 : step (st e) = some (.inr x)) : ∀ c k f, k + c = e → c < f → itr step f (st k) = some x
  | 0, k, f, hk, hf => by
    obtain ⟨f, rfl⟩ : ∃ g, f = g + 1 := ⟨f - 1, by omega⟩
    rw [show k = e by omega, itr_e h2]
  | c + 1, k, f, hk, hf => by
    obtain ⟨f, rfl⟩ : ∃ g, f = g + 1 := ⟨f - 1, by omega⟩
    rw [itr_s (h k (by omega))]
    exact itr_st st e x h h2 c (k + 1) f (by omega) (by omega)
theorem LandW_c {n : Nat} {M1 M2 M2' : Mm} {wx wy : Int32} (h : LandW n M1 M2 wx wy) (g : M2' 1 = M2 1) : LandW n M1 M2' wx wy := by
  unfold LandW at h ⊢
  rw [g]
  exact h
section REF
variable {F S : Nat → Int32} {wx wy : Int32} {n : Nat} {o : Nat → Nat} {M : Mm} {f : Nat}
theorem RX_c {M' : Mm} (h : RX F S wx wy n o M) (g : M' 1 = M 1) (g2 : M' 13 = M 13) : RX F S wx wy n o M' := by
  obtain ⟨⟨M1, h1, h2, h3, h4⟩, h5, h6, h7, h8⟩ := h
  exact ⟨⟨M1, LandW_c h1 g, h2, h3, h4⟩, h5, h6, h7, by rw [g2]; exact h8⟩
theorem rz_n (h : RX F S wx wy n o M) : n ≤ 8 ∧ M 1 0 = nI n ∧ (∀ k, o k ≤ n) := by
  obtain ⟨⟨M1, h1, h2, h3, h4⟩, h5, h6, h7, h8⟩ := h
  exact ⟨h1.1, h1.2.2.1, h7⟩
theorem rz_o (h : RX F S wx wy n o M) {k : Nat} (hk : k ≤ n + 1) : ald M 13 10 (nI k) = some (nI (o k)) := by
  have := rz_n h
  rw [ald_nI (by omega) (by omega), h.2.2.2.2 k hk]
theorem rz_drive (h : RX F S wx wy n o M) {a b : Nat} (ha : a ≤ n) (hb : b ≤ n) : pX9_drive (nI a) (nI b) M = some (nI (dr F S a b)) := by
  obtain ⟨⟨M1, h1, h2, h3, h4⟩, h5, h6, h7, h8⟩ := h
  have := h1.1
  rw [r_drive h1 h2 (by omega) (by omega), h3, h4]
theorem rz_flight (h : RX F S wx wy n o M) {a b : Nat} (ha : a ≤ n) (hb : b ≤ n) : pX9_flight (nI a) (nI b) M = some (nI (fl F S wx wy a b)) := by
  obtain ⟨⟨M1, h1, h2, h3, h4⟩, h5, h6, h7, h8⟩ := h
  have := h1.1
  have g := flI_b h2 (a := a) (b := b) h5 h6 (by omega) (by omega)
  rw [r_flight h1 (by omega) (by omega), g.1, h3, h4]
theorem rz_fact (h : RX F S wx wy n o M) {p w : Nat} (hp : p ≤ n) (hw : w < 5) : pX9_placeOf (nI p) (nI w) M = some (nI (fc F p w)) := by
  obtain ⟨⟨M1, h1, h2, h3, h4⟩, h5, h6, h7, h8⟩ := h
  have := h1.1
  unfold fc
  rw [r_placeOf (by omega), ← h3, (fct h2 (by omega) hw).1, Nat.add_assoc, h1.2.2.2.1 _ (by omega)]
theorem rz_of (h : RX F S wx wy n o M) {i : Nat} (hi : i < 10) (h2 : i ≠ 2) (h3 : i ≠ 3) : pX9_of (nI i) M = some (S i) := by
  obtain ⟨⟨M1, g1, g2, g3, g4⟩, _⟩ := h
  rw [r_of (by omega), g1.2.2.2.2.1 i hi h2 h3, g4]
theorem rz_b (h : RX F S wx wy n o M) : (∀ a b, a ≤ 8 → b ≤ 8 → dr F S a b ≤ 900) ∧ (∀ a b, a ≤ 8 → b ≤ 8 → fl F S wx wy a b ≤ 750) ∧ (∀ p w, p ≤ 8 → w < 5 → fc F p w ≤ fMost w) ∧ fc F 0 2 = 0 ∧ (cl (S 4) ≤ 99 ∧ S 4 = nI (cl (S 4))) ∧ (cl (S 5) ≤ 999 ∧ S 5 = nI (cl (S 5))) ∧ (cl (S 6) ≤ 9 ∧ S 6 = nI (cl (S 6))) ∧ (cl (S 7) ≤ 9 ∧ S 7 = nI (cl (S 7))) ∧ (cl (S 8) ≤ 2 ∧ S 8 = nI (cl (S 8))) ∧ (S 9 = 0 ∨ S 9 = 1) := by
  obtain ⟨⟨M1, h1, h2, h3, h4⟩, h5, h6, h7, h8⟩ := h
  subst h3 h4
  obtain ⟨_, _, ⟨a, a1, a2⟩, ⟨b, b0, b1, b2⟩, ⟨c, c1, c2⟩, ⟨d, d1, d2⟩, ⟨e, e1, e2⟩, ⟨f, f1, f2⟩, _⟩ := setB h2
  refine ⟨fun a b ha hb => dr_le h2 ha hb, fun a b ha hb => (flI_b h2 h5 h6 ha hb).2, fun p w hp hw => (fct h2 hp hw).2, ?_, ?_⟩
  · unfold fc
    rw [show M1 2 (5 * 0 + 2) = 0 from h2.2.1.1]
    rfl
  · rw [a2, b2, c2, d2, e2, f2, cl_nI (by omega), cl_nI (by omega), cl_nI (by omega), cl_nI (by omega), cl_nI (by omega)]
    refine ⟨⟨a1, rfl⟩, ⟨b1, rfl⟩, ⟨c1, rfl⟩, ⟨d1, rfl⟩, ⟨e1, rfl⟩, ?_⟩
    have : f = 0 ∨ f = 1 := by omega
    rcases this with rfl | rfl
    · exact Or.inl rfl
    · exact Or.inr rfl
theorem zo_b (h : RX F S wx wy n o M) : (∀ a b, a ≤ 8 → b ≤ 8 → zl (zof F S wx wy f) a b ≤ 1000) ∧ (∀ a b c, a ≤ 8 → b ≤ 8 → c ≤ 8 → zt (zof F S wx wy f) a b c ≤ 2000) ∧ (∀ a b c, zl (zof F S wx wy f) a c ≤ zl (zof F S wx wy f) a b + zl (zof F S wx wy f) b c) := by
  obtain ⟨b1, b2, b3, _⟩ := rz_b h
  refine ⟨fun a b ha hb => ?_, fun a b c ha hb hc => ?_, fun a b c => ?_⟩
  · show dr F S a b + fc F b 2 ≤ 1000
    have := b1 a b ha hb
    have := b3 b 2 hb (by omega)
    have : fMost 2 = 30 := rfl
    omega
  · show fl F S wx wy a b + fc F b 3 + fl F S wx wy b c ≤ 2000
    have := b2 a b ha hb
    have := b2 b c hb hc
    have := b3 b 3 hb (by omega)
    have : fMost 3 = 30 := rfl
    omega
  · show dr F S a c + fc F c 2 ≤ dr F S a b + fc F b 2 + (dr F S b c + fc F c 2)
    have := dr_tri F S a b c
    omega
theorem rz_service (h : RX F S wx wy n o M) {p : Nat} (hp : p ≤ n) : pX9_service (nI p) M = some (nI (fc F p 2)) := by
  have q := rz_n h
  unfold pX9_service
  by_cases c : p = 0
  · rw [if_pos (by rw [c]; rfl), c, (rz_b h).2.2.2.1]
    rfl
  · rw [if_neg (nI_ne0 (by omega) (by omega)), show pX9_placeOf (nI p) 2 M = _ from rz_fact h (w := 2) hp (by omega)]
    rfl
theorem rz_light (h : RX F S wx wy n o M) {p : Nat} (hp : p ≤ n) : pX9_isLight (nI p) M = some (if zi (zof F S wx wy f) p = true then 1 else 0) := by
  have q := rz_n h
  obtain ⟨b1, b2, b3, b4, b5, _⟩ := rz_b h
  have m4 := b3 p 4 (by omega) (by omega)
  have : fMost 4 = 99 := rfl
  unfold pX9_isLight
  rw [show pX9_placeOf (nI p) 4 M = _ from rz_fact h (w := 4) hp (by omega), show pX9_of 4 M = _ from rz_of h (i := 4) (by omega) (by omega) (by omega)]
  simp only [Option.bind_some]
  show _ = some (if decide (fc F p 4 ≤ cl (S 4)) = true then 1 else 0)
  by_cases c : fc F p 4 ≤ cl (S 4)
  · rw [if_neg (show ¬ S 4 < nI (fc F p 4) by rw [b5.2, lt_nI] <;> omega), if_pos (by simpa using c)]
  · rw [if_pos (show S 4 < nI (fc F p 4) by rw [b5.2, lt_nI] <;> omega), if_neg (by simpa using c)]
/-! bits -/
def pop (x : Nat) : Nat := x % 2 + x / 2 % 2 + x / 4 % 2 + x / 8 % 2 + x / 16 % 2 + x / 32 % 2 + x / 64 % 2 + x / 128 % 2
theorem bq1 : ∀ x, x < 256 → ∀ k, k < 10 → ((nI x >>> (nI k &&& 31)) &&& 1) = (if x.testBit k then 1 else 0) := by decide +kernel
theorem bq2 : ∀ x, x < 256 → 1 ≤ x → ∀ k, k < 10 → (nI x >>> (nI k &&& 31) ≤ 0 ↔ hib x < k) := by decide +kernel
theorem tbq1 : ∀ q, q < 8 → ∀ k, k < 10 → (2 ^ q).testBit k = one q k := by decide +kernel
theorem tbq2 : ∀ q, q < 8 → ∀ p, p < q → ∀ k, k < 10 → (2 ^ p + 2 ^ q).testBit k = two p q k := by decide +kernel
theorem bits_n : ∀ x, x < 256 → pX9_bits (nI x) = some (nI (pop x)) := by decide +kernel
theorem pop1 : ∀ q, q < 8 → pop (2 ^ q) = 1 := by decide +kernel
theorem pop2 : ∀ q, q < 8 → ∀ p, p < q → pop (2 ^ p + 2 ^ q) = 2 := by decide +kernel
theorem pop3 : ∀ x, x < 256 → 1 ≤ x → x = 2 ^ hib x ∨ x = 2 ^ hib (x - 2 ^ hib x) + 2 ^ hib x ∨ 3 ≤ pop x := by decide +kernel
theorem hib_w : ∀ w, w < 9 → ∀ x, x < 2 ^ w → 1 ≤ x → hib x < w := by decide +kernel
theorem hib_lo : ∀ x, x < 256 → 1 ≤ x → x ≠ 2 ^ hib x → hib (x - 2 ^ hib x) < hib x := by decide +kernel
theorem r_lightset (h : RX F S wx wy n o M) {b w x : Nat} (hx : 1 ≤ x) (hw : x < 2 ^ w) (hb : b + 1 + w ≤ n + 1) (lt : Bool) (hl : lt = true ↔ ∀ k, k ≤ hib x → x.testBit k = true → zi (zof F S wx wy f) (o (b + 1 + k)) = true) : pX9_isLightSet (nI b) (nI x) M = some (if lt = true then 1 else 0) := by
  have q := rz_n h
  have h8 : 2 ^ w ≤ 2 ^ 8 := Nat.pow_le_pow_right (by omega) (by omega)
  have hw' := hib_w w (by omega) x hw hx
  unfold pX9_isLightSet
  have z : itr (pX9_isLightSet_L2 (nI b) (nI x) M) fuel (nI 0) = some (ffo (fun _ => (0 : Int32)) (ff (fun k => x.testBit k && !(zi (zof F S wx wy f) (o (b + 1 + k)))) (hib x + 1) 0)) := by
    refine itr_ff _ _ (hib x + 1) (fun k hk hb' => ?_) (fun k hk hb' => ?_) ?_ (hib x + 1) 0 fuel (by omega) (by unfold fuel; omega)
    · unfold pX9_isLightSet_L2
      rw [if_neg (by rw [bq2 x (by omega) hx k (by omega)]; omega), bq1 x (by omega) k (by omega)]
      have e : (nI b + 1 + nI k) = nI (b + 1 + k) := by simp (disch := omega) only [bnd_eq, Option.bind_some, lit_nI, nI_add, pk_mul, ald_nI, ast_nI, lt_nI, le_nI, eq_nI, sub_nI, Sum.elim_inl, Sum.elim_inr, if_pos, if_neg, if_true, if_false]
      by_cases t : x.testBit k = true
      · rw [if_pos t, if_pos rfl, e, rz_o h (by omega), Option.bind_some, rz_light (f := f) h (q.2.2 _), Option.bind_some]
        have : zi (zof F S wx wy f) (o (b + 1 + k)) = true := by
          simpa [t] using hb'
        rw [if_pos this, if_neg one_ne]
        simp (disch := omega) only [bnd_eq, Option.bind_some, lit_nI, nI_add, pk_mul, ald_nI, ast_nI, lt_nI, le_nI, eq_nI, sub_nI, Sum.elim_inl, Sum.elim_inr, if_pos, if_neg, if_true, if_false]
      · rw [if_neg t, if_neg (by decide)]
        simp (disch := omega) only [bnd_eq, Option.bind_some, lit_nI, nI_add, pk_mul, ald_nI, ast_nI, lt_nI, le_nI, eq_nI, sub_nI, Sum.elim_inl, Sum.elim_inr, if_pos, if_neg, if_true, if_false]
    · unfold pX9_isLightSet_L2
      rw [if_neg (by rw [bq2 x (by omega) hx k (by omega)]; omega), bq1 x (by omega) k (by omega)]
      have e : (nI b + 1 + nI k) = nI (b + 1 + k) := by simp (disch := omega) only [bnd_eq, Option.bind_some, lit_nI, nI_add, pk_mul, ald_nI, ast_nI, lt_nI, le_nI, eq_nI, sub_nI, Sum.elim_inl, Sum.elim_inr, if_pos, if_neg, if_true, if_false]
      have hb2 : x.testBit k = true ∧ zi (zof F S wx wy f) (o (b + 1 + k)) = false := by simpa using hb'
      rw [if_pos hb2.1, if_pos rfl, e, rz_o h (by omega), Option.bind_some, rz_light (f := f) h (q.2.2 _), Option.bind_some, hb2.2, if_pos (by decide)]
    · unfold pX9_isLightSet_L2
      rw [if_pos (by rw [bq2 x (by omega) hx _ (by omega)]; omega)]
  rw [show (0 : Int32) = nI 0 from rfl, z, Option.bind_some]
  cases hf : ff (fun k => x.testBit k && !(zi (zof F S wx wy f) (o (b + 1 + k)))) (hib x + 1) 0 with
  | none =>
    have : lt = true := hl.mpr (fun k hk ht => by
      have := ff_none hf k (by omega) (by omega)
      simpa [ht] using this)
    rw [if_pos this]
    rfl
  | some j =>
    have g := ff_some hf
    have : ¬ lt = true := fun hlt => by
      have g2 := g.2.2
      have := hl.mp hlt j (by omega)
      simp at g2
      rw [this g2.1] at g2
      exact absurd g2.2 (by decide)
    rw [if_neg this]
    rfl
/-! how long a block lasts -/
def mA (Z : Tp) (o : Nat → Nat) (b w p : Nat) (M : Mm) : Mm := mset (mset M 8 0 (nI (zL Z))) 9 0 (nI (zL Z + zt Z (o b) (o (b + 1 + p)) (o (b + 1 + w))))
def mB (Z : Tp) (o : Nat → Nat) (b w p q : Nat) (M : Mm) : Mm := mset (mset (mA Z o b w p M) 8 1 (nI (2 * zL Z))) 9 1 (nI (2 * zL Z + zt Z (o b) (o (b + 1 + q)) (o (b + 1 + w))))
theorem mA_f (Z : Tp) (o : Nat → Nat) (b w p : Nat) (M : Mm) {c : Nat} (h : c ≠ 8) (h9 : c ≠ 9) : mA Z o b w p M c = M c := by
  unfold mA
  rw [mset_cell h9, mset_cell h]
theorem mB_f (Z : Tp) (o : Nat → Nat) (b w p q : Nat) (M : Mm) {c : Nat} (h : c ≠ 8) (h9 : c ≠ 9) : mB Z o b w p q M c = M c := by
  unfold mB
  rw [mset_cell h9, mset_cell h, mA_f _ _ _ _ _ _ h h9]
theorem r_send (h : RX F S wx wy n o M) {b w p x s : Nat} {t : Nat} (hp : p < w) (hb : b + 1 + w ≤ n + 1) (hs : s < 2) (ht : t ≤ 100) (hbit : ((nI x >>> (nI p &&& 31)) &&& 1) = 1) : pX9_lasts_L25 (nI b) (nI (b + 1 + w)) (nI x) (nI (o b)) (nI (o (b + 1 + w))) (nI t, nI s, nI p, M) = some (.inl (nI (t + zL (zof F S wx wy f)), nI (s + 1), nI (p + 1), mset (mset M 8 s (nI (t + zL (zof F S wx wy f)))) 9 s (nI (t + zL (zof F S wx wy f) + zt (zof F S wx wy f) (o b) (o (b + 1 + p)) (o (b + 1 + w)))))) := by
  have q := rz_n h
  have bb := rz_b h
  have h' : RX F S wx wy n o (mset M 8 s (nI (t + zL (zof F S wx wy f)))) := RX_c h (mset_cell (by omega)) (mset_cell (by omega))
  unfold pX9_lasts_L25
  rw [if_neg (by simp (disch := omega) only [bnd_eq, Option.bind_some, lit_nI, nI_add, pk_mul, ald_nI, ast_nI, lt_nI, le_nI, eq_nI, sub_nI, Sum.elim_inl, Sum.elim_inr, if_pos, if_neg, if_true, if_false]; omega), hbit, if_neg one_ne]
  simp only [bnd_eq]
  rw [show pX9_of 6 M = _ from rz_of h (i := 6) (by omega) (by omega) (by omega), Option.bind_some, bb.2.2.2.2.2.2.1.2]
  rw [show nI b + 1 + nI p = nI (b + 1 + p) by simp (disch := omega) only [bnd_eq, Option.bind_some, lit_nI, nI_add, pk_mul, ald_nI, ast_nI, lt_nI, le_nI, eq_nI, sub_nI, Sum.elim_inl, Sum.elim_inr, if_pos, if_neg, if_true, if_false], rz_o h (by omega), Option.bind_some, ast_nI (by omega) (by omega), Option.bind_some, nI_add]
  rw [show cl (S 6) = zL (zof F S wx wy f) from rfl, rz_flight h' (q.2.2 _) (q.2.2 _), Option.bind_some, show pX9_placeOf (nI (o (b + 1 + p))) 3 _ = _ from rz_fact h' (w := 3) (q.2.2 _) (by omega), Option.bind_some, rz_flight h' (q.2.2 _) (q.2.2 _), Option.bind_some, ast_nI (by omega) (by omega), Option.bind_some]
  simp (disch := omega) only [bnd_eq, Option.bind_some, lit_nI, nI_add, pk_mul, ald_nI, ast_nI, lt_nI, le_nI, eq_nI, sub_nI, Sum.elim_inl, Sum.elim_inr, if_pos, if_neg, if_true, if_false]
  rw [show t + zL (zof F S wx wy f) + fl F S wx wy (o b) (o (b + 1 + p)) + fc F (o (b + 1 + p)) 3 + fl F S wx wy (o (b + 1 + p)) (o (b + 1 + w)) = t + zL (zof F S wx wy f) + zt (zof F S wx wy f) (o b) (o (b + 1 + p)) (o (b + 1 + w)) by show _ = t + zL (zof F S wx wy f) + (fl F S wx wy (o b) (o (b + 1 + p)) + fc F (o (b + 1 + p)) 3 + fl F S wx wy (o (b + 1 + p)) (o (b + 1 + w))); omega]
theorem r_skip {b w k x : Nat} {a c : Int32} {t s : Int32} (hw : b + 1 + w ≤ 9) (hk : k < w) (hbit : ((nI x >>> (nI k &&& 31)) &&& 1) = 0) : pX9_lasts_L25 (nI b) (nI (b + 1 + w)) (nI x) a c (t, s, nI k, M) = some (.inl (t, s, nI (k + 1), M)) := by
  unfold pX9_lasts_L25
  rw [if_neg (by simp (disch := omega) only [bnd_eq, Option.bind_some, lit_nI, nI_add, pk_mul, ald_nI, ast_nI, lt_nI, le_nI, eq_nI, sub_nI, Sum.elim_inl, Sum.elim_inr, if_pos, if_neg, if_true, if_false]; omega), hbit, if_pos rfl]
  simp (disch := omega) only [bnd_eq, Option.bind_some, lit_nI, nI_add, pk_mul, ald_nI, ast_nI, lt_nI, le_nI, eq_nI, sub_nI, Sum.elim_inl, Sum.elim_inr, if_pos, if_neg, if_true, if_false]
theorem r_done {b w x : Nat} {a c : Int32} {t s : Int32} (hw : b + 1 + w ≤ 9) : pX9_lasts_L25 (nI b) (nI (b + 1 + w)) (nI x) a c (t, s, nI w, M) = some (.inr (t, s, M)) := by
  unfold pX9_lasts_L25
  rw [if_pos (by simp (disch := omega) only [bnd_eq, Option.bind_some, lit_nI, nI_add, pk_mul, ald_nI, ast_nI, lt_nI, le_nI, eq_nI, sub_nI, Sum.elim_inl, Sum.elim_inr, if_pos, if_neg, if_true, if_false]; omega)]
theorem r_sent0 {b w : Nat} {a c : Int32} (hw : b + 1 + w ≤ 9) : itr (pX9_lasts_L25 (nI b) (nI (b + 1 + w)) (nI 0) a c) fuel (0, 0, 0, M) = some (0, 0, M) := by
  refine itr_st (fun k => ((0 : Int32), (0 : Int32), nI k, M)) w _ (fun k hk => ?_) ?_ w 0 fuel (by omega) (by unfold fuel; omega)
  · exact r_skip hw hk (bq1 0 (by omega) k (by omega) ▸ by simp)
  · exact r_done hw
theorem r_sent1 (h : RX F S wx wy n o M) {b w p : Nat} (hp : p < w) (hb : b + 1 + w ≤ n + 1) : itr (pX9_lasts_L25 (nI b) (nI (b + 1 + w)) (nI (2 ^ p)) (nI (o b)) (nI (o (b + 1 + w)))) fuel (0, 0, 0, M) = some (nI (zL (zof F S wx wy f)), 1, mA (zof F S wx wy f) o b w p M) := by
  have q := rz_n h
  have x8 : 2 ^ p < 2 ^ 8 := Nat.pow_lt_pow_right (by omega) (by omega)
  have bt : ∀ k, k < w → ((nI (2 ^ p) >>> (nI k &&& 31)) &&& 1) = if one p k then 1 else 0 := fun k hk => by rw [bq1 _ x8 k (by omega), tbq1 p (by omega) k (by omega)]
  refine itr_st (fun k => if k ≤ p then ((0 : Int32), (0 : Int32), nI k, M) else (nI (zL (zof F S wx wy f)), (1 : Int32), nI k, mA (zof F S wx wy f) o b w p M)) w _ (fun k hk => ?_) ?_ w 0 fuel (by omega) (by unfold fuel; omega)
  · by_cases c1 : k < p
    · rw [if_pos (by omega), if_pos (by omega)]
      exact r_skip (by omega) hk (by rw [bt k hk, one_no (by omega)]; rfl)
    · by_cases c2 : k = p
      · subst c2
        rw [if_pos (by omega), if_neg (by omega)]
        have z := r_send (f := f) h (b := b) (w := w) (p := k) (x := 2 ^ k) (s := 0) (t := 0) hk hb (by omega) (by omega) (by rw [bt k hk, if_pos (by unfold one; simp)])
        rw [Nat.zero_add] at z
        exact z
      · rw [if_neg (by omega), if_neg (by omega)]
        exact r_skip (by omega) hk (by rw [bt k hk, one_no (by omega)]; rfl)
  · rw [if_neg (by omega)]
    exact r_done (by omega)
theorem r_sent2 (h : RX F S wx wy n o M) {b w p q : Nat} (hp : p < q) (hq : q < w) (hb : b + 1 + w ≤ n + 1) : itr (pX9_lasts_L25 (nI b) (nI (b + 1 + w)) (nI (2 ^ p + 2 ^ q)) (nI (o b)) (nI (o (b + 1 + w)))) fuel (0, 0, 0, M) = some (nI (2 * zL (zof F S wx wy f)), 2, mB (zof F S wx wy f) o b w p q M) := by
  have qn := rz_n h
  have bb := rz_b h
  have x8 : 2 ^ p + 2 ^ q < 2 ^ 8 := by
    have e : 2 ^ p < 2 ^ q := Nat.pow_lt_pow_right (by omega) hp
    have e1 : 2 ^ (q + 1) ≤ 2 ^ 8 := Nat.pow_le_pow_right (by omega) (by omega)
    rw [Nat.pow_succ] at e1
    omega
  have bt : ∀ k, k < w → ((nI (2 ^ p + 2 ^ q) >>> (nI k &&& 31)) &&& 1) = if two p q k then 1 else 0 := fun k hk => by rw [bq1 _ x8 k (by omega), tbq2 q (by omega) p hp k (by omega)]
  refine itr_st (fun k => if k ≤ p then ((0 : Int32), (0 : Int32), nI k, M) else if k ≤ q then (nI (zL (zof F S wx wy f)), (1 : Int32), nI k, mA (zof F S wx wy f) o b w p M) else (nI (2 * zL (zof F S wx wy f)), (2 : Int32), nI k, mB (zof F S wx wy f) o b w p q M)) w _ (fun k hk => ?_) ?_ w 0 fuel (by omega) (by unfold fuel; omega)
  · by_cases c1 : k < p
    · rw [if_pos (by omega), if_pos (by omega)]
      exact r_skip (by omega) hk (by rw [bt k hk, two_no (by omega) (by omega)]; rfl)
    · by_cases c2 : k = p
      · subst c2
        rw [if_pos (by omega), if_neg (by omega), if_pos (by omega)]
        have z := r_send (f := f) h (b := b) (w := w) (p := k) (x := 2 ^ k + 2 ^ q) (s := 0) (t := 0) hk hb (by omega) (by omega) (by rw [bt k hk, if_pos (by unfold two; simp)])
        rw [Nat.zero_add] at z
        exact z
      · by_cases c3 : k < q
        · rw [if_neg (by omega), if_pos (by omega), if_neg (by omega), if_pos (by omega)]
          exact r_skip (by omega) hk (by rw [bt k hk, two_no (by omega) (by omega)]; rfl)
        · by_cases c4 : k = q
          · subst c4
            rw [if_neg (by omega), if_pos (by omega), if_neg (by omega), if_neg (by omega)]
            have h' : RX F S wx wy n o (mA (zof F S wx wy f) o b w p M) := RX_c h (mA_f _ _ _ _ _ _ (by omega) (by omega)) (mA_f _ _ _ _ _ _ (by omega) (by omega))
            have l9 : zL (zof F S wx wy f) ≤ 9 := bb.2.2.2.2.2.2.1.1
            have z := r_send (f := f) h' (b := b) (w := w) (p := k) (x := 2 ^ p + 2 ^ k) (s := 1) (t := zL (zof F S wx wy f)) hk hb (by omega) (by omega) (by rw [bt k hk, if_pos (by unfold two; simp)])
            rw [show zL (zof F S wx wy f) + zL (zof F S wx wy f) = 2 * zL (zof F S wx wy f) by omega] at z
            exact z
          · rw [if_neg (by omega), if_neg (by omega), if_neg (by omega), if_neg (by omega)]
            exact r_skip (by omega) hk (by rw [bt k hk, two_no (by omega) (by omega)]; rfl)
  · rw [if_neg (by omega), if_neg (by omega)]
    exact r_done (by omega)
/-- the van's way -/
theorem r_van (h : RX F S wx wy n o M) {b w x t0 : Nat} {s : Int32} {fz : Nat → Bool} (hb : b + 1 + w ≤ n + 1) (ht : t0 ≤ 100) (hz : ∀ k, k ≤ w → ((nI x >>> (nI k &&& 31)) &&& 1) = if fz k then 1 else 0) : itr (pX9_lasts_L131 (nI b) (nI (b + 1 + w)) (nI x) s M) fuel (nI t0, nI (o b), 0) = some (nI (t0 + (pth (zof F S wx wy f) o b fz (w + 1)).1)) := by
  have q := rz_n h
  have pb := fun k => pth_le (Z := zof F S wx wy f) (zo_b h).1 (fun k => Nat.le_trans (q.2.2 k) q.1) (b := b) (fz := fz) k
  have pn : ∀ k, (pth (zof F S wx wy f) o b fz k).2 ≤ n := by
    intro k
    induction k with
    | zero => exact q.2.2 _
    | succ k ih =>
      rw [pth]
      split
      · exact ih
      · exact q.2.2 _
  refine itr_st (fun k => (nI (t0 + (pth (zof F S wx wy f) o b fz k).1), nI (pth (zof F S wx wy f) o b fz k).2, nI k)) (w + 1) _ (fun k hk => ?_) ?_ (w + 1) 0 fuel (by omega) (by unfold fuel; omega)
  · unfold pX9_lasts_L131
    dsimp only
    rw [if_neg (by simp (disch := omega) only [bnd_eq, Option.bind_some, lit_nI, nI_add, pk_mul, ald_nI, ast_nI, lt_nI, le_nI, eq_nI, sub_nI, Sum.elim_inl, Sum.elim_inr, if_pos, if_neg, if_true, if_false]; omega), hz k (by omega), pth]
    by_cases c : fz k = true
    · rw [if_pos c, if_pos rfl, if_pos c]
      simp (disch := omega) only [bnd_eq, Option.bind_some, lit_nI, nI_add, pk_mul, ald_nI, ast_nI, lt_nI, le_nI, eq_nI, sub_nI, Sum.elim_inl, Sum.elim_inr, if_pos, if_neg, if_true, if_false]
    · rw [if_neg c, if_neg (by decide), if_neg c, show nI b + 1 + nI k = nI (b + 1 + k) by simp (disch := omega) only [bnd_eq, Option.bind_some, lit_nI, nI_add, pk_mul, ald_nI, ast_nI, lt_nI, le_nI, eq_nI, sub_nI, Sum.elim_inl, Sum.elim_inr, if_pos, if_neg, if_true, if_false], rz_o h (by omega), Option.bind_some, rz_drive h (pn k) (q.2.2 _), Option.bind_some, rz_service h (q.2.2 _), Option.bind_some]
      simp (disch := omega) only [bnd_eq, Option.bind_some, lit_nI, nI_add, pk_mul, ald_nI, ast_nI, lt_nI, le_nI, eq_nI, sub_nI, Sum.elim_inl, Sum.elim_inr, if_pos, if_neg, if_true, if_false]
      rw [Nat.add_assoc]
      rfl
  · unfold pX9_lasts_L131
    dsimp only
    rw [if_pos (by simp (disch := omega) only [bnd_eq, Option.bind_some, lit_nI, nI_add, pk_mul, ald_nI, ast_nI, lt_nI, le_nI, eq_nI, sub_nI, Sum.elim_inl, Sum.elim_inr, if_pos, if_neg, if_true, if_false]; omega)]
end REF
