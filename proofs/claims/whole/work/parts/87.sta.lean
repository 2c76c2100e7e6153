/-! PURE: depot, to, set, fly -/
def H2 (M M' : Mm) : Prop := (∀ c, c ≠ 0 → c ≠ 1 → M' c = M c) ∧ ∀ i, i ≠ 5 → i ≠ 7 → i ≠ 8 → M' 0 i = M 0 i
theorem H2_g {M M' : Mm} (h : G1 M M') : H2 M M' := ⟨fun c a _ => h.1 c a, h.2⟩
theorem H2_t {M M' M'' : Mm} (h : H2 M M') (h2 : H2 M' M'') : H2 M M'' := ⟨fun c a b => by rw [h2.1 c a b, h.1 c a b], fun i a b c => by rw [h2.2 i a b c, h.2 i a b c]⟩
theorem H2_s {M : Mm} {i : Nat} {v : Int32} : H2 M (mset M 1 i v) := ⟨fun c _ b => mset_cell b, fun k _ _ _ => by rw [mset_cell (by omega)]⟩
def Out (t p w : Nat) (M1 M2 : Mm) (ref : Option Mm) : Prop :=
  (∃ M1' M2' fz, pX7_readStatement (nI w) M1 = some (0, M1') ∧ ref = some M2' ∧ M1' 31 5 = nI fz ∧ M2' 0 5 = nI fz ∧ 1 ≤ fz ∧ fz < 10000 ∧ (∀ c, c < 31 ∨ 38 < c → M1' c = M1 c) ∧ H2 M2 M2') ∨
  ∃ V V' M2' q n r s, pX7_readStatement (nI w) M1 = some (1, V) ∧ pX7_apply (nI w) V = some V' ∧ ref = some M2' ∧ V' 31 8 = nI (q + 1) ∧ M2' 0 7 = nI q ∧ M2' 0 5 = 0 ∧ p < q + 1 ∧ q + 1 ≤ t ∧ DR n r s V' M2' ∧ V' 31 5 = M1 31 5 ∧ (∀ c, c < 31 ∨ 38 < c → V' c = M1 c) ∧ H2 M2 M2'
theorem out_f {t p w : Nat} {M1 M2 M1' M2' : Mm} {ref : Option Mm} {fz : Nat} (rs : pX7_readStatement (nI w) M1 = (itr (pX7_readStatement_L56 (nI w)) fuel (mset M1 31 4 0)).bind fun x54 => Sum.elim (fun yx54 => some (0, yx54)) (fun r => some r) x54) (hit : itr (pX7_readStatement_L56 (nI w)) fuel (mset M1 31 4 0) = some (.inr (0, M1'))) (hr : ref = some M2') (e1 : M1' 31 5 = nI fz) (e2 : M2' 0 5 = nI fz) (h1 : 1 ≤ fz) (h2 : fz < 10000) (f1 : ∀ c, c < 31 ∨ 38 < c → M1' c = M1 c) (f2 : H2 M2 M2') : Out t p w M1 M2 ref := Or.inl ⟨M1', M2', fz, by rw [rs, hit]; rfl, hr, e1, e2, h1, h2, f1, f2⟩
theorem nz {fz : Nat} (h : 1 ≤ fz) (h2 : fz < 10000) : ¬ nI fz = 0 := nI_ne0 (by omega) (by omega)
section STA
variable {B : Nat → Nat} {t : Nat}
theorem DR_fact {n r s p w v : Nat} {M1 M2 : Mm} (h : DR n r s M1 M2) (hp : p ≤ 8) (hw : w < 5) (hv : v ≤ fMost w) (hpw : 1 ≤ p ∨ w < 2) : DR n r s (mset M1 33 (5 * p + w) (nI v)) (mset M2 1 (1 + (5 * p + w)) (nI v)) := by
  unfold DR at h ⊢
  rw [sh_set (by omega) (by omega)]
  obtain ⟨⟨l1, l2, l3, l4, l5⟩, ⟨b1, b2, b3⟩, hP⟩ := h
  refine ⟨⟨l1, by rw [mset_cell (by omega)]; exact l2, by rw [mset_slot (by omega)]; exact l3, fun i hi => ?_, fun i hi => ?_⟩, ⟨fun p' w' hp' hw' => ?_, ?_, ?_⟩, PlanR_c hP (mset_cell (by omega)) (mset_cell (by omega)) (mset_cell (by omega)) (fun i a b => mset_slot (by omega))⟩
  · by_cases e : i = 5 * p + w
    · rw [e, mset_same, mset_same]
    · rw [mset_slot (by omega), mset_slot e]
      exact l4 i hi
  · rw [mset_slot (by omega), mset_cell (by omega)]
    exact l5 i hi
  · by_cases e : 5 * p' + w' = 5 * p + w
    · have : w' = w := by omega
      rw [e, mset_same, this]
      exact ⟨v, hv, rfl⟩
    · rw [mset_slot e]
      exact b1 p' w' hp' hw'
  · rw [mset_slot (by omega), mset_slot (by omega), mset_slot (by omega)]
    exact b2
  · rw [mset_cell (by omega)]
    exact b3
theorem DR_sett {n r s i : Nat} {v : Int32} {M1 M2 : Mm} (h : DR n r s M1 M2) (hi : i < 10) (hv : ¬ (v < sLo i ∨ sHi i < v)) : DR n r s (mset M1 34 i v) (mset M2 1 (50 + i) v) := by
  unfold DR at h ⊢
  rw [sh_set (by omega) (by omega)]
  obtain ⟨⟨l1, l2, l3, l4, l5⟩, ⟨b1, b2, b3⟩, hP⟩ := h
  refine ⟨⟨l1, by rw [mset_cell (by omega)]; exact l2, by rw [mset_slot (by omega)]; exact l3, fun k hk => ?_, fun k hk => ?_⟩, ⟨fun p' w' hp' hw' => ?_, ?_, fun k hk => ?_⟩, PlanR_c hP (mset_cell (by omega)) (mset_cell (by omega)) (mset_cell (by omega)) (fun i a b => mset_slot (by omega))⟩
  · rw [mset_slot (by omega), mset_cell (by omega)]
    exact l4 k hk
  · by_cases e : k = i
    · rw [e, mset_same, mset_same]
    · rw [mset_slot (by omega), mset_slot e]
      exact l5 k hk
  · rw [mset_cell (by omega)]
    exact b1 p' w' hp' hw'
  · rw [mset_cell (by omega)]
    exact b2
  · by_cases e : k = i
    · rw [e, mset_same]
      have a : ¬ v < sLo i := fun g => hv (Or.inl g)
      have b : ¬ sHi i < v := fun g => hv (Or.inr g)
      rw [fa_lt] at a b
      exact ⟨Int.not_lt.mp a, Int.not_lt.mp b⟩
    · rw [mset_slot e]
      exact b3 k hk
theorem DR_more {n r s : Nat} {M1 M2 : Mm} (h : DR n r s M1 M2) (hn : n < 8) : DR (n + 1) r s (mset M1 32 0 (nI (n + 1))) (mset M2 1 0 (nI (n + 1))) := by
  unfold DR at h ⊢
  rw [sh_set (by omega) (by omega)]
  obtain ⟨⟨l1, l2, l3, l4, l5⟩, hB, ⟨p1, p2, p3, p4, p5, p6, p7, p8, p9, p10⟩⟩ := h
  refine ⟨⟨by omega, mset_same _ _ _ _, mset_same _ _ _ _, fun k hk => ?_, fun k hk => ?_⟩, LandB_c hB (mset_cell (by omega)) (mset_cell (by omega)), ⟨p1, p2, ?_, ?_, ?_, ?_, fun i hi => ?_, fun i hi => ?_, fun i hi => ?_, fun k hk => ?_⟩⟩
  · rw [mset_slot (by omega), mset_cell (by omega)]; exact l4 k hk
  · rw [mset_slot (by omega), mset_cell (by omega)]; exact l5 k hk
  · rw [mset_cell (by omega)]; exact p3
  · rw [mset_cell (by omega)]; exact p4
  · rw [mset_slot (by omega)]; exact p5
  · rw [mset_slot (by omega)]; exact p6
  · rw [mset_slot (by omega), mset_cell (by omega)]; exact p7 i hi
  · rw [mset_slot (by omega), mset_cell (by omega)]; exact p8 i hi
  · rw [mset_cell (by omega)]
    obtain ⟨p, a, b, c⟩ := p9 i hi
    exact ⟨p, a, by omega, c⟩
  · rw [mset_cell (by omega)]
    obtain ⟨a, b, c, d, h1, h2, h3, h4, h5, h6⟩ := p10 k hk
    exact ⟨a, b, c, d, h1, h2, h3, by omega, h5, h6⟩
theorem af_s {M : Mm} {p m k I v : Nat} (h31 : M 31 4 = nI I) (hI : I ≤ 8) (hk : k < I) (hk5 : k < 5) (h38 : M 38 k = nI v) (hv : v ≤ fMost k) (hm : M 32 0 = nI m) (h8 : m ≤ 8) (hp : p ≤ m) : pX7_applyFacts_L2 (nI p) (nI k, M) = some (.inl (nI (k + 1), mset M 33 (5 * p + k) (nI v))) := by
  unfold pX7_applyFacts_L2
  dsimp only
  rw [if_neg (show ¬ M 31 4 ≤ nI k by rw [h31, le_nI] <;> omega), ald_nI (by omega) (by omega), h38, Option.bind_some, c_putFact hm h8 hp hk5 hv, Option.bind_some, show nI k + 1 = nI (k + 1) from nI_add k 1]
theorem af_e {M : Mm} {I : Nat} {x : Int32} (h31 : M 31 4 = nI I) (hI : I ≤ 8) : pX7_applyFacts_L2 x (nI I, M) = some (.inr M) := by
  unfold pX7_applyFacts_L2
  dsimp only
  rw [if_pos (show M 31 4 ≤ nI I by rw [h31, le_nI] <;> omega)]
theorem jn_0 {p : Nat} {M1 M2 : Mm} (h1 : TXA B t M1) (h2 : TXD B t M2) (hp : p ≤ t) (h8 : M1 31 8 = nI p) (h7 : M2 0 7 = nI p) (h5 : M2 0 5 = 0) : JN B t p 0 (mset M1 31 4 0) M2 := ⟨TXA_c h1 (mset_cell (by omega)) (mset_cell (by omega)), h2, hp, by rw [mset_slot (by omega)]; exact h8, h7, h5, mset_same _ _ _ _⟩
theorem st_depot {M1 M2 : Mm} {p n r s : Nat} (h1 : TXA B t M1) (h2 : TXD B t M2) (hp : p ≤ t) (h8 : M1 31 8 = nI p) (h7 : M2 0 7 = nI p) (h5 : M2 0 5 = 0) (hD : DR n r s M1 M2) : Out t p 0 M1 M2 (((pX9_numberOf 0 M2).bind fun v4 => bnd (v4.1) fun v6 => (pX9_numberOf 1 v4.2).bind fun v7 => bnd (v7.1) fun v9 => if (v7.2 0 5) = 0 then ((ast v7.2 1 160 1 v6).bind fun M10 => (ast M10 1 160 2 v9).bind fun M12 => some M12) else (some v7.2)).bind semi) := by
  have rs := rs_in (M := M1) (w := 0) (by omega) (by omega) (by omega)
  have ct : ∀ c, c < 31 ∨ 38 < c → (mset M1 31 4 0) c = M1 c := fun c hc => mset_cell (by omega)
  obtain ⟨v0, N1, e1, g1, hc1⟩ := J1 (w := 0) (g := 0) (fu := 5999) (lo := 0) (hi := nI (fMost 0)) (by omega) (by omega) (by decide) (jn_0 h1 h2 hp h8 h7 h5) (fun V hV => lm01 (Or.inl rfl) (by omega) (by rw [hV.2 4 (by omega), mset_same]; rfl))
  rw [show pX9_numberOf 0 M2 = _ from nof_eq (k := 0) (by omega) M2, e1, Option.bind_some, bnd_eq]
  dsimp only
  rcases hc1 with ⟨A1, fz, i1, i2, i3, i4, i5, i6⟩ | ⟨A1, p1, i1, i2, i3, i4, i5, i6, i7, i8⟩
  · have nf : ¬ N1 0 5 = 0 := by rw [i3]; exact nz i4 i5
    rw [show pX9_numberOf 1 N1 = _ from nof_eq (k := 1) (by omega) N1, nin_f nf, Option.bind_some, bnd_eq, if_neg nf, Option.bind_some, semi_f nf]
    exact out_f rs i1 rfl i2 i3 i4 i5 (fun c hc => by rw [i6 c (by omega), ct c hc]) (H2_g g1)
  · obtain ⟨v1, N2, e2, g2, hc2⟩ := J1 (w := 0) (g := 1) (fu := 5998) (lo := 0) (hi := nI (fMost 1)) (by omega) (by omega) (by decide) i4 (fun V hV => lm01 (Or.inl rfl) (by omega) (by rw [hV.2 4 (by omega)]; exact i4.2.2.2.2.2.2))
    rw [show pX9_numberOf 1 N1 = _ from nof_eq (k := 1) (by omega) N1, e2, Option.bind_some, bnd_eq]
    dsimp only
    rcases hc2 with ⟨A2, fz, k1, k2, k3, k4, k5, k6⟩ | ⟨A2, p2, k1, k2, k3, k4, k5, k6, k7, k8⟩
    · have nf : ¬ N2 0 5 = 0 := by rw [k3]; exact nz k4 k5
      rw [if_neg nf, Option.bind_some, semi_f nf]
      exact out_f rs (i1.trans k1) rfl k2 k3 k4 k5 (fun c hc => by rw [k6 c (by omega), i7 c (by omega) (by omega), ct c hc]) (H2_t (H2_g g1) (H2_g g2))
    · obtain ⟨a, a1, a2, rfl⟩ := val_n (lo := 0) (hi := fMost 0) i3 (by decide) (by omega)
      obtain ⟨b, b1, b2, rfl⟩ := val_n (lo := 0) (hi := fMost 1) k3 (by decide) (by omega)
      obtain ⟨m1, m2, m3, m4, m5, m6, m7⟩ := k4
      rw [if_pos m6, show ∀ (N : Mm) (v : Int32), ast N 1 160 1 v = some (mset N 1 1 v) from fun N v => ast_nI (i := 1) (by omega) (by omega), Option.bind_some, show ∀ (N : Mm) (v : Int32), ast N 1 160 2 v = some (mset N 1 2 v) from fun N v => ast_nI (i := 2) (by omega) (by omega), Option.bind_some, Option.bind_some]
      obtain ⟨N3, e3, g3, hc3⟩ := JL (w := 0) (fu := 5997) (M1 := A2) (M2 := mset (mset N2 1 1 (nI a)) 1 2 (nI b)) (p := p2) (by omega) (by omega) ⟨m1, by
        unfold TXD at m2 ⊢
        rw [mset_cell (by omega), mset_cell (by omega), mset_cell (by omega), mset_cell (by omega)]
        exact m2, m3, m4, by rw [mset_cell (by omega), mset_cell (by omega)]; exact m5, by rw [mset_cell (by omega), mset_cell (by omega)]; exact m6, m7⟩
      rw [e3]
      have hh : H2 M2 N3 := H2_t (H2_t (H2_g g1) (H2_g g2)) (H2_t (H2_t H2_s H2_s) (H2_g g3))
      have a2c : ∀ c, c ≠ 31 → c ≠ 38 → A2 c = M1 c := fun c x y => by rw [k7 c x y, i7 c x y, mset_cell x]
      rcases hc3 with ⟨A3, fz, o1, o2, o3, o4, o5, o6⟩ | ⟨V, q, o1, o2, o3, o4, o5, o6, o7⟩
      · exact out_f rs (i1.trans (k1.trans o1)) rfl o2 o3 o4 o5 (fun c hc => by rw [o6 c (by omega), a2c c (by omega) (by omega)]) hh
      · have dr2 : DR n r s V N2 := DR_c hD (fun c x y => by rw [o2.1 c (by omega), a2c c (by omega) (by omega)]) (by rw [g2.1 1 (by omega), g1.1 1 (by omega)])
        have V31 : V 31 4 = nI 2 := by rw [o2.2 4 (by omega)]; exact m7
        have V32 : V 32 0 = nI n := dr2.1.2.1
        have n8 : n ≤ 8 := dr2.1.1
        have V38 : V 38 0 = nI a ∧ V 38 1 = nI b := by
          rw [o2.1 38 (by omega)]
          exact ⟨by rw [k6 0 (by omega), i2], k2⟩
        have s1 := af_s (M := V) (p := 0) V31 (by omega) (by omega) (by omega) V38.1 a2 V32 n8 (by omega)
        have s2 := af_s (M := mset V 33 (5 * 0 + 0) (nI a)) (p := 0) (k := 1) (I := 2) (by rw [mset_cell (by omega)]; exact V31) (by omega) (by omega) (by omega) (by rw [mset_cell (by omega)]; exact V38.2) b2 (by rw [mset_cell (by omega)]; exact V32) n8 (by omega)
        refine Or.inr ⟨V, mset (mset V 33 (5 * 0 + 0) (nI a)) 33 (5 * 0 + 1) (nI b), N3, q, n, r, s, by rw [rs, show itr (pX7_readStatement_L56 (nI 0)) fuel (mset M1 31 4 0) = _ from i1.trans (k1.trans o1)]; rfl, ?_, rfl, by rw [mset_cell (by omega), mset_cell (by omega)]; exact o3, o4, o5, by omega, o7, ?_, ?_, fun c hc => by rw [mset_cell (by omega), mset_cell (by omega), o2.1 c (by omega), a2c c (by omega) (by omega)], hh⟩
        · unfold pX7_apply pX7_applyFacts
          rw [if_pos (show nI 0 = 0 from rfl), show fuel = 5997 + 1 + 1 + 1 from rfl, show ((0 : Int32), V) = (nI 0, V) from rfl, show pX7_applyFacts_L2 0 = pX7_applyFacts_L2 (nI 0) from rfl, itr_s s1, itr_s s2, itr_e (af_e (I := 2) (by rw [mset_cell (by omega), mset_cell (by omega)]; exact V31) (by omega)), Option.bind_some, Option.bind_some]
        · exact DR_c (DR_fact (p := 0) (w := 1) (DR_fact (p := 0) (w := 0) dr2 (by omega) (by omega) a2 (by omega)) (by omega) (by omega) b2 (by omega)) (fun _ _ _ => rfl) (by rw [g3.1 1 (by omega)])
        · rw [mset_cell (by omega), mset_cell (by omega), o2.2 5 (by omega)]
          rw [k8, i8, mset_slot (by omega)]
theorem st_to {M1 M2 : Mm} {p n r s : Nat} (h1 : TXA B t M1) (h2 : TXD B t M2) (hp : p ≤ t) (h8 : M1 31 8 = nI p) (h7 : M2 0 7 = nI p) (h5 : M2 0 5 = 0) (hD : DR n r s M1 M2) (hn : n < 8) : Out t p 1 M1 M2 (((pX9_numberOf 0 M2).bind fun v19 => bnd (v19.1) fun v21 => (pX9_numberOf 1 v19.2).bind fun v22 => bnd (v22.1) fun v24 => (pX9_numberOf 2 v22.2).bind fun v25 => bnd (v25.1) fun v27 => (pX9_numberOf 3 v25.2).bind fun v28 => bnd (v28.1) fun v30 => (pX9_numberOf 4 v28.2).bind fun v31 => bnd (v31.1) fun v33 => if (v31.2 0 5) = 0 then ((pX9_more v21 v24 v27 v30 v33 v31.2).bind fun v34 => some v34) else (some v31.2)).bind semi) := by
  have rs := rs_in (M := M1) (w := 1) (by omega) (fun _ => by rw [show M1 32 0 = nI n from hD.1.2.1]; show ¬ nI 8 ≤ nI n; rw [le_nI] <;> omega) (by omega)
  have ct : ∀ c, c < 31 ∨ 38 < c → (mset M1 31 4 0) c = M1 c := fun c hc => mset_cell (by omega)
  obtain ⟨v0, N0, e0, g0, hc0⟩ := J1 (w := 1) (g := 0) (fu := 5999) (lo := 0) (hi := nI (fMost 0)) (by omega) (by omega) (by decide) (jn_0 h1 h2 hp h8 h7 h5) (fun V hV => lm01 (Or.inr rfl) (by omega) (by rw [hV.2 4 (by omega), mset_same]; rfl))
  rw [show pX9_numberOf 0 M2 = _ from nof_eq (k := 0) (by omega) M2, e0, Option.bind_some, bnd_eq]
  dsimp only
  rcases hc0 with ⟨A0, fz, x1, x2, x3, x4, x5, x6⟩ | ⟨A0, p0, i0_1, i0_2, i0_3, Jh0, i0_5, i0_6, i0_7, i0_8⟩
  · have nf : ¬ N0 0 5 = 0 := by rw [x3]; exact nz x4 x5
    rw [show pX9_numberOf 1 N0 = _ from nof_eq (k := 1) (by omega) N0, nin_f nf, Option.bind_some, bnd_eq]
    dsimp only
    rw [show pX9_numberOf 2 N0 = _ from nof_eq (k := 2) (by omega) N0, nin_f nf, Option.bind_some, bnd_eq]
    dsimp only
    rw [show pX9_numberOf 3 N0 = _ from nof_eq (k := 3) (by omega) N0, nin_f nf, Option.bind_some, bnd_eq]
    dsimp only
    rw [show pX9_numberOf 4 N0 = _ from nof_eq (k := 4) (by omega) N0, nin_f nf, Option.bind_some, bnd_eq]
    dsimp only
    rw [if_neg nf, Option.bind_some, semi_f nf]
    exact out_f rs (x1) rfl x2 x3 x4 x5 (fun c hc => by rw [x6 c (by omega), ct c hc]) (H2_g g0)
  obtain ⟨v1, N1, e1, g1, hc1⟩ := J1 (w := 1) (g := 1) (fu := 5998) (lo := 0) (hi := nI (fMost 1)) (by omega) (by omega) (by decide) Jh0 (fun V hV => lm01 (Or.inr rfl) (by omega) (by rw [hV.2 4 (by omega)]; exact Jh0.2.2.2.2.2.2))
  rw [show pX9_numberOf 1 N0 = _ from nof_eq (k := 1) (by omega) N0, e1, Option.bind_some, bnd_eq]
  dsimp only
  rcases hc1 with ⟨A1, fz, x1, x2, x3, x4, x5, x6⟩ | ⟨A1, p1, i1_1, i1_2, i1_3, Jh1, i1_5, i1_6, i1_7, i1_8⟩
  · have nf : ¬ N1 0 5 = 0 := by rw [x3]; exact nz x4 x5
    rw [show pX9_numberOf 2 N1 = _ from nof_eq (k := 2) (by omega) N1, nin_f nf, Option.bind_some, bnd_eq]
    dsimp only
    rw [show pX9_numberOf 3 N1 = _ from nof_eq (k := 3) (by omega) N1, nin_f nf, Option.bind_some, bnd_eq]
    dsimp only
    rw [show pX9_numberOf 4 N1 = _ from nof_eq (k := 4) (by omega) N1, nin_f nf, Option.bind_some, bnd_eq]
    dsimp only
    rw [if_neg nf, Option.bind_some, semi_f nf]
    exact out_f rs (i0_1.trans (x1)) rfl x2 x3 x4 x5 (fun c hc => by rw [x6 c (by omega), i0_7 c (by omega) (by omega), ct c hc]) (H2_t (H2_g g0) (H2_g g1))
  obtain ⟨v2, N2, e2, g2, hc2⟩ := J1 (w := 1) (g := 2) (fu := 5997) (lo := 0) (hi := nI (fMost 2)) (by omega) (by omega) (by decide) Jh1 (fun V hV => lm01 (Or.inr rfl) (by omega) (by rw [hV.2 4 (by omega)]; exact Jh1.2.2.2.2.2.2))
  rw [show pX9_numberOf 2 N1 = _ from nof_eq (k := 2) (by omega) N1, e2, Option.bind_some, bnd_eq]
  dsimp only
  rcases hc2 with ⟨A2, fz, x1, x2, x3, x4, x5, x6⟩ | ⟨A2, p2, i2_1, i2_2, i2_3, Jh2, i2_5, i2_6, i2_7, i2_8⟩
  · have nf : ¬ N2 0 5 = 0 := by rw [x3]; exact nz x4 x5
    rw [show pX9_numberOf 3 N2 = _ from nof_eq (k := 3) (by omega) N2, nin_f nf, Option.bind_some, bnd_eq]
    dsimp only
    rw [show pX9_numberOf 4 N2 = _ from nof_eq (k := 4) (by omega) N2, nin_f nf, Option.bind_some, bnd_eq]
    dsimp only
    rw [if_neg nf, Option.bind_some, semi_f nf]
    exact out_f rs (i0_1.trans (i1_1.trans (x1))) rfl x2 x3 x4 x5 (fun c hc => by rw [x6 c (by omega), i1_7 c (by omega) (by omega), i0_7 c (by omega) (by omega), ct c hc]) (H2_t (H2_t (H2_g g0) (H2_g g1)) (H2_g g2))
  obtain ⟨v3, N3, e3, g3, hc3⟩ := J1 (w := 1) (g := 3) (fu := 5996) (lo := 0) (hi := nI (fMost 3)) (by omega) (by omega) (by decide) Jh2 (fun V hV => lm01 (Or.inr rfl) (by omega) (by rw [hV.2 4 (by omega)]; exact Jh2.2.2.2.2.2.2))
  rw [show pX9_numberOf 3 N2 = _ from nof_eq (k := 3) (by omega) N2, e3, Option.bind_some, bnd_eq]
  dsimp only
  rcases hc3 with ⟨A3, fz, x1, x2, x3, x4, x5, x6⟩ | ⟨A3, p3, i3_1, i3_2, i3_3, Jh3, i3_5, i3_6, i3_7, i3_8⟩
  · have nf : ¬ N3 0 5 = 0 := by rw [x3]; exact nz x4 x5
    rw [show pX9_numberOf 4 N3 = _ from nof_eq (k := 4) (by omega) N3, nin_f nf, Option.bind_some, bnd_eq]
    dsimp only
    rw [if_neg nf, Option.bind_some, semi_f nf]
    exact out_f rs (i0_1.trans (i1_1.trans (i2_1.trans (x1)))) rfl x2 x3 x4 x5 (fun c hc => by rw [x6 c (by omega), i2_7 c (by omega) (by omega), i1_7 c (by omega) (by omega), i0_7 c (by omega) (by omega), ct c hc]) (H2_t (H2_t (H2_t (H2_g g0) (H2_g g1)) (H2_g g2)) (H2_g g3))
  obtain ⟨v4, N4, e4, g4, hc4⟩ := J1 (w := 1) (g := 4) (fu := 5995) (lo := 0) (hi := nI (fMost 4)) (by omega) (by omega) (by decide) Jh3 (fun V hV => lm01 (Or.inr rfl) (by omega) (by rw [hV.2 4 (by omega)]; exact Jh3.2.2.2.2.2.2))
  rw [show pX9_numberOf 4 N3 = _ from nof_eq (k := 4) (by omega) N3, e4, Option.bind_some, bnd_eq]
  dsimp only
  rcases hc4 with ⟨A4, fz, x1, x2, x3, x4, x5, x6⟩ | ⟨A4, p4, i4_1, i4_2, i4_3, Jh4, i4_5, i4_6, i4_7, i4_8⟩
  · have nf : ¬ N4 0 5 = 0 := by rw [x3]; exact nz x4 x5
    rw [if_neg nf, Option.bind_some, semi_f nf]
    exact out_f rs (i0_1.trans (i1_1.trans (i2_1.trans (i3_1.trans (x1))))) rfl x2 x3 x4 x5 (fun c hc => by rw [x6 c (by omega), i3_7 c (by omega) (by omega), i2_7 c (by omega) (by omega), i1_7 c (by omega) (by omega), i0_7 c (by omega) (by omega), ct c hc]) (H2_t (H2_t (H2_t (H2_t (H2_g g0) (H2_g g1)) (H2_g g2)) (H2_g g3)) (H2_g g4))
  have hh0 : H2 M2 N4 := H2_t (H2_t (H2_t (H2_t (H2_g g0) (H2_g g1)) (H2_g g2)) (H2_g g3)) (H2_g g4)
  have a2c : ∀ c, c ≠ 31 → c ≠ 38 → A4 c = M1 c := fun c x y => by rw [i4_7 c x y, i3_7 c x y, i2_7 c x y, i1_7 c x y, i0_7 c x y, mset_cell x]
  have a15 : A4 31 5 = M1 31 5 := by rw [i4_8, i3_8, i2_8, i1_8, i0_8, mset_slot (by omega)]
  have w0 : A4 38 0 = v0 := by rw [i4_6 0 (by omega), i3_6 0 (by omega), i2_6 0 (by omega), i1_6 0 (by omega), i0_2]
  have w1 : A4 38 1 = v1 := by rw [i4_6 1 (by omega), i3_6 1 (by omega), i2_6 1 (by omega), i1_2]
  have w2 : A4 38 2 = v2 := by rw [i4_6 2 (by omega), i3_6 2 (by omega), i2_2]
  have w3 : A4 38 3 = v3 := by rw [i4_6 3 (by omega), i3_2]
  have w4 : A4 38 4 = v4 := by rw [i4_2]
  obtain ⟨m1, m2, m3, m4, m5, m6, m7⟩ := Jh4
  obtain ⟨u0, _, y0, z0⟩ := val_n (lo := 0) (hi := fMost 0) i0_3 (by decide) (by omega)
  obtain ⟨u1, _, y1, z1⟩ := val_n (lo := 0) (hi := fMost 1) i1_3 (by decide) (by omega)
  obtain ⟨u2, _, y2, z2⟩ := val_n (lo := 0) (hi := fMost 2) i2_3 (by decide) (by omega)
  obtain ⟨u3, _, y3, z3⟩ := val_n (lo := 0) (hi := fMost 3) i3_3 (by decide) (by omega)
  obtain ⟨u4, _, y4, z4⟩ := val_n (lo := 0) (hi := fMost 4) i4_3 (by decide) (by omega)
  have N1n : N4 1 0 = nI n := by rw [g4.1 1 (by omega), g3.1 1 (by omega), g2.1 1 (by omega), g1.1 1 (by omega), g0.1 1 (by omega)]; exact hD.1.2.2.1
  rw [if_pos m6]
  have mo : pX9_more v0 v1 v2 v3 v4 N4 = some (mset (mset (mset (mset (mset (mset N4 1 0 (nI (n + 1))) 1 (1 + (5 * (n + 1) + 0)) (nI u0)) 1 (1 + (5 * (n + 1) + 1)) (nI u1)) 1 (1 + (5 * (n + 1) + 2)) (nI u2)) 1 (1 + (5 * (n + 1) + 3)) (nI u3)) 1 (1 + (5 * (n + 1) + 4)) (nI u4)) := by
    have a0 : ∀ (N : Mm) (v : Int32), ast N 1 160 0 v = some (mset N 1 0 v) := fun N v => ast_nI (i := 0) (by omega) (by omega)
    have l0 : ∀ N : Mm, ald N 1 160 0 = some (N 1 0) := fun N => ald_nI (i := 0) (by omega) (by omega)
    unfold pX9_more
    rw [l0, N1n, Option.bind_some, a0, Option.bind_some, l0, mset_same, Option.bind_some, bnd_eq, show nI n + 1 = nI (n + 1) from nI_add n 1, show (1 : Int32) + 5 * nI (n + 1) = nI (1 + (5 * (n + 1) + 0)) by simp (disch := omega) only [bnd_eq, Option.bind_some, lit_nI, nI_add, pk_mul, ald_nI, ast_nI, lt_nI, le_nI, eq_nI, sub_nI, Sum.elim_inl, Sum.elim_inr, if_pos, if_neg, if_true, if_false]; rfl, ast_nI (by omega) (by omega), Option.bind_some, show nI (1 + (5 * (n + 1) + 0)) + 1 = nI (1 + (5 * (n + 1) + 1)) from nI_add _ 1, ast_nI (by omega) (by omega), Option.bind_some, show nI (1 + (5 * (n + 1) + 0)) + 2 = nI (1 + (5 * (n + 1) + 2)) from nI_add _ 2, ast_nI (by omega) (by omega), Option.bind_some, show nI (1 + (5 * (n + 1) + 0)) + 3 = nI (1 + (5 * (n + 1) + 3)) from nI_add _ 3, ast_nI (by omega) (by omega), Option.bind_some, show nI (1 + (5 * (n + 1) + 0)) + 4 = nI (1 + (5 * (n + 1) + 4)) from nI_add _ 4, ast_nI (by omega) (by omega), Option.bind_some, z0, z1, z2, z3, z4]
  rw [mo, Option.bind_some, Option.bind_some]
  obtain ⟨R, hR⟩ : ∃ R, R = mset (mset (mset (mset (mset (mset N4 1 0 (nI (n + 1))) 1 (1 + (5 * (n + 1) + 0)) (nI u0)) 1 (1 + (5 * (n + 1) + 1)) (nI u1)) 1 (1 + (5 * (n + 1) + 2)) (nI u2)) 1 (1 + (5 * (n + 1) + 3)) (nI u3)) 1 (1 + (5 * (n + 1) + 4)) (nI u4) := ⟨_, rfl⟩
  have R0 : ∀ c, c ≠ 1 → R c = N4 c := fun c hc => by rw [hR]; simp only [mset_cell hc]
  have hR2 : H2 N4 R := ⟨fun c _ b => R0 c b, fun i _ _ _ => by rw [R0 0 (by omega)]⟩
  rw [← hR]
  obtain ⟨N9, e9, g9, hc9⟩ := JL (w := 1) (fu := 5994) (M1 := A4) (M2 := R) (p := p4) (by omega) (by omega) ⟨m1, by unfold TXD at m2 ⊢; rw [R0 3 (by omega), R0 0 (by omega)]; exact m2, m3, m4, by rw [R0 0 (by omega)]; exact m5, by rw [R0 0 (by omega)]; exact m6, m7⟩
  rw [e9]
  have hh : H2 M2 N9 := H2_t hh0 (H2_t hR2 (H2_g g9))
  rcases hc9 with ⟨A9, fz, o1, o2, o3, o4, o5, o6⟩ | ⟨V, q, o1, o2, o3, o4, o5, o6, o7⟩
  · exact out_f rs (i0_1.trans (i1_1.trans (i2_1.trans (i3_1.trans (i4_1.trans (o1)))))) rfl o2 o3 o4 o5 (fun c hc => by rw [o6 c (by omega), a2c c (by omega) (by omega)]) hh
  · have dr2 : DR n r s V N4 := DR_c hD (fun c x y => by rw [o2.1 c (by omega), a2c c (by omega) (by omega)]) (by rw [g4.1 1 (by omega), g3.1 1 (by omega), g2.1 1 (by omega), g1.1 1 (by omega), g0.1 1 (by omega)])
    have V31 : V 31 4 = nI 5 := by rw [o2.2 4 (by omega)]; exact m7
    have V32 : V 32 0 = nI n := dr2.1.2.1
    have n8 : n ≤ 8 := dr2.1.1
    have V38 : ∀ i, V 38 i = A4 38 i := fun i => by rw [o2.1 38 (by omega)]
    obtain ⟨V', hV'⟩ : ∃ V', V' = mset (mset (mset (mset (mset (mset V 32 0 (nI (n + 1))) 33 (5 * (n + 1) + 0) (nI u0)) 33 (5 * (n + 1) + 1) (nI u1)) 33 (5 * (n + 1) + 2) (nI u2)) 33 (5 * (n + 1) + 3) (nI u3)) 33 (5 * (n + 1) + 4) (nI u4) := ⟨_, rfl⟩
    have vf : ∀ c, c < 32 ∨ 37 < c → V' c = V c := fun c hc => by rw [hV']; simp (disch := omega) only [mset_cell]
    refine Or.inr ⟨V, V', N9, q, n + 1, r, s, by rw [rs, show itr (pX7_readStatement_L56 (nI 1)) fuel (mset M1 31 4 0) = _ from i0_1.trans (i1_1.trans (i2_1.trans (i3_1.trans (i4_1.trans (o1)))))]; rfl, ?_, rfl, by rw [vf 31 (by omega)]; exact o3, o4, o5, by omega, o7, ?_, by rw [vf 31 (by omega), o2.2 5 (by omega)]; exact a15, fun c hc => by rw [vf c (by omega), o2.1 c (by omega), a2c c (by omega) (by omega)], hh⟩
    · have q0 : pX3_addCustomer 32 V = mset V 32 0 (nI (n + 1)) := by
        unfold pX3_addCustomer
        rw [V32, if_neg (show ¬ (8 : Int32) ≤ nI n by show ¬ nI 8 ≤ nI n; rw [le_nI] <;> omega), bnd_eq, show nI n + 1 = nI (n + 1) from nI_add n 1]
      have s0 := af_s (M := mset V 32 0 (nI (n + 1))) (p := n + 1) (m := n + 1) (k := 0) (I := 5) (v := u0) (by simp (disch := omega) only [mset_cell]; exact V31) (by omega) (by omega) (by omega) (by simp (disch := omega) only [mset_cell]; rw [V38, w0, z0]) y0 (by simp (disch := omega) only [mset_cell, mset_same]) (by omega) (by omega)
      have s1 := af_s (M := mset (mset V 32 0 (nI (n + 1))) 33 (5 * (n + 1) + 0) (nI u0)) (p := n + 1) (m := n + 1) (k := 1) (I := 5) (v := u1) (by simp (disch := omega) only [mset_cell]; exact V31) (by omega) (by omega) (by omega) (by simp (disch := omega) only [mset_cell]; rw [V38, w1, z1]) y1 (by simp (disch := omega) only [mset_cell, mset_same]) (by omega) (by omega)
      have s2 := af_s (M := mset (mset (mset V 32 0 (nI (n + 1))) 33 (5 * (n + 1) + 0) (nI u0)) 33 (5 * (n + 1) + 1) (nI u1)) (p := n + 1) (m := n + 1) (k := 2) (I := 5) (v := u2) (by simp (disch := omega) only [mset_cell]; exact V31) (by omega) (by omega) (by omega) (by simp (disch := omega) only [mset_cell]; rw [V38, w2, z2]) y2 (by simp (disch := omega) only [mset_cell, mset_same]) (by omega) (by omega)
      have s3 := af_s (M := mset (mset (mset (mset V 32 0 (nI (n + 1))) 33 (5 * (n + 1) + 0) (nI u0)) 33 (5 * (n + 1) + 1) (nI u1)) 33 (5 * (n + 1) + 2) (nI u2)) (p := n + 1) (m := n + 1) (k := 3) (I := 5) (v := u3) (by simp (disch := omega) only [mset_cell]; exact V31) (by omega) (by omega) (by omega) (by simp (disch := omega) only [mset_cell]; rw [V38, w3, z3]) y3 (by simp (disch := omega) only [mset_cell, mset_same]) (by omega) (by omega)
      have s4 := af_s (M := mset (mset (mset (mset (mset V 32 0 (nI (n + 1))) 33 (5 * (n + 1) + 0) (nI u0)) 33 (5 * (n + 1) + 1) (nI u1)) 33 (5 * (n + 1) + 2) (nI u2)) 33 (5 * (n + 1) + 3) (nI u3)) (p := n + 1) (m := n + 1) (k := 4) (I := 5) (v := u4) (by simp (disch := omega) only [mset_cell]; exact V31) (by omega) (by omega) (by omega) (by simp (disch := omega) only [mset_cell]; rw [V38, w4, z4]) y4 (by simp (disch := omega) only [mset_cell, mset_same]) (by omega) (by omega)
      unfold pX7_apply pX7_applyFacts
      rw [if_neg (show ¬ nI 1 = 0 by decide), if_pos (show nI 1 = 1 from rfl), bnd_eq, q0, mset_same, show fuel = 5994 + 1 + 1 + 1 + 1 + 1 + 1 from rfl, show ((0 : Int32), mset V 32 0 (nI (n + 1))) = (nI 0, mset V 32 0 (nI (n + 1))) from rfl, itr_s s0, itr_s s1, itr_s s2, itr_s s3, itr_s s4, itr_e (af_e (I := 5) (by simp (disch := omega) only [mset_cell]; exact V31) (by omega)), Option.bind_some, Option.bind_some, hV']
    · rw [hV']
      refine DR_c (M1 := mset (mset (mset (mset (mset (mset V 32 0 (nI (n + 1))) 33 (5 * (n + 1) + 0) (nI u0)) 33 (5 * (n + 1) + 1) (nI u1)) 33 (5 * (n + 1) + 2) (nI u2)) 33 (5 * (n + 1) + 3) (nI u3)) 33 (5 * (n + 1) + 4) (nI u4)) (M2 := R) ?_ (fun _ _ _ => rfl) (by rw [g9.1 1 (by omega)])
      rw [hR]
      exact DR_fact (p := n + 1) (w := 4) (DR_fact (p := n + 1) (w := 3) (DR_fact (p := n + 1) (w := 2) (DR_fact (p := n + 1) (w := 1) (DR_fact (p := n + 1) (w := 0) (DR_more dr2 hn) (by omega) (by omega) y0 (by omega)) (by omega) (by omega) y1 (by omega)) (by omega) (by omega) y2 (by omega)) (by omega) (by omega) y3 (by omega)) (by omega) (by omega) y4 (by omega)
end STA
