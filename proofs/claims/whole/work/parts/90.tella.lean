/-! PURE: one statement, whichever -/
section TELL
variable {B : Nat → Nat} {t : Nat}
def OutT (t p : Nat) (tw : Int32) (M1 M2 : Mm) (ref : Option Mm) : Prop :=
  (∃ M1' M2' fz, pX7_readStatement tw M1 = some (0, M1') ∧ ref = some M2' ∧ M1' 31 5 = nI fz ∧ M2' 0 5 = nI fz ∧ 1 ≤ fz ∧ fz < 10000 ∧ (∀ c, c < 31 ∨ 38 < c → M1' c = M1 c) ∧ H2 M2 M2') ∨
  ∃ V V' M2' q n r s, pX7_readStatement tw M1 = some (1, V) ∧ pX7_apply tw V = some V' ∧ ref = some M2' ∧ V' 31 8 = nI (q + 1) ∧ M2' 0 7 = nI q ∧ M2' 0 5 = 0 ∧ p < q + 1 ∧ q + 1 ≤ t ∧ DR n r s V' M2' ∧ V' 31 5 = M1 31 5 ∧ (∀ c, c < 31 ∨ 38 < c → V' c = M1 c) ∧ H2 M2 M2'
theorem out_t {p p' w : Nat} {M1 M2 M2' : Mm} {ref ref' : Option Mm} (h : Out t p' w M1 M2' ref) (hp : p ≤ p') (hm : H2 M2 M2') (hr : ref' = ref) : OutT t p (nI w) M1 M2 ref' := by
  rw [hr]
  rcases h with ⟨A, D, fz, h1, h2, h3, h4, h5, h6, h7, h8⟩ | ⟨V, V', D, q, n, r, s, h1, h2, h3, h4, h5, h6, h7, h8, h9, h10, h11, h12⟩
  · exact Or.inl ⟨A, D, fz, h1, h2, h3, h4, h5, h6, h7, H2_t hm h8⟩
  · exact Or.inr ⟨V, V', D, q, n, r, s, h1, h2, h3, h4, h5, h6, by omega, h8, h9, h10, h11, H2_t hm h12⟩
theorem cd_0 : (((((pX9_letters 4 5 16) * 32) + 15) * 32) + 20) = nI (cdN 0) := by decide +kernel
theorem cd_1 : pX9_letters 0 20 15 = nI (cdN 1) := by decide +kernel
theorem cd_2 : pX9_letters 19 5 20 = nI (cdN 2) := by decide +kernel
theorem cd_3 : pX9_letters 18 15 23 = nI (cdN 3) := by decide +kernel
theorem cd_4 : pX9_letters 6 12 25 = nI (cdN 4) := by decide +kernel
theorem fails_n {M : Mm} {k q : Nat} (h : M 0 5 = 0) (h8 : M 0 8 = nI q) : pX9_fails (nI k) (M 0 8) M = mset M 0 5 (nI (k + 8 * q)) := by
  rw [h8]
  exact fails_0 h
theorem stm {A D : Mm} {q n r s : Nat} (h1 : TXA B t A) (h2 : TXD B t D) (hq : q < t) (hqq : rnd isBl B t q = q) (a7 : A 31 7 = nI q) (a6 : A 31 6 = nI (tk B t q)) (a8 : A 31 8 = nI (te B t q)) (d7 : D 0 7 = nI q) (d5 : D 0 5 = 0) (hD : DR n r s A D) : ∃ tw, pX7_whatIsTold A = some tw ∧ OutT t q tw A D ((pX9_statement D).bind semi) := by
  have t3 := h1.1
  obtain ⟨v, D2, e, g, w5, w8, hv⟩ := word_r (p := q) h2 (by omega) d7
  rw [hqq] at w8 hv
  have hv' : (tk B t q ≠ 1 ∧ v = 0) ∨ (tk B t q = 1 ∧ v = if te B t q - q ≤ 6 then nI (wcode B q (te B t q - q)) else 0) := by
    rcases hv with h | ⟨x, _, y⟩
    · exact Or.inl h
    · exact Or.inr ⟨x, y⟩
  have W := fun w (hw : w < 5) => iw (w := w) h1 a7 a6 a8 (by omega) hw v hv'
  obtain ⟨b0, x0, y0⟩ := W 0 (by omega)
  obtain ⟨b1, x1, y1⟩ := W 1 (by omega)
  obtain ⟨b2, x2, y2⟩ := W 2 (by omega)
  obtain ⟨b3, x3, y3⟩ := W 3 (by omega)
  obtain ⟨b4, x4, y4⟩ := W 4 (by omega)
  have D5 : D2 0 5 = 0 := by rw [w5]; exact d5
  have hDt : TXD B t D2 := TXD_f h2 g
  have hD2 : DR n r s A D2 := DR_c hD (fun _ _ _ => rfl) (g.1 1 (by omega))
  have tb := te_b (B := B) (show q ≤ t by omega)
  -- where a word stands, the reference stands behind it
  have at2 : ∀ w, w < 5 → v = nI (cdN w) → D2 0 7 = nI (te B t q) := by
    intro w hw e2
    rcases hv with ⟨_, h⟩ | ⟨_, h, _⟩
    · exfalso
      rw [h] at e2
      have hw' : w = 0 ∨ w = 1 ∨ w = 2 ∨ w = 3 ∨ w = 4 := by omega
      rcases hw' with rfl | rfl | rfl | rfl | rfl <;> exact absurd e2 (by decide)
    · exact h
  unfold pX9_statement pX7_whatIsTold
  rw [e, Option.bind_some, bnd_eq, cd_0, cd_1, cd_2, cd_3, cd_4, x0, x1, x2, x3, x4]
  dsimp only
  cases b0 with
  | true =>
    have z := y0.mp rfl
    refine ⟨0, rfl, ?_⟩
    rw [if_pos z]
    exact out_t (w := 0) (st_depot h1 hDt tb.2 a8 (at2 0 (by omega) z) D5 hD2) (by omega) (H2_g g) rfl
  | false =>
    rw [if_neg (show ¬ v = nI (cdN 0) from fun z => by have := y0.mpr z; cases this)]
    cases b1 with
    | true =>
      have z := y1.mp rfl
      refine ⟨1, rfl, ?_⟩
      rw [if_pos z, r_customers, show D2 1 0 = nI n from hD2.1.2.2.1, Option.bind_some]
      have n8 : n ≤ 8 := hD2.1.1
      by_cases c8 : n = 8
      · rw [if_pos (show nI n = 8 by rw [c8]; rfl), show pX9_fails 3 (D2 0 8) D2 = _ from fails_n (k := 3) D5 w8, bnd_eq, bnd_eq]
        have nf : ¬ (mset D2 0 5 (nI (3 + 8 * q))) 0 5 = 0 := by rw [mset_same]; exact nz (by omega) (by omega)
        generalize hN : mset D2 0 5 (nI (3 + 8 * q)) = N at *
        rw [show pX9_numberOf 0 N = _ from nof_eq (k := 0) (by omega) N, nin_f nf, Option.bind_some, bnd_eq]
        dsimp only
        rw [show pX9_numberOf 1 N = _ from nof_eq (k := 1) (by omega) N, nin_f nf, Option.bind_some, bnd_eq]
        dsimp only
        rw [show pX9_numberOf 2 N = _ from nof_eq (k := 2) (by omega) N, nin_f nf, Option.bind_some, bnd_eq]
        dsimp only
        rw [show pX9_numberOf 3 N = _ from nof_eq (k := 3) (by omega) N, nin_f nf, Option.bind_some, bnd_eq]
        dsimp only
        rw [show pX9_numberOf 4 N = _ from nof_eq (k := 4) (by omega) N, nin_f nf, Option.bind_some, bnd_eq]
        dsimp only
        rw [if_neg nf, Option.bind_some, semi_f nf]
        refine Or.inl ⟨mset A 31 5 (nI (3 + 8 * q)), N, 3 + 8 * q, ?_, rfl, mset_same _ _ _ _, by rw [← hN, mset_same], by omega, by omega, fun c hc => mset_cell (by omega), ?_⟩
        · unfold pX7_readStatement
          rw [if_neg (show ¬ (1 : Int32) = -1 by decide), if_pos rfl, if_pos (show (8 : Int32) ≤ A 32 0 by rw [show A 32 0 = nI n from hD.1.2.1, c8]; decide), show pX7_refuse 3 A = _ from refuse_c (k := 3) a7, bnd_eq, Option.bind_some, Sum.elim_inr]
          dsimp only
          rw [and_0]
        · rw [← hN]
          exact H2_t (H2_g g) (H2_g (G1_s (by omega)))
      · rw [if_neg (show ¬ nI n = 8 by show ¬ nI n = nI 8; rw [eq_nI] <;> omega), bnd_eq]
        exact out_t (w := 1) (st_to h1 hDt tb.2 a8 (at2 1 (by omega) z) D5 hD2 (by omega)) (by omega) (H2_g g) rfl
    | false =>
      rw [if_neg (show ¬ v = nI (cdN 1) from fun z => by have := y1.mpr z; cases this)]
      cases b2 with
      | true =>
        have z := y2.mp rfl
        refine ⟨2, rfl, ?_⟩
        rw [if_pos z]
        exact out_t (w := 2) (st_set h1 hDt tb.2 a8 (at2 2 (by omega) z) D5 hD2) (by omega) (H2_g g) rfl
      | false =>
        rw [if_neg (show ¬ v = nI (cdN 2) from fun z => by have := y2.mpr z; cases this)]
        cases b3 with
        | true =>
          have z := y3.mp rfl
          refine ⟨3, rfl, ?_⟩
          rw [if_pos z]
          exact out_t (w := 3) (st_row h1 hDt tb.2 a8 (at2 3 (by omega) z) D5 hD2) (by omega) (H2_g g) rfl
        | false =>
          rw [if_neg (show ¬ v = nI (cdN 3) from fun z => by have := y3.mpr z; cases this)]
          cases b4 with
          | true =>
            have z := y4.mp rfl
            refine ⟨4, rfl, ?_⟩
            have s70 : D2 1 70 = nI s := (plan_rs hD2.2.2).2.2.2.1
            have s8 : s ≤ 8 := (plan_rs hD2.2.2).2.1
            rw [if_pos z, r_sorties, s70, Option.bind_some]
            by_cases c8 : s = 8
            · rw [if_pos (show nI s = 8 by rw [c8]; rfl), show pX9_fails 3 (D2 0 8) D2 = _ from fails_n (k := 3) D5 w8, bnd_eq, bnd_eq]
              have nf : ¬ (mset D2 0 5 (nI (3 + 8 * q))) 0 5 = 0 := by rw [mset_same]; exact nz (by omega) (by omega)
              generalize hN : mset D2 0 5 (nI (3 + 8 * q)) = N at *
              rw [nin_f nf, Option.bind_some, bnd_eq]
              dsimp only
              rw [nin_f nf, Option.bind_some, bnd_eq]
              dsimp only
              rw [r_customers, Option.bind_some, nin_f nf, Option.bind_some, bnd_eq]
              dsimp only
              rw [nin_f nf, Option.bind_some, bnd_eq]
              dsimp only
              rw [if_neg nf, Option.bind_some, semi_f nf]
              refine Or.inl ⟨mset A 31 5 (nI (3 + 8 * q)), N, 3 + 8 * q, ?_, rfl, mset_same _ _ _ _, by rw [← hN, mset_same], by omega, by omega, fun c hc => mset_cell (by omega), ?_⟩
              · unfold pX7_readStatement
                rw [if_neg (show ¬ (4 : Int32) = -1 by decide), if_neg (show ¬ (4 : Int32) = 1 by decide), Option.bind_some, Sum.elim_inl, if_pos rfl, if_neg (show ¬ A 35 1 < 8 by rw [show A 35 1 = nI s from (plan_rs hD.2.2).2.2.1, c8]; decide), show pX7_refuse 3 A = _ from refuse_c (k := 3) a7, bnd_eq, Option.bind_some, Sum.elim_inr]
                dsimp only
                rw [and_0]
              · rw [← hN]
                exact H2_t (H2_g g) (H2_g (G1_s (by omega)))
            · rw [if_neg (show ¬ nI s = 8 by show ¬ nI s = nI 8; rw [eq_nI] <;> omega), bnd_eq]
              exact out_t (w := 4) (st_fly h1 hDt tb.2 a8 (at2 4 (by omega) z) D5 hD2 (by omega)) (by omega) (H2_g g) rfl
          | false =>
            rw [if_neg (show ¬ v = nI (cdN 4) from fun z => by have := y4.mpr z; cases this)]
            refine ⟨-1, rfl, ?_⟩
            have nf : ¬ (mset D2 0 5 (nI (1 + 8 * q))) 0 5 = 0 := by rw [mset_same]; exact nz (by omega) (by omega)
            rw [show pX9_fails 1 (D2 0 8) D2 = _ from fails_n (k := 1) D5 w8, bnd_eq, Option.bind_some, semi_f nf]
            refine Or.inl ⟨mset A 31 5 (nI (1 + 8 * q)), _, 1 + 8 * q, ?_, rfl, mset_same _ _ _ _, mset_same _ _ _ _, by omega, by omega, fun c hc => mset_cell (by omega), H2_t (H2_g g) (H2_g (G1_s (by omega)))⟩
            unfold pX7_readStatement
            rw [if_pos rfl, show pX7_refuse 1 A = _ from refuse_c (k := 1) a7, bnd_eq]
            dsimp only
            rw [and_0]
/-! the loop -/
def TS (B : Nat → Nat) (t p n r s : Nat) (A D : Mm) : Prop := TXA B t A ∧ TXD B t D ∧ p ≤ t ∧ A 31 8 = nI p ∧ D 0 7 = nI p ∧ D 0 5 = 0 ∧ A 31 5 = 0 ∧ DR n r s A D
def TO (fu gu cnt : Nat) (A D : Mm) : Prop := (∃ A' D' n' r' s' c', itr pX7_read_L28 fu (nI cnt, A) = some (.inr (nI c', A')) ∧ itr pX9_tell_L57 gu (nI cnt, D) = some (nI c', D') ∧ c' ≤ 300 ∧ D' 0 5 = 0 ∧ A' 31 5 = 0 ∧ DR n' r' s' A' D' ∧ (∀ c, c < 31 ∨ 38 < c → A' c = A c) ∧ H2 D D') ∨ ∃ A' D' fz c', itr pX7_read_L28 fu (nI cnt, A) = some (.inr (-1, A')) ∧ itr pX9_tell_L57 gu (nI cnt, D) = some (c', D') ∧ A' 31 5 = nI fz ∧ D' 0 5 = nI fz ∧ 1 ≤ fz ∧ fz < 10000 ∧ (∀ c, c < 31 ∨ 38 < c → A' c = A c) ∧ H2 D D'
theorem tell_s (p cnt fu gu n r s : Nat) (A D : Mm) (hT : TS B t p n r s A D) (hc : cnt ≤ 300) (hfu : 0 < fu) (hgu : 1 < gu) (ih : p < t → ∀ p', p < p' → ∀ (n' r' s' : Nat) (A' D' : Mm), TS B t p' n' r' s' A' D' → TO (fu - 1) (gu - 1) (cnt + 1) A' D') : TO fu gu cnt A D := by
  obtain ⟨fu, rfl⟩ : ∃ k, fu = k + 1 := ⟨fu - 1, by omega⟩
  obtain ⟨gu, rfl⟩ : ∃ k, gu = k + 1 + 1 := ⟨gu - 2, by omega⟩
  obtain ⟨h1, h2, h3, h4, h5, h6, h7, h8⟩ := hT
  have t3 := h1.1
  obtain ⟨V, e1, f1, k1, k2, k3, k4⟩ := step_c h1 h3 h4
  obtain ⟨N, e2, g1, g2, g3⟩ := here_r h2 h3 h5
  have qb := rnd_b (P := isBl) (B := B) h3
  have qq := rq (B := B) (t := t) h3
  generalize rnd isBl B t p = q at *
  have gN : G1 D N := ⟨g1, fun i a b c => g2 i b⟩
  have nc : ¬ (300 : Int32) < nI cnt := by show ¬ nI 300 < nI cnt; rw [lt_nI] <;> omega
  have tl := tk_le B t q
  have hV : DR n r s V N := DR_c h8 (fun c a b => f1.1 c (by omega)) (g1 1 (by omega))
  by_cases cq : q < t
  · have tk0 : ¬ tk B t q = 0 := by
      unfold tk kI
      rw [if_pos cq]
      repeat' split
      all_goals omega
    have b256 := (h1.2.2 q cq).1
    obtain ⟨tw, w1, w2⟩ := stm (TXA_f h1 f1) (TXD_f h2 gN) cq qq k1 k2 k3 g3 (by rw [g2 5 (by omega)]; exact h6) hV
    have st0 : ¬ V 31 6 = 0 := by rw [k2]; show ¬ nI (tk B t q) = nI 0; rw [eq_nI] <;> omega
    have neb : ¬ (if q < t then nI (B q) else -1) = (-1 : Int32) := by rw [if_pos cq]; exact ne_nI (by omega)
    -- the reference's step
    have refS : ∀ D', (pX9_statement N).bind semi = some D' → pX9_tell_L57 (nI cnt, D) = some (.inl (nI (cnt + 1), mset D' 0 7 (D' 0 7 + 1))) := by
      intro D' hD'
      cases hS : pX9_statement N with
      | none =>
        rw [hS] at hD'
        cases hD'
      | some S =>
        rw [hS, Option.bind_some] at hD'
        unfold pX9_tell_L57
        dsimp only
        rw [if_pos h6, e2, Option.bind_some, if_neg neb, hS, Option.bind_some]
        refine Eq.trans (congrArg (fun o : Option Mm => o.bind fun j30 => bnd (mset j30 0 7 ((j30 0 7) + 1)) fun M33 => some (Sum.inl (nI cnt + 1, M33))) (show _ = some D' from hD')) ?_
        rw [Option.bind_some, bnd_eq, show nI cnt + 1 = nI (cnt + 1) from nI_add cnt 1]
    rcases w2 with ⟨A1, D1, fz, z1, z2, z3, z4, z5, z6, z7, z8⟩ | ⟨V1, V2, D1, q', n', r', s', z1, z2, z3, z4, z5, z6, z7, z8, z9, z10, z11, z12⟩
    · refine Or.inr ⟨A1, mset D1 0 7 (D1 0 7 + 1), fz, nI (cnt + 1), itr_e ?_, ?_, z3, by rw [mset_slot (by omega)]; exact z4, z5, z6, fun c hc => by rw [z7 c hc, f1.1 c (by omega)], H2_t (H2_g gN) (H2_t z8 (H2_g (G1_s (by omega))))⟩
      · unfold pX7_read_L28
        dsimp only
        rw [if_neg nc, e1, Option.bind_some, if_neg st0, w1, Option.bind_some, z1, Option.bind_some, if_pos rfl]
      · rw [itr_s (refS D1 z2), itr_e]
        unfold pX9_tell_L57
        dsimp only
        rw [if_neg (show ¬ (mset D1 0 7 (D1 0 7 + 1)) 0 5 = 0 by rw [mset_slot (by omega), z4]; exact nz z5 z6)]
    · have rs := ih (by omega) (q' + 1) (by omega) n' r' s' V2 (mset D1 0 7 (D1 0 7 + 1)) ⟨TXA_c (TXA_f h1 f1) (z11 29 (by omega)) (z11 30 (by omega)), by
        have a := TXD_f h2 gN
        unfold TXD at a ⊢
        rw [mset_cell (show 3 ≠ 0 by omega), mset_slot (show 6 ≠ 7 by omega), z12.1 3 (by omega) (by omega), z12.2 6 (by omega) (by omega) (by omega)]
        exact a, z8, z4, by rw [mset_same, z5]; exact nI_add q' 1, by rw [mset_slot (by omega)]; exact z6, by rw [z10, f1.2 5 (by omega)]; exact h7, DR_c z9 (fun _ _ _ => rfl) (mset_cell (by omega))⟩
      have sA : itr pX7_read_L28 (fu + 1) (nI cnt, A) = itr pX7_read_L28 fu (nI (cnt + 1), V2) := by
        rw [itr_s]
        unfold pX7_read_L28
        dsimp only
        rw [if_neg nc, e1, Option.bind_some, if_neg st0, w1, Option.bind_some, z1, Option.bind_some, if_neg one_ne, z2, Option.bind_some, show nI cnt + 1 = nI (cnt + 1) from nI_add cnt 1]
      have sD : itr pX9_tell_L57 (gu + 1 + 1) (nI cnt, D) = itr pX9_tell_L57 (gu + 1) (nI (cnt + 1), mset D1 0 7 (D1 0 7 + 1)) := by rw [itr_s (refS D1 z3)]
      unfold TO at rs ⊢
      rw [show fu + 1 - 1 = fu by omega, show gu + 1 + 1 - 1 = gu + 1 by omega] at rs
      rw [sA, sD]
      have hh : H2 D (mset D1 0 7 (D1 0 7 + 1)) := H2_t (H2_g gN) (H2_t z12 (H2_g (G1_s (by omega))))
      have ff : ∀ c, c < 31 ∨ 38 < c → V2 c = A c := fun c hc => by rw [z11 c hc, f1.1 c (by omega)]
      rcases rs with ⟨A', D', a1, a2, a3, c', r1, r2, r3, r4, r5, r6, r7, r8⟩ | ⟨A', D', fz, c', r1, r2, r3, r4, r5, r6, r7, r8⟩
      · exact Or.inl ⟨A', D', a1, a2, a3, c', r1, r2, r3, r4, r5, r6, fun c hc => by rw [r7 c hc, ff c hc], H2_t hh r8⟩
      · exact Or.inr ⟨A', D', fz, c', r1, r2, r3, r4, r5, r6, fun c hc => by rw [r7 c hc, ff c hc], H2_t hh r8⟩
  · have tk0 : tk B t q = 0 := by
      unfold tk
      rw [if_neg cq]
    refine Or.inl ⟨V, N, n, r, s, cnt, itr_e ?_, itr_e ?_, hc, by rw [g2 5 (by omega)]; exact h6, by rw [f1.2 5 (by omega)]; exact h7, hV, fun c hc => f1.1 c (by omega), H2_g gN⟩
    · unfold pX7_read_L28
      dsimp only
      rw [if_neg nc, e1, Option.bind_some, if_pos (show V 31 6 = 0 by rw [k2, tk0]; rfl)]
    · unfold pX9_tell_L57
      dsimp only
      rw [if_pos h6, e2, Option.bind_some, if_pos (show (if q < t then nI (B q) else -1) = (-1 : Int32) by rw [if_neg cq])]
theorem tell_l : ∀ (m p cnt fu gu n r s : Nat) (A D : Mm), t - p ≤ m → cnt + m ≤ 300 → TS B t p n r s A D → m < fu → m + 1 < gu → TO fu gu cnt A D
  | 0, p, cnt, fu, gu, n, r, s, A, D, hm, hc, hT, hfu, hgu => tell_s p cnt fu gu n r s A D hT (by omega) (by omega) (by omega) (fun h => absurd h (by have := hT.2.2.1; omega))
  | m + 1, p, cnt, fu, gu, n, r, s, A, D, hm, hc, hT, hfu, hgu => tell_s p cnt fu gu n r s A D hT (by omega) (by omega) (by omega) (fun hp p' hp' n' r' s' A' D' hT' => tell_l m p' (cnt + 1) (fu - 1) (gu - 1) n' r' s' A' D' (by omega) (by omega) hT' (by omega) (by omega))
end TELL
