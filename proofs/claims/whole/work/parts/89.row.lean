/-! PURE: row -/
section ROW
variable {B : Nat → Nat} {t : Nat}
theorem rq {p : Nat} (hp : p ≤ t) : rnd isBl B t (rnd isBl B t p) = rnd isBl B t p := rnd_n (rnd_at hp)
def RowV (g n : Nat) (M1 M2 : Mm) : Prop := ∀ i, i < g → ∃ c, 1 ≤ c ∧ c ≤ n ∧ M1 38 i = nI c ∧ M2 1 (61 + i) = nI c
def RowO (B : Nat → Nat) (t n g p fu gu : Nat) (M1 M2 : Mm) : Prop := (∃ M1' M2' fz, itr (pX7_readStatement_L56 (nI 3)) fu M1 = some (.inr (0, M1')) ∧ itr pX9_statement_L236 gu M2 = some M2' ∧ M1' 31 5 = nI fz ∧ M2' 0 5 = nI fz ∧ 1 ≤ fz ∧ fz < 10000 ∧ (∀ c, c ≠ 31 → c ≠ 38 → M1' c = M1 c) ∧ H2 M2 M2') ∨ ∃ V M2' q g', itr (pX7_readStatement_L56 (nI 3)) fu M1 = some (.inr (1, V)) ∧ itr pX9_statement_L236 gu M2 = some M2' ∧ V 31 8 = nI (q + 1) ∧ M2' 0 7 = nI q ∧ M2' 0 5 = 0 ∧ p < q + 1 ∧ q + 1 ≤ t ∧ tk B t q = 3 ∧ rnd isBl B t q = q ∧ V 31 4 = nI g' ∧ (g ≤ g' ∧ g' ≤ 8) ∧ M2' 1 60 = nI g' ∧ RowV g' n V M2' ∧ (∀ c, c ≠ 31 → c ≠ 38 → V c = M1 c) ∧ V 31 5 = M1 31 5 ∧ (∀ i, i < 60 ∨ 69 ≤ i → M2' 1 i = M2 1 i) ∧ (∀ i, 61 + g' ≤ i → i < 69 → M2' 1 i = M2 1 i) ∧ H2 M2 M2'
theorem row_s {n : Nat} (hn : n ≤ 8) (g p fu gu : Nat) (M1 M2 : Mm) (hg : g ≤ 8) (J : JN B t p g M1 M2) (h60 : M2 1 60 = nI g) (h32 : M1 32 0 = nI n) (h10 : M2 1 0 = nI n) (hv : RowV g n M1 M2) (hfu : 2 < fu) (hgu : 2 < gu) (ih : g < 8 → ∀ (p' : Nat) (M1' M2' : Mm), JN B t p' (g + 1) M1' M2' → M2' 1 60 = nI (g + 1) → M1' 32 0 = nI n → M2' 1 0 = nI n → RowV (g + 1) n M1' M2' → RowO B t n (g + 1) p' (fu - 1) (gu - 1) M1' M2') : RowO B t n g p fu gu M1 M2 := by
  obtain ⟨fu, rfl⟩ : ∃ k, fu = k + 1 := ⟨fu - 1, by omega⟩
  obtain ⟨gu, rfl⟩ : ∃ k, gu = k + 1 + 1 := ⟨gu - 2, by omega⟩
  obtain ⟨j1, j2, j3, j4, j5, j6, j7⟩ := J
  have t3 := j1.1
  obtain ⟨V, f1, k1, k2⟩ := nrow hg j1 j3 j4 j7 h32
  obtain ⟨N, e1, g1, g2, g3⟩ := here_r j2 j3 j5
  have qb := rnd_b (P := isBl) (B := B) j3
  have qq := rq (B := B) (t := t) j3
  generalize rnd isBl B t p = q at *
  have gN : G1 M2 N := ⟨g1, fun i a b c => g2 i b⟩
  have hNt : TXD B t N := TXD_f j2 gN
  have N5 : N 0 5 = 0 := by rw [g2 5 (by omega)]; exact j6
  have tl := tk_le B t q
  by_cases c3 : tk B t q = 3
  · rw [if_pos c3] at k2
    have c4 := tk3_iff.mp c3
    have te1 : te B t q = q + 1 := by
      unfold te
      rw [if_pos c4.1, if_pos c4.2]
    rw [te1] at k1
    refine Or.inr ⟨V, N, q, g, itr_e k2, itr_e ?_, k1, g3, N5, by omega, by omega, c3, qq, by rw [f1.2 4 (by omega)]; exact j7, ⟨Nat.le_refl _, hg⟩, by rw [g1 1 (by omega)]; exact h60, fun i hi => ?_, fun c a b => f1.1 c a, f1.2 5 (by omega), fun i _ => by rw [g1 1 (by omega)], fun i _ _ => by rw [g1 1 (by omega)], H2_g gN⟩
    · unfold pX9_statement_L236
      rw [if_pos j6, e1, Option.bind_some, if_pos (show (if q < t then nI (B q) else -1) = 59 by rw [if_pos c4.1, c4.2]; rfl)]
    · rw [f1.1 38 (by omega), g1 1 (by omega)]
      exact hv i hi
  · rw [if_neg c3] at k2
    have n59 : ¬ (if q < t then nI (B q) else -1) = (59 : Int32) := by
      by_cases cq : q < t
      · rw [if_pos cq, (cb_f _ (hNt.2.2 q cq).1).2.2.1]
        exact fun g => c3 (tk3_iff.mpr ⟨cq, g⟩)
      · rw [if_neg cq]
        decide
    obtain ⟨v, N2, e2, g4, hc⟩ := nin_r (p := q) 1 (nI n) hNt (by omega) g3 N5
    rw [qq] at hc
    have N10 : N 1 0 = nI n := by rw [g1 1 (by omega)]; exact h10
    have N260 : N2 1 60 = nI g := by rw [g4.1 1 (by omega), g1 1 (by omega)]; exact h60
    have ld : ald N2 1 160 60 = some (nI g) := by rw [show ald N2 1 160 60 = some (N2 1 60) from ald_nI (i := 60) (by omega) (by omega), N260]
    have fz_step : ∀ (M : Mm), ¬ M 0 5 = 0 → pX9_statement_L236 M = some (.inr M) := fun M h => by
      unfold pX9_statement_L236
      rw [if_neg h]
    have bad : ∀ fz, N2 0 5 = nI fz → 1 ≤ fz → fz < 10000 → itr pX9_statement_L236 (gu + 1 + 1) M2 = some N2 := by
      intro fz h5 ha hb
      have nf : ¬ N2 0 5 = 0 := by rw [h5]; exact nz ha hb
      rw [itr_s (s' := N2), itr_e (fz_step N2 nf)]
      have rg : pX9_rowGoesOn N = some N2 := by
        unfold pX9_rowGoesOn
        rw [r_customers, N10, Option.bind_some, e2, Option.bind_some, bnd_eq, if_neg nf, Option.bind_some, if_neg nf]
      unfold pX9_statement_L236
      rw [if_pos j6, e1, Option.bind_some, if_neg n59, rg, Option.bind_some]
    rcases hc with ⟨c1, c2, rfl, c4, c5, c6⟩ | ⟨c1, c2, c4⟩ | ⟨c1, c2⟩
    · rw [if_pos c1, if_neg c2] at k2
      have qt := tk2_lt (Or.inl c1)
      have tg := te_gt (B := B) qt
      have tb := te_b (B := B) (show q ≤ t by omega)
      obtain ⟨u, u1, u2, u3⟩ := val_n (lo := 1) (hi := n) c2 (by omega) (by omega)
      by_cases g8 : g = 8
      · rw [if_pos g8] at k2
        have fl : pX9_fails 3 (N2 0 8) N2 = mset N2 0 5 (nI (3 + 8 * q)) := by
          rw [c6]
          exact fails_0 (k := 3) c4
        have nf : ¬ (mset N2 0 5 (nI (3 + 8 * q))) 0 5 = 0 := by rw [mset_same]; exact nz (by omega) (by omega)
        refine Or.inl ⟨_, mset N2 0 5 (nI (3 + 8 * q)), 3 + 8 * q, itr_e k2, ?_, mset_same _ _ _ _, mset_same _ _ _ _, by omega, by omega, fun c a b => by rw [mset_cell a, f1.1 c a], H2_t (H2_g gN) (H2_t (H2_g g4) (H2_g (G1_s (by omega))))⟩
        rw [itr_s (s' := mset N2 0 5 (nI (3 + 8 * q))), itr_e (fz_step _ nf)]
        have rg : pX9_rowGoesOn N = some (mset N2 0 5 (nI (3 + 8 * q))) := by
          unfold pX9_rowGoesOn
          rw [r_customers, N10, Option.bind_some, e2, Option.bind_some, bnd_eq, if_pos c4, ld, Option.bind_some, if_pos (show nI g = 8 by rw [g8]; rfl), bnd_eq, fl, Option.bind_some, if_neg nf]
        unfold pX9_statement_L236
        rw [if_pos j6, e1, Option.bind_some, if_neg n59, rg, Option.bind_some]
      · rw [if_neg g8] at k2
        obtain ⟨A, hA⟩ : ∃ A, A = mset (mset V 38 g (tv B t q)) 31 4 (nI (g + 1)) := ⟨_, rfl⟩
        obtain ⟨R, hR⟩ : ∃ R, R = mset (mset N2 1 (61 + g) (tv B t q)) 1 60 (nI (g + 1)) := ⟨_, rfl⟩
        rw [← hA] at k2
        have Rc : ∀ c, c ≠ 1 → R c = N2 c := fun c hc => by rw [hR, mset_cell hc, mset_cell hc]
        have Ri : ∀ i, i ≠ 60 → i ≠ 61 + g → R 1 i = M2 1 i := fun i a b => by rw [hR, mset_slot a, mset_slot b, g4.1 1 (by omega), g1 1 (by omega)]
        have Ac : ∀ c, c ≠ 31 → c ≠ 38 → A c = M1 c := fun c a b => by rw [hA, mset_cell a, mset_cell b, f1.1 c a]
        have A38 : ∀ i, i ≠ g → A 38 i = M1 38 i := fun i hi => by rw [hA, mset_cell (by omega), mset_slot hi, f1.1 38 (by omega)]
        have hR2 : H2 M2 R := H2_t (H2_g gN) (H2_t (H2_g g4) ⟨fun c a b => Rc c b, fun i _ _ _ => by rw [Rc 0 (by omega)]⟩)
        have sR : itr pX9_statement_L236 (gu + 1 + 1) M2 = itr pX9_statement_L236 (gu + 1) R := by
          rw [itr_s]
          have rg : pX9_rowGoesOn N = some R := by
            unfold pX9_rowGoesOn
            rw [r_customers, N10, Option.bind_some, e2, Option.bind_some, bnd_eq, if_pos c4, ld, Option.bind_some, if_neg (show ¬ nI g = 8 by show ¬ nI g = nI 8; rw [eq_nI] <;> omega), Option.bind_some, if_pos c4, t_stopD N260 (by omega), Option.bind_some, hR]
          unfold pX9_statement_L236
          rw [if_pos j6, e1, Option.bind_some, if_neg n59, rg, Option.bind_some]
        have JJ : JN B t (te B t q) (g + 1) A R := ⟨TXA_c (TXA_f j1 f1) (by rw [hA, mset_cell (by omega), mset_cell (by omega)]) (by rw [hA, mset_cell (by omega), mset_cell (by omega)]), by
          have := TXD_f hNt g4
          unfold TXD at this ⊢
          rw [Rc 3 (by omega), Rc 0 (by omega)]
          exact this, tb.2, by rw [hA, mset_slot (by omega), mset_cell (by omega)]; exact k1, by rw [Rc 0 (by omega)]; exact c5, by rw [Rc 0 (by omega)]; exact c4, by rw [hA, mset_same]⟩
        have vv : RowV (g + 1) n A R := by
          intro i hi
          by_cases ci : i = g
          · subst ci
            refine ⟨u, u1, u2, ?_, ?_⟩
            · rw [hA, mset_cell (by omega), mset_same, u3]
            · rw [hR, mset_slot (by omega), mset_same, u3]
          · obtain ⟨c, d1, d2, d3, d4⟩ := hv i (by omega)
            exact ⟨c, d1, d2, by rw [A38 i ci]; exact d3, by rw [Ri _ (by omega) (by omega)]; exact d4⟩
        have rcc := ih (by omega) (te B t q) A R JJ (by rw [hR, mset_same]) (by rw [Ac 32 (by omega) (by omega)]; exact h32) (by rw [Ri 0 (by omega) (by omega)]; exact h10) vv
        unfold RowO at rcc ⊢
        rw [itr_s k2, sR]
        rw [show fu + 1 - 1 = fu by omega, show gu + 1 + 1 - 1 = gu + 1 by omega] at rcc
        rcases rcc with ⟨M1', M2', fz, r1, r2, r3, r4, r5, r6, r7, r8⟩ | ⟨V', M2', q', g', r1, r2, r3, r4, r5, r6, r7, r8, r9, r10, r11, r12, r13, r14, r15, r16, r17, r18⟩
        · exact Or.inl ⟨M1', M2', fz, r1, r2, r3, r4, r5, r6, fun c a b => by rw [r7 c a b, Ac c a b], H2_t hR2 r8⟩
        · refine Or.inr ⟨V', M2', q', g', r1, r2, r3, r4, r5, by omega, r7, r8, r9, r10, ⟨by have := r11.1; omega, r11.2⟩, r12, r13, fun c a b => by rw [r14 c a b, Ac c a b], by rw [r15, hA, mset_slot (by omega), mset_cell (by omega), f1.2 5 (by omega)], fun i hi => ?_, fun i a b => ?_, H2_t hR2 r18⟩
          · rw [r16 i hi, Ri i (by omega) (by omega)]
          · have := r11.1
            rw [r17 i a b, Ri i (by omega) (by omega)]
    · rw [if_pos c1, if_pos c2] at k2
      exact Or.inl ⟨_, N2, 2 + 8 * q, itr_e k2, bad _ c4 (by omega) (by omega), mset_same _ _ _ _, c4, by omega, by omega, fun c a b => by rw [mset_cell a, f1.1 c a], H2_t (H2_g gN) (H2_g g4)⟩
    · rw [if_neg c1] at k2
      exact Or.inl ⟨_, N2, 1 + 8 * q, itr_e k2, bad _ c2 (by omega) (by omega), mset_same _ _ _ _, c2, by omega, by omega, fun c a b => by rw [mset_cell a, f1.1 c a], H2_t (H2_g gN) (H2_g g4)⟩
theorem row_l {n : Nat} (hn : n ≤ 8) : ∀ (c g p fu gu : Nat) (M1 M2 : Mm), g + c = 8 → JN B t p g M1 M2 → M2 1 60 = nI g → M1 32 0 = nI n → M2 1 0 = nI n → RowV g n M1 M2 → c + 2 < fu → c + 2 < gu → RowO B t n g p fu gu M1 M2
  | 0, g, p, fu, gu, M1, M2, hg, J, h60, h32, h10, hv, hfu, hgu => row_s hn g p fu gu M1 M2 (by omega) J h60 h32 h10 hv (by omega) (by omega) (fun h => absurd h (by omega))
  | c + 1, g, p, fu, gu, M1, M2, hg, J, h60, h32, h10, hv, hfu, hgu => row_s hn g p fu gu M1 M2 (by omega) J h60 h32 h10 hv (by omega) (by omega) (fun _ p' M1' M2' J' a b d e => row_l hn c (g + 1) p' (fu - 1) (gu - 1) M1' M2' (by omega) J' a b d e (by omega) (by omega))
/-- the row that was read is laid -/
theorem apply_row {n : Nat} : ∀ (c k gg fu : Nat) (M : Mm), k + c = gg → gg ≤ 8 → M 31 4 = nI gg → M 35 0 = nI k → c < fu → ∃ M', itr pX7_applyRow_L9 fu (nI k, M) = some M' ∧ M' 35 0 = nI gg ∧ M' 35 1 = M 35 1 ∧ (∀ i, k ≤ i → i < gg → M' 36 i = M 38 i) ∧ (∀ i, i < k ∨ gg ≤ i → M' 36 i = M 36 i) ∧ ∀ c, c ≠ 35 → c ≠ 36 → M' c = M c
  | 0, k, gg, fu, M, hk, h8, h31, h35, hfu => by
    obtain ⟨fu, rfl⟩ : ∃ k, fu = k + 1 := ⟨fu - 1, by omega⟩
    refine ⟨M, itr_e ?_, by rw [h35, show k = gg by omega], rfl, fun i a b => absurd a (by omega), fun _ _ => rfl, fun _ _ _ => rfl⟩
    unfold pX7_applyRow_L9
    dsimp only
    rw [if_pos (show M 31 4 ≤ nI k by rw [h31, le_nI] <;> omega)]
  | c + 1, k, gg, fu, M, hk, h8, h31, h35, hfu => by
    obtain ⟨fu, rfl⟩ : ∃ k, fu = k + 1 := ⟨fu - 1, by omega⟩
    obtain ⟨V, hV⟩ : ∃ V, V = mset (mset M 36 k (M 38 k)) 35 0 (nI (k + 1)) := ⟨_, rfl⟩
    have ad : pX4_addStop 35 (M 38 k) M = some (1, V) := by
      unfold pX4_addStop
      rw [h35, if_pos (show nI k < 8 by show nI k < nI 8; rw [lt_nI] <;> omega), ast_nI (by omega) (by omega), Option.bind_some, mset_cell (by omega), h35, bnd_eq, show nI k + 1 = nI (k + 1) from nI_add k 1, hV]
    have vc : ∀ c, c ≠ 35 → c ≠ 36 → V c = M c := fun c a b => by rw [hV, mset_cell a, mset_cell b]
    obtain ⟨M', e, k1, k2, k3, k4, k5⟩ := apply_row (n := n) c (k + 1) gg fu V (by omega) h8 (by rw [vc 31 (by omega) (by omega)]; exact h31) (by rw [hV, mset_same]) (by omega)
    refine ⟨M', ?_, k1, by rw [k2, hV, mset_slot (by omega), mset_cell (by omega)], fun i a b => ?_, fun i hi => ?_, fun c a b => by rw [k5 c a b, vc c a b]⟩
    · rw [itr_s (s' := (nI (k + 1), V))]
      · exact e
      · unfold pX7_applyRow_L9
        dsimp only
        rw [if_neg (show ¬ M 31 4 ≤ nI k by rw [h31, le_nI] <;> omega), ald_nI (by omega) (by omega), Option.bind_some, ad, Option.bind_some, show nI k + 1 = nI (k + 1) from nI_add k 1]
    · by_cases ci : i = k
      · rw [ci, k4 k (by omega), hV, mset_cell (by omega), mset_same]
      · rw [k3 i (by omega) b, vc 38 (by omega) (by omega)]
    · rw [k4 i (by omega), hV, mset_cell (by omega), mset_slot (by omega)]
theorem st_row {M1 M2 : Mm} {p n r s : Nat} (h1 : TXA B t M1) (h2 : TXD B t M2) (hp : p ≤ t) (h8 : M1 31 8 = nI p) (h7 : M2 0 7 = nI p) (h5 : M2 0 5 = 0) (hD : DR n r s M1 M2) : Out t p 3 M1 M2 (((pX9_clears M2).bind fun v51 => (itr (pX9_statement_L236) fuel v51).bind fun x57 => some x57).bind semi) := by
  have rs := rs_in (M := M1) (w := 3) (by omega) (by omega) (by omega)
  obtain ⟨R, hR⟩ : ∃ R, R = mset (mset M2 1 60 0) 1 70 0 := ⟨_, rfl⟩
  have cl : pX9_clears M2 = some R := by
    unfold pX9_clears
    rw [show ∀ N : Mm, ast N 1 160 60 0 = some (mset N 1 60 0) from fun N => ast_nI (i := 60) (by omega) (by omega), Option.bind_some, show ∀ N : Mm, ast N 1 160 70 0 = some (mset N 1 70 0) from fun N => ast_nI (i := 70) (by omega) (by omega), Option.bind_some, hR]
  have Rc : ∀ c, c ≠ 1 → R c = M2 c := fun c hc => by rw [hR, mset_cell hc, mset_cell hc]
  have Ri : ∀ i, i ≠ 60 → i ≠ 70 → R 1 i = M2 1 i := fun i a b => by rw [hR, mset_slot b, mset_slot a]
  have hR2 : H2 M2 R := ⟨fun c _ b => Rc c b, fun i _ _ _ => by rw [Rc 0 (by omega)]⟩
  have n8 : n ≤ 8 := hD.1.1
  have J : JN B t p 0 (mset M1 31 4 0) R := jn_0 h1 (by unfold TXD at h2 ⊢; rw [Rc 3 (by omega), Rc 0 (by omega)]; exact h2) hp h8 (by rw [Rc 0 (by omega)]; exact h7) (by rw [Rc 0 (by omega)]; exact h5)
  have o := row_l n8 8 0 p fuel fuel (mset M1 31 4 0) R (by omega) J (by rw [hR, mset_slot (by omega), mset_same]; rfl) (by rw [mset_cell (by omega)]; exact hD.1.2.1) (by rw [Ri 0 (by omega) (by omega)]; exact hD.1.2.2.1) (fun i hi => absurd hi (by omega)) (by unfold fuel; omega) (by unfold fuel; omega)
  unfold RowO at o
  rw [cl, Option.bind_some]
  rcases o with ⟨A, N, fz, r1, r2, r3, r4, r5, r6, r7, r8⟩ | ⟨V, N, q, g', r1, r2, r3, r4, r5, r6, r7, r8, r9, r10, r11, r12, r13, r14, r15, r16, r17, r18⟩
  · have nf : ¬ N 0 5 = 0 := by rw [r4]; exact nz r5 r6
    rw [r2, Option.bind_some, Option.bind_some, semi_f nf]
    exact out_f rs r1 rfl r3 r4 r5 r6 (fun c hc => by rw [r7 c (by omega) (by omega), mset_cell (by omega)]) (H2_t hR2 r8)
  · have hNt : TXD B t N := by
      have a := J.2.1
      unfold TXD at a ⊢
      rw [r18.1 3 (by omega) (by omega), r18.2 6 (by omega) (by omega) (by omega)]
      exact a
    obtain ⟨N9, e9, g9, e97, hc9⟩ := semi_r (p := q) hNt (by omega) r4 r5
    rw [r9] at e97 hc9
    rw [r2, Option.bind_some, Option.bind_some, e9]
    have n95 : N9 0 5 = 0 := by
      rcases hc9 with ⟨_, h⟩ | ⟨h, _⟩
      · exact h
      · exact absurd r8 h
    obtain ⟨W, hW⟩ : ∃ W, W = mset (mset V 35 0 0) 35 1 0 := ⟨_, rfl⟩
    have wc : ∀ c, c ≠ 35 → W c = V c := fun c hc => by rw [hW, mset_cell hc, mset_cell hc]
    obtain ⟨V', a1, a2, a3, a4, a5, a6⟩ := apply_row (n := n) g' 0 g' fuel W (by omega) r11.2 (by rw [wc 31 (by omega)]; exact r10) (by rw [hW, mset_slot (by omega), mset_same]; rfl) (by unfold fuel; omega)
    have vc : ∀ c, c ≠ 35 → c ≠ 36 → V' c = V c := fun c x y => by rw [a6 c x y, wc c x]
    have vm : ∀ c, c ≠ 31 → c ≠ 38 → c ≠ 35 → c ≠ 36 → V' c = M1 c := fun c x y z w => by rw [vc c z w, r14 c x y, mset_cell x]
    have n91 : N9 1 = N 1 := g9.1 1 (by omega)
    refine Or.inr ⟨V, V', N9, q, n, g', 0, by rw [rs, r1]; rfl, ?_, rfl, by rw [vc 31 (by omega) (by omega)]; exact r3, e97, n95, r6, r7, ?_, by rw [vc 31 (by omega) (by omega), r15, mset_slot (by omega)], fun c hc => vm c (by omega) (by omega) (by omega) (by omega), H2_t hR2 (H2_t r18 (H2_g g9))⟩
    · unfold pX7_apply pX7_applyRow pX4_empty
      rw [if_neg (show ¬ nI 3 = 0 by decide), if_neg (show ¬ nI 3 = 1 by decide), if_neg (show ¬ nI 3 = 2 by decide), if_pos (show nI 3 = 3 from rfl), bnd_eq, bnd_eq, bnd_eq, ← hW, show itr pX7_applyRow_L9 fuel (0, W) = _ from a1, Option.bind_some, Option.bind_some]
    · obtain ⟨hL, hB, hP⟩ := hD
      obtain ⟨p1, p2, p3, p4, p5, p6, p7, p8, p9, p10⟩ := hP
      have s1 : sh V' 1 = sh M1 1 := vm 32 (by omega) (by omega) (by omega) (by omega)
      have s2 : sh V' 2 = sh M1 2 := vm 33 (by omega) (by omega) (by omega) (by omega)
      have s3 : sh V' 3 = sh M1 3 := vm 34 (by omega) (by omega) (by omega) (by omega)
      have s6 : sh V' 6 = sh M1 6 := vm 37 (by omega) (by omega) (by omega) (by omega)
      refine ⟨LandR_c hL (by rw [s1]) s2 s3 (fun i hi => by rw [n91, r16 i (by omega), Ri i (by omega) (by omega)]), LandB_c hB s2 s3, ⟨r11.2, by omega, a2, ?_, ?_, ?_, fun i hi => ?_, fun i hi => ?_, fun i hi => ?_, fun k hk => absurd hk (by omega)⟩⟩
      · show V' 35 1 = nI 0
        rw [a3, hW, mset_same]
        rfl
      · rw [n91]; exact r12
      · rw [n91, r16 70 (by omega), hR, mset_same]
        rfl
      · show N9 1 (61 + i) = V' 36 i
        rw [n91]
        by_cases ci : i < g'
        · obtain ⟨c, d1, d2, d3, d4⟩ := r13 i ci
          rw [d4, a4 i (by omega) ci, wc 38 (by omega), d3]
        · rw [r17 _ (by omega) (by omega), Ri _ (by omega) (by omega), a5 i (by omega), wc 36 (by omega), r14 36 (by omega) (by omega), mset_cell (by omega)]
          exact p7 i hi
      · rw [n91, r16 _ (by omega), Ri _ (by omega) (by omega), s6]
        exact p8 i hi
      · show ∃ p, 1 ≤ p ∧ p ≤ n ∧ V' 36 i = nI p
        obtain ⟨c, d1, d2, d3, d4⟩ := r13 i hi
        exact ⟨c, d1, d2, by rw [a4 i (by omega) hi, wc 38 (by omega), d3]⟩
end ROW
