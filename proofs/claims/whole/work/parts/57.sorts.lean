/-! PURE: the reference's sort -/
theorem fm_lt {a b : Nat} (ha : a ≤ 2) (hb : b ≤ 2) : (nI a - 1 = nI b - 1) = (a = b) ∧ (nI a - 1 ≤ nI b - 1) = (a ≤ b) := by
  have x : (nI a - 1).toInt = (a : Int) - 1 := pk_sub_toInt (b := 1) (by omega) (by omega)
  have y : (nI b - 1).toInt = (b : Int) - 1 := pk_sub_toInt (b := 1) (by omega) (by omega)
  constructor
  · rw [fa_eq, x, y]; apply propext; omega
  · rw [fa_le, x, y]; apply propext; omega
theorem r_isAhead {M : Mm} {a b ma ka pa fa mb kb pb fb : Nat} (ha : a < 40) (hb : b < 40) (ta : EvT (M 12) a ma ka pa fa) (tb : EvT (M 12) b mb kb pb fb) : pX9_isAhead (nI a) (nI b) M = some (if kN ma ka pa fa < kN mb kb pb fb then 1 else 0) := by
  obtain ⟨a1, a2, a3, a4, a5, a6, a7, a8⟩ := ta
  obtain ⟨b1, b2, b3, b4, b5, b6, b7, b8⟩ := tb
  have st : ∀ w : Nat, w < 4 → pX9_isAhead_L2 (nI a) (nI b) M (nI w) = if M 12 (4 * a + w) = M 12 (4 * b + w) then some (.inl (nI (w + 1))) else if M 12 (4 * b + w) ≤ M 12 (4 * a + w) then some (.inr (.inr 0)) else some (.inr (.inr 1)) := by
    intro w hw
    unfold pX9_isAhead_L2
    simp (disch := omega) only [bnd_eq, Option.bind_some, lit_nI, nI_add, pk_mul, ald_nI, ast_nI, lt_nI, le_nI, eq_nI, sub_nI, Sum.elim_inl, Sum.elim_inr, if_pos, if_neg, if_true, if_false]
  have s4 : pX9_isAhead_L2 (nI a) (nI b) M (nI 4) = some (.inr (.inl ())) := by
    unfold pX9_isAhead_L2
    simp (disch := omega) only [bnd_eq, Option.bind_some, lit_nI, nI_add, pk_mul, ald_nI, ast_nI, lt_nI, le_nI, eq_nI, sub_nI, Sum.elim_inl, Sum.elim_inr, if_pos, if_neg, if_true, if_false]
  have s0 := st 0 (by omega)
  have s1 := st 1 (by omega)
  have s2 := st 2 (by omega)
  have s3 := st 3 (by omega)
  rw [Nat.add_zero, Nat.add_zero, a5, b5] at s0
  rw [a6, b6] at s1
  rw [a7, b7] at s2
  rw [a8, b8] at s3
  have f3 := fm_lt a4 b4
  have f3' := fm_lt b4 a4
  unfold pX9_isAhead
  have e : itr (pX9_isAhead_L2 (nI a) (nI b) M) (5995 + 1 + 1 + 1 + 1 + 1) (nI 0) = some (if kN ma ka pa fa < kN mb kb pb fb then .inr 1 else if kN mb kb pb fb < kN ma ka pa fa then .inr 0 else .inl ()) := by
    unfold kN
    by_cases c0 : ma = mb
    · subst c0
      rw [if_pos rfl] at s0
      rw [itr_s s0]
      by_cases c1 : ka = kb
      · subst c1
        rw [if_pos rfl] at s1
        rw [itr_s s1]
        by_cases c2 : pa = pb
        · subst c2
          rw [if_pos rfl] at s2
          rw [itr_s s2]
          by_cases c3 : fa = fb
          · subst c3
            rw [if_pos rfl] at s3
            rw [itr_s s3, itr_e s4]
            rw [if_neg (by omega), if_neg (by omega)]
          · rw [if_neg (by rw [f3.1]; exact c3)] at s3
            by_cases d : fb ≤ fa
            · rw [if_pos (by rw [f3'.2]; exact d)] at s3
              rw [itr_e s3, if_neg (by omega), if_pos (by omega)]
            · rw [if_neg (by rw [f3'.2]; exact d)] at s3
              rw [itr_e s3, if_pos (by omega)]
        · rw [if_neg (by rw [eq_nI (by omega) (by omega)]; exact c2)] at s2
          by_cases d : pb ≤ pa
          · rw [if_pos (by rw [le_nI (by omega) (by omega)]; exact d)] at s2
            rw [itr_e s2, if_neg (by omega), if_pos (by omega)]
          · rw [if_neg (by rw [le_nI (by omega) (by omega)]; exact d)] at s2
            rw [itr_e s2, if_pos (by omega)]
      · rw [if_neg (by rw [eq_nI (by omega) (by omega)]; exact c1)] at s1
        by_cases d : kb ≤ ka
        · rw [if_pos (by rw [le_nI (by omega) (by omega)]; exact d)] at s1
          rw [itr_e s1, if_neg (by omega), if_pos (by omega)]
        · rw [if_neg (by rw [le_nI (by omega) (by omega)]; exact d)] at s1
          rw [itr_e s1, if_pos (by omega)]
    · rw [if_neg (by rw [eq_nI (by omega) (by omega)]; exact c0)] at s0
      by_cases d : mb ≤ ma
      · rw [if_pos (by rw [le_nI (by omega) (by omega)]; exact d)] at s0
        rw [itr_e s0, if_neg (by omega), if_pos (by omega)]
      · rw [if_neg (by rw [le_nI (by omega) (by omega)]; exact d)] at s0
        rw [itr_e s0, if_pos (by omega)]
  rw [show itr (pX9_isAhead_L2 (nI a) (nI b) M) fuel 0 = _ from e, Option.bind_some]
  by_cases c : kN ma ka pa fa < kN mb kb pb fb
  · rw [if_pos c, if_pos c]; rfl
  · rw [if_neg c, if_neg c]
    by_cases d : kN mb kb pb fb < kN ma ka pa fa
    · rw [if_pos d]; rfl
    · rw [if_neg d]; rfl
theorem r_swap4 {M : Mm} {k : Nat} (h0 : 0 < k) (hk : k < 40) (x : Int32) : ∃ M', itr (pX9_sorts_L29 x (nI k)) fuel (0, M) = some M' ∧ (∀ w, w < 4 → M' 12 (4 * k + w) = M 12 (4 * (k - 1) + w) ∧ M' 12 (4 * (k - 1) + w) = M 12 (4 * k + w)) ∧ (∀ q, q < 4 * (k - 1) ∨ 4 * k + 4 ≤ q → M' 12 q = M 12 q) ∧ (∀ c, c ≠ 12 → M' c = M c) := by
  let I : Int32 × Mm → Prop := fun s => ∃ j, j ≤ 4 ∧ s.1 = nI j ∧ (∀ w, w < j → s.2 12 (4 * k + w) = M 12 (4 * (k - 1) + w) ∧ s.2 12 (4 * (k - 1) + w) = M 12 (4 * k + w)) ∧ (∀ w, j ≤ w → w < 4 → s.2 12 (4 * k + w) = M 12 (4 * k + w) ∧ s.2 12 (4 * (k - 1) + w) = M 12 (4 * (k - 1) + w)) ∧ (∀ q, q < 4 * (k - 1) ∨ 4 * k + 4 ≤ q → s.2 12 q = M 12 q) ∧ (∀ c, c ≠ 12 → s.2 c = M c)
  obtain ⟨x', hx, h⟩ := itr_I (step := pX9_sorts_L29 x (nI k)) I (fun s => 4 - cl s.1) (fun M' => (∀ w, w < 4 → M' 12 (4 * k + w) = M 12 (4 * (k - 1) + w) ∧ M' 12 (4 * (k - 1) + w) = M 12 (4 * k + w)) ∧ (∀ q, q < 4 * (k - 1) ∨ 4 * k + 4 ≤ q → M' 12 q = M 12 q) ∧ (∀ c, c ≠ 12 → M' c = M c)) (fun s hs => by
    obtain ⟨j, j1, j2, j3, j4, j5, j6⟩ := hs
    obtain ⟨a, N⟩ := s
    dsimp only at j2 j3 j4 j5 j6
    subst j2
    unfold pX9_sorts_L29
    dsimp only
    by_cases c : j = 4
    · subst c
      rw [if_pos (by decide)]
      exact Or.inr ⟨_, rfl, j3, j5, j6⟩
    · rw [if_neg (show ¬ (4 : Int32) ≤ nI j by show ¬ nI 4 ≤ nI j; rw [le_nI] <;> omega)]
      have g := j4 j (Nat.le_refl _) (by omega)
      have e1 : 4 * nI k + nI j = nI (4 * k + j) := by simp (disch := omega) only [bnd_eq, Option.bind_some, lit_nI, nI_add, pk_mul, ald_nI, ast_nI, lt_nI, le_nI, eq_nI, sub_nI, Sum.elim_inl, Sum.elim_inr, if_pos, if_neg, if_true, if_false]
      have e2 : 4 * nI k - 4 + nI j = nI (4 * (k - 1) + j) := by simp (disch := omega) only [bnd_eq, Option.bind_some, lit_nI, nI_add, pk_mul, ald_nI, ast_nI, lt_nI, le_nI, eq_nI, sub_nI, Sum.elim_inl, Sum.elim_inr, if_pos, if_neg, if_true, if_false]; congr 1; omega
      rw [e1, e2, ald_nI (by omega) (by omega), ald_nI (by omega) (by omega), g.1, g.2]
      simp only [Option.bind_some]
      rw [ast_nI (by omega) (by omega)]
      simp only [Option.bind_some]
      rw [ast_nI (by omega) (by omega)]
      refine Or.inl ⟨_, rfl, ⟨j + 1, by omega, nI_1 j, fun w hw => ?_, fun w h1 h2 => ?_, fun q hq => ?_, fun c hc => ?_⟩, ?_⟩
      · by_cases e : w = j
        · subst e
          constructor <;> simp (disch := omega) only [mset_get, mset_cell, mrow_cell, mrow_same, if_pos, if_neg, true_and, false_and, and_true, and_false, if_true, if_false, ite_true, ite_false]
        · constructor
          · simp (disch := omega) only [mset_get, mset_cell, mrow_cell, mrow_same, if_pos, if_neg, true_and, false_and, and_true, and_false, if_true, if_false, ite_true, ite_false]
            exact (j3 w (by omega)).1
          · simp (disch := omega) only [mset_get, mset_cell, mrow_cell, mrow_same, if_pos, if_neg, true_and, false_and, and_true, and_false, if_true, if_false, ite_true, ite_false]
            exact (j3 w (by omega)).2
      · constructor
        · simp (disch := omega) only [mset_get, mset_cell, mrow_cell, mrow_same, if_pos, if_neg, true_and, false_and, and_true, and_false, if_true, if_false, ite_true, ite_false]
          exact (j4 w (by omega) h2).1
        · simp (disch := omega) only [mset_get, mset_cell, mrow_cell, mrow_same, if_pos, if_neg, true_and, false_and, and_true, and_false, if_true, if_false, ite_true, ite_false]
          exact (j4 w (by omega) h2).2
      · simp (disch := omega) only [mset_get, mset_cell, mrow_cell, mrow_same, if_pos, if_neg, true_and, false_and, and_true, and_false, if_true, if_false, ite_true, ite_false]
        exact j5 q hq
      · simp (disch := omega) only [mset_get, mset_cell, mrow_cell, mrow_same, if_pos, if_neg, true_and, false_and, and_true, and_false, if_true, if_false, ite_true, ite_false]
        exact j6 c hc
      · show 4 - cl (nI j + 1) < 4 - cl (nI j)
        rw [nI_1, cl_nI (by omega), cl_nI (by omega)]
        omega) fuel (nI 0, M) ⟨0, by omega, rfl, fun w hw => absurd hw (by omega), fun w _ _ => ⟨rfl, rfl⟩, fun _ _ => rfl, fun _ _ => rfl⟩ (by show 4 - cl (nI 0) < 6000; omega)
  exact ⟨x', hx, h⟩
theorem kf_e {E E' : Nat → Int32} {a b : Nat} (h : ∀ w, w < 4 → E (4 * a + w) = E' (4 * b + w)) : kf E a = kf E' b := by
  unfold kf
  rw [show E (4 * a) = E' (4 * b) from h 0 (by omega), h 1 (by omega), h 2 (by omega), h 3 (by omega)]
theorem ok_e {E E' : Nat → Int32} {a b : Nat} (h : ∀ w, w < 4 → E (4 * a + w) = E' (4 * b + w)) (g : EvOk E' b) : EvOk E a := by
  obtain ⟨mi, kd, p, f, h1, h2, h3, h4, h5, h6, h7, h8⟩ := g
  exact ⟨mi, kd, p, f, h1, h2, h3, h4, by rw [show E (4 * a) = E' (4 * b) from h 0 (by omega), h5], by rw [h 1 (by omega), h6], by rw [h 2 (by omega), h7], by rw [h 3 (by omega), h8]⟩
/-- one event finds its place -/
theorem r_sort1 {M : Mm} {i m : Nat} (hi : i < m) (hm : m ≤ 26) (ok : ∀ e, e < m → EvOk (M 12) e) : ∃ M', itr (pX9_sorts_L12 (nI i)) fuel (nI i, M) = some M' ∧ Ins (kf (M 12)) i (kf (M 12) i) (kf (M' 12)) ∧ (∀ e, e < m → EvOk (M' 12) e) ∧ (∀ q, 4 * i + 4 ≤ q → M' 12 q = M 12 q) ∧ (∀ c, c ≠ 12 → M' c = M c) := by
  let I : Int32 × Mm → Prop := fun s => ∃ j, j ≤ i ∧ s.1 = nI j ∧ (∀ c, c ≠ 12 → s.2 c = M c) ∧ (∀ q, q < j → ∀ w, w < 4 → s.2 12 (4 * q + w) = M 12 (4 * q + w)) ∧ (∀ w, w < 4 → s.2 12 (4 * j + w) = M 12 (4 * i + w)) ∧ (∀ q, j < q → q ≤ i → ∀ w, w < 4 → s.2 12 (4 * q + w) = M 12 (4 * (q - 1) + w)) ∧ (∀ q, 4 * i + 4 ≤ q → s.2 12 q = M 12 q) ∧ ∀ q, j ≤ q → q < i → kf (M 12) i < kf (M 12) q
  let Q : Mm → Prop := fun N => ∃ j, j ≤ i ∧ (∀ c, c ≠ 12 → N c = M c) ∧ (∀ q, q < j → ∀ w, w < 4 → N 12 (4 * q + w) = M 12 (4 * q + w)) ∧ (∀ w, w < 4 → N 12 (4 * j + w) = M 12 (4 * i + w)) ∧ (∀ q, j < q → q ≤ i → ∀ w, w < 4 → N 12 (4 * q + w) = M 12 (4 * (q - 1) + w)) ∧ (∀ q, 4 * i + 4 ≤ q → N 12 q = M 12 q) ∧ (∀ q, j ≤ q → q < i → kf (M 12) i < kf (M 12) q) ∧ (j = 0 ∨ kf (M 12) (j - 1) ≤ kf (M 12) i)
  obtain ⟨N, hN, j, j1, j3, j4, j5, j6, j7, j8, j9⟩ := itr_I (step := pX9_sorts_L12 (nI i)) I (fun s => cl s.1) Q (fun s hs => by
    obtain ⟨j, j1, j2, j3, j4, j5, j6, j7, j8⟩ := hs
    obtain ⟨a, N⟩ := s
    dsimp only at j2 j3 j4 j5 j6 j7
    subst j2
    unfold pX9_sorts_L12
    dsimp only
    by_cases c0 : j = 0
    · subst c0
      rw [if_pos (by decide)]
      exact Or.inr ⟨_, rfl, 0, j1, j3, j4, j5, j6, j7, j8, Or.inl rfl⟩
    · obtain ⟨ma, ka, pa, fa, ta⟩ := ok_e j5 (ok i hi)
      obtain ⟨mb, kb, pb, fb, tb⟩ := ok_e (j4 (j - 1) (by omega)) (ok (j - 1) (by omega))
      have ra := kf_T ta
      have rb := kf_T tb
      rw [kf_e j5] at ra
      rw [kf_e (j4 (j - 1) (by omega))] at rb
      rw [if_neg (nI_nle (by omega) (by omega)), show nI j - 1 = nI (j - 1) from sub_nI (b := 1) (by omega), r_isAhead (by omega) (by omega) ta tb, Option.bind_some]
      have kb1 : kN ma ka pa fa < 2147483648 := by obtain ⟨u1, u2, u3, u4, _⟩ := ta; unfold kN; omega
      have kb2 : kN mb kb pb fb < 2147483648 := by obtain ⟨u1, u2, u3, u4, _⟩ := tb; unfold kN; omega
      by_cases c : kN ma ka pa fa < kN mb kb pb fb
      · rw [if_pos c, if_neg one_ne]
        obtain ⟨N', n1, n2, n3, n4⟩ := r_swap4 (M := N) (k := j) (by omega) (by omega) (nI i)
        rw [n1]
        refine Or.inl ⟨_, rfl, ⟨j - 1, by omega, sb_m1 (by omega), fun c hc => ?_, fun q hq w hw => ?_, fun w hw => ?_, fun q h1 h2 w hw => ?_, fun q hq => ?_, fun q h1 h2 => ?_⟩, ?_⟩
        · show N' c = M c
          rw [n4 c hc, j3 c hc]
        · show N' 12 _ = _
          rw [n3 _ (by omega), j4 q (by omega) w hw]
        · show N' 12 _ = _
          rw [(n2 w hw).2, j5 w hw]
        · show N' 12 _ = _
          by_cases e : q = j
          · subst e
            rw [(n2 w hw).1, j4 (q - 1) (by omega) w hw]
          · rw [n3 _ (by omega), j6 q (by omega) h2 w hw]
        · show N' 12 _ = _
          rw [n3 _ (by omega), j7 q hq]
        · by_cases e : q = j - 1
          · subst e
            rw [ra, rb, lt_nI kb1 kb2]
            exact c
          · exact j8 q (by omega) h2
        · show cl (nI j + -1) < cl (nI j)
          rw [sb_m1 (by omega), cl_nI (by omega), cl_nI (by omega)]
          omega
      · rw [if_neg c, if_pos rfl]
        refine Or.inr ⟨_, rfl, j, j1, j3, j4, j5, j6, j7, j8, Or.inr ?_⟩
        rw [ra, rb, le_nI kb2 kb1]
        omega) fuel (nI i, M) ⟨i, Nat.le_refl _, rfl, fun _ _ => rfl, fun _ _ _ _ => rfl, fun _ _ => rfl, fun q h1 h2 => absurd h1 (by omega), fun _ _ => rfl, fun q h1 h2 => absurd h1 (by omega)⟩ (by show cl (nI i) < 6000; rw [cl_nI (by omega)]; omega)
  refine ⟨N, hN, ⟨j, j1, j9, j8, fun q hq => ?_⟩, fun e he => ?_, j7, j3⟩
  · by_cases c : q < j
    · rw [if_pos c]
      exact kf_e (j4 q c)
    · rw [if_neg c]
      by_cases d : q = j
      · subst d
        rw [if_pos rfl]
        exact kf_e j5
      · rw [if_neg d]
        exact kf_e (j6 q (by omega) hq)
  · by_cases c : e < j
    · exact ok_e (j4 e c) (ok e he)
    · by_cases d : e = j
      · subst d
        exact ok_e j5 (ok i hi)
      · by_cases g : e ≤ i
        · exact ok_e (j6 e (by omega) g) (ok (e - 1) (by omega))
        · exact ok_e (fun w hw => j7 _ (by omega)) (ok e he)
theorem Ins_in {A B A' : Nat → Int32} {m : Nat} {k : Int32} (h : Ins A m k A') (e : ∀ j, j < m → B j = A j) : Ins B m k A' := by
  obtain ⟨p, p1, p2, p3, p4⟩ := h
  refine ⟨p, p1, ?_, fun j h1 h2 => by rw [e j h2]; exact p3 j h1 h2, fun j hj => ?_⟩
  · rcases p2 with p2 | p2
    · exact Or.inl p2
    · by_cases c : p = 0
      · exact Or.inl c
      · exact Or.inr (by rw [e _ (by omega)]; exact p2)
  · rw [p4 j hj]
    by_cases c : j < p
    · rw [if_pos c, if_pos c, e j (by omega)]
    · rw [if_neg c, if_neg c]
      by_cases d : j = p
      · rw [if_pos d, if_pos d]
      · rw [if_neg d, if_neg d, e _ (by omega)]
theorem Ch_1 (k : Nat → Int32) : Ch k 1 k := by
  refine ⟨k, trivial, 0, Nat.le_refl _, Or.inl rfl, fun j h1 h2 => absurd h2 (Nat.not_lt_zero _), fun j hj => ?_⟩
  obtain rfl : j = 0 := Nat.le_zero.mp hj
  rw [if_neg (Nat.lt_irrefl _), if_pos rfl]
theorem r_sorts {M : Mm} {m : Nat} (h : M 0 18 = nI m) (h1 : 1 ≤ m) (hm : m ≤ 26) (ok : ∀ e, e < m → EvOk (M 12) e) : ∃ M', pX9_sorts M = some M' ∧ Ch (kf (M 12)) m (kf (M' 12)) ∧ (∀ e, e < m → EvOk (M' 12) e) ∧ (∀ c, c ≠ 12 → M' c = M c) := by
  let I : Int32 × Mm → Prop := fun s => ∃ i, 1 ≤ i ∧ i ≤ m ∧ s.1 = nI i ∧ Ch (kf (M 12)) i (kf (s.2 12)) ∧ (∀ e, e < m → EvOk (s.2 12) e) ∧ (∀ c, c ≠ 12 → s.2 c = M c) ∧ ∀ q, 4 * i ≤ q → s.2 12 q = M 12 q
  obtain ⟨N, hN, n1, n2, n3⟩ := itr_I (step := pX9_sorts_L2) I (fun s => m - cl s.1) (fun M' => Ch (kf (M 12)) m (kf (M' 12)) ∧ (∀ e, e < m → EvOk (M' 12) e) ∧ (∀ c, c ≠ 12 → M' c = M c)) (fun s hs => by
    obtain ⟨i, i1, i2, i3, i4, i5, i6, i7⟩ := hs
    obtain ⟨a, N⟩ := s
    dsimp only at i3 i4 i5 i6 i7
    subst i3
    unfold pX9_sorts_L2
    dsimp only
    have g18 : N 0 18 = nI m := by rw [i6 0 (by omega), h]
    by_cases c : i = m
    · subst c
      rw [if_pos (show N 0 18 ≤ nI i by rw [g18]; exact Int32.le_refl _)]
      exact Or.inr ⟨_, rfl, i4, i5, i6⟩
    · rw [if_neg (show ¬ N 0 18 ≤ nI i by rw [g18, le_nI] <;> omega)]
      obtain ⟨N', a1, a2, a3, a4, a5⟩ := r_sort1 (M := N) (i := i) (m := m) (by omega) hm i5
      rw [bnd_eq, a1]
      refine Or.inl ⟨_, rfl, ⟨i + 1, by omega, by omega, nI_1 i, ⟨kf (N 12), i4, ?_⟩, a3, fun c hc => ?_, fun q hq => ?_⟩, ?_⟩
      · have e : kf (M 12) i = kf (N 12) i := kf_e (fun w hw => (i7 _ (by omega)).symm)
        rw [e]
        exact a2
      · show N' c = M c
        rw [a5 c hc, i6 c hc]
      · show N' 12 q = M 12 q
        rw [a4 q (by omega), i7 q (by omega)]
      · show m - cl (nI i + 1) < m - cl (nI i)
        rw [nI_1, cl_nI (by omega), cl_nI (by omega)]
        omega) fuel (nI 1, M) ⟨1, Nat.le_refl _, h1, rfl, Ch_1 _, ok, fun _ _ => rfl, fun _ _ => rfl⟩ (by show m - cl (nI 1) < 6000; omega)
  exact ⟨N, by unfold pX9_sorts; rw [show itr pX9_sorts_L2 fuel (1, M) = _ from hN]; rfl, n1, n2, n3⟩
