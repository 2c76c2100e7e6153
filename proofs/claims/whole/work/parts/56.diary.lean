/-! PURE: events, by keys -/
def Ins (A : Nat → Int32) (m : Nat) (k : Int32) (A' : Nat → Int32) : Prop := ∃ p, p ≤ m ∧ (p = 0 ∨ A (p - 1) ≤ k) ∧ (∀ j, p ≤ j → j < m → k < A j) ∧ ∀ j, j ≤ m → A' j = if j < p then A j else if j = p then k else A (j - 1)
def Ch (k : Nat → Int32) : Nat → (Nat → Int32) → Prop
  | 0, _ => True
  | m + 1, A => ∃ B, Ch k m B ∧ Ins B m (k m) A
theorem Ins_fun {A B A' B' : Nat → Int32} {m : Nat} {k : Int32} (h : Ins A m k A') (g : Ins B m k B') (e : ∀ j, j < m → A j = B j) : ∀ j, j ≤ m → A' j = B' j := by
  obtain ⟨p, p1, p2, p3, p4⟩ := h
  obtain ⟨q, q1, q2, q3, q4⟩ := g
  have pq : p = q := by
    rcases Nat.lt_trichotomy p q with h | h | h
    · exfalso
      have a := p3 (q - 1) (by omega) (by omega)
      rcases q2 with q2 | q2
      · omega
      · rw [e _ (by omega)] at a
        exact (fa_of_lt a).2.1 q2
    · exact h
    · exfalso
      have a := q3 (p - 1) (by omega) (by omega)
      rcases p2 with p2 | p2
      · omega
      · rw [e _ (by omega)] at p2
        exact (fa_of_lt a).2.1 p2
  subst pq
  intro j hj
  rw [p4 j hj, q4 j hj]
  by_cases c : j < p
  · rw [if_pos c, if_pos c, e j (by omega)]
  · rw [if_neg c, if_neg c]
    by_cases d : j = p
    · rw [if_pos d, if_pos d]
    · rw [if_neg d, if_neg d, e _ (by omega)]
theorem Ch_fun {k : Nat → Int32} : ∀ {m : Nat} {A B : Nat → Int32}, Ch k m A → Ch k m B → ∀ j, j < m → A j = B j
  | 0, _, _, _, _, j, h => absurd h (by omega)
  | m + 1, A, B, ⟨A0, a1, a2⟩, ⟨B0, b1, b2⟩, j, h => Ins_fun a2 b2 (Ch_fun a1 b1) j (by omega)
theorem Ch_cong {k k' : Nat → Int32} : ∀ {m : Nat} {A : Nat → Int32}, (∀ e, e < m → k e = k' e) → Ch k m A → Ch k' m A
  | 0, _, _, _ => trivial
  | m + 1, A, e, ⟨B, b1, b2⟩ => ⟨B, Ch_cong (fun j hj => e j (by omega)) b1, by rw [← e m (by omega)]; exact b2⟩
theorem Ins_out {A A' B' : Nat → Int32} {m : Nat} {k : Int32} (h : Ins A m k A') (e : ∀ j, j ≤ m → B' j = A' j) : Ins A m k B' := by
  obtain ⟨p, p1, p2, p3, p4⟩ := h
  exact ⟨p, p1, p2, p3, fun j hj => by rw [e j hj, p4 j hj]⟩
theorem Ch_out {k : Nat → Int32} : ∀ {m : Nat} {A B : Nat → Int32}, Ch k m A → (∀ j, j < m → B j = A j) → Ch k m B
  | 0, _, _, _, _ => trivial
  | m + 1, A, B, ⟨A0, a1, a2⟩, e => ⟨A0, a1, Ins_out a2 (fun j hj => e j (by omega))⟩
def key (x1 x2 x3 x4 : Int32) : Int32 := ((((((x1 * 8) + x2) * 16) + x3) * 4) + x4) + 1
theorem c_note {M1 : Mm} {m : Nat} (h8 : M1 8 0 = nI m) (hm : m < 26) (x1 x2 x3 x4 : Int32) : ∃ M1', pX1_note x1 x2 x3 x4 M1 = some M1' ∧ M1' 8 0 = nI (m + 1) ∧ Ins (M1 9) m (key x1 x2 x3 x4) (M1' 9) ∧ ∀ c, c ≠ 8 → c ≠ 9 → M1' c = M1 c := by
  unfold pX1_note
  rw [h8, if_pos (show nI m < 26 by show nI m < nI 26; rw [lt_nI] <;> omega)]
  simp only [bnd_eq]
  rw [show ((((x1 * 8 + x2) * 16 + x3) * 4 + x4) + 1) = key x1 x2 x3 x4 from rfl]
  generalize key x1 x2 x3 x4 = kk
  let I : Int32 × Mm → Prop := fun s => ∃ j, j ≤ m ∧ s.1 = nI j ∧ (∀ c, c ≠ 9 → s.2 c = M1 c) ∧ (∀ q, q < j → s.2 9 q = M1 9 q) ∧ (∀ q, j < q → q ≤ m → s.2 9 q = M1 9 (q - 1)) ∧ ∀ q, j ≤ q → q < m → kk < M1 9 q
  let Q : Int32 × Mm → Prop := fun s => ∃ j, j ≤ m ∧ s.1 = nI j ∧ (∀ c, c ≠ 9 → s.2 c = M1 c) ∧ (∀ q, q < j → s.2 9 q = M1 9 q) ∧ (∀ q, j < q → q ≤ m → s.2 9 q = M1 9 (q - 1)) ∧ (∀ q, j ≤ q → q < m → kk < M1 9 q) ∧ (j = 0 ∨ M1 9 (j - 1) ≤ kk)
  obtain ⟨x, hx, j, j1, j2, j3, j4, j5, j6, j7⟩ := itr_I (step := pX1_note_L36 kk) I (fun s => cl s.1) Q (fun s hs => by
    obtain ⟨j, j1, j2, j3, j4, j5, j6⟩ := hs
    obtain ⟨a, M⟩ := s
    dsimp only at j2 j3 j4 j5
    subst j2
    unfold pX1_note_L36
    dsimp only
    by_cases c0 : j = 0
    · subst c0
      rw [if_pos (show nI 0 ≤ 0 by decide)]
      exact Or.inr ⟨_, rfl, 0, j1, rfl, j3, j4, j5, j6, Or.inl rfl⟩
    · rw [if_neg (nI_nle (by omega) (by omega)), show nI j - 1 = nI (j - 1) from sub_nI (b := 1) (by omega), ald_nI (by omega) (by omega), j4 (j - 1) (by omega)]
      simp only [Option.bind_some]
      by_cases c1 : M1 9 (j - 1) ≤ kk
      · rw [if_pos c1]
        exact Or.inr ⟨_, rfl, j, j1, rfl, j3, j4, j5, j6, Or.inr c1⟩
      · rw [if_neg c1, ast_nI (by omega) (by omega)]
        refine Or.inl ⟨_, rfl, ⟨j - 1, by omega, ?_, fun c hc => ?_, fun q hq => ?_, fun q h1 h2 => ?_, fun q h1 h2 => ?_⟩, ?_⟩
        · show nI j + -1 = nI (j - 1)
          exact sb_m1 (by omega)
        · simp (disch := omega) only [mset_get, mset_cell, mrow_cell, mrow_same, if_pos, if_neg, true_and, false_and, and_true, and_false, if_true, if_false, ite_true, ite_false]
          exact j3 c hc
        · simp (disch := omega) only [mset_get, mset_cell, mrow_cell, mrow_same, if_pos, if_neg, true_and, false_and, and_true, and_false, if_true, if_false, ite_true, ite_false]
          exact j4 q (by omega)
        · by_cases e : q = j
          · subst e
            simp (disch := omega) only [mset_get, mset_cell, mrow_cell, mrow_same, if_pos, if_neg, true_and, false_and, and_true, and_false, if_true, if_false, ite_true, ite_false]
          · simp (disch := omega) only [mset_get, mset_cell, mrow_cell, mrow_same, if_pos, if_neg, true_and, false_and, and_true, and_false, if_true, if_false, ite_true, ite_false]
            exact j5 q (by omega) h2
        · by_cases e : q = j - 1
          · subst e
            exact fa_of_nle c1
          · exact j6 q (by omega) h2
        · show cl (nI j + -1) < cl (nI j)
          rw [sb_m1 (by omega), cl_nI (by omega), cl_nI (by omega)]
          omega) fuel (nI m, M1) ⟨m, Nat.le_refl _, rfl, fun _ _ => rfl, fun _ _ => rfl, fun q h1 h2 => absurd h1 (by omega), fun q h1 h2 => absurd h1 (by omega)⟩ (by show cl (nI m) < 6000; rw [cl_nI (by omega)]; omega)
  rw [hx, Option.bind_some, j2, ast_nI (by omega) (by omega)]
  simp only [Option.bind_some]
  refine ⟨_, rfl, ?_, ⟨j, j1, j7, j6, fun q hq => ?_⟩, fun c h1 h2 => ?_⟩
  · show x.2 8 0 + 1 = nI (m + 1)
    rw [j3 8 (by omega), h8, nI_1]
  · by_cases c : q < j
    · rw [if_pos c]
      simp (disch := omega) only [mset_get, mset_cell, mrow_cell, mrow_same, if_pos, if_neg, true_and, false_and, and_true, and_false, if_true, if_false, ite_true, ite_false]
      exact j4 q c
    · rw [if_neg c]
      by_cases d : q = j
      · subst d
        rw [if_pos rfl]
        simp (disch := omega) only [mset_get, mset_cell, mrow_cell, mrow_same, if_pos, if_neg, true_and, false_and, and_true, and_false, if_true, if_false, ite_true, ite_false]
      · rw [if_neg d]
        simp (disch := omega) only [mset_get, mset_cell, mrow_cell, mrow_same, if_pos, if_neg, true_and, false_and, and_true, and_false, if_true, if_false, ite_true, ite_false]
        exact j5 q (by omega) hq
  · simp (disch := omega) only [mset_get, mset_cell, mrow_cell, mrow_same, if_pos, if_neg, true_and, false_and, and_true, and_false, if_true, if_false, ite_true, ite_false]
    exact j3 c h2
def kf (E : Nat → Int32) : Nat → Int32 := fun e => key (E (4 * e)) (E (4 * e + 1)) (E (4 * e + 2)) (E (4 * e + 3))
def EvT (E : Nat → Int32) (e mi kd p f : Nat) : Prop := mi ≤ 30000 ∧ kd ≤ 4 ∧ p ≤ 8 ∧ f ≤ 2 ∧ E (4 * e) = nI mi ∧ E (4 * e + 1) = nI kd ∧ E (4 * e + 2) = nI p ∧ E (4 * e + 3) = nI f - 1
def EvOk (E : Nat → Int32) (e : Nat) : Prop := ∃ mi kd p f : Nat, EvT E e mi kd p f
def kN (mi kd p f : Nat) : Nat := ((mi * 8 + kd) * 16 + p) * 4 + f
theorem sub1_add1 (x : Int32) : x - 1 + 1 = x := by rw [Int32.sub_add_cancel]
theorem key_nI (mi kd p f : Nat) : key (nI mi) (nI kd) (nI p) (nI f - 1) = nI (kN mi kd p f) := by
  unfold key kN
  rw [Int32.add_assoc, sub1_add1]
  simp (disch := omega) only [bnd_eq, Option.bind_some, lit_nI, nI_add, pk_mul, ald_nI, ast_nI, lt_nI, le_nI, eq_nI, sub_nI, Sum.elim_inl, Sum.elim_inr, if_pos, if_neg, if_true, if_false]
theorem kf_T {E : Nat → Int32} {e mi kd p f : Nat} (h : EvT E e mi kd p f) : kf E e = nI (kN mi kd p f) := by
  obtain ⟨_, _, _, _, h1, h2, h3, h4⟩ := h
  unfold kf
  rw [h1, h2, h3, h4, key_nI]
theorem r_happens {M2 : Mm} {m : Nat} (h : M2 0 18 = nI m) (hm : m < 40) (x1 x2 x3 x4 : Int32) : ∃ M2', pX9_happens x1 x2 x3 x4 M2 = some M2' ∧ M2' 0 18 = nI (m + 1) ∧ (M2' 12 (4 * m) = x1 ∧ M2' 12 (4 * m + 1) = x2 ∧ M2' 12 (4 * m + 2) = x3 ∧ M2' 12 (4 * m + 3) = x4) ∧ (∀ q, q < 4 * m → M2' 12 q = M2 12 q) ∧ (∀ c, c ≠ 0 → c ≠ 12 → M2' c = M2 c) ∧ (∀ j, j ≠ 18 → M2' 0 j = M2 0 j) := by
  unfold pX9_happens
  rw [h]
  simp (disch := omega) only [bnd_eq, Option.bind_some, lit_nI, nI_add, pk_mul, ald_nI, ast_nI, lt_nI, le_nI, eq_nI, sub_nI, Sum.elim_inl, Sum.elim_inr, if_pos, if_neg, if_true, if_false, mset_get, mset_cell, mrow_cell, mrow_same, true_and, false_and, and_true, and_false, if_true, if_false, ite_true, ite_false, h]
  refine ⟨_, rfl, ?_, ⟨?_, ?_, ?_, ?_⟩, fun q hq => ?_, fun c h1 h2 => ?_, fun j hj => ?_⟩
  · simp (disch := omega) only [mset_get, mset_cell, mrow_cell, mrow_same, if_pos, if_neg, true_and, false_and, and_true, and_false, if_true, if_false, ite_true, ite_false]
  · simp (disch := omega) only [mset_get, mset_cell, mrow_cell, mrow_same, if_pos, if_neg, true_and, false_and, and_true, and_false, if_true, if_false, ite_true, ite_false]
  · simp (disch := omega) only [mset_get, mset_cell, mrow_cell, mrow_same, if_pos, if_neg, true_and, false_and, and_true, and_false, if_true, if_false, ite_true, ite_false]
  · simp (disch := omega) only [mset_get, mset_cell, mrow_cell, mrow_same, if_pos, if_neg, true_and, false_and, and_true, and_false, if_true, if_false, ite_true, ite_false]
  · simp (disch := omega) only [mset_get, mset_cell, mrow_cell, mrow_same, if_pos, if_neg, true_and, false_and, and_true, and_false, if_true, if_false, ite_true, ite_false]
  · simp (disch := omega) only [mset_get, mset_cell, mrow_cell, mrow_same, if_pos, if_neg, true_and, false_and, and_true, and_false, if_true, if_false, ite_true, ite_false]
  · simp (disch := omega) only [mset_get, mset_cell, mrow_cell, mrow_same, if_pos, if_neg, true_and, false_and, and_true, and_false, if_true, if_false, ite_true, ite_false]
  · simp (disch := omega) only [mset_get, mset_cell, mrow_cell, mrow_same, if_pos, if_neg, true_and, false_and, and_true, and_false, if_true, if_false, ite_true, ite_false]
def EvR (m : Nat) (M1 M2 : Mm) : Prop := M1 8 0 = nI m ∧ M2 0 18 = nI m ∧ Ch (kf (M2 12)) m (M1 9) ∧ ∀ e, e < m → EvOk (M2 12) e
theorem EvR_c {m : Nat} {M1 M2 M1' M2' : Mm} (h : EvR m M1 M2) (e8 : M1' 8 = M1 8) (e9 : M1' 9 = M1 9) (g0 : M2' 0 18 = M2 0 18) (g12 : M2' 12 = M2 12) : EvR m M1' M2' := by
  unfold EvR at h ⊢
  rw [e8, e9, g0, g12]
  exact h
theorem ev_c {m mi kd p f : Nat} {M1 M2 : Mm} (h : EvR m M1 M2) (hm : m < 26) (h1 : mi ≤ 30000) (h2 : kd ≤ 4) (h3 : p ≤ 8) (h4 : f ≤ 2) {x1 x2 x3 x4 : Int32} (e1 : x1 = nI mi) (e2 : x2 = nI kd) (e3 : x3 = nI p) (e4 : x4 = nI f - 1) : ∃ M1' M2', pX1_note x1 x2 x3 x4 M1 = some M1' ∧ pX9_happens x1 x2 x3 x4 M2 = some M2' ∧ EvR (m + 1) M1' M2' ∧ (∀ c, c ≠ 8 → c ≠ 9 → M1' c = M1 c) ∧ (∀ c, c ≠ 0 → c ≠ 12 → M2' c = M2 c) ∧ (∀ j, j ≠ 18 → M2' 0 j = M2 0 j) := by
  obtain ⟨g1, g2, g3, g4⟩ := h
  obtain ⟨M1', a1, a2, a3, a4⟩ := c_note g1 hm x1 x2 x3 x4
  obtain ⟨M2', b1, b2, ⟨t1, t2, t3, t4⟩, b4, b5, b6⟩ := r_happens g2 (by omega) x1 x2 x3 x4
  refine ⟨M1', M2', a1, b1, ⟨a2, b2, ⟨M1 9, Ch_cong (fun e he => ?_) g3, ?_⟩, fun e he => ?_⟩, a4, b5, b6⟩
  · unfold kf
    rw [b4 _ (by omega), b4 _ (by omega), b4 _ (by omega), b4 _ (by omega)]
  · unfold kf
    rw [t1, t2, t3, t4]
    exact a3
  · by_cases c : e = m
    · subst c
      exact ⟨mi, kd, p, f, h1, h2, h3, h4, by rw [t1, e1], by rw [t2, e2], by rw [t3, e3], by rw [t4, e4]⟩
    · obtain ⟨mi, kd, p, f, h1, h2, h3, h4, h5, h6, h7, h8⟩ := g4 e (by omega)
      exact ⟨mi, kd, p, f, h1, h2, h3, h4, by rw [b4 _ (by omega), h5], by rw [b4 _ (by omega), h6], by rw [b4 _ (by omega), h7], by rw [b4 _ (by omega), h8]⟩
