/-! PURE: what is wrong ahead of all times -/
def cnt (p : Nat → Bool) : Nat → Nat → Nat
  | 0, _ => 0
  | c + 1, k => (if p k then 1 else 0) + cnt p c (k + 1)
theorem cnt_le (p : Nat → Bool) : ∀ (c k : Nat), cnt p c k ≤ c
  | 0, _ => Nat.le_refl _
  | c + 1, k => by
    have := cnt_le p c (k + 1)
    rw [cnt]
    split <;> omega
theorem cnt_pos {p : Nat → Bool} : ∀ {c k j : Nat}, k ≤ j → j < k + c → p j = true → 1 ≤ cnt p c k
  | 0, k, j, h1, h2, _ => absurd h2 (by omega)
  | c + 1, k, j, h1, h2, h => by
    rw [cnt]
    by_cases e : j = k
    · subst e; rw [if_pos h]; omega
    · have := cnt_pos (c := c) (k := k + 1) (j := j) (by omega) (by omega) h
      omega
theorem cnt_two {p : Nat → Bool} : ∀ {c k i j : Nat}, k ≤ i → i < j → j < k + c → p i = true → p j = true → 2 ≤ cnt p c k
  | 0, k, i, j, h1, h2, h3, _, _ => absurd h3 (by omega)
  | c + 1, k, i, j, h1, h2, h3, hi, hj => by
    rw [cnt]
    by_cases e : i = k
    · subst e
      have := cnt_pos (c := c) (k := i + 1) (j := j) (by omega) (by omega) hj
      rw [if_pos hi]; omega
    · have := cnt_two (c := c) (k := k + 1) (i := i) (j := j) (by omega) (by omega) (by omega) hi hj
      omega
theorem itr_ct {step : Int32 × Int32 → Option ((Int32 × Int32) ⊕ Int32)} (p : Nat → Bool) (lo e : Nat) (h1 : ∀ x k, lo ≤ k → k < e → x < 1000 → step (nI x, nI k) = some (.inl (nI (if p k then x + 1 else x), nI (k + 1)))) (h3 : ∀ x, step (nI x, nI e) = some (.inr (nI x))) : ∀ (c k x f : Nat), lo ≤ k → k + c = e → x + c < 1000 → c < f → itr step f (nI x, nI k) = some (nI (x + cnt p c k))
  | 0, k, x, f, hl, hk, hx, hf => by
    obtain ⟨f, rfl⟩ : ∃ g, f = g + 1 := ⟨f - 1, by omega⟩
    rw [show k = e by omega, itr_e (h3 x)]
    rfl
  | c + 1, k, x, f, hl, hk, hx, hf => by
    obtain ⟨f, rfl⟩ : ∃ g, f = g + 1 := ⟨f - 1, by omega⟩
    rw [itr_s (h1 x k hl (by omega) (by omega)), itr_ct p lo e h1 h3 c (k + 1) _ f (by omega) (by omega) (by split <;> omega) (by omega), cnt]
    congr 2
    split <;> omega
section WRONG
variable {F S R P : Nat → Int32} {n r s : Nat} {M1 M2 : Mm}
def pR (R : Nat → Int32) (r c : Nat) : Nat → Bool := fun i => decide (pl R r i = c)
def pS (P : Nat → Int32) (c : Nat) : Nat → Bool := fun k => decide (pt P k 2 = c)
def sv (R P : Nat → Int32) (r s c : Nat) : Nat := cnt (pR R r c) r 1 + cnt (pS P c) s 0
theorem c_served (C : Ctx F S R P n r s M1 M2) {c : Nat} (hc : c ≤ 8) : pX0_timesServed (nI c) M1 = some (nI (sv R P r s c)) := by
  obtain ⟨q1, q2, q3, q4, q5, q6, q7, q8, q9⟩ := cx_n C
  unfold pX0_timesServed
  have a : itr (pX0_timesServed_L4 (nI c) M1) fuel (nI 0, nI 1) = some (nI (0 + cnt (pR R r c) r 1)) := by
    refine itr_ct (pR R r c) 1 (r + 1) (fun x k hl hk hx => ?_) (fun x => ?_) r 1 0 fuel (by omega) (by omega) (by omega) (by unfold fuel; omega)
    · unfold pX0_timesServed_L4
      have b := pl_b C k
      have z := cx_place C (i := k) (by omega)
      dsimp only
      rw [q3, z]
      simp (disch := omega) only [bnd_eq, Option.bind_some, lit_nI, nI_add, pk_mul, ald_nI, ast_nI, lt_nI, le_nI, eq_nI, sub_nI, Sum.elim_inl, Sum.elim_inr, if_pos, if_neg, if_true, if_false]
      by_cases e : pl R r k = c
      · rw [if_pos e, if_pos (show pR R r c k = true from decide_eq_true e)]
      · rw [if_neg e, if_neg (show ¬ pR R r c k = true from fun h => e (of_decide_eq_true h))]
    · unfold pX0_timesServed_L4
      dsimp only
      rw [q3]
      simp (disch := omega) only [bnd_eq, Option.bind_some, lit_nI, nI_add, pk_mul, ald_nI, ast_nI, lt_nI, le_nI, eq_nI, sub_nI, Sum.elim_inl, Sum.elim_inr, if_pos, if_neg, if_true, if_false]
  have b : itr (pX0_timesServed_L38 (nI c) M1) fuel (nI (cnt (pR R r c) r 1), nI 0) = some (nI (cnt (pR R r c) r 1 + cnt (pS P c) s 0)) := by
    have y := cnt_le (pR R r c) r 1
    refine itr_ct (pS P c) 0 s (fun x k hl hk hx => ?_) (fun x => ?_) s 0 _ fuel (by omega) (by omega) (by omega) (by unfold fuel; omega)
    · unfold pX0_timesServed_L38
      have b := pt_b C hk
      have z := cx_part C (k := k) (w := 2) hk (by omega)
      dsimp only
      rw [q5, show (2 : Int32) = nI 2 from rfl, z]
      simp (disch := omega) only [bnd_eq, Option.bind_some, lit_nI, nI_add, pk_mul, ald_nI, ast_nI, lt_nI, le_nI, eq_nI, sub_nI, Sum.elim_inl, Sum.elim_inr, if_pos, if_neg, if_true, if_false]
      by_cases e : pt P k 2 = c
      · rw [if_pos e, if_pos (show pS P c k = true from decide_eq_true e)]
      · rw [if_neg e, if_neg (show ¬ pS P c k = true from fun h => e (of_decide_eq_true h))]
    · unfold pX0_timesServed_L38
      dsimp only
      rw [q5]
      simp (disch := omega) only [bnd_eq, Option.bind_some, lit_nI, nI_add, pk_mul, ald_nI, ast_nI, lt_nI, le_nI, eq_nI, sub_nI, Sum.elim_inl, Sum.elim_inr, if_pos, if_neg, if_true, if_false]
  rw [Nat.zero_add] at a
  rw [show itr (pX0_timesServed_L4 (nI c) M1) fuel (0, 1) = _ from a, Option.bind_some, show itr (pX0_timesServed_L38 (nI c) M1) fuel (nI (cnt (pR R r c) r 1), 0) = _ from b]
  rfl
theorem r_served (C : Ctx F S R P n r s M1 M2) {c : Nat} (hc : c ≤ 8) : pX9_servedBy (nI c) M2 = some (nI (sv R P r s c)) := by
  obtain ⟨q1, q2, q3, q4, q5, q6, q7, q8, q9⟩ := cx_n C
  unfold pX9_servedBy
  have a : itr (pX9_servedBy_L4 (nI c) M2) fuel (nI 0, nI 1) = some (nI (0 + cnt (pR R r c) r 1)) := by
    refine itr_ct (pR R r c) 1 (r + 1) (fun x k hl hk hx => ?_) (fun x => ?_) r 1 0 fuel (by omega) (by omega) (by omega) (by unfold fuel; omega)
    · unfold pX9_servedBy_L4
      have b := pl_b C k
      have z := rx_place C (i := k) (by omega)
      dsimp only
      rw [z, show (60 : Int32) = nI 60 from rfl, r_ald (by omega), q8]
      simp (disch := omega) only [bnd_eq, Option.bind_some, lit_nI, nI_add, pk_mul, ald_nI, ast_nI, lt_nI, le_nI, eq_nI, sub_nI, Sum.elim_inl, Sum.elim_inr, if_pos, if_neg, if_true, if_false, Nat.add_zero]
      by_cases e : pl R r k = c
      · rw [if_pos e, if_pos (show pR R r c k = true from decide_eq_true e)]
      · rw [if_neg e, if_neg (show ¬ pR R r c k = true from fun h => e (of_decide_eq_true h))]
    · unfold pX9_servedBy_L4
      dsimp only
      rw [show (60 : Int32) = nI 60 from rfl, r_ald (by omega), q8]
      simp (disch := omega) only [bnd_eq, Option.bind_some, lit_nI, nI_add, pk_mul, ald_nI, ast_nI, lt_nI, le_nI, eq_nI, sub_nI, Sum.elim_inl, Sum.elim_inr, if_pos, if_neg, if_true, if_false]
  have b : itr (pX9_servedBy_L40 (nI c) M2) fuel (nI (cnt (pR R r c) r 1), nI 0) = some (nI (cnt (pR R r c) r 1 + cnt (pS P c) s 0)) := by
    have y := cnt_le (pR R r c) r 1
    refine itr_ct (pS P c) 0 s (fun x k hl hk hx => ?_) (fun x => ?_) s 0 _ fuel (by omega) (by omega) (by omega) (by unfold fuel; omega)
    · unfold pX9_servedBy_L40
      have b := pt_b C hk
      have z := rx_part C (k := k) (w := 2) hk (by omega)
      dsimp only
      rw [rx_sorties C, show (2 : Int32) = nI 2 from rfl, z]
      simp (disch := omega) only [bnd_eq, Option.bind_some, lit_nI, nI_add, pk_mul, ald_nI, ast_nI, lt_nI, le_nI, eq_nI, sub_nI, Sum.elim_inl, Sum.elim_inr, if_pos, if_neg, if_true, if_false, Nat.add_zero]
      by_cases e : pt P k 2 = c
      · rw [if_pos e, if_pos (show pS P c k = true from decide_eq_true e)]
      · rw [if_neg e, if_neg (show ¬ pS P c k = true from fun h => e (of_decide_eq_true h))]
    · unfold pX9_servedBy_L40
      dsimp only
      rw [rx_sorties C]
      simp (disch := omega) only [bnd_eq, Option.bind_some, lit_nI, nI_add, pk_mul, ald_nI, ast_nI, lt_nI, le_nI, eq_nI, sub_nI, Sum.elim_inl, Sum.elim_inr, if_pos, if_neg, if_true, if_false]
  rw [Nat.zero_add] at a
  rw [show itr (pX9_servedBy_L4 (nI c) M2) fuel (0, 1) = _ from a, Option.bind_some, show itr (pX9_servedBy_L40 (nI c) M2) fuel (nI (cnt (pR R r c) r 1), 0) = _ from b]
  rfl
theorem sv_le {R P : Nat → Int32} {r s c : Nat} (hr : r ≤ 8) (hs : s ≤ 8) : sv R P r s c ≤ 16 := by
  have := cnt_le (pR R r c) r 1
  have := cnt_le (pS P c) s 0
  unfold sv
  omega
def bad1 (S P : Nat → Int32) (r : Nat) : Nat → Bool := fun k => decide (cl (S 8) ≤ pt P k 0 ∨ r + 2 ≤ pt P k 3 ∨ pt P k 3 ≤ pt P k 1)
def bad2 (R P : Nat → Int32) (r s : Nat) : Nat → Bool := fun c => decide (1 < sv R P r s c)
def bad3 (R P : Nat → Int32) (r s : Nat) : Nat → Bool := fun c => decide (sv R P r s c = 0)
def bad4 (F S P : Nat → Int32) : Nat → Bool := fun k => decide (cl (S 4) < fc F (pt P k 2) 4)
def badi (P : Nat → Int32) (k : Nat) : Nat → Bool := fun j => decide (pt P k 0 = pt P j 0 ∧ pt P j 1 < pt P k 3 ∧ pt P k 1 < pt P j 3)
def bad5 (P : Nat → Int32) : Nat → Bool := fun k => (ff (badi P k) k 0).isSome
theorem c_w1 (C : Ctx F S R P n r s M1 M2) : itr (pX0_impossibleSortie_L2 M1) fuel 0 = some (ffo (fun k => nI (1 + 16 * k)) (ff (bad1 S P r) s 0)) := by
  obtain ⟨q1, q2, q3, q4, q5, q6, q7, q8, q9⟩ := cx_n C
  have e8 := (sx C).2.2.2.2.1
  have st := cx_stops C
  refine itr_ff (bad1 S P r) _ s (fun k hk hb => ?_) (fun k hk hb => ?_) ?_ s 0 fuel (by omega) (by unfold fuel; omega)
  · have b := pt_b C hk
    have z := fun w hw => cx_part C (k := k) (w := w) hk hw
    have y := cx_set C (i := 8) (by omega)
    have hb' := of_decide_eq_false hb
    rw [e8.2] at y
    generalize cl (S 8) = f8 at *
    unfold pX0_impossibleSortie_L2
    rw [q5, st]
    simp (disch := omega) only [bnd_eq, Option.bind_some, lit_nI, nI_add, pk_mul, ald_nI, ast_nI, lt_nI, le_nI, eq_nI, sub_nI, Sum.elim_inl, Sum.elim_inr, if_pos, if_neg, if_true, if_false, z, y, pX0_told]
  · have b := pt_b C hk
    have z := fun w hw => cx_part C (k := k) (w := w) hk hw
    have y := cx_set C (i := 8) (by omega)
    have hb' := of_decide_eq_true hb
    rw [e8.2] at y
    generalize cl (S 8) = f8 at *
    unfold pX0_impossibleSortie_L2
    rw [q5, st]
    simp (disch := omega) only [bnd_eq, Option.bind_some, lit_nI, nI_add, pk_mul, ald_nI, ast_nI, lt_nI, le_nI, eq_nI, sub_nI, Sum.elim_inl, Sum.elim_inr, if_pos, if_neg, if_true, if_false, z, y, pX0_told]
    (repeat' split) <;> first | rfl | (exfalso; omega)
  · unfold pX0_impossibleSortie_L2
    rw [q5]
    simp (disch := omega) only [bnd_eq, Option.bind_some, lit_nI, nI_add, pk_mul, ald_nI, ast_nI, lt_nI, le_nI, eq_nI, sub_nI, Sum.elim_inl, Sum.elim_inr, if_pos, if_neg, if_true, if_false]
theorem r_w1 (C : Ctx F S R P n r s M1 M2) : itr (pX9_wrongPlan_L2 M2) fuel 0 = some (ffo (fun k => nI (1 + 16 * k)) (ff (bad1 S P r) s 0)) := by
  obtain ⟨q1, q2, q3, q4, q5, q6, q7, q8, q9⟩ := cx_n C
  have e8 := (sx C).2.2.2.2.1
  have st := rx_stops C
  refine itr_ff (bad1 S P r) _ s (fun k hk hb => ?_) (fun k hk hb => ?_) ?_ s 0 fuel (by omega) (by unfold fuel; omega)
  · have b := pt_b C hk
    have z := fun w hw => rx_part C (k := k) (w := w) hk hw
    have y := rx_set C (i := 8) (by omega)
    have hb' := of_decide_eq_false hb
    rw [e8.2] at y
    generalize cl (S 8) = f8 at *
    unfold pX9_wrongPlan_L2
    rw [rx_sorties C, st]
    simp (disch := omega) only [bnd_eq, Option.bind_some, lit_nI, nI_add, pk_mul, ald_nI, ast_nI, lt_nI, le_nI, eq_nI, sub_nI, Sum.elim_inl, Sum.elim_inr, if_pos, if_neg, if_true, if_false, z, y]
  · have b := pt_b C hk
    have z := fun w hw => rx_part C (k := k) (w := w) hk hw
    have y := rx_set C (i := 8) (by omega)
    have hb' := of_decide_eq_true hb
    rw [e8.2] at y
    generalize cl (S 8) = f8 at *
    unfold pX9_wrongPlan_L2
    rw [rx_sorties C, st]
    simp (disch := omega) only [bnd_eq, Option.bind_some, lit_nI, nI_add, pk_mul, ald_nI, ast_nI, lt_nI, le_nI, eq_nI, sub_nI, Sum.elim_inl, Sum.elim_inr, if_pos, if_neg, if_true, if_false, z, y]
    (repeat' split) <;> first | rfl | (exfalso; omega)
  · unfold pX9_wrongPlan_L2
    rw [rx_sorties C]
    simp (disch := omega) only [bnd_eq, Option.bind_some, lit_nI, nI_add, pk_mul, ald_nI, ast_nI, lt_nI, le_nI, eq_nI, sub_nI, Sum.elim_inl, Sum.elim_inr, if_pos, if_neg, if_true, if_false]
theorem c_w2 (C : Ctx F S R P n r s M1 M2) : itr (pX0_servedTooOften_L2 M1) fuel 1 = some (ffo (fun k => nI (2 + 16 * k)) (ff (bad2 R P r s) n 1)) ∧ itr (pX9_wrongPlan_L81 M2) fuel 1 = some (ffo (fun k => nI (2 + 16 * k)) (ff (bad2 R P r s) n 1)) := by
  obtain ⟨q1, q2, q3, q4, q5, q6, q7, q8, q9⟩ := cx_n C
  constructor
  · refine itr_ff (bad2 R P r s) _ (n + 1) (fun k hk hb => ?_) (fun k hk hb => ?_) ?_ n 1 fuel (by omega) (by unfold fuel; omega)
    · have z := c_served C (c := k) (by omega)
      have y := sv_le (R := R) (P := P) (c := k) q4 q6
      have hb' := of_decide_eq_false hb
      unfold pX0_servedTooOften_L2
      rw [q1]
      simp (disch := omega) only [bnd_eq, Option.bind_some, lit_nI, nI_add, pk_mul, ald_nI, ast_nI, lt_nI, le_nI, eq_nI, sub_nI, Sum.elim_inl, Sum.elim_inr, if_pos, if_neg, if_true, if_false, z]
    · have z := c_served C (c := k) (by omega)
      have y := sv_le (R := R) (P := P) (c := k) q4 q6
      have hb' := of_decide_eq_true hb
      unfold pX0_servedTooOften_L2
      rw [q1]
      simp (disch := omega) only [bnd_eq, Option.bind_some, lit_nI, nI_add, pk_mul, ald_nI, ast_nI, lt_nI, le_nI, eq_nI, sub_nI, Sum.elim_inl, Sum.elim_inr, if_pos, if_neg, if_true, if_false, z, pX0_told]
    · unfold pX0_servedTooOften_L2
      rw [q1]
      simp (disch := omega) only [bnd_eq, Option.bind_some, lit_nI, nI_add, pk_mul, ald_nI, ast_nI, lt_nI, le_nI, eq_nI, sub_nI, Sum.elim_inl, Sum.elim_inr, if_pos, if_neg, if_true, if_false]
  · refine itr_ff (bad2 R P r s) _ (n + 1) (fun k hk hb => ?_) (fun k hk hb => ?_) ?_ n 1 fuel (by omega) (by unfold fuel; omega)
    · have z := r_served C (c := k) (by omega)
      have y := sv_le (R := R) (P := P) (c := k) q4 q6
      have hb' := of_decide_eq_false hb
      unfold pX9_wrongPlan_L81
      rw [rx_customers C]
      simp (disch := omega) only [bnd_eq, Option.bind_some, lit_nI, nI_add, pk_mul, ald_nI, ast_nI, lt_nI, le_nI, eq_nI, sub_nI, Sum.elim_inl, Sum.elim_inr, if_pos, if_neg, if_true, if_false, z]
    · have z := r_served C (c := k) (by omega)
      have y := sv_le (R := R) (P := P) (c := k) q4 q6
      have hb' := of_decide_eq_true hb
      unfold pX9_wrongPlan_L81
      rw [rx_customers C]
      simp (disch := omega) only [bnd_eq, Option.bind_some, lit_nI, nI_add, pk_mul, ald_nI, ast_nI, lt_nI, le_nI, eq_nI, sub_nI, Sum.elim_inl, Sum.elim_inr, if_pos, if_neg, if_true, if_false, z]
    · unfold pX9_wrongPlan_L81
      rw [rx_customers C]
      simp (disch := omega) only [bnd_eq, Option.bind_some, lit_nI, nI_add, pk_mul, ald_nI, ast_nI, lt_nI, le_nI, eq_nI, sub_nI, Sum.elim_inl, Sum.elim_inr, if_pos, if_neg, if_true, if_false]
theorem c_w3 (C : Ctx F S R P n r s M1 M2) : itr (pX0_servedByNobody_L2 M1) fuel 1 = some (ffo (fun k => nI (3 + 16 * k)) (ff (bad3 R P r s) n 1)) ∧ itr (pX9_wrongPlan_L113 M2) fuel 1 = some (ffo (fun k => nI (3 + 16 * k)) (ff (bad3 R P r s) n 1)) := by
  obtain ⟨q1, q2, q3, q4, q5, q6, q7, q8, q9⟩ := cx_n C
  constructor
  · refine itr_ff (bad3 R P r s) _ (n + 1) (fun k hk hb => ?_) (fun k hk hb => ?_) ?_ n 1 fuel (by omega) (by unfold fuel; omega)
    · have z := c_served C (c := k) (by omega)
      have y := sv_le (R := R) (P := P) (c := k) q4 q6
      have hb' := of_decide_eq_false hb
      unfold pX0_servedByNobody_L2
      rw [q1]
      simp (disch := omega) only [bnd_eq, Option.bind_some, lit_nI, nI_add, pk_mul, ald_nI, ast_nI, lt_nI, le_nI, eq_nI, sub_nI, Sum.elim_inl, Sum.elim_inr, if_pos, if_neg, if_true, if_false, z]
    · have z := c_served C (c := k) (by omega)
      have y := sv_le (R := R) (P := P) (c := k) q4 q6
      have hb' := of_decide_eq_true hb
      unfold pX0_servedByNobody_L2
      rw [q1]
      simp (disch := omega) only [bnd_eq, Option.bind_some, lit_nI, nI_add, pk_mul, ald_nI, ast_nI, lt_nI, le_nI, eq_nI, sub_nI, Sum.elim_inl, Sum.elim_inr, if_pos, if_neg, if_true, if_false, z, pX0_told]
    · unfold pX0_servedByNobody_L2
      rw [q1]
      simp (disch := omega) only [bnd_eq, Option.bind_some, lit_nI, nI_add, pk_mul, ald_nI, ast_nI, lt_nI, le_nI, eq_nI, sub_nI, Sum.elim_inl, Sum.elim_inr, if_pos, if_neg, if_true, if_false]
  · refine itr_ff (bad3 R P r s) _ (n + 1) (fun k hk hb => ?_) (fun k hk hb => ?_) ?_ n 1 fuel (by omega) (by unfold fuel; omega)
    · have z := r_served C (c := k) (by omega)
      have y := sv_le (R := R) (P := P) (c := k) q4 q6
      have hb' := of_decide_eq_false hb
      unfold pX9_wrongPlan_L113
      rw [rx_customers C]
      simp (disch := omega) only [bnd_eq, Option.bind_some, lit_nI, nI_add, pk_mul, ald_nI, ast_nI, lt_nI, le_nI, eq_nI, sub_nI, Sum.elim_inl, Sum.elim_inr, if_pos, if_neg, if_true, if_false, z]
    · have z := r_served C (c := k) (by omega)
      have y := sv_le (R := R) (P := P) (c := k) q4 q6
      have hb' := of_decide_eq_true hb
      unfold pX9_wrongPlan_L113
      rw [rx_customers C]
      simp (disch := omega) only [bnd_eq, Option.bind_some, lit_nI, nI_add, pk_mul, ald_nI, ast_nI, lt_nI, le_nI, eq_nI, sub_nI, Sum.elim_inl, Sum.elim_inr, if_pos, if_neg, if_true, if_false, z]
    · unfold pX9_wrongPlan_L113
      rw [rx_customers C]
      simp (disch := omega) only [bnd_eq, Option.bind_some, lit_nI, nI_add, pk_mul, ald_nI, ast_nI, lt_nI, le_nI, eq_nI, sub_nI, Sum.elim_inl, Sum.elim_inr, if_pos, if_neg, if_true, if_false]
theorem c_w4 (C : Ctx F S R P n r s M1 M2) : itr (pX0_tooHeavy_L2 M1) fuel 0 = some (ffo (fun k => nI (4 + 16 * k)) (ff (bad4 F S P) s 0)) ∧ itr (pX9_wrongPlan_L144 M2) fuel 0 = some (ffo (fun k => nI (4 + 16 * k)) (ff (bad4 F S P) s 0)) := by
  obtain ⟨q1, q2, q3, q4, q5, q6, q7, q8, q9⟩ := cx_n C
  constructor
  · refine itr_ff (bad4 F S P) _ s (fun k hk hb => ?_) (fun k hk hb => ?_) ?_ s 0 fuel (by omega) (by unfold fuel; omega)
    · have b := pt_b C hk
      have z := cx_part C (k := k) (w := 2) hk (by omega)
      have y := cx_light C (p := pt P k 2) (by omega)
      have hb' := of_decide_eq_false hb
      rw [if_pos (by omega)] at y
      unfold pX0_tooHeavy_L2
      rw [q5]
      simp (disch := omega) only [bnd_eq, Option.bind_some, lit_nI, nI_add, pk_mul, ald_nI, ast_nI, lt_nI, le_nI, eq_nI, sub_nI, Sum.elim_inl, Sum.elim_inr, if_pos, if_neg, if_true, if_false, z, y]
    · have b := pt_b C hk
      have z := cx_part C (k := k) (w := 2) hk (by omega)
      have y := cx_light C (p := pt P k 2) (by omega)
      have hb' := of_decide_eq_true hb
      rw [if_neg (by omega)] at y
      unfold pX0_tooHeavy_L2
      rw [q5]
      simp (disch := omega) only [bnd_eq, Option.bind_some, lit_nI, nI_add, pk_mul, ald_nI, ast_nI, lt_nI, le_nI, eq_nI, sub_nI, Sum.elim_inl, Sum.elim_inr, if_pos, if_neg, if_true, if_false, z, y, pX0_told]
    · unfold pX0_tooHeavy_L2
      rw [q5]
      simp (disch := omega) only [bnd_eq, Option.bind_some, lit_nI, nI_add, pk_mul, ald_nI, ast_nI, lt_nI, le_nI, eq_nI, sub_nI, Sum.elim_inl, Sum.elim_inr, if_pos, if_neg, if_true, if_false]
  · refine itr_ff (bad4 F S P) _ s (fun k hk hb => ?_) (fun k hk hb => ?_) ?_ s 0 fuel (by omega) (by unfold fuel; omega)
    · have b := pt_b C hk
      have z := rx_part C (k := k) (w := 2) hk (by omega)
      have y := rx_light C (p := pt P k 2) (by omega)
      have hb' := of_decide_eq_false hb
      rw [if_pos (by omega)] at y
      unfold pX9_wrongPlan_L144
      rw [rx_sorties C]
      simp (disch := omega) only [bnd_eq, Option.bind_some, lit_nI, nI_add, pk_mul, ald_nI, ast_nI, lt_nI, le_nI, eq_nI, sub_nI, Sum.elim_inl, Sum.elim_inr, if_pos, if_neg, if_true, if_false, z, y]
    · have b := pt_b C hk
      have z := rx_part C (k := k) (w := 2) hk (by omega)
      have y := rx_light C (p := pt P k 2) (by omega)
      have hb' := of_decide_eq_true hb
      rw [if_neg (by omega)] at y
      unfold pX9_wrongPlan_L144
      rw [rx_sorties C]
      simp (disch := omega) only [bnd_eq, Option.bind_some, lit_nI, nI_add, pk_mul, ald_nI, ast_nI, lt_nI, le_nI, eq_nI, sub_nI, Sum.elim_inl, Sum.elim_inr, if_pos, if_neg, if_true, if_false, z, y]
    · unfold pX9_wrongPlan_L144
      rw [rx_sorties C]
      simp (disch := omega) only [bnd_eq, Option.bind_some, lit_nI, nI_add, pk_mul, ald_nI, ast_nI, lt_nI, le_nI, eq_nI, sub_nI, Sum.elim_inl, Sum.elim_inr, if_pos, if_neg, if_true, if_false]
theorem c_w5i (C : Ctx F S R P n r s M1 M2) {k : Nat} (hk : k < s) : itr (pX0_overlapping_L15 (nI k) M1) fuel 0 = some (ffo (fun _ => nI (5 + 16 * k)) (ff (badi P k) k 0)) ∧ itr (pX9_crosses_L2 (nI k) M2) fuel 0 = some (ffo (fun _ => 1) (ff (badi P k) k 0)) := by
  obtain ⟨q1, q2, q3, q4, q5, q6, q7, q8, q9⟩ := cx_n C
  have bk := pt_b C hk
  have zk := fun w hw => cx_part C (k := k) (w := w) hk hw
  have yk := fun w hw => rx_part C (k := k) (w := w) hk hw
  constructor
  · refine itr_ff (badi P k) _ k (fun j hj hb => ?_) (fun j hj hb => ?_) ?_ k 0 fuel (by omega) (by unfold fuel; omega)
    · have b := pt_b C (k := j) (by omega)
      have z := fun w hw => cx_part C (k := j) (w := w) (by omega) hw
      have hb' := of_decide_eq_false hb
      unfold pX0_overlapping_L15
      simp (disch := omega) only [bnd_eq, Option.bind_some, lit_nI, nI_add, pk_mul, ald_nI, ast_nI, lt_nI, le_nI, eq_nI, sub_nI, Sum.elim_inl, Sum.elim_inr, if_pos, if_neg, if_true, if_false, z, zk, pX0_told]
      (repeat' split) <;> first | rfl | (exfalso; omega)
    · have b := pt_b C (k := j) (by omega)
      have z := fun w hw => cx_part C (k := j) (w := w) (by omega) hw
      have hb' := of_decide_eq_true hb
      unfold pX0_overlapping_L15
      simp (disch := omega) only [bnd_eq, Option.bind_some, lit_nI, nI_add, pk_mul, ald_nI, ast_nI, lt_nI, le_nI, eq_nI, sub_nI, Sum.elim_inl, Sum.elim_inr, if_pos, if_neg, if_true, if_false, z, zk, pX0_told]
    · unfold pX0_overlapping_L15
      simp (disch := omega) only [bnd_eq, Option.bind_some, lit_nI, nI_add, pk_mul, ald_nI, ast_nI, lt_nI, le_nI, eq_nI, sub_nI, Sum.elim_inl, Sum.elim_inr, if_pos, if_neg, if_true, if_false]
  · refine itr_ff (badi P k) _ k (fun j hj hb => ?_) (fun j hj hb => ?_) ?_ k 0 fuel (by omega) (by unfold fuel; omega)
    · have b := pt_b C (k := j) (by omega)
      have z := fun w hw => rx_part C (k := j) (w := w) (by omega) hw
      have hb' := of_decide_eq_false hb
      unfold pX9_crosses_L2
      simp (disch := omega) only [bnd_eq, Option.bind_some, lit_nI, nI_add, pk_mul, ald_nI, ast_nI, lt_nI, le_nI, eq_nI, sub_nI, Sum.elim_inl, Sum.elim_inr, if_pos, if_neg, if_true, if_false, z, yk]
      (repeat' split) <;> first | rfl | (exfalso; omega)
    · have b := pt_b C (k := j) (by omega)
      have z := fun w hw => rx_part C (k := j) (w := w) (by omega) hw
      have hb' := of_decide_eq_true hb
      unfold pX9_crosses_L2
      simp (disch := omega) only [bnd_eq, Option.bind_some, lit_nI, nI_add, pk_mul, ald_nI, ast_nI, lt_nI, le_nI, eq_nI, sub_nI, Sum.elim_inl, Sum.elim_inr, if_pos, if_neg, if_true, if_false, z, yk]
    · unfold pX9_crosses_L2
      simp (disch := omega) only [bnd_eq, Option.bind_some, lit_nI, nI_add, pk_mul, ald_nI, ast_nI, lt_nI, le_nI, eq_nI, sub_nI, Sum.elim_inl, Sum.elim_inr, if_pos, if_neg, if_true, if_false]
theorem c_w5 (C : Ctx F S R P n r s M1 M2) : itr (pX0_overlapping_L2 M1) fuel 0 = some (ffo (fun k => nI (5 + 16 * k)) (ff (bad5 P) s 0)) ∧ itr (pX9_wrongPlan_L180 M2) fuel 0 = some (ffo (fun k => nI (5 + 16 * k)) (ff (bad5 P) s 0)) := by
  obtain ⟨q1, q2, q3, q4, q5, q6, q7, q8, q9⟩ := cx_n C
  constructor
  · refine itr_ff (bad5 P) _ s (fun k hk hb => ?_) (fun k hk hb => ?_) ?_ s 0 fuel (by omega) (by unfold fuel; omega)
    · have z := (c_w5i C hk).1
      have e : ff (badi P k) k 0 = none := by
        unfold bad5 at hb
        exact Option.not_isSome_iff_eq_none.mp (by rw [hb]; decide)
      rw [e] at z
      unfold pX0_overlapping_L2
      rw [q5, z]
      simp (disch := omega) only [bnd_eq, Option.bind_some, lit_nI, nI_add, pk_mul, ald_nI, ast_nI, lt_nI, le_nI, eq_nI, sub_nI, Sum.elim_inl, Sum.elim_inr, if_pos, if_neg, if_true, if_false, ffo]
    · have z := (c_w5i C hk).1
      obtain ⟨j, e⟩ := Option.isSome_iff_exists.mp (show (ff (badi P k) k 0).isSome = true from hb)
      rw [e] at z
      unfold pX0_overlapping_L2
      rw [q5, z]
      simp (disch := omega) only [bnd_eq, Option.bind_some, lit_nI, nI_add, pk_mul, ald_nI, ast_nI, lt_nI, le_nI, eq_nI, sub_nI, Sum.elim_inl, Sum.elim_inr, if_pos, if_neg, if_true, if_false, ffo]
    · unfold pX0_overlapping_L2
      rw [q5]
      simp (disch := omega) only [bnd_eq, Option.bind_some, lit_nI, nI_add, pk_mul, ald_nI, ast_nI, lt_nI, le_nI, eq_nI, sub_nI, Sum.elim_inl, Sum.elim_inr, if_pos, if_neg, if_true, if_false]
  · refine itr_ff (bad5 P) _ s (fun k hk hb => ?_) (fun k hk hb => ?_) ?_ s 0 fuel (by omega) (by unfold fuel; omega)
    · have z := (c_w5i C hk).2
      have e : ff (badi P k) k 0 = none := by
        unfold bad5 at hb
        exact Option.not_isSome_iff_eq_none.mp (by rw [hb]; decide)
      rw [e] at z
      unfold pX9_wrongPlan_L180 pX9_crosses
      rw [rx_sorties C, z]
      simp (disch := omega) only [bnd_eq, Option.bind_some, lit_nI, nI_add, pk_mul, ald_nI, ast_nI, lt_nI, le_nI, eq_nI, sub_nI, Sum.elim_inl, Sum.elim_inr, if_pos, if_neg, if_true, if_false, ffo]
    · have z := (c_w5i C hk).2
      obtain ⟨j, e⟩ := Option.isSome_iff_exists.mp (show (ff (badi P k) k 0).isSome = true from hb)
      rw [e] at z
      unfold pX9_wrongPlan_L180 pX9_crosses
      rw [rx_sorties C, z]
      simp (disch := omega) only [bnd_eq, Option.bind_some, lit_nI, nI_add, pk_mul, ald_nI, ast_nI, lt_nI, le_nI, eq_nI, sub_nI, Sum.elim_inl, Sum.elim_inr, if_pos, if_neg, if_true, if_false, ffo]
    · unfold pX9_wrongPlan_L180
      rw [rx_sorties C]
      simp (disch := omega) only [bnd_eq, Option.bind_some, lit_nI, nI_add, pk_mul, ald_nI, ast_nI, lt_nI, le_nI, eq_nI, sub_nI, Sum.elim_inl, Sum.elim_inr, if_pos, if_neg, if_true, if_false]
/-- what a plan with times keeps -/
def Good (S R P : Nat → Int32) (n r s : Nat) : Prop := (∀ k, k < s → pt P k 0 < cl (S 8) ∧ pt P k 3 < r + 2 ∧ pt P k 1 < pt P k 3) ∧ r + s ≤ 8
theorem fits8 (C : Ctx F S R P n r s M1 M2) (h : ∀ c, 1 ≤ c → c < 1 + n → bad2 R P r s c = false) : r + s ≤ 8 := by
  obtain ⟨q1, q2, q3, q4, q5, q6, q7, q8, q9⟩ := cx_n C
  let f : Nat → Nat := fun i => (if i < r then pl R r (i + 1) else pt P (i - r) 2) - 1
  have hf : ∀ i, i < r + s → 1 ≤ (if i < r then pl R r (i + 1) else pt P (i - r) 2) ∧ (if i < r then pl R r (i + 1) else pt P (i - r) 2) ≤ n := by
    intro i hi
    by_cases c : i < r
    · rw [if_pos c]
      have := pl_b C (i + 1)
      exact ⟨this.2 (by omega) (by omega), this.1⟩
    · rw [if_neg c]
      have := pt_b C (k := i - r) (by omega)
      exact ⟨by omega, by omega⟩
  refine Nat.le_trans (fb_holes n (r + s) f (fun i hi => ?_) (fun i j hij hj e => ?_)) q2
  · have := hf i hi
    show _ - 1 < n
    omega
  · have h1 := hf i (by omega)
    have h2 := hf j hj
    have e' : (if i < r then pl R r (i + 1) else pt P (i - r) 2) = (if j < r then pl R r (j + 1) else pt P (j - r) 2) := by
      have : (if i < r then pl R r (i + 1) else pt P (i - r) 2) - 1 = (if j < r then pl R r (j + 1) else pt P (j - r) 2) - 1 := e
      omega
    generalize hc : (if i < r then pl R r (i + 1) else pt P (i - r) 2) = c at *
    have hb := of_decide_eq_false (h c h1.1 (by omega))
    apply hb
    unfold sv
    by_cases ci : i < r
    · rw [if_pos ci] at hc
      by_cases cj : j < r
      · rw [if_pos cj] at e'
        have := cnt_two (p := pR R r c) (c := r) (k := 1) (i := i + 1) (j := j + 1) (by omega) (by omega) (by omega) (decide_eq_true hc) (decide_eq_true e'.symm)
        omega
      · rw [if_neg cj] at e'
        have a := cnt_pos (p := pR R r c) (c := r) (k := 1) (j := i + 1) (by omega) (by omega) (decide_eq_true hc)
        have b := cnt_pos (p := pS P c) (c := s) (k := 0) (j := j - r) (by omega) (by omega) (decide_eq_true e'.symm)
        omega
    · rw [if_neg ci] at hc
      rw [if_neg (by omega)] at e'
      have := cnt_two (p := pS P c) (c := s) (k := 0) (i := i - r) (j := j - r) (by omega) (by omega) (by omega) (decide_eq_true hc) (decide_eq_true e'.symm)
      omega
theorem wrong_c (C : Ctx F S R P n r s M1 M2) : ∃ w : Nat, pX0_wrongWithoutTimes M1 = some (nI w) ∧ pX9_wrongPlan M2 = some (nI w) ∧ w < 200 ∧ (w = 0 → Good S R P n r s) := by
  obtain ⟨q1, q2, q3, q4, q5, q6, q7, q8, q9⟩ := cx_n C
  unfold pX0_wrongWithoutTimes pX9_wrongPlan pX0_impossibleSortie pX0_servedTooOften pX0_servedByNobody pX0_tooHeavy pX0_overlapping
  rw [c_w1 C, r_w1 C, (c_w2 C).1, (c_w2 C).2, (c_w3 C).1, (c_w3 C).2, (c_w4 C).1, (c_w4 C).2, (c_w5 C).1, (c_w5 C).2]
  have ne : ∀ a k : Nat, 0 < a → a < 10 → k < 20 → ¬ nI (a + 16 * k) = 0 := fun a k h1 h2 h3 => nI_ne0 (by omega) (by omega)
  cases h1 : ff (bad1 S P r) s 0 with
  | some k =>
    have z := ff_some h1
    refine ⟨1 + 16 * k, ?_, rfl, by omega, fun h => by omega⟩
    simp only [ffo, Option.bind_some, Sum.elim_inr, if_neg (ne 1 k (by omega) (by omega) (by omega))]
  | none =>
    cases h2 : ff (bad2 R P r s) n 1 with
    | some k =>
      have z := ff_some h2
      refine ⟨2 + 16 * k, ?_, rfl, by omega, fun h => by omega⟩
      simp only [ffo, Option.bind_some, Sum.elim_inl, Sum.elim_inr, if_true, if_neg (ne 2 k (by omega) (by omega) (by omega))]
    | none =>
      cases h3 : ff (bad3 R P r s) n 1 with
      | some k =>
        have z := ff_some h3
        refine ⟨3 + 16 * k, ?_, rfl, by omega, fun h => by omega⟩
        simp only [ffo, Option.bind_some, Sum.elim_inl, Sum.elim_inr, if_true, if_neg (ne 3 k (by omega) (by omega) (by omega))]
      | none =>
        cases h4 : ff (bad4 F S P) s 0 with
        | some k =>
          have z := ff_some h4
          refine ⟨4 + 16 * k, ?_, rfl, by omega, fun h => by omega⟩
          simp only [ffo, Option.bind_some, Sum.elim_inl, Sum.elim_inr, if_true, if_neg (ne 4 k (by omega) (by omega) (by omega))]
        | none =>
          cases h5 : ff (bad5 P) s 0 with
          | some k =>
            have z := ff_some h5
            refine ⟨5 + 16 * k, ?_, rfl, by omega, fun h => by omega⟩
            simp only [ffo, Option.bind_some, Sum.elim_inl, Sum.elim_inr, if_true, if_neg (ne 5 k (by omega) (by omega) (by omega))]
          | none =>
            refine ⟨0, rfl, rfl, by omega, fun _ => ⟨fun k hk => ?_, fits8 C (fun c a b => ff_none h2 c a (by omega))⟩⟩
            have := of_decide_eq_false (ff_none h1 k (by omega) (by omega))
            omega
end WRONG
