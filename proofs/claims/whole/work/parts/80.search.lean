/-! PURE: the best order, on both sides -/
def tE (Z : Tp) (n : Nat) (o : Nat → Nat) : Nat := (tab Z o (n + 1) (n + 1)).1
def upb (Z : Tp) (n : Nat) (b : Nat × Nat) (o : Nat → Nat) : Nat × Nat := if tE Z n o < b.1 then (tE Z n o, nm o n) else b
def bst (Z : Tp) (n : Nat) : Nat → (Nat → Nat) → Nat × Nat → Nat × Nat
  | 0, _, b => b
  | k + 1, o, b => if pv o (n - 1) = 0 then b else bst Z n k (nxo n o) (upb Z n b (nxo n o))
theorem bst_0 {Z : Tp} {n : Nat} {o : Nat → Nat} {b : Nat × Nat} (h : pv o (n - 1) = 0) : ∀ k, bst Z n k o b = b
  | 0 => rfl
  | k + 1 => by rw [bst, if_pos h]
theorem endF_c {n : Nat} {o : Nat → Nat} (h : 1 ≤ pv o (n - 1)) : ∀ k, endF n k o = true → ∃ k', k = k' + 1 ∧ endF n k' (nxo n o) = true
  | 0, e => by
    rw [endF] at e
    have : pv o (n - 1) = 0 := by simpa using e
    omega
  | k + 1, e => by
    refine ⟨k, rfl, ?_⟩
    rw [endF] at e
    have c' : (pv o (n - 1) == 0) = false := by
      have : pv o (n - 1) ≠ 0 := by omega
      simpa using this
    rw [c', Bool.false_or] at e
    exact e
section SEARCH
variable {F S : Nat → Int32} {wx wy : Int32} {f n : Nat}
theorem CX_o {o o' : Nat → Nat} {A A1 : Mm} (h : CX F S wx wy f n o A) (g : ∀ d, d ≠ 22 → A1 d = A d) (ho : ∀ k, o' k ≤ n) (h22 : ∀ k, k ≤ n + 1 → A1 22 k = nI (o' k)) : CX F S wx wy f n o' A1 := by
  obtain ⟨h1, h2, h3, h4, h5, h6, h7, h8, h9, h10, h11, h12, h13, h14⟩ := h
  refine ⟨h1, h2, ho, ?_, ?_, ?_, ?_, ?_, ?_, ?_, ?_, ?_, ?_, h22⟩
  · rw [g 17 (by omega)]; exact h4
  · rw [g 17 (by omega)]; exact h5
  · rw [g 17 (by omega)]; exact h6
  · rw [g 17 (by omega)]; exact h7
  · rw [g 17 (by omega)]; exact h8
  · rw [g 17 (by omega)]; exact h9
  · rw [g 18 (by omega)]; exact h10
  · rw [g 19 (by omega)]; exact h11
  · rw [g 20 (by omega)]; exact h12
  · rw [g 21 (by omega)]; exact h13
theorem c_number {o : Nat → Nat} {A : Mm} (hn : n ≤ 8) (h17 : A 17 6 = nI (n + 1)) (h22 : ∀ k, k ≤ n + 1 → A 22 k = nI (o k)) : pX5_orderNumber A = some (nI (nm o n)) := by
  have z : itr (pX5_orderNumber_L4 A) fuel (nI (nm o 0), nI (0 + 1)) = some (nI (nm o n)) := by
    refine itr_st (fun k => (nI (nm o k), nI (k + 1))) n _ (fun k hk => ?_) ?_ n 0 fuel (by omega) (by unfold fuel; omega)
    · unfold pX5_orderNumber_L4
      dsimp only
      rw [if_neg (show ¬ A 17 6 ≤ nI (k + 1) by rw [h17, le_nI] <;> omega), ald_nI (by omega) (by omega), h22 (k + 1) (by omega), Option.bind_some, bnd_eq, nm]
      simp (disch := omega) only [bnd_eq, Option.bind_some, lit_nI, nI_add, pk_mul, ald_nI, ast_nI, lt_nI, le_nI, eq_nI, sub_nI, Sum.elim_inl, Sum.elim_inr, if_pos, if_neg, if_true, if_false]
    · unfold pX5_orderNumber_L4
      dsimp only
      rw [if_pos (show A 17 6 ≤ nI (n + 1) by rw [h17, le_nI] <;> omega)]
  unfold pX5_orderNumber
  rw [show itr (pX5_orderNumber_L4 A) fuel (0, 1) = _ from z, Option.bind_some]
theorem r_number {o : Nat → Nat} {D : Mm} (hn : n ≤ 8) (h1 : D 1 0 = nI n) (h13 : ∀ k, k ≤ n + 1 → D 13 k = nI (o k)) : pX9_told D = some (nI (nm o n)) := by
  have z : itr (pX9_told_L4 D) fuel (nI (nm o 0), nI (0 + 1)) = some (nI (nm o n)) := by
    refine itr_st (fun k => (nI (nm o k), nI (k + 1))) n _ (fun k hk => ?_) ?_ n 0 fuel (by omega) (by unfold fuel; omega)
    · unfold pX9_told_L4
      dsimp only
      rw [r_customers, h1, Option.bind_some, if_neg (show ¬ nI n < nI (k + 1) by rw [lt_nI] <;> omega), ald_nI (by omega) (by omega), h13 (k + 1) (by omega), Option.bind_some, bnd_eq, nm, Nat.mul_comm (nm o k) 10]
      simp (disch := omega) only [bnd_eq, Option.bind_some, lit_nI, nI_add, pk_mul, ald_nI, ast_nI, lt_nI, le_nI, eq_nI, sub_nI, Sum.elim_inl, Sum.elim_inr, if_pos, if_neg, if_true, if_false]
    · unfold pX9_told_L4
      dsimp only
      rw [r_customers, h1, Option.bind_some, if_pos (show nI n < nI (n + 1) by rw [lt_nI] <;> omega)]
  unfold pX9_told
  rw [show itr (pX9_told_L4 D) fuel (0, 1) = _ from z, Option.bind_some]
theorem tE_lt {o : Nat → Nat} (bz : BZ (zof F S wx wy f)) (hn : n ≤ 8) (ho : ∀ k, o k ≤ n) : tE (zof F S wx wy f) n o ≤ 9000 := by
  have := (tab_ok (Z := zof F S wx wy f) (o := o) (fun k => bz.1 _ _ (Nat.le_trans (ho _) hn) (Nat.le_trans (ho _) hn)) (n + 1) (n + 1) (by omega)).1.1
  unfold tE
  omega
def CS (F S : Nat → Int32) (wx wy : Int32) (f n g : Nat) (o : Nat → Nat) (b : Nat × Nat) (B A : Mm) : Prop := CX F S wx wy f n o A ∧ (∀ k, k ≤ n + 1 → A 23 k = nI (zsv (zof F S wx wy f) o k)) ∧ Rows 24 (tab (zof F S wx wy f) o (n + 1)) (n + 2) A ∧ (A g 0 = 1 ∧ A g 1 = nI b.1 ∧ A g 2 = nI b.2) ∧ ∀ c, c < 17 ∨ 27 < c → c ≠ g → A c = B c
theorem CS_b {g : Nat} {o : Nat → Nat} {b b' : Nat × Nat} {B A : Mm} (hg : 27 < g) (h : CS F S wx wy f n g o b B A) (e : b'.1 < 2147483648) : CS F S wx wy f n g o b' B (mset (mset (mset A g 0 1) g 1 (nI b'.1)) g 2 (nI b'.2)) := by
  obtain ⟨h1, h2, h3, h4, h5⟩ := h
  have gf : ∀ c, c ≠ g → (mset (mset (mset A g 0 1) g 1 (nI b'.1)) g 2 (nI b'.2)) c = A c := fun c hc => by rw [mset_cell hc, mset_cell hc, mset_cell hc]
  refine ⟨CX_c h1 (fun c a b => gf c (by omega)), fun k hk => by rw [gf 23 (by omega)]; exact h2 k hk, fun k hk => ?_, ⟨?_, ?_, ?_⟩, fun c a b => by rw [gf c b]; exact h5 c a b⟩
  · rw [gf 24 (by omega), gf (24 + 1) (by omega), gf (24 + 2) (by omega), gf (24 + 3) (by omega)]
    exact h3 k hk
  · rw [mset_slot (by omega), mset_slot (by omega), mset_same]
  · rw [mset_slot (by omega), mset_same]
  · rw [mset_same]
theorem c_search {g : Nat} {B : Mm} (hg : 27 < g) (hn : n ≤ 7) : ∀ (k done fu : Nat) (o : Nat → Nat) (b : Nat × Nat) (A : Mm), done + k ≤ 5040 → endF n k o = true → CS F S wx wy f n g o b B A → b.1 < 2147483648 → k < fu → ∃ (x : Mm ⊕ Mm) (A' : Mm) (o' : Nat → Nat), itr (pX5_search_L65 g) fu (nI done, A) = some x ∧ (x = .inl A' ∨ x = .inr A') ∧ CS F S wx wy f n g o' (bst (zof F S wx wy f) n k o b) B A'
  | k, done, 0, o, b, A, hd, he, h, hb, hfu => absurd hfu (by omega)
  | k, done, fu + 1, o, b, A, hd, he, h, hb, hfu => by
    have n8 := h.1.2.1
    have bz := h.1.1
    have ho := h.1.2.2.1
    have h22 := h.1.2.2.2.2.2.2.2.2.2.2.2.2.2
    have h17 : A 17 6 = nI (n + 1) := h.1.2.2.2.2.2.2.2.2.1
    have nx := c_next n8 ho h22 h17
    by_cases cd : 5040 ≤ done
    · have k0 : k = 0 := by omega
      subst k0
      refine ⟨.inl A, A, o, itr_e ?_, Or.inl rfl, h⟩
      unfold pX5_search_L65
      rw [if_pos (show (5040 : Int32) ≤ nI done by show nI 5040 ≤ nI done; rw [le_nI] <;> omega)]
    have i1 : ¬ (5040 : Int32) ≤ nI done := by show ¬ nI 5040 ≤ nI done; rw [le_nI] <;> omega
    by_cases c : pv o (n - 1) = 0
    · refine ⟨.inr A, A, o, itr_e ?_, Or.inr rfl, by rw [bst_0 c]; exact h⟩
      unfold pX5_search_L65
      dsimp only
      rw [if_neg i1, nx.1 c, Option.bind_some, bnd_eq, if_pos rfl]
    · have c1 : 1 ≤ pv o (n - 1) := by omega
      obtain ⟨k', rfl, he'⟩ := endF_c c1 k he
      obtain ⟨A1, e1, f1, g1⟩ := nx.2 c1
      have pl := pv_le o (n - 1)
      have ho' : ∀ k, nxo n o k ≤ n := nxo_le ho
      have oc : ∀ k, k < pv o (n - 1) → nxo n o k = o k := fun k hk => nxo_out c1 (Or.inl hk)
      have cf : CF A1 F S wx wy f n (nxo n o) (pv o (n - 1) - 1) A1 := by
        refine ⟨CX_o h.1 f1 ho' g1, fun k hk => ?_, fun b hb => ?_, fun _ _ => rfl, fun _ => rfl⟩
        · rw [f1 23 (by omega), h.2.1 k (by omega), zsv_cong (o := nxo n o) (o' := o) k (fun i hi => oc i (by omega))]
        · have r := h.2.2.1 b (by omega)
          rw [tab_stable _ _ _ b (by omega)] at r
          rw [tab_stable _ _ _ b (by omega), tab_cong (o := nxo n o) (o' := o) b (fun i hi => oc i (by omega)), f1 24 (by omega), f1 (24 + 1) (by omega), f1 (24 + 2) (by omega), f1 (24 + 3) (by omega)]
          exact r
      obtain ⟨A2, e2, h2⟩ := fill_c (a := pv o (n - 1)) c1 (by omega) cf
      have fr := h2.2.2.2
      have fg : ∀ c, c < 17 ∨ 27 < c → A2 c = A c := fun c hc => by rw [fr.1 c (by omega), f1 c (by omega)]
      have cs : CS F S wx wy f n g (nxo n o) b B A2 := ⟨h2.1, h2.2.1, h2.2.2.1, by rw [fg g (by omega)]; exact h.2.2.2.1, fun c a b => by rw [fg c a]; exact h.2.2.2.2 c a b⟩
      have a17 : A2 17 6 = nI (n + 1) := h2.1.2.2.2.2.2.2.2.2.1
      have le : pX5_lastEnd A2 = some (nI (tE (zof F S wx wy f) n (nxo n o))) := by
        unfold pX5_lastEnd
        rw [a17, ald_nI (by omega) (by omega), (h2.2.2.1 (n + 1) (by omega)).1, Option.bind_some]
        rfl
      have tl := tE_lt bz n8 ho'
      have num := c_number n8 a17 h2.1.2.2.2.2.2.2.2.2.2.2.2.2.2
      have st : pX5_search_L65 g (nI done, A) = some (.inl (nI (done + 1), if tE (zof F S wx wy f) n (nxo n o) < b.1 then mset (mset (mset A2 g 0 1) g 1 (nI (tE (zof F S wx wy f) n (nxo n o)))) g 2 (nI (nm (nxo n o) n)) else A2)) := by
        unfold pX5_search_L65
        dsimp only
        rw [if_neg i1, e1, Option.bind_some, bnd_eq, if_neg (ne_nI (by omega)), e2, Option.bind_some, le, Option.bind_some]
        by_cases cb : tE (zof F S wx wy f) n (nxo n o) < b.1
        · rw [if_neg (show ¬ A2 g 1 ≤ nI (tE (zof F S wx wy f) n (nxo n o)) by rw [cs.2.2.2.1.2.1, le_nI] <;> omega), if_pos cb, Option.bind_some, num, Option.bind_some, bnd_eq]
          unfold pX2_keep
          rw [bnd_eq, bnd_eq, bnd_eq, show nI done + 1 = nI (done + 1) from nI_add done 1]
        · rw [if_pos (show A2 g 1 ≤ nI (tE (zof F S wx wy f) n (nxo n o)) by rw [cs.2.2.2.1.2.1, le_nI] <;> omega), if_neg cb, show nI done + 1 = nI (done + 1) from nI_add done 1]
      rw [itr_s st, bst, if_neg c]
      unfold upb
      by_cases cb : tE (zof F S wx wy f) n (nxo n o) < b.1
      · rw [if_pos cb, if_pos cb]
        exact c_search hg hn k' (done + 1) fu (nxo n o) _ _ (by omega) he' (CS_b hg cs (show tE (zof F S wx wy f) n (nxo n o) < 2147483648 by omega)) (show tE (zof F S wx wy f) n (nxo n o) < 2147483648 by omega) (by omega)
      · rw [if_neg cb, if_neg cb]
        exact c_search hg hn k' (done + 1) fu (nxo n o) _ _ (by omega) he' cs hb (by omega)
/-! the reference seeks -/
def FrS (B D : Mm) : Prop := (∀ c, c ≠ 0 → c ≠ 8 → c ≠ 9 → (c < 13 ∨ 17 < c) → D c = B c) ∧ ∀ i, i ≠ 25 → i ≠ 26 → D 0 i = B 0 i
theorem RX_o {o o' : Nat → Nat} {D D' : Mm} (h : RX F S wx wy n o D) (g : D' 1 = D 1) (ho : ∀ k, o' k ≤ n) (h13 : ∀ k, k ≤ n + 1 → D' 13 k = nI (o' k)) : RX F S wx wy n o' D' := by
  obtain ⟨⟨M1, h1, h2, h3, h4⟩, h5, h6, h7, h8⟩ := h
  exact ⟨⟨M1, LandW_c h1 g, h2, h3, h4⟩, h5, h6, ho, h13⟩
theorem r_search {B : Mm} (bz : BZ (zof F S wx wy f)) (hf : f ≤ 2) (hn : n ≤ 7) : ∀ (k fu : Nat) (o : Nat → Nat) (b : Nat × Nat) (D : Mm), endF n k o = true → RX F S wx wy n o D → FrS B D → ((D 0 25 = -1 ∧ b = (tE (zof F S wx wy f) n o, nm o n)) ∨ ∃ p : Nat × Nat, p.1 < 2147483648 ∧ D 0 25 = nI p.1 ∧ D 0 26 = nI p.2 ∧ b = upb (zof F S wx wy f) n p o) → k < fu → ∃ D', itr (pX9_seeks_L40 (nI f)) fu D = some D' ∧ D' 0 25 = nI (bst (zof F S wx wy f) n k o b).1 ∧ D' 0 26 = nI (bst (zof F S wx wy f) n k o b).2 ∧ FrS B D'
  | k, 0, o, b, D, he, h, hB, hp, hfu => absurd hfu (by omega)
  | k, fu + 1, o, b, D, he, h, hB, hp, hfu => by
    have q := rz_n h
    obtain ⟨D1, e1, x1, x2, x3⟩ := splits_r (f := f) h hf
    have tl := tE_lt bz q.1 q.2.2
    have d0 : D1 0 = D 0 := x3 0 (by omega) (by omega) (by omega)
    have fr1 : FrS B D1 := ⟨fun c a b d e => by rw [x3 c b d (by omega)]; exact hB.1 c a b d e, fun i a b => by rw [d0]; exact hB.2 i a b⟩
    -- what is kept
    obtain ⟨V, hV, v1, v2, v3, v4, bl⟩ : ∃ V : Mm, pX9_seeks_L40 (nI f) D = (pX9_goesOn V).bind (fun v => if v.1 = 0 then some (.inr v.2) else some (.inl v.2)) ∧ V 0 25 = nI b.1 ∧ V 0 26 = nI b.2 ∧ FrS B V ∧ (∀ c, c ≠ 0 → V c = D1 c) ∧ b.1 < 2147483648 := by
      have put : ∀ (hb : b = (tE (zof F S wx wy f) n o, nm o n)), FrS B (mset (mset D1 0 25 (nI b.1)) 0 26 (nI b.2)) := fun hb => ⟨fun c a b d e => by rw [mset_cell a, mset_cell a]; exact fr1.1 c a b d e, fun i a b => by rw [mset_slot b, mset_slot a]; exact fr1.2 i a b⟩
      have told : pX9_told (mset D1 0 25 (nI (tE (zof F S wx wy f) n o))) = some (nI (nm o n)) := r_number q.1 (by rw [mset_cell (by omega)]; exact (rz_n x1).2.1) (fun k hk => by rw [mset_cell (by omega)]; exact x1.2.2.2.2 k hk)
      rcases hp with ⟨hm, hb⟩ | ⟨p, pl, p1, p2, hb⟩
      · refine ⟨mset (mset D1 0 25 (nI b.1)) 0 26 (nI b.2), ?_, by rw [mset_slot (by omega), mset_same], by rw [mset_same], put hb, fun c hc => by rw [mset_cell hc, mset_cell hc], by rw [hb]; show tE (zof F S wx wy f) n o < _; omega⟩
        unfold pX9_seeks_L40
        rw [e1, Option.bind_some, bnd_eq, if_pos (show D1 0 25 = -1 by rw [d0]; exact hm), Option.bind_some]
        simp only [Sum.elim_inl]
        rw [bnd_eq, show mset D1 0 25 (nI (tab (zof F S wx wy f) o (n + 1) (n + 1)).1) = mset D1 0 25 (nI (tE (zof F S wx wy f) n o)) from rfl, told, Option.bind_some, bnd_eq, hb]
      · unfold upb at hb
        by_cases cb : tE (zof F S wx wy f) n o < p.1
        · rw [if_pos cb] at hb
          refine ⟨mset (mset D1 0 25 (nI b.1)) 0 26 (nI b.2), ?_, by rw [mset_slot (by omega), mset_same], by rw [mset_same], put hb, fun c hc => by rw [mset_cell hc, mset_cell hc], by rw [hb]; show tE (zof F S wx wy f) n o < _; omega⟩
          unfold pX9_seeks_L40
          rw [e1, Option.bind_some, bnd_eq, if_neg (show ¬ D1 0 25 = -1 by rw [d0, p1]; exact ne_nI pl), if_pos (show nI (tab (zof F S wx wy f) o (n + 1) (n + 1)).1 < D1 0 25 by rw [d0, p1]; show nI (tE (zof F S wx wy f) n o) < nI p.1; rw [lt_nI] <;> omega), Option.bind_some]
          simp only [Sum.elim_inl]
          rw [bnd_eq, show mset D1 0 25 (nI (tab (zof F S wx wy f) o (n + 1) (n + 1)).1) = mset D1 0 25 (nI (tE (zof F S wx wy f) n o)) from rfl, told, Option.bind_some, bnd_eq, hb]
        · rw [if_neg cb] at hb
          refine ⟨D1, ?_, by rw [d0, p1, hb], by rw [d0, p2, hb], fr1, fun _ _ => rfl, by rw [hb]; exact pl⟩
          unfold pX9_seeks_L40
          rw [e1, Option.bind_some, bnd_eq, if_neg (show ¬ D1 0 25 = -1 by rw [d0, p1]; exact ne_nI pl), if_neg (show ¬ nI (tab (zof F S wx wy f) o (n + 1) (n + 1)).1 < D1 0 25 by rw [d0, p1]; show ¬ nI (tE (zof F S wx wy f) n o) < nI p.1; rw [lt_nI] <;> omega)]
          cases hg : pX9_goesOn D1 with
          | none => rfl
          | some v =>
            rw [Option.bind_some, Option.bind_some]
            by_cases cv : v.1 = 0
            · rw [if_pos cv, if_pos cv]
              rfl
            · rw [if_neg cv, if_neg cv]
              rfl
    have nx := r_next (D := V) q.1 q.2.2 (fun k hk => by rw [v4 13 (by omega)]; exact x1.2.2.2.2 k hk) (by rw [v4 1 (by omega)]; exact (rz_n x1).2.1)
    by_cases c : pv o (n - 1) = 0
    · refine ⟨V, itr_e ?_, by rw [bst_0 c]; exact v1, by rw [bst_0 c]; exact v2, v3⟩
      rw [hV, nx.1 c, Option.bind_some, if_pos rfl]
    · have c1 : 1 ≤ pv o (n - 1) := by omega
      obtain ⟨k', rfl, he'⟩ := endF_c c1 k he
      obtain ⟨D2, g1, g2, g3⟩ := nx.2 c1
      have st : pX9_seeks_L40 (nI f) D = some (.inl D2) := by rw [hV, g1, Option.bind_some, if_neg one_ne]
      rw [itr_s st, bst, if_neg c]
      refine r_search bz hf hn k' fu (nxo n o) _ D2 he' (RX_o x1 (by rw [g2 1 (by omega), v4 1 (by omega)]) (nxo_le q.2.2) g3) ⟨fun c a b d e => by rw [g2 c (by omega)]; exact v3.1 c a b d e, fun i a b => by rw [g2 0 (by omega)]; exact v3.2 i a b⟩ (Or.inr ⟨b, bl, by rw [g2 0 (by omega)]; exact v1, by rw [g2 0 (by omega)]; exact v2, rfl⟩) (by omega)
end SEARCH
