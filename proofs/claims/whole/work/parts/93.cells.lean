/-- mapIdx by plain recursion -/
def mg {α β : Type} (f : Nat → α → β) : Nat → List α → List β
  | _, [] => []
  | k, a :: l => f k a :: mg f (k + 1) l
theorem mg_eq {α β : Type} (f : Nat → α → β) (l : List α) : ∀ k : Nat, l.mapIdx (fun i => f (i + k)) = mg f k l := by
  induction l with
  | nil => intro k; rfl
  | cons a l ih =>
    intro k
    rw [List.mapIdx_cons, mg, ← ih (k + 1), Nat.zero_add]
    congr 1
    congr 1
    funext i
    rw [Nat.add_assoc, Nat.add_comm 1 k]
theorem mg_0 {α β : Type} (f : Nat → α → β) (l : List α) : l.mapIdx f = mg f 0 l := mg_eq f l 0
def fvg (Y : Sx) (M : Mm) (k : Nat) (fs : List (Option Nat)) : List Value := mg (fun i o => match o with | some j => Value.ref (adr Y j) | none => Value.int (M k i)) 0 fs
def ceg (Y : Sx) (M : Mm) (k : Nat) (d : Sd) : va_E := match d with | .inl a => .inl (cty Y a.1, a.2, .inl (M k)) | .inr o => .inr (o.1, fvg Y M k o.2)
theorem wsO_mg (Y : Sx) (M : Mm) : wsO Y M = mg (fun k d => (adr Y k, ceg Y M k d)) 0 Y.1 := by
  have e : ∀ (k : Nat) (d : Sd), cel Y M k d = ceg Y M k d := by
    intro k d
    cases d with
    | inl a => rfl
    | inr o =>
      have q : fvl Y M k o.2 = fvg Y M k o.2 := mg_0 _ _
      show (Sum.inr (o.1, fvl Y M k o.2) : va_E) = .inr (o.1, fvg Y M k o.2)
      rw [q]
  unfold wsO
  rw [mg_0]
  simp only [e]
def tyf (cI cZ cB : ClassId) : FieldType → ClassId := fun ty => match ty with | .int => cI | .boolean => cZ | .byte => cB | _ => cI
set_option maxRecDepth 100000 in
set_option maxHeartbeats 4000000 in
theorem wsA_0 (G : Gx) (sa ka kv : Nat → Nat) (h8 q1 q2 q3 q4 q5 q6 q7 q8 q9 q10 q11 q12 q13 q14 q15 q16 q17 q18 q19 q20 q21 q22 q23 q24 q25 q26 q27 q28 q29 q30 q31 q32 q33 q34 q35 q36 q37 q38 q39 q40 : Nat) : wsO ((shA, G.1, G.2.1, (fun k => ([h8, q1, q2, q3, q4, q5, q6, q7, q8, q9, q10, q11, q12, q13, q14, q15, q16, q17, q18, q19, q20, q21, q22, q23, q24, q25, q26, q27, q28, q29, q30, q31, q32, q33, q34, q35, q36, q37, q38, q39, q40]).getD k 0), sa, ka, kv) : Sx) M0A = [(h8, .inr (8, [.ref q1, .ref q4, .ref q7, .ref q17, .ref q29, .ref q31, .ref q39, .ref q40])), (q1, .inr (3, [.int 0, .ref q2, .ref q3])), (q2, .inl (G.2.1 .int, 45, .inl fun _ => 0)), (q3, .inl (G.2.1 .int, 10, .inl stF)), (q4, .inr (4, [.int 0, .int 0, .ref q5, .ref q6])), (q5, .inl (G.2.1 .int, 8, .inl fun _ => 0)), (q6, .inl (G.2.1 .int, 32, .inl fun _ => 0)), (q7, .inr (0, [.ref q1, .ref q4, .ref q8, .int 0, .ref q10, .ref q11, .ref q12, .ref q13, .ref q14, .ref q15, .ref q16])), (q8, .inr (1, [.int 0, .ref q9])), (q9, .inl (G.2.1 .int, 26, .inl fun _ => 0)), (q10, .inl (G.2.1 .int, 10, .inl fun _ => 0)), (q11, .inl (G.2.1 .int, 10, .inl fun _ => 0)), (q12, .inl (G.2.1 .int, 10, .inl fun _ => 0)), (q13, .inl (G.2.1 .int, 10, .inl fun _ => 0)), (q14, .inl (G.2.1 .int, 8, .inl fun _ => 0)), (q15, .inl (G.2.1 .int, 8, .inl fun _ => 0)), (q16, .inl (G.2.1 .int, 8, .inl fun _ => 0)), (q17, .inr (5, [.ref q1, .int 0, .int 0, .int 0, .int 0, .int 0, .int 0, .ref q18, .ref q19, .ref q20, .ref q21, .ref q22, .ref q23, .ref q24, .ref q25, .ref q26, .ref q27, .ref q28])), (q18, .inl (G.2.1 .int, 81, .inl fun _ => 0)), (q19, .inl (G.2.1 .int, 81, .inl fun _ => 0)), (q20, .inl (G.2.1 .int, 9, .inl fun _ => 0)), (q21, .inl (G.2.1 .boolean, 9, .inl fun _ => 0)), (q22, .inl (G.2.1 .int, 10, .inl fun _ => 0)), (q23, .inl (G.2.1 .int, 10, .inl fun _ => 0)), (q24, .inl (G.2.1 .int, 10, .inl fun _ => 0)), (q25, .inl (G.2.1 .int, 10, .inl fun _ => 0)), (q26, .inl (G.2.1 .int, 10, .inl fun _ => 0)), (q27, .inl (G.2.1 .int, 10, .inl fun _ => 0)), (q28, .inl (G.2.1 .int, 10, .inl fun _ => 0)), (q29, .inr (6, [.int 0, .ref q30])), (q30, .inl (G.2.1 .int, 300, .inl fun _ => 0)), (q31, .inr (7, [.ref q29, .ref q32, .ref q35, .ref q38, .int 0, .int 0, .int 0, .int 0, .int 0, .int 0])), (q32, .inr (3, [.int 0, .ref q33, .ref q34])), (q33, .inl (G.2.1 .int, 45, .inl fun _ => 0)), (q34, .inl (G.2.1 .int, 10, .inl stF)), (q35, .inr (4, [.int 0, .int 0, .ref q36, .ref q37])), (q36, .inl (G.2.1 .int, 8, .inl fun _ => 0)), (q37, .inl (G.2.1 .int, 32, .inl fun _ => 0)), (q38, .inl (G.2.1 .int, 8, .inl fun _ => 0)), (q39, .inr (2, [.int 0, .int 0, .int 0])), (q40, .inr (2, [.int 0, .int 0, .int 0]))] := by
  rw [wsO_mg]
  rfl
set_option maxRecDepth 100000 in
set_option maxHeartbeats 4000000 in
theorem wsB_0 (G : Gx) (sa ka kv : Nat → Nat) (h9 r1 r2 r3 r4 r5 r6 r7 r8 r9 r10 r11 r12 r13 r14 r15 r16 r17 r18 : Nat) : wsO ((shB, G.1, G.2.1, (fun k => ([h9, r1, r2, r3, r4, r5, r6, r7, r8, r9, r10, r11, r12, r13, r14, r15, r16, r17, r18]).getD k 0), sa, ka, kv) : Sx) M0B = [(h9, .inr (9, [.int 0, .ref r1, .ref r2, .ref r3, .int 0, .int 0, .int 0, .int 0, .int 0, .ref r4, .ref r5, .ref r6, .ref r7, .ref r8, .ref r9, .ref r10, .ref r11, .ref r12, .int 0, .ref r13, .ref r14, .ref r15, .ref r16, .ref r17, .ref r18, .int 0, .int 0])), (r1, .inl (G.2.1 .int, 160, .inl (upd ((upd ((upd ((upd ((upd ((upd ((upd ((upd (fun _ => 0) 50 3)) 51 2)) 54 50)) 55 100)) 56 1)) 57 1)) 58 1)) 59 1))), (r2, .inl (G.2.1 .int, 160, .inl fun _ => 0)), (r3, .inl (G.2.1 .byte, 300, .inl fun _ => 0)), (r4, .inl (G.2.1 .int, 10, .inl fun _ => 0)), (r5, .inl (G.2.1 .int, 10, .inl fun _ => 0)), (r6, .inl (G.2.1 .int, 10, .inl fun _ => 0)), (r7, .inl (G.2.1 .int, 10, .inl fun _ => 0)), (r8, .inl (G.2.1 .int, 8, .inl fun _ => 0)), (r9, .inl (G.2.1 .int, 8, .inl fun _ => 0)), (r10, .inl (G.2.1 .int, 8, .inl fun _ => 0)), (r11, .inl (G.2.1 .boolean, 8, .inl fun _ => 0)), (r12, .inl (G.2.1 .int, 200, .inl fun _ => 0)), (r13, .inl (G.2.1 .int, 10, .inl fun _ => 0)), (r14, .inl (G.2.1 .int, 10, .inl fun _ => 0)), (r15, .inl (G.2.1 .int, 10, .inl fun _ => 0)), (r16, .inl (G.2.1 .int, 10, .inl fun _ => 0)), (r17, .inl (G.2.1 .int, 10, .inl fun _ => 0)), (r18, .inl (G.2.1 .boolean, 10, .inl fun _ => 0))] := by
  rw [wsO_mg]
  rfl
theorem wsO_D {Y : Sx} {M M' : Mm} {A : Nat → Prop} (h : va_D A (wsO Y M)) : va_D A (wsO Y M') := by
  refine ⟨fun i j p q hi hj e => ?_, fun k q hq => ?_⟩
  · obtain ⟨i1, i2⟩ := wsO_get hi
    obtain ⟨j1, j2⟩ := wsO_get hj
    obtain ⟨x, hx⟩ := wsO_ex M i1
    obtain ⟨y, hy⟩ := wsO_ex M j1
    exact h.1 i j _ _ hx hy (by show adr Y i = adr Y j; rw [← i2, ← j2]; exact e)
  · obtain ⟨k1, k2⟩ := wsO_get hq
    obtain ⟨x, hx⟩ := wsO_ex M k1
    rw [k2]
    exact h.2 k _ hx
theorem apt_of {Y : Sx} {M : Mm} {A : Nat → Prop} (h : va_D A (wsO Y M)) : apt Y := by
  intro i j hi hj e
  obtain ⟨x, hx⟩ := wsO_ex M hi
  obtain ⟨y, hy⟩ := wsO_ex M hj
  exact h.1 i j _ _ hx hy e
theorem lws_D {V : Lz} {A : Nat → Prop} {M1 M2 : Mm} {f : Nat → Int64} (h : va_D A (lws V M1 M2 f)) (M1' M2' : Mm) (f' : Nat → Int64) : va_D A (lws V M1' M2' f') := by
  have key : ∀ (M1 M2 : Mm) (f : Nat → Int64) (k : Nat) (q : Nat × va_E), (lws V M1 M2 f)[k]? = some q → (k < (lA V).1.length ∧ q.1 = adr (lA V) k) ∨ ((lA V).1.length ≤ k ∧ k - (lA V).1.length < (lB V).1.length ∧ q.1 = adr (lB V) (k - (lA V).1.length)) ∨ (k = (lA V).1.length + (lB V).1.length ∧ q.1 = lo V) := by
    intro M1 M2 f k q hq
    unfold lws at hq
    by_cases h1 : k < (lA V).1.length
    · rw [List.getElem?_append_left (by rw [wsO_len]; exact h1)] at hq
      exact Or.inl (wsO_get hq)
    · rw [List.getElem?_append_right (by rw [wsO_len]; omega), wsO_len] at hq
      by_cases h2 : k - (lA V).1.length < (lB V).1.length
      · rw [List.getElem?_append_left (by rw [wsO_len]; exact h2)] at hq
        exact Or.inr (Or.inl ⟨by omega, h2, (wsO_get hq).2⟩)
      · rw [List.getElem?_append_right (by rw [wsO_len]; omega), wsO_len] at hq
        have hz : k - (lA V).1.length - (lB V).1.length < 1 := (List.getElem?_eq_some_iff.mp hq).1
        rw [show k - (lA V).1.length - (lB V).1.length = 0 by omega] at hq
        cases hq
        exact Or.inr (Or.inr ⟨by omega, rfl⟩)
  have ex : ∀ (k : Nat), k < (lA V).1.length + (lB V).1.length + 1 → ∃ q, (lws V M1 M2 f)[k]? = some q := by
    intro k hk
    have hl : (lws V M1 M2 f).length = (lA V).1.length + (lB V).1.length + 1 := by
      unfold lws
      rw [List.length_append, List.length_append, wsO_len, wsO_len]
      rfl
    exact ⟨_, List.getElem?_eq_getElem (by rw [hl]; exact hk)⟩
  have same : ∀ (k : Nat) (q q' : Nat × va_E), (lws V M1 M2 f)[k]? = some q → (lws V M1' M2' f')[k]? = some q' → q.1 = q'.1 := by
    intro k q q' h1 h2
    rcases key _ _ _ _ _ h1 with ⟨a, b⟩ | ⟨a, b, c⟩ | ⟨a, b⟩ <;> rcases key _ _ _ _ _ h2 with ⟨a', b'⟩ | ⟨a', b', c'⟩ | ⟨a', b'⟩
    · rw [b, b']
    · omega
    · omega
    · omega
    · rw [c, c']
    · omega
    · omega
    · omega
    · rw [b, b']
  have lt : ∀ (k : Nat) (q : Nat × va_E), (lws V M1' M2' f')[k]? = some q → k < (lA V).1.length + (lB V).1.length + 1 := by
    intro k q hq
    rcases key _ _ _ _ _ hq with ⟨a, b⟩ | ⟨a, b, c⟩ | ⟨a, b⟩ <;> omega
  refine ⟨fun i j p q hi hj e => ?_, fun k q hq => ?_⟩
  · obtain ⟨p0, hp0⟩ := ex i (lt _ _ hi)
    obtain ⟨q0, hq0⟩ := ex j (lt _ _ hj)
    exact h.1 i j p0 q0 hp0 hq0 (by rw [same _ _ _ hp0 hi, same _ _ _ hq0 hj]; exact e)
  · obtain ⟨q0, hq0⟩ := ex k (lt _ _ hq)
    rw [← same _ _ _ hq0 hq]
    exact h.2 k q0 hq0
