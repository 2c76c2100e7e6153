/-! PURE: ways, by numbers -/
def cl (x : Int32) : Nat := x.toNatClampNeg
theorem cl_nI {n : Nat} (h : n < 2147483648) : cl (nI n) = n := nI_clamp h
theorem nI_cl {x : Int32} (h : 0 ≤ x.toInt) : nI (cl x) = x := by
  obtain ⟨j, hj, rfl⟩ := nI_of (x := x) (by rw [fa_lt]; exact Int.not_lt.mpr h)
  rw [cl_nI hj]
theorem nI_rng {x : Int32} {a b : Int} (h1 : a ≤ x.toInt) (h2 : x.toInt ≤ b) (ha : 0 ≤ a) : ∃ v : Nat, a ≤ v ∧ (v : Int) ≤ b ∧ x = nI v := by
  obtain ⟨j, hj, rfl⟩ := nI_of (x := x) (by rw [fa_lt]; exact Int.not_lt.mpr (Int.le_trans ha h1))
  rw [nI_toInt hj] at h1 h2
  exact ⟨j, h1, h2, rfl⟩
/-- the settings that are no winds -/
theorem setB {M1 : Mm} (hB : LandB M1) : (∃ v : Nat, 1 ≤ v ∧ v ≤ 9 ∧ M1 3 0 = nI v) ∧ (∃ v : Nat, 1 ≤ v ∧ v ≤ 9 ∧ M1 3 1 = nI v) ∧ (∃ v : Nat, v ≤ 99 ∧ M1 3 4 = nI v) ∧ (∃ v : Nat, 1 ≤ v ∧ v ≤ 999 ∧ M1 3 5 = nI v) ∧ (∃ v : Nat, v ≤ 9 ∧ M1 3 6 = nI v) ∧ (∃ v : Nat, v ≤ 9 ∧ M1 3 7 = nI v) ∧ (∃ v : Nat, v ≤ 2 ∧ M1 3 8 = nI v) ∧ (∃ v : Nat, v ≤ 1 ∧ M1 3 9 = nI v) ∧ (-3 ≤ (M1 3 2).toInt ∧ (M1 3 2).toInt ≤ 3) ∧ (-3 ≤ (M1 3 3).toInt ∧ (M1 3 3).toInt ≤ 3) := by
  have q := hB.2.2
  refine ⟨?_, ?_, ?_, ?_, ?_, ?_, ?_, ?_, q 2 (by omega), q 3 (by omega)⟩
  · obtain ⟨v, a, b, e⟩ := nI_rng (a := 1) (b := 9) (q 0 (by omega)).1 (q 0 (by omega)).2 (by omega)
    exact ⟨v, by omega, by omega, e⟩
  · obtain ⟨v, a, b, e⟩ := nI_rng (a := 1) (b := 9) (q 1 (by omega)).1 (q 1 (by omega)).2 (by omega)
    exact ⟨v, by omega, by omega, e⟩
  · obtain ⟨v, a, b, e⟩ := nI_rng (a := 0) (b := 99) (q 4 (by omega)).1 (q 4 (by omega)).2 (by omega)
    exact ⟨v, by omega, e⟩
  · obtain ⟨v, a, b, e⟩ := nI_rng (a := 1) (b := 999) (q 5 (by omega)).1 (q 5 (by omega)).2 (by omega)
    exact ⟨v, by omega, by omega, e⟩
  · obtain ⟨v, a, b, e⟩ := nI_rng (a := 0) (b := 9) (q 6 (by omega)).1 (q 6 (by omega)).2 (by omega)
    exact ⟨v, by omega, e⟩
  · obtain ⟨v, a, b, e⟩ := nI_rng (a := 0) (b := 9) (q 7 (by omega)).1 (q 7 (by omega)).2 (by omega)
    exact ⟨v, by omega, e⟩
  · obtain ⟨v, a, b, e⟩ := nI_rng (a := 0) (b := 2) (q 8 (by omega)).1 (q 8 (by omega)).2 (by omega)
    exact ⟨v, by omega, e⟩
  · obtain ⟨v, a, b, e⟩ := nI_rng (a := 0) (b := 1) (q 9 (by omega)).1 (q 9 (by omega)).2 (by omega)
    exact ⟨v, by omega, e⟩
def LandW (n : Nat) (M1 M2 : Mm) (wx wy : Int32) : Prop := n ≤ 8 ∧ M1 1 0 = nI n ∧ M2 1 0 = nI n ∧ (∀ i, i < 45 → M2 1 (1 + i) = M1 2 i) ∧ (∀ i, i < 10 → i ≠ 2 → i ≠ 3 → M2 1 (50 + i) = M1 3 i) ∧ M2 1 52 = wx ∧ M2 1 53 = wy
theorem LandR.w {n : Nat} {M1 M2 : Mm} (h : LandR n M1 M2) : LandW n M1 M2 (M1 3 2) (M1 3 3) := ⟨h.1, h.2.1, h.2.2.1, h.2.2.2.1, fun i hi _ _ => h.2.2.2.2 i hi, h.2.2.2.2 2 (by omega), h.2.2.2.2 3 (by omega)⟩
def WB (x : Int32) : Prop := -3 ≤ x.toInt ∧ x.toInt ≤ 3
def ds (x y : Nat) : Nat := (x - y) + (y - x)
def dr (F S : Nat → Int32) (a b : Nat) : Nat := cl (S 0) * (ds (cl (F (5 * a))) (cl (F (5 * b))) + ds (cl (F (5 * a + 1))) (cl (F (5 * b + 1))))
def flI (F S : Nat → Int32) (wx wy : Int32) (a b : Nat) : Int32 := if a = b then 0 else mmax 1 (((S 1 * (mmax (mabs (F (5 * b) - F (5 * a))) (mabs (F (5 * b + 1) - F (5 * a + 1))))) - (wx * (F (5 * b) - F (5 * a)))) - (wy * (F (5 * b + 1) - F (5 * a + 1))))
def fl (F S : Nat → Int32) (wx wy : Int32) (a b : Nat) : Nat := cl (flI F S wx wy a b)
theorem mabs_nI {a b : Nat} (ha : a < 1073741824) (hb : b < 1073741824) : mabs (nI a - nI b) = nI (ds a b) := by
  unfold mabs ds
  by_cases h : b ≤ a
  · rw [pk_sub h, if_pos (nI_pos' (by omega))]
    congr 1
    omega
  · rw [if_neg (by have := pk_sneg (a := a) (b := b) hb (by omega); exact Int32.not_le.mpr this)]
    rw [show (0 : Int32) - (nI a - nI b) = nI b - nI a by rw [Int32.zero_sub, Int32.neg_sub], pk_sub (by omega)]
    congr 1
    omega
theorem size_eq (x : Int32) : pX9_size x = mabs x := by
  unfold pX9_size mabs
  rw [Int32.zero_sub]
theorem ds_comm (a b : Nat) : ds a b = ds b a := by unfold ds; omega
theorem fct {M1 : Mm} (hB : LandB M1) {p w : Nat} (hp : p ≤ 8) (hw : w < 5) : nI (cl (M1 2 (5 * p + w))) = M1 2 (5 * p + w) ∧ cl (M1 2 (5 * p + w)) ≤ fMost w := by
  obtain ⟨v, hv, e⟩ := hB.1 p w hp hw
  have f9 : fMost w ≤ 99 := by unfold fMost; split; omega; split <;> omega
  rw [e, cl_nI (by omega)]
  exact ⟨rfl, hv⟩
theorem dr_le {M1 : Mm} (hB : LandB M1) {a b : Nat} (ha : a ≤ 8) (hb : b ≤ 8) : dr (M1 2) (M1 3) a b ≤ 900 := by
  obtain ⟨v, h1, h2, e⟩ := (setB hB).1
  have x1 := (fct hB (p := a) (w := 0) ha (by omega)).2
  have x2 := (fct hB (p := b) (w := 0) hb (by omega)).2
  have y1 := (fct hB (p := a) (w := 1) ha (by omega)).2
  have y2 := (fct hB (p := b) (w := 1) hb (by omega)).2
  simp only [fMost, Nat.add_zero] at x1 x2 y1 y2
  unfold dr
  rw [e, cl_nI (by omega)]
  have z : ds (cl (M1 2 (5 * a))) (cl (M1 2 (5 * b))) + ds (cl (M1 2 (5 * a + 1))) (cl (M1 2 (5 * b + 1))) ≤ 100 := by
    unfold ds
    simp at x1 x2 y1 y2
    omega
  exact Nat.le_trans (Nat.mul_le_mul h2 z) (by omega)
theorem dr_tri (F S : Nat → Int32) (a b c : Nat) : dr F S a c ≤ dr F S a b + dr F S b c := by
  unfold dr
  rw [← Nat.mul_add]
  apply Nat.mul_le_mul_left
  unfold ds
  omega
theorem c_drive {M1 : Mm} {n a b : Nat} (h1 : M1 1 0 = nI n) (hn : n ≤ 8) (hB : LandB M1) (ha : a ≤ n) (hb : b ≤ n) : pX3_drive 1 (nI a) (nI b) M1 = some (nI (dr (M1 2) (M1 3) a b)) := by
  unfold pX3_drive
  obtain ⟨v, h2, h3, e⟩ := (setB hB).1
  have x1 := fct hB (p := a) (w := 0) (by omega) (by omega)
  have x2 := fct hB (p := b) (w := 0) (by omega) (by omega)
  have y1 := fct hB (p := a) (w := 1) (by omega) (by omega)
  have y2 := fct hB (p := b) (w := 1) (by omega) (by omega)
  rw [show pX3_fact 1 (nI b) 0 M1 = _ from c_fact (w := 0) h1 hn hb (by omega), show pX3_fact 1 (nI a) 0 M1 = _ from c_fact (w := 0) h1 hn ha (by omega), show pX3_fact 1 (nI b) 1 M1 = _ from c_fact (w := 1) h1 hn hb (by omega), show pX3_fact 1 (nI a) 1 M1 = _ from c_fact (w := 1) h1 hn ha (by omega), show pX3_setting 1 0 M1 = _ from c_setting (i := 0) (by omega)]
  simp only [Option.bind_some, bnd_eq]
  rw [← x1.1, ← x2.1, ← y1.1, ← y2.1]
  have m0 : fMost 0 = 50 := rfl
  have m1 : fMost 1 = 50 := rfl
  rw [mabs_nI (by omega) (by omega), mabs_nI (by omega) (by omega), show M1 (1 + 2) 0 = nI v from e, nI_add, pk_mul]
  unfold dr
  rw [e, cl_nI (by omega), ds_comm, ds_comm (cl (M1 2 (5 * b + 1)))]
  rfl
theorem r_drive {M1 M2 : Mm} {n a b : Nat} {wx wy : Int32} (hL : LandW n M1 M2 wx wy) (hB : LandB M1) (ha : a ≤ 8) (hb : b ≤ 8) : pX9_drive (nI a) (nI b) M2 = some (nI (dr (M1 2) (M1 3) a b)) := by
  unfold pX9_drive
  obtain ⟨hn, l1, l2, l3, l4, l5, l6⟩ := hL
  obtain ⟨v, h2, h3, e⟩ := (setB hB).1
  have x1 := fct hB (p := a) (w := 0) (by omega) (by omega)
  have x2 := fct hB (p := b) (w := 0) (by omega) (by omega)
  have y1 := fct hB (p := a) (w := 1) (by omega) (by omega)
  have y2 := fct hB (p := b) (w := 1) (by omega) (by omega)
  have g0 := l4 0 (by omega) (by omega) (by omega)
  rw [show pX9_of 0 M2 = _ from r_of (i := 0) (by omega), show pX9_placeOf (nI a) 0 M2 = _ from r_placeOf (w := 0) (by omega), show pX9_placeOf (nI b) 0 M2 = _ from r_placeOf (w := 0) (by omega), show pX9_placeOf (nI a) 1 M2 = _ from r_placeOf (w := 1) (by omega), show pX9_placeOf (nI b) 1 M2 = _ from r_placeOf (w := 1) (by omega)]
  simp only [Option.bind_some, size_eq, Nat.add_assoc]
  rw [l3 _ (by omega), l3 _ (by omega), l3 _ (by omega), l3 _ (by omega), g0, ← x1.1, ← x2.1, ← y1.1, ← y2.1]
  have m0 : fMost 0 = 50 := rfl
  have m1 : fMost 1 = 50 := rfl
  rw [mabs_nI (by omega) (by omega), mabs_nI (by omega) (by omega), e, nI_add, pk_mul]
  unfold dr
  rw [e, cl_nI (by omega)]
  rfl
theorem c_flight {M1 : Mm} {n a b : Nat} {wx wy : Int32} (h1 : M1 1 0 = nI n) (hn : n ≤ 8) (ha : a ≤ n) (hb : b ≤ n) : pX3_flight 1 (nI a) (nI b) wx wy M1 = some (flI (M1 2) (M1 3) wx wy a b) := by
  unfold pX3_flight flI
  by_cases c : a = b
  · rw [if_pos c, if_pos (by rw [c])]
  · rw [if_neg c, if_neg (by rw [eq_nI] <;> omega), show pX3_fact 1 (nI b) 0 M1 = _ from c_fact (w := 0) h1 hn hb (by omega), show pX3_fact 1 (nI a) 0 M1 = _ from c_fact (w := 0) h1 hn ha (by omega), show pX3_fact 1 (nI b) 1 M1 = _ from c_fact (w := 1) h1 hn hb (by omega), show pX3_fact 1 (nI a) 1 M1 = _ from c_fact (w := 1) h1 hn ha (by omega), show pX3_setting 1 1 M1 = _ from c_setting (i := 1) (by omega)]
    rfl
theorem max_eq (x y : Int32) : (if x ≤ y then y else x) = mmax x y := by
  unfold mmax
  by_cases h : x < y
  · rw [if_pos h, if_pos (fa_of_lt h).1]
  · rw [if_neg h]
    by_cases h2 : x ≤ y
    · rw [if_pos h2]
      exact Int32.le_antisymm (fa_of_nlt h) h2
    · rw [if_neg h2]
theorem r_flight {M1 M2 : Mm} {n a b : Nat} {wx wy : Int32} (hL : LandW n M1 M2 wx wy) (ha : a ≤ 8) (hb : b ≤ 8) : pX9_flight (nI a) (nI b) M2 = some (flI (M1 2) (M1 3) wx wy a b) := by
  obtain ⟨hn, l1, l2, l3, l4, l5, l6⟩ := hL
  unfold pX9_flight flI
  by_cases c : a = b
  · rw [if_pos c, if_pos (by rw [c])]
  · rw [if_neg c, if_neg (by rw [eq_nI] <;> omega), show pX9_of 1 M2 = _ from r_of (i := 1) (by omega), show pX9_of 2 M2 = _ from r_of (i := 2) (by omega), show pX9_of 3 M2 = _ from r_of (i := 3) (by omega), show pX9_placeOf (nI a) 0 M2 = _ from r_placeOf (w := 0) (by omega), show pX9_placeOf (nI b) 0 M2 = _ from r_placeOf (w := 0) (by omega), show pX9_placeOf (nI a) 1 M2 = _ from r_placeOf (w := 1) (by omega), show pX9_placeOf (nI b) 1 M2 = _ from r_placeOf (w := 1) (by omega)]
    simp only [Option.bind_some, bnd_eq, size_eq, max_eq, Nat.add_assoc]
    rw [l3 _ (by omega), l3 _ (by omega), l3 _ (by omega), l3 _ (by omega), l4 1 (by omega) (by omega) (by omega), show M2 1 (50 + 2) = wx from l5, show M2 1 (50 + 3) = wy from l6, ← apply_ite some, max_eq]
    rfl
theorem flI_b {M1 : Mm} (hB : LandB M1) {a b : Nat} {wx wy : Int32} (hx : WB wx) (hy : WB wy) (ha : a ≤ 8) (hb : b ≤ 8) : flI (M1 2) (M1 3) wx wy a b = nI (fl (M1 2) (M1 3) wx wy a b) ∧ fl (M1 2) (M1 3) wx wy a b ≤ 750 := by
  suffices h : ∃ v : Nat, v ≤ 750 ∧ flI (M1 2) (M1 3) wx wy a b = nI v by
    obtain ⟨v, hv, e⟩ := h
    unfold fl
    rw [e, cl_nI (by omega)]
    exact ⟨rfl, hv⟩
  unfold flI
  by_cases c : a = b
  · rw [if_pos c]
    exact ⟨0, by omega, rfl⟩
  rw [if_neg c]
  obtain ⟨v, h2, h3, e⟩ := (setB hB).2.1
  obtain ⟨x1, u1, e1⟩ := hB.1 a 0 ha (by omega)
  obtain ⟨x2, u2, e2⟩ := hB.1 b 0 hb (by omega)
  obtain ⟨y1, v1, e3⟩ := hB.1 a 1 ha (by omega)
  obtain ⟨y2, v2, e4⟩ := hB.1 b 1 hb (by omega)
  have m0 : fMost 0 = 50 := rfl
  have m1 : fMost 1 = 50 := rfl
  rw [show M1 2 (5 * a) = _ from e1, show M1 2 (5 * b) = _ from e2, e3, e4, e, mabs_nI (by omega) (by omega), mabs_nI (by omega) (by omega)]
  have hm : ∃ f : Nat, f ≤ 50 ∧ mmax (nI (ds x2 x1)) (nI (ds y2 y1)) = nI f := by
    have d1 : ds x2 x1 ≤ 50 := by unfold ds; omega
    have d2 : ds y2 y1 ≤ 50 := by unfold ds; omega
    unfold mmax
    split
    · exact ⟨_, d2, rfl⟩
    · exact ⟨_, d1, rfl⟩
  obtain ⟨f, hf, ef⟩ := hm
  rw [ef, pk_mul]
  have hvf : v * f ≤ 450 := Nat.mul_le_mul h3 hf
  have dx : (nI x2 - nI x1).toInt = (x2 : Int) - x1 := pk_sub_toInt (by omega) (by omega)
  have dy : (nI y2 - nI y1).toInt = (y2 : Int) - y1 := pk_sub_toInt (by omega) (by omega)
  have bnd3 : ∀ (w d : Int), -3 ≤ w → w ≤ 3 → -50 ≤ d → d ≤ 50 → -150 ≤ w * d ∧ w * d ≤ 150 := by
    intro w d h1 h2 h3 h4
    have : w = -3 ∨ w = -2 ∨ w = -1 ∨ w = 0 ∨ w = 1 ∨ w = 2 ∨ w = 3 := by omega
    rcases this with rfl | rfl | rfl | rfl | rfl | rfl | rfl <;> omega
  have bx := bnd3 wx.toInt (nI x2 - nI x1).toInt hx.1 hx.2 (by rw [dx]; omega) (by rw [dx]; omega)
  have by' := bnd3 wy.toInt (nI y2 - nI y1).toInt hy.1 hy.2 (by rw [dy]; omega) (by rw [dy]; omega)
  have px := fb_mulI (x := wx) (y := nI x2 - nI x1) (by omega) (by omega)
  have py := fb_mulI (x := wy) (y := nI y2 - nI y1) (by omega) (by omega)
  have q0 : (nI (v * f)).toInt = ((v * f : Nat) : Int) := nI_toInt (by omega)
  have q1 := fb_subI (x := nI (v * f)) (y := wx * (nI x2 - nI x1)) (by omega) (by omega)
  have q2 := fb_subI (x := nI (v * f) - wx * (nI x2 - nI x1)) (y := wy * (nI y2 - nI y1)) (by omega) (by omega)
  generalize hE : nI (v * f) - wx * (nI x2 - nI x1) - wy * (nI y2 - nI y1) = E at q2
  unfold mmax
  split
  · rename_i hc
    rw [fa_lt] at hc
    have h1 : (1 : Int32).toInt = 1 := rfl
    obtain ⟨u, _, hu2, eu⟩ := nI_rng (x := E) (a := 0) (b := 750) (by omega) (by omega) (by omega)
    exact ⟨u, by omega, eu⟩
  · exact ⟨1, by omega, rfl⟩
theorem pr_way : PR_way Rel := by
  intro M1 M2 x y f hR hf
  replace hR := Rel_t hR 0
  unfold pX8_way pX9_way
  simp only [bnd_eq]
  generalize mset M2 0 0 0 = N at hR ⊢
  have hR0 := hR
  obtain ⟨n, r, s, t, hL, hB, hP, hT, hF, hC⟩ := hR
  have hL' := hL
  obtain ⟨hn8, l1, l2, l3, l4⟩ := hL'
  rcases place_c (x := x) l1 l2 hn8 with ⟨a, b⟩ | ⟨p, hp, rfl, a, b⟩
  · simp only [a, b, Option.bind_some, if_true]
    exact ⟨_, _, _, ⟨rfl, rfl⟩, rfl, hR0⟩
  simp only [a, b, Option.bind_some, if_neg one_ne]
  rcases place_c (x := y) l1 l2 hn8 with ⟨a, b⟩ | ⟨q, hq, rfl, a, b⟩
  · simp only [a, b, Option.bind_some, if_true]
    exact ⟨_, _, _, ⟨rfl, rfl⟩, rfl, hR0⟩
  simp only [a, b, Option.bind_some, if_neg one_ne]
  rcases hf with rfl | rfl
  · rw [if_pos rfl, if_pos rfl, c_drive l1 hn8 hB hp hq, r_drive hL.w hB (by omega) (by omega)]
    exact ⟨_, _, _, ⟨rfl, rfl⟩, rfl, hR0⟩
  · rw [if_neg one_ne, if_neg one_ne, show pX3_setting 1 2 M1 = _ from c_setting (i := 2) (by omega), show pX3_setting 1 3 M1 = _ from c_setting (i := 3) (by omega)]
    simp only [Option.bind_some]
    rw [c_flight l1 hn8 hp hq, r_flight hL.w (by omega) (by omega)]
    exact ⟨_, _, _, ⟨rfl, rfl⟩, rfl, hR0⟩
