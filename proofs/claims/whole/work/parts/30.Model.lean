theorem dX9_of_0 : decode cX9_of 0 = .ok (.aload_n 0, 1) := by decide +kernel
theorem dX9_of_1 : decode cX9_of 1 = .ok (.getfield 7, 3) := by decide +kernel
theorem dX9_of_4 : decode cX9_of 4 = .ok (.bipush 50, 2) := by decide +kernel
theorem dX9_of_6 : decode cX9_of 6 = .ok (.iload_n 1, 1) := by decide +kernel
theorem dX9_of_7 : decode cX9_of 7 = .ok (.iadd, 1) := by decide +kernel
theorem dX9_of_8 : decode cX9_of 8 = .ok (.iaload, 1) := by decide +kernel
theorem dX9_of_9 : decode cX9_of 9 = .ok (.ireturn, 1) := by decide +kernel
def pX9_of (x1 : Int32) (M : Mm) : Option (Int32) :=
(ald M 1 160 (50 + x1)).bind fun v1 =>
some v1
abbrev zX9_of : Zx := (cX9_of, RX9, 2, 0, (some .int))
set_option maxRecDepth 100000 in
set_option maxHeartbeats 4000000 in
theorem tX9_of {l : Launch} {Y : Sx} {M : Mm} {x1 : Int32} {q : Int32} (hY : isB Y) (h : pX9_of x1 M = some q) : Ct l Y yX9_of cX9_of 2 (some .int) 0 [.ref (adr Y 0), .int x1] M (some q) M := by
  refine Ct.of (by decide) rfl (lv := [(0, .ref (adr Y 0)), (1, .int x1)]) rfl ?_
  intro K hkl C
  change Cx K zX9_of Y at C
  subst hkl
  unfold pX9_of at h
  show Wp K zX9_of Y (Qm K Y (some q) M) M 0 [(0, .ref (adr Y 0)), (1, .int x1)] []
  refine w_aload_n C (pc := 0) dX9_of_0 0 rfl ?_
  refine w_getR C (pc := 1) dX9_of_1 f_X9_7 (sB_0 hY) rfl ?_
  refine w_bipush C (pc := 4) dX9_of_4 (v := 50) (by decide) ?_
  refine w_iload_n C (pc := 6) dX9_of_6 1 rfl ?_
  refine w_iadd C (pc := 7) dX9_of_7 ?_
  obtain ⟨v1, e2, h⟩ := ob h
  refine w_iald C (pc := 8) dX9_of_8 (sB_1 hY) e2 ?_
  exact w_retR C (pc := 9) dX9_of_9 rfl (Option.some.inj h)
theorem dX9_airOf_0 : decode cX9_airOf 0 = .ok (.aload_n 0, 1) := by decide +kernel
theorem dX9_airOf_1 : decode cX9_airOf 1 = .ok (.bipush 9, 2) := by decide +kernel
theorem dX9_airOf_3 : decode cX9_airOf 3 = .ok (.invokevirtual 78, 3) := by decide +kernel
theorem dX9_airOf_6 : decode cX9_airOf 6 = .ok (.iconst 1, 1) := by decide +kernel
theorem dX9_airOf_7 : decode cX9_airOf 7 = .ok (.if_icmp .ne 12, 3) := by decide +kernel
theorem dX9_airOf_10 : decode cX9_airOf 10 = .ok (.aload_n 0, 1) := by decide +kernel
theorem dX9_airOf_11 : decode cX9_airOf 11 = .ok (.getfield 38, 3) := by decide +kernel
theorem dX9_airOf_14 : decode cX9_airOf 14 = .ok (.iload_n 1, 1) := by decide +kernel
theorem dX9_airOf_15 : decode cX9_airOf 15 = .ok (.iaload, 1) := by decide +kernel
theorem dX9_airOf_16 : decode cX9_airOf 16 = .ok (.goto 9, 3) := by decide +kernel
theorem dX9_airOf_19 : decode cX9_airOf 19 = .ok (.aload_n 0, 1) := by decide +kernel
theorem dX9_airOf_20 : decode cX9_airOf 20 = .ok (.getfield 35, 3) := by decide +kernel
theorem dX9_airOf_23 : decode cX9_airOf 23 = .ok (.iload_n 1, 1) := by decide +kernel
theorem dX9_airOf_24 : decode cX9_airOf 24 = .ok (.iaload, 1) := by decide +kernel
theorem dX9_airOf_25 : decode cX9_airOf 25 = .ok (.aload_n 0, 1) := by decide +kernel
theorem dX9_airOf_26 : decode cX9_airOf 26 = .ok (.getfield 32, 3) := by decide +kernel
theorem dX9_airOf_29 : decode cX9_airOf 29 = .ok (.iload_n 1, 1) := by decide +kernel
theorem dX9_airOf_30 : decode cX9_airOf 30 = .ok (.iaload, 1) := by decide +kernel
theorem dX9_airOf_31 : decode cX9_airOf 31 = .ok (.isub, 1) := by decide +kernel
theorem dX9_airOf_32 : decode cX9_airOf 32 = .ok (.ireturn, 1) := by decide +kernel
def pX9_airOf (x1 : Int32) (M : Mm) : Option (Int32) :=
(pX9_of 9 M).bind fun v1 =>
if v1 = 1 then
((ald M 10 8 x1).bind fun v3 =>
(ald M 8 8 x1).bind fun v5 =>
some (v3 - v5))
else
((ald M 9 8 x1).bind fun v7 =>
(ald M 8 8 x1).bind fun v9 =>
some (v7 - v9))
abbrev zX9_airOf : Zx := (cX9_airOf, RX9, 2, 1, (some .int))
set_option maxRecDepth 100000 in
set_option maxHeartbeats 4000000 in
theorem tX9_airOf {l : Launch} {Y : Sx} {M : Mm} {x1 : Int32} {q : Int32} (hY : isB Y) (h : pX9_airOf x1 M = some q) : Ct l Y yX9_airOf cX9_airOf 2 (some .int) 1 [.ref (adr Y 0), .int x1] M (some q) M := by
  refine Ct.of (by decide) rfl (lv := [(0, .ref (adr Y 0)), (1, .int x1)]) rfl ?_
  intro K hkl C
  change Cx K zX9_airOf Y at C
  subst hkl
  unfold pX9_airOf at h
  show Wp K zX9_airOf Y (Qm K Y (some q) M) M 0 [(0, .ref (adr Y 0)), (1, .int x1)] []
  refine w_aload_n C (pc := 0) dX9_airOf_0 0 rfl ?_
  refine w_bipush C (pc := 1) dX9_airOf_1 (v := 9) (by decide) ?_
  obtain ⟨v1, e2, h⟩ := ob h
  refine w_cVi C (pc := 3) dX9_airOf_3 my_X9_of mi_X9_of ml_X9_78 (sB_0 hY) rfl rfl rfl [.int 9] rfl rfl (Nat.le_of_ble_eq_true rfl) (tX9_of hY  e2) ?_
  refine w_iconst C (pc := 6) dX9_airOf_6 (v := 1) (by decide) ?_
  refine w_icne C (pc := 7) 19 dX9_airOf_7 (by decide) (fun c => ?_) (fun c => ?_)
  · have h := it_t h c
    refine w_aload_n C (pc := 10) dX9_airOf_10 0 rfl ?_
    refine w_getR C (pc := 11) dX9_airOf_11 f_X9_38 (sB_0 hY) rfl ?_
    refine w_iload_n C (pc := 14) dX9_airOf_14 1 rfl ?_
    obtain ⟨v3, e4, h⟩ := ob h
    refine w_iald C (pc := 15) dX9_airOf_15 (sB_10 hY) e4 ?_
    refine w_goto C (pc := 16) 25 dX9_airOf_16 (by decide) ?_
    refine w_aload_n C (pc := 25) dX9_airOf_25 0 rfl ?_
    refine w_getR C (pc := 26) dX9_airOf_26 f_X9_32 (sB_0 hY) rfl ?_
    refine w_iload_n C (pc := 29) dX9_airOf_29 1 rfl ?_
    obtain ⟨v5, e6, h⟩ := ob h
    refine w_iald C (pc := 30) dX9_airOf_30 (sB_8 hY) e6 ?_
    refine w_isub C (pc := 31) dX9_airOf_31 ?_
    exact w_retR C (pc := 32) dX9_airOf_32 rfl (Option.some.inj h)
  · have h := it_f h c
    refine w_aload_n C (pc := 19) dX9_airOf_19 0 rfl ?_
    refine w_getR C (pc := 20) dX9_airOf_20 f_X9_35 (sB_0 hY) rfl ?_
    refine w_iload_n C (pc := 23) dX9_airOf_23 1 rfl ?_
    obtain ⟨v7, e8, h⟩ := ob h
    refine w_iald C (pc := 24) dX9_airOf_24 (sB_9 hY) e8 ?_
    refine w_aload_n C (pc := 25) dX9_airOf_25 0 rfl ?_
    refine w_getR C (pc := 26) dX9_airOf_26 f_X9_32 (sB_0 hY) rfl ?_
    refine w_iload_n C (pc := 29) dX9_airOf_29 1 rfl ?_
    obtain ⟨v9, e10, h⟩ := ob h
    refine w_iald C (pc := 30) dX9_airOf_30 (sB_8 hY) e10 ?_
    refine w_isub C (pc := 31) dX9_airOf_31 ?_
    exact w_retR C (pc := 32) dX9_airOf_32 rfl (Option.some.inj h)
theorem dX9_customers_0 : decode cX9_customers 0 = .ok (.aload_n 0, 1) := by decide +kernel
theorem dX9_customers_1 : decode cX9_customers 1 = .ok (.getfield 7, 3) := by decide +kernel
theorem dX9_customers_4 : decode cX9_customers 4 = .ok (.iconst 0, 1) := by decide +kernel
theorem dX9_customers_5 : decode cX9_customers 5 = .ok (.iaload, 1) := by decide +kernel
theorem dX9_customers_6 : decode cX9_customers 6 = .ok (.ireturn, 1) := by decide +kernel
def pX9_customers (M : Mm) : Option (Int32) :=
(ald M 1 160 0).bind fun v1 =>
some v1
abbrev zX9_customers : Zx := (cX9_customers, RX9, 1, 0, (some .int))
set_option maxRecDepth 100000 in
set_option maxHeartbeats 4000000 in
theorem tX9_customers {l : Launch} {Y : Sx} {M : Mm} {q : Int32} (hY : isB Y) (h : pX9_customers M = some q) : Ct l Y yX9_customers cX9_customers 1 (some .int) 0 [.ref (adr Y 0)] M (some q) M := by
  refine Ct.of (by decide) rfl (lv := [(0, .ref (adr Y 0))]) rfl ?_
  intro K hkl C
  change Cx K zX9_customers Y at C
  subst hkl
  unfold pX9_customers at h
  show Wp K zX9_customers Y (Qm K Y (some q) M) M 0 [(0, .ref (adr Y 0))] []
  refine w_aload_n C (pc := 0) dX9_customers_0 0 rfl ?_
  refine w_getR C (pc := 1) dX9_customers_1 f_X9_7 (sB_0 hY) rfl ?_
  refine w_iconst C (pc := 4) dX9_customers_4 (v := 0) (by decide) ?_
  obtain ⟨v1, e2, h⟩ := ob h
  refine w_iald C (pc := 5) dX9_customers_5 (sB_1 hY) e2 ?_
  exact w_retR C (pc := 6) dX9_customers_6 rfl (Option.some.inj h)
theorem dX9_isIn_0 : decode cX9_isIn 0 = .ok (.iload_n 0, 1) := by decide +kernel
theorem dX9_isIn_1 : decode cX9_isIn 1 = .ok (.iload_n 1, 1) := by decide +kernel
theorem dX9_isIn_2 : decode cX9_isIn 2 = .ok (.if_icmp .lt 12, 3) := by decide +kernel
theorem dX9_isIn_5 : decode cX9_isIn 5 = .ok (.iload_n 0, 1) := by decide +kernel
theorem dX9_isIn_6 : decode cX9_isIn 6 = .ok (.iload_n 2, 1) := by decide +kernel
theorem dX9_isIn_7 : decode cX9_isIn 7 = .ok (.if_icmp .gt 7, 3) := by decide +kernel
theorem dX9_isIn_10 : decode cX9_isIn 10 = .ok (.iconst 1, 1) := by decide +kernel
theorem dX9_isIn_11 : decode cX9_isIn 11 = .ok (.goto 4, 3) := by decide +kernel
theorem dX9_isIn_14 : decode cX9_isIn 14 = .ok (.iconst 0, 1) := by decide +kernel
theorem dX9_isIn_15 : decode cX9_isIn 15 = .ok (.ireturn, 1) := by decide +kernel
def pX9_isIn (x0 : Int32) (x1 : Int32) (x2 : Int32) : Int32 :=
if x0 < x1 then
(0)
else
(if x2 < x0 then
(0)
else
(1))
abbrev zX9_isIn : Zx := (cX9_isIn, RX9, 3, 0, (some .boolean))
set_option maxRecDepth 100000 in
set_option maxHeartbeats 4000000 in
theorem tX9_isIn {l : Launch} {Y : Sx} {M : Mm} {x0 : Int32} {x1 : Int32} {x2 : Int32} {q : Int32} (h : pX9_isIn x0 x1 x2 = q) : Ct l Y yX9_isIn cX9_isIn 3 (some .boolean) 0 [.int x0, .int x1, .int x2] M (some q) M := by
  refine Ct.of (by decide) rfl (lv := [(0, .int x0), (1, .int x1), (2, .int x2)]) rfl ?_
  intro K hkl C
  change Cx K zX9_isIn Y at C
  subst hkl
  unfold pX9_isIn at h
  show Wp K zX9_isIn Y (Qm K Y (some q) M) M 0 [(0, .int x0), (1, .int x1), (2, .int x2)] []
  refine w_iload_n C (pc := 0) dX9_isIn_0 0 rfl ?_
  refine w_iload_n C (pc := 1) dX9_isIn_1 1 rfl ?_
  refine w_iclt C (pc := 2) 14 dX9_isIn_2 (by decide) (fun c => ?_) (fun c => ?_)
  · have h := it_t h c
    refine w_iconst C (pc := 14) dX9_isIn_14 (v := 0) (by decide) ?_
    exact w_retzR C (pc := 15) dX9_isIn_15 rfl (by decide) h
  · have h := it_f h c
    refine w_iload_n C (pc := 5) dX9_isIn_5 0 rfl ?_
    refine w_iload_n C (pc := 6) dX9_isIn_6 2 rfl ?_
    refine w_icgt C (pc := 7) 14 dX9_isIn_7 (by decide) (fun c => ?_) (fun c => ?_)
    · have h := it_t h c
      refine w_iconst C (pc := 14) dX9_isIn_14 (v := 0) (by decide) ?_
      exact w_retzR C (pc := 15) dX9_isIn_15 rfl (by decide) h
    · have h := it_f h c
      refine w_iconst C (pc := 10) dX9_isIn_10 (v := 1) (by decide) ?_
      refine w_goto C (pc := 11) 15 dX9_isIn_11 (by decide) ?_
      exact w_retzR C (pc := 15) dX9_isIn_15 rfl (by decide) h
theorem dX9_bits_0 : decode cX9_bits 0 = .ok (.iconst 0, 1) := by decide +kernel
theorem dX9_bits_1 : decode cX9_bits 1 = .ok (.istore_n 1, 1) := by decide +kernel
theorem dX9_bits_2 : decode cX9_bits 2 = .ok (.iload_n 0, 1) := by decide +kernel
theorem dX9_bits_3 : decode cX9_bits 3 = .ok (.istore_n 2, 1) := by decide +kernel
theorem dX9_bits_4 : decode cX9_bits 4 = .ok (.iload_n 2, 1) := by decide +kernel
theorem dX9_bits_5 : decode cX9_bits 5 = .ok (.ifCond .le 16, 3) := by decide +kernel
theorem dX9_bits_8 : decode cX9_bits 8 = .ok (.iload_n 1, 1) := by decide +kernel
theorem dX9_bits_9 : decode cX9_bits 9 = .ok (.iload_n 2, 1) := by decide +kernel
theorem dX9_bits_10 : decode cX9_bits 10 = .ok (.iconst 2, 1) := by decide +kernel
theorem dX9_bits_11 : decode cX9_bits 11 = .ok (.irem, 1) := by decide +kernel
theorem dX9_bits_12 : decode cX9_bits 12 = .ok (.iadd, 1) := by decide +kernel
theorem dX9_bits_13 : decode cX9_bits 13 = .ok (.istore_n 1, 1) := by decide +kernel
theorem dX9_bits_14 : decode cX9_bits 14 = .ok (.iload_n 2, 1) := by decide +kernel
theorem dX9_bits_15 : decode cX9_bits 15 = .ok (.iconst 2, 1) := by decide +kernel
theorem dX9_bits_16 : decode cX9_bits 16 = .ok (.idiv, 1) := by decide +kernel
theorem dX9_bits_17 : decode cX9_bits 17 = .ok (.istore_n 2, 1) := by decide +kernel
theorem dX9_bits_18 : decode cX9_bits 18 = .ok (.goto (-14), 3) := by decide +kernel
theorem dX9_bits_21 : decode cX9_bits 21 = .ok (.iload_n 1, 1) := by decide +kernel
theorem dX9_bits_22 : decode cX9_bits 22 = .ok (.ireturn, 1) := by decide +kernel
def pX9_bits_L4 (s : Int32 × Int32) : Option ((Int32 × Int32) ⊕ (Int32)) :=
if s.2 ≤ 0 then
(some (Sum.inr s.1))
else
(bnd (s.1 + (rmi s.2 2)) fun v1 =>
bnd (s.2 / 2) fun v2 =>
some (Sum.inl (v1, v2)))
def pX9_bits (x0 : Int32) : Option (Int32) :=
(itr (pX9_bits_L4) fuel (0, x0)).bind fun x3 =>
some x3
abbrev zX9_bits : Zx := (cX9_bits, RX9, 3, 0, (some .int))
set_option maxRecDepth 100000 in
set_option maxHeartbeats 4000000 in
theorem tX9_bits {l : Launch} {Y : Sx} {M : Mm} {x0 : Int32} {q : Int32} (h : pX9_bits x0 = some q) : Ct l Y yX9_bits cX9_bits 3 (some .int) 0 [.int x0] M (some q) M := by
  refine Ct.of (by decide) rfl (lv := [(0, .int x0)]) rfl ?_
  intro K hkl C
  change Cx K zX9_bits Y at C
  subst hkl
  unfold pX9_bits at h
  show Wp K zX9_bits Y (Qm K Y (some q) M) M 0 [(0, .int x0)] []
  refine w_iconst C (pc := 0) dX9_bits_0 (v := 0) (by decide) ?_
  refine w_istore_n C (pc := 1) dX9_bits_1 (lv' := [(0, .int x0), (1, .int 0)]) rfl rfl rfl ?_
  refine w_iload_n C (pc := 2) dX9_bits_2 0 rfl ?_
  refine w_istore_n C (pc := 3) dX9_bits_3 (lv' := [(0, .int x0), (1, .int 0), (2, .int x0)]) rfl rfl rfl ?_
  obtain ⟨x3, e4, h⟩ := ob h
  refine itr_W (P := fun s5 => Wp K zX9_bits Y (Qm K Y (some q) M) M 4 [(0, .int x0), (1, .int s5.1), (2, .int s5.2)] []) (R := fun x3 => Wp K zX9_bits Y (Qm K Y (some q) M) M 21 [(0, .int x0), (1, .int x3)] []) ?_ fuel (0, x0) x3 e4 ?_
  · intro s5 r6 h9 ki7 kx8
    unfold pX9_bits_L4 at h9
    show Wp K zX9_bits Y (Qm K Y (some q) M) M 4 [(0, .int x0), (1, .int s5.1), (2, .int s5.2)] []
    refine w_iload_n C (pc := 4) dX9_bits_4 2 rfl ?_
    refine w_ifle C (pc := 5) 21 dX9_bits_5 (by decide) (fun c => ?_) (fun c => ?_)
    · have h9 := it_t h9 c
      obtain rfl := Option.some.inj h9
      refine w_lv [0, 1] rfl ?_
      have k9 := kx8 s5.1 rfl
      try dsimp only at k9
      exact k9
    · have h9 := it_f h9 c
      refine w_iload_n C (pc := 8) dX9_bits_8 1 rfl ?_
      refine w_iload_n C (pc := 9) dX9_bits_9 2 rfl ?_
      refine w_iconst C (pc := 10) dX9_bits_10 (v := 2) (by decide) ?_
      refine w_irem C (pc := 11) dX9_bits_11 (by decide) ?_
      refine w_iadd C (pc := 12) dX9_bits_12 ?_
      refine w_bnd h9 (fun v10 h9 => ?_)
      refine w_istore_n C (pc := 13) dX9_bits_13 (lv' := [(0, .int x0), (1, .int v10), (2, .int s5.2)]) rfl rfl rfl ?_
      refine w_iload_n C (pc := 14) dX9_bits_14 2 rfl ?_
      refine w_iconst C (pc := 15) dX9_bits_15 (v := 2) (by decide) ?_
      refine w_idiv C (pc := 16) dX9_bits_16 (by decide) ?_
      refine w_bnd h9 (fun v11 h9 => ?_)
      refine w_istore_n C (pc := 17) dX9_bits_17 (lv' := [(0, .int x0), (1, .int v10), (2, .int v11)]) rfl rfl rfl ?_
      refine w_goto C (pc := 18) 4 dX9_bits_18 (by decide) ?_
      obtain rfl := Option.some.inj h9
      have k9 := ki7 (v10, v11) rfl
      try dsimp only at k9
      exact k9
  · refine w_iload_n C (pc := 21) dX9_bits_21 1 rfl ?_
    exact w_retR C (pc := 22) dX9_bits_22 rfl (Option.some.inj h)
theorem dX9_placeOf_0 : decode cX9_placeOf 0 = .ok (.aload_n 0, 1) := by decide +kernel
theorem dX9_placeOf_1 : decode cX9_placeOf 1 = .ok (.getfield 7, 3) := by decide +kernel
theorem dX9_placeOf_4 : decode cX9_placeOf 4 = .ok (.iconst 1, 1) := by decide +kernel
theorem dX9_placeOf_5 : decode cX9_placeOf 5 = .ok (.iconst 5, 1) := by decide +kernel
theorem dX9_placeOf_6 : decode cX9_placeOf 6 = .ok (.iload_n 1, 1) := by decide +kernel
theorem dX9_placeOf_7 : decode cX9_placeOf 7 = .ok (.imul, 1) := by decide +kernel
theorem dX9_placeOf_8 : decode cX9_placeOf 8 = .ok (.iadd, 1) := by decide +kernel
theorem dX9_placeOf_9 : decode cX9_placeOf 9 = .ok (.iload_n 2, 1) := by decide +kernel
theorem dX9_placeOf_10 : decode cX9_placeOf 10 = .ok (.iadd, 1) := by decide +kernel
theorem dX9_placeOf_11 : decode cX9_placeOf 11 = .ok (.iaload, 1) := by decide +kernel
theorem dX9_placeOf_12 : decode cX9_placeOf 12 = .ok (.ireturn, 1) := by decide +kernel
def pX9_placeOf (x1 : Int32) (x2 : Int32) (M : Mm) : Option (Int32) :=
(ald M 1 160 ((1 + (5 * x1)) + x2)).bind fun v1 =>
some v1
abbrev zX9_placeOf : Zx := (cX9_placeOf, RX9, 3, 0, (some .int))
set_option maxRecDepth 100000 in
set_option maxHeartbeats 4000000 in
theorem tX9_placeOf {l : Launch} {Y : Sx} {M : Mm} {x1 : Int32} {x2 : Int32} {q : Int32} (hY : isB Y) (h : pX9_placeOf x1 x2 M = some q) : Ct l Y yX9_placeOf cX9_placeOf 3 (some .int) 0 [.ref (adr Y 0), .int x1, .int x2] M (some q) M := by
  refine Ct.of (by decide) rfl (lv := [(0, .ref (adr Y 0)), (1, .int x1), (2, .int x2)]) rfl ?_
  intro K hkl C
  change Cx K zX9_placeOf Y at C
  subst hkl
  unfold pX9_placeOf at h
  show Wp K zX9_placeOf Y (Qm K Y (some q) M) M 0 [(0, .ref (adr Y 0)), (1, .int x1), (2, .int x2)] []
  refine w_aload_n C (pc := 0) dX9_placeOf_0 0 rfl ?_
  refine w_getR C (pc := 1) dX9_placeOf_1 f_X9_7 (sB_0 hY) rfl ?_
  refine w_iconst C (pc := 4) dX9_placeOf_4 (v := 1) (by decide) ?_
  refine w_iconst C (pc := 5) dX9_placeOf_5 (v := 5) (by decide) ?_
  refine w_iload_n C (pc := 6) dX9_placeOf_6 1 rfl ?_
  refine w_imul C (pc := 7) dX9_placeOf_7 ?_
  refine w_iadd C (pc := 8) dX9_placeOf_8 ?_
  refine w_iload_n C (pc := 9) dX9_placeOf_9 2 rfl ?_
  refine w_iadd C (pc := 10) dX9_placeOf_10 ?_
  obtain ⟨v1, e2, h⟩ := ob h
  refine w_iald C (pc := 11) dX9_placeOf_11 (sB_1 hY) e2 ?_
  exact w_retR C (pc := 12) dX9_placeOf_12 rfl (Option.some.inj h)
theorem dX9_isLight_0 : decode cX9_isLight 0 = .ok (.aload_n 0, 1) := by decide +kernel
theorem dX9_isLight_1 : decode cX9_isLight 1 = .ok (.iload_n 1, 1) := by decide +kernel
theorem dX9_isLight_2 : decode cX9_isLight 2 = .ok (.iconst 4, 1) := by decide +kernel
theorem dX9_isLight_3 : decode cX9_isLight 3 = .ok (.invokevirtual 82, 3) := by decide +kernel
theorem dX9_isLight_6 : decode cX9_isLight 6 = .ok (.aload_n 0, 1) := by decide +kernel
theorem dX9_isLight_7 : decode cX9_isLight 7 = .ok (.iconst 4, 1) := by decide +kernel
theorem dX9_isLight_8 : decode cX9_isLight 8 = .ok (.invokevirtual 78, 3) := by decide +kernel
theorem dX9_isLight_11 : decode cX9_isLight 11 = .ok (.if_icmp .gt 7, 3) := by decide +kernel
theorem dX9_isLight_14 : decode cX9_isLight 14 = .ok (.iconst 1, 1) := by decide +kernel
theorem dX9_isLight_15 : decode cX9_isLight 15 = .ok (.goto 4, 3) := by decide +kernel
theorem dX9_isLight_18 : decode cX9_isLight 18 = .ok (.iconst 0, 1) := by decide +kernel
theorem dX9_isLight_19 : decode cX9_isLight 19 = .ok (.ireturn, 1) := by decide +kernel
def pX9_isLight (x1 : Int32) (M : Mm) : Option (Int32) :=
(pX9_placeOf x1 4 M).bind fun v1 =>
(pX9_of 4 M).bind fun v3 =>
if v3 < v1 then
(some 0)
else
(some 1)
abbrev zX9_isLight : Zx := (cX9_isLight, RX9, 2, 1, (some .boolean))
set_option maxRecDepth 100000 in
set_option maxHeartbeats 4000000 in
theorem tX9_isLight {l : Launch} {Y : Sx} {M : Mm} {x1 : Int32} {q : Int32} (hY : isB Y) (h : pX9_isLight x1 M = some q) : Ct l Y yX9_isLight cX9_isLight 2 (some .boolean) 1 [.ref (adr Y 0), .int x1] M (some q) M := by
  refine Ct.of (by decide) rfl (lv := [(0, .ref (adr Y 0)), (1, .int x1)]) rfl ?_
  intro K hkl C
  change Cx K zX9_isLight Y at C
  subst hkl
  unfold pX9_isLight at h
  show Wp K zX9_isLight Y (Qm K Y (some q) M) M 0 [(0, .ref (adr Y 0)), (1, .int x1)] []
  refine w_aload_n C (pc := 0) dX9_isLight_0 0 rfl ?_
  refine w_iload_n C (pc := 1) dX9_isLight_1 1 rfl ?_
  refine w_iconst C (pc := 2) dX9_isLight_2 (v := 4) (by decide) ?_
  obtain ⟨v1, e2, h⟩ := ob h
  refine w_cVi C (pc := 3) dX9_isLight_3 my_X9_placeOf mi_X9_placeOf ml_X9_82 (sB_0 hY) rfl rfl rfl [.int x1, .int 4] rfl rfl (Nat.le_of_ble_eq_true rfl) (tX9_placeOf hY  e2) ?_
  refine w_aload_n C (pc := 6) dX9_isLight_6 0 rfl ?_
  refine w_iconst C (pc := 7) dX9_isLight_7 (v := 4) (by decide) ?_
  obtain ⟨v3, e4, h⟩ := ob h
  refine w_cVi C (pc := 8) dX9_isLight_8 my_X9_of mi_X9_of ml_X9_78 (sB_0 hY) rfl rfl rfl [.int 4] rfl rfl (Nat.le_of_ble_eq_true rfl) (tX9_of hY  e4) ?_
  refine w_icgt C (pc := 11) 18 dX9_isLight_11 (by decide) (fun c => ?_) (fun c => ?_)
  · have h := it_t h c
    refine w_iconst C (pc := 18) dX9_isLight_18 (v := 0) (by decide) ?_
    exact w_retzR C (pc := 19) dX9_isLight_19 rfl (by decide) (Option.some.inj h)
  · have h := it_f h c
    refine w_iconst C (pc := 14) dX9_isLight_14 (v := 1) (by decide) ?_
    refine w_goto C (pc := 15) 19 dX9_isLight_15 (by decide) ?_
    exact w_retzR C (pc := 19) dX9_isLight_19 rfl (by decide) (Option.some.inj h)
theorem dX9_isLightSet_0 : decode cX9_isLightSet 0 = .ok (.iconst 0, 1) := by decide +kernel
theorem dX9_isLightSet_1 : decode cX9_isLightSet 1 = .ok (.istore_n 3, 1) := by decide +kernel
theorem dX9_isLightSet_2 : decode cX9_isLightSet 2 = .ok (.iload_n 2, 1) := by decide +kernel
theorem dX9_isLightSet_3 : decode cX9_isLightSet 3 = .ok (.iload_n 3, 1) := by decide +kernel
theorem dX9_isLightSet_4 : decode cX9_isLightSet 4 = .ok (.ishr, 1) := by decide +kernel
theorem dX9_isLightSet_5 : decode cX9_isLightSet 5 = .ok (.ifCond .le 37, 3) := by decide +kernel
theorem dX9_isLightSet_8 : decode cX9_isLightSet 8 = .ok (.iload_n 2, 1) := by decide +kernel
theorem dX9_isLightSet_9 : decode cX9_isLightSet 9 = .ok (.iload_n 3, 1) := by decide +kernel
theorem dX9_isLightSet_10 : decode cX9_isLightSet 10 = .ok (.ishr, 1) := by decide +kernel
theorem dX9_isLightSet_11 : decode cX9_isLightSet 11 = .ok (.iconst 1, 1) := by decide +kernel
theorem dX9_isLightSet_12 : decode cX9_isLightSet 12 = .ok (.iand, 1) := by decide +kernel
theorem dX9_isLightSet_13 : decode cX9_isLightSet 13 = .ok (.iconst 1, 1) := by decide +kernel
theorem dX9_isLightSet_14 : decode cX9_isLightSet 14 = .ok (.if_icmp .ne 22, 3) := by decide +kernel
theorem dX9_isLightSet_17 : decode cX9_isLightSet 17 = .ok (.aload_n 0, 1) := by decide +kernel
theorem dX9_isLightSet_18 : decode cX9_isLightSet 18 = .ok (.aload_n 0, 1) := by decide +kernel
theorem dX9_isLightSet_19 : decode cX9_isLightSet 19 = .ok (.getfield 48, 3) := by decide +kernel
theorem dX9_isLightSet_22 : decode cX9_isLightSet 22 = .ok (.iload_n 1, 1) := by decide +kernel
theorem dX9_isLightSet_23 : decode cX9_isLightSet 23 = .ok (.iconst 1, 1) := by decide +kernel
theorem dX9_isLightSet_24 : decode cX9_isLightSet 24 = .ok (.iadd, 1) := by decide +kernel
theorem dX9_isLightSet_25 : decode cX9_isLightSet 25 = .ok (.iload_n 3, 1) := by decide +kernel
theorem dX9_isLightSet_26 : decode cX9_isLightSet 26 = .ok (.iadd, 1) := by decide +kernel
theorem dX9_isLightSet_27 : decode cX9_isLightSet 27 = .ok (.iaload, 1) := by decide +kernel
theorem dX9_isLightSet_28 : decode cX9_isLightSet 28 = .ok (.invokevirtual 193, 3) := by decide +kernel
theorem dX9_isLightSet_31 : decode cX9_isLightSet 31 = .ok (.ifCond .ne 5, 3) := by decide +kernel
theorem dX9_isLightSet_34 : decode cX9_isLightSet 34 = .ok (.iconst 0, 1) := by decide +kernel
theorem dX9_isLightSet_35 : decode cX9_isLightSet 35 = .ok (.ireturn, 1) := by decide +kernel
theorem dX9_isLightSet_36 : decode cX9_isLightSet 36 = .ok (.iinc 3 1, 3) := by decide +kernel
theorem dX9_isLightSet_39 : decode cX9_isLightSet 39 = .ok (.goto (-37), 3) := by decide +kernel
theorem dX9_isLightSet_42 : decode cX9_isLightSet 42 = .ok (.iconst 1, 1) := by decide +kernel
theorem dX9_isLightSet_43 : decode cX9_isLightSet 43 = .ok (.ireturn, 1) := by decide +kernel
def pX9_isLightSet_L2 (x1 : Int32) (x2 : Int32) (M : Mm) (s : Int32) : Option ((Int32) ⊕ ((Unit) ⊕ (Int32))) :=
if (x2 >>> (s &&& 31)) ≤ 0 then
(some (Sum.inr (Sum.inl ())))
else
(if ((x2 >>> (s &&& 31)) &&& 1) = 1 then
((ald M 13 10 ((x1 + 1) + s)).bind fun v1 =>
(pX9_isLight v1 M).bind fun v3 =>
if v3 = 0 then
(some (Sum.inr (Sum.inr 0)))
else
(some (Sum.inl (s + 1))))
else
(some (Sum.inl (s + 1))))
def pX9_isLightSet (x1 : Int32) (x2 : Int32) (M : Mm) : Option (Int32) :=
(itr (pX9_isLightSet_L2 x1 x2 M) fuel 0).bind fun x6 =>
Sum.elim (fun yx6 =>
some 1) (fun r => some r) x6
abbrev zX9_isLightSet : Zx := (cX9_isLightSet, RX9, 4, 2, (some .boolean))
set_option maxRecDepth 100000 in
set_option maxHeartbeats 4000000 in
theorem tX9_isLightSet {l : Launch} {Y : Sx} {M : Mm} {x1 : Int32} {x2 : Int32} {q : Int32} (hY : isB Y) (h : pX9_isLightSet x1 x2 M = some q) : Ct l Y yX9_isLightSet cX9_isLightSet 4 (some .boolean) 2 [.ref (adr Y 0), .int x1, .int x2] M (some q) M := by
  refine Ct.of (by decide) rfl (lv := [(0, .ref (adr Y 0)), (1, .int x1), (2, .int x2)]) rfl ?_
  intro K hkl C
  change Cx K zX9_isLightSet Y at C
  subst hkl
  unfold pX9_isLightSet at h
  show Wp K zX9_isLightSet Y (Qm K Y (some q) M) M 0 [(0, .ref (adr Y 0)), (1, .int x1), (2, .int x2)] []
  refine w_iconst C (pc := 0) dX9_isLightSet_0 (v := 0) (by decide) ?_
  refine w_istore_n C (pc := 1) dX9_isLightSet_1 (lv' := [(0, .ref (adr Y 0)), (1, .int x1), (2, .int x2), (3, .int 0)]) rfl rfl rfl ?_
  obtain ⟨x6, e7, h⟩ := ob h
  refine itr_W (P := fun s8 => Wp K zX9_isLightSet Y (Qm K Y (some q) M) M 2 [(0, .ref (adr Y 0)), (1, .int x1), (2, .int x2), (3, .int s8)] []) (R := fun x9 => (∀ yx6, x9 = Sum.inl yx6 → Wp K zX9_isLightSet Y (Qm K Y (some q) M) M 42 [(0, .ref (adr Y 0)), (1, .int x1), (2, .int x2)] []) ∧ (∀ v9, x9 = Sum.inr v9 → some v9 = some q)) ?_ fuel 0 x6 e7 ?_
  · intro s8 r9 h12 ki10 kx11
    unfold pX9_isLightSet_L2 at h12
    show Wp K zX9_isLightSet Y (Qm K Y (some q) M) M 2 [(0, .ref (adr Y 0)), (1, .int x1), (2, .int x2), (3, .int s8)] []
    refine w_iload_n C (pc := 2) dX9_isLightSet_2 2 rfl ?_
    refine w_iload_n C (pc := 3) dX9_isLightSet_3 3 rfl ?_
    refine w_ishr C (pc := 4) dX9_isLightSet_4 ?_
    refine w_ifle C (pc := 5) 42 dX9_isLightSet_5 (by decide) (fun c => ?_) (fun c => ?_)
    · have h12 := it_t h12 c
      obtain rfl := Option.some.inj h12
      refine w_lv [0, 1, 2] rfl ?_
      have k9 := (kx11 (Sum.inl ()) rfl).1 () rfl
      try dsimp only at k9
      exact k9
    · have h12 := it_f h12 c
      refine w_iload_n C (pc := 8) dX9_isLightSet_8 2 rfl ?_
      refine w_iload_n C (pc := 9) dX9_isLightSet_9 3 rfl ?_
      refine w_ishr C (pc := 10) dX9_isLightSet_10 ?_
      refine w_iconst C (pc := 11) dX9_isLightSet_11 (v := 1) (by decide) ?_
      refine w_iand C (pc := 12) dX9_isLightSet_12 ?_
      refine w_iconst C (pc := 13) dX9_isLightSet_13 (v := 1) (by decide) ?_
      refine w_icne C (pc := 14) 36 dX9_isLightSet_14 (by decide) (fun c => ?_) (fun c => ?_)
      · have h12 := it_t h12 c
        refine w_aload_n C (pc := 17) dX9_isLightSet_17 0 rfl ?_
        refine w_aload_n C (pc := 18) dX9_isLightSet_18 0 rfl ?_
        refine w_getR C (pc := 19) dX9_isLightSet_19 f_X9_48 (sB_0 hY) rfl ?_
        refine w_iload_n C (pc := 22) dX9_isLightSet_22 1 rfl ?_
        refine w_iconst C (pc := 23) dX9_isLightSet_23 (v := 1) (by decide) ?_
        refine w_iadd C (pc := 24) dX9_isLightSet_24 ?_
        refine w_iload_n C (pc := 25) dX9_isLightSet_25 3 rfl ?_
        refine w_iadd C (pc := 26) dX9_isLightSet_26 ?_
        obtain ⟨v13, e14, h12⟩ := ob h12
        refine w_iald C (pc := 27) dX9_isLightSet_27 (sB_13 hY) e14 ?_
        obtain ⟨v15, e16, h12⟩ := ob h12
        refine w_cVi C (pc := 28) dX9_isLightSet_28 my_X9_isLight mi_X9_isLight ml_X9_193 (sB_0 hY) rfl rfl rfl [.int v13] rfl rfl (Nat.le_of_ble_eq_true rfl) (tX9_isLight hY  e16) ?_
        refine w_ifne C (pc := 31) 36 dX9_isLightSet_31 (by decide) (fun c => ?_) (fun c => ?_)
        · have h12 := it_t h12 c
          refine w_iconst C (pc := 34) dX9_isLightSet_34 (v := 0) (by decide) ?_
          obtain rfl := Option.some.inj h12
          have h17 := (kx11 (Sum.inr 0) rfl).2 0 rfl
          exact w_retzR C (pc := 35) dX9_isLightSet_35 rfl (by decide) (Option.some.inj h17)
        · have h12 := it_f h12 c
          refine w_iinc C (pc := 36) dX9_isLightSet_36 3 rfl (v := 1) (lv' := [(0, .ref (adr Y 0)), (1, .int x1), (2, .int x2), (3, .int (s8 + 1))]) (by decide) rfl rfl rfl ?_
          refine w_goto C (pc := 39) 2 dX9_isLightSet_39 (by decide) ?_
          obtain rfl := Option.some.inj h12
          have k9 := ki10 (s8 + 1) rfl
          try dsimp only at k9
          exact k9
      · have h12 := it_f h12 c
        refine w_iinc C (pc := 36) dX9_isLightSet_36 3 rfl (v := 1) (lv' := [(0, .ref (adr Y 0)), (1, .int x1), (2, .int x2), (3, .int (s8 + 1))]) (by decide) rfl rfl rfl ?_
        refine w_goto C (pc := 39) 2 dX9_isLightSet_39 (by decide) ?_
        obtain rfl := Option.some.inj h12
        have k9 := ki10 (s8 + 1) rfl
        try dsimp only at k9
        exact k9
  · refine ⟨fun yx6 hy => ?_, fun v9 hv => ?_⟩
    · subst hy
      dsimp only [Sum.elim] at h
      refine w_iconst C (pc := 42) dX9_isLightSet_42 (v := 1) (by decide) ?_
      exact w_retzR C (pc := 43) dX9_isLightSet_43 rfl (by decide) (Option.some.inj h)
    · subst hv
      exact h
theorem dX9_size_0 : decode cX9_size 0 = .ok (.iload_n 0, 1) := by decide +kernel
theorem dX9_size_1 : decode cX9_size 1 = .ok (.ifCond .ge 8, 3) := by decide +kernel
theorem dX9_size_4 : decode cX9_size 4 = .ok (.iload_n 0, 1) := by decide +kernel
theorem dX9_size_5 : decode cX9_size 5 = .ok (.ineg, 1) := by decide +kernel
theorem dX9_size_6 : decode cX9_size 6 = .ok (.goto 4, 3) := by decide +kernel
theorem dX9_size_9 : decode cX9_size 9 = .ok (.iload_n 0, 1) := by decide +kernel
theorem dX9_size_10 : decode cX9_size 10 = .ok (.ireturn, 1) := by decide +kernel
def pX9_size (x0 : Int32) : Int32 :=
if 0 ≤ x0 then
(x0)
else
(-x0)
abbrev zX9_size : Zx := (cX9_size, RX9, 1, 0, (some .int))
set_option maxRecDepth 100000 in
set_option maxHeartbeats 4000000 in
theorem tX9_size {l : Launch} {Y : Sx} {M : Mm} {x0 : Int32} {q : Int32} (h : pX9_size x0 = q) : Ct l Y yX9_size cX9_size 1 (some .int) 0 [.int x0] M (some q) M := by
  refine Ct.of (by decide) rfl (lv := [(0, .int x0)]) rfl ?_
  intro K hkl C
  change Cx K zX9_size Y at C
  subst hkl
  unfold pX9_size at h
  show Wp K zX9_size Y (Qm K Y (some q) M) M 0 [(0, .int x0)] []
  refine w_iload_n C (pc := 0) dX9_size_0 0 rfl ?_
  refine w_ifge C (pc := 1) 9 dX9_size_1 (by decide) (fun c => ?_) (fun c => ?_)
  · have h := it_t h c
    refine w_iload_n C (pc := 9) dX9_size_9 0 rfl ?_
    exact w_retR C (pc := 10) dX9_size_10 rfl h
  · have h := it_f h c
    refine w_iload_n C (pc := 4) dX9_size_4 0 rfl ?_
    refine w_ineg C (pc := 5) dX9_size_5 ?_
    refine w_goto C (pc := 6) 10 dX9_size_6 (by decide) ?_
    exact w_retR C (pc := 10) dX9_size_10 rfl h
theorem dX9_flight_0 : decode cX9_flight 0 = .ok (.iload_n 1, 1) := by decide +kernel
theorem dX9_flight_1 : decode cX9_flight 1 = .ok (.iload_n 2, 1) := by decide +kernel
theorem dX9_flight_2 : decode cX9_flight 2 = .ok (.if_icmp .ne 5, 3) := by decide +kernel
theorem dX9_flight_5 : decode cX9_flight 5 = .ok (.iconst 0, 1) := by decide +kernel
theorem dX9_flight_6 : decode cX9_flight 6 = .ok (.ireturn, 1) := by decide +kernel
theorem dX9_flight_7 : decode cX9_flight 7 = .ok (.aload_n 0, 1) := by decide +kernel
theorem dX9_flight_8 : decode cX9_flight 8 = .ok (.iload_n 2, 1) := by decide +kernel
theorem dX9_flight_9 : decode cX9_flight 9 = .ok (.iconst 0, 1) := by decide +kernel
theorem dX9_flight_10 : decode cX9_flight 10 = .ok (.invokevirtual 82, 3) := by decide +kernel
theorem dX9_flight_13 : decode cX9_flight 13 = .ok (.aload_n 0, 1) := by decide +kernel
theorem dX9_flight_14 : decode cX9_flight 14 = .ok (.iload_n 1, 1) := by decide +kernel
theorem dX9_flight_15 : decode cX9_flight 15 = .ok (.iconst 0, 1) := by decide +kernel
theorem dX9_flight_16 : decode cX9_flight 16 = .ok (.invokevirtual 82, 3) := by decide +kernel
theorem dX9_flight_19 : decode cX9_flight 19 = .ok (.isub, 1) := by decide +kernel
theorem dX9_flight_20 : decode cX9_flight 20 = .ok (.istore_n 3, 1) := by decide +kernel
theorem dX9_flight_21 : decode cX9_flight 21 = .ok (.aload_n 0, 1) := by decide +kernel
theorem dX9_flight_22 : decode cX9_flight 22 = .ok (.iload_n 2, 1) := by decide +kernel
theorem dX9_flight_23 : decode cX9_flight 23 = .ok (.iconst 1, 1) := by decide +kernel
theorem dX9_flight_24 : decode cX9_flight 24 = .ok (.invokevirtual 82, 3) := by decide +kernel
theorem dX9_flight_27 : decode cX9_flight 27 = .ok (.aload_n 0, 1) := by decide +kernel
theorem dX9_flight_28 : decode cX9_flight 28 = .ok (.iload_n 1, 1) := by decide +kernel
theorem dX9_flight_29 : decode cX9_flight 29 = .ok (.iconst 1, 1) := by decide +kernel
theorem dX9_flight_30 : decode cX9_flight 30 = .ok (.invokevirtual 82, 3) := by decide +kernel
theorem dX9_flight_33 : decode cX9_flight 33 = .ok (.isub, 1) := by decide +kernel
theorem dX9_flight_34 : decode cX9_flight 34 = .ok (.istore 4, 2) := by decide +kernel
theorem dX9_flight_36 : decode cX9_flight 36 = .ok (.iload_n 3, 1) := by decide +kernel
theorem dX9_flight_37 : decode cX9_flight 37 = .ok (.invokestatic 86, 3) := by decide +kernel
theorem dX9_flight_40 : decode cX9_flight 40 = .ok (.iload 4, 2) := by decide +kernel
theorem dX9_flight_42 : decode cX9_flight 42 = .ok (.invokestatic 86, 3) := by decide +kernel
theorem dX9_flight_45 : decode cX9_flight 45 = .ok (.if_icmp .le 10, 3) := by decide +kernel
theorem dX9_flight_48 : decode cX9_flight 48 = .ok (.iload_n 3, 1) := by decide +kernel
theorem dX9_flight_49 : decode cX9_flight 49 = .ok (.invokestatic 86, 3) := by decide +kernel
theorem dX9_flight_52 : decode cX9_flight 52 = .ok (.goto 8, 3) := by decide +kernel
theorem dX9_flight_55 : decode cX9_flight 55 = .ok (.iload 4, 2) := by decide +kernel
theorem dX9_flight_57 : decode cX9_flight 57 = .ok (.invokestatic 86, 3) := by decide +kernel
theorem dX9_flight_60 : decode cX9_flight 60 = .ok (.istore 5, 2) := by decide +kernel
theorem dX9_flight_62 : decode cX9_flight 62 = .ok (.aload_n 0, 1) := by decide +kernel
theorem dX9_flight_63 : decode cX9_flight 63 = .ok (.iconst 1, 1) := by decide +kernel
theorem dX9_flight_64 : decode cX9_flight 64 = .ok (.invokevirtual 78, 3) := by decide +kernel
theorem dX9_flight_67 : decode cX9_flight 67 = .ok (.iload 5, 2) := by decide +kernel
theorem dX9_flight_69 : decode cX9_flight 69 = .ok (.imul, 1) := by decide +kernel
theorem dX9_flight_70 : decode cX9_flight 70 = .ok (.aload_n 0, 1) := by decide +kernel
theorem dX9_flight_71 : decode cX9_flight 71 = .ok (.iconst 2, 1) := by decide +kernel
theorem dX9_flight_72 : decode cX9_flight 72 = .ok (.invokevirtual 78, 3) := by decide +kernel
theorem dX9_flight_75 : decode cX9_flight 75 = .ok (.iload_n 3, 1) := by decide +kernel
theorem dX9_flight_76 : decode cX9_flight 76 = .ok (.imul, 1) := by decide +kernel
theorem dX9_flight_77 : decode cX9_flight 77 = .ok (.isub, 1) := by decide +kernel
theorem dX9_flight_78 : decode cX9_flight 78 = .ok (.aload_n 0, 1) := by decide +kernel
theorem dX9_flight_79 : decode cX9_flight 79 = .ok (.iconst 3, 1) := by decide +kernel
theorem dX9_flight_80 : decode cX9_flight 80 = .ok (.invokevirtual 78, 3) := by decide +kernel
theorem dX9_flight_83 : decode cX9_flight 83 = .ok (.iload 4, 2) := by decide +kernel
theorem dX9_flight_85 : decode cX9_flight 85 = .ok (.imul, 1) := by decide +kernel
theorem dX9_flight_86 : decode cX9_flight 86 = .ok (.isub, 1) := by decide +kernel
theorem dX9_flight_87 : decode cX9_flight 87 = .ok (.istore 6, 2) := by decide +kernel
theorem dX9_flight_89 : decode cX9_flight 89 = .ok (.iload 6, 2) := by decide +kernel
theorem dX9_flight_91 : decode cX9_flight 91 = .ok (.iconst 1, 1) := by decide +kernel
theorem dX9_flight_92 : decode cX9_flight 92 = .ok (.if_icmp .ge 7, 3) := by decide +kernel
theorem dX9_flight_95 : decode cX9_flight 95 = .ok (.iconst 1, 1) := by decide +kernel
theorem dX9_flight_96 : decode cX9_flight 96 = .ok (.goto 5, 3) := by decide +kernel
theorem dX9_flight_99 : decode cX9_flight 99 = .ok (.iload 6, 2) := by decide +kernel
theorem dX9_flight_101 : decode cX9_flight 101 = .ok (.ireturn, 1) := by decide +kernel
def pX9_flight (x1 : Int32) (x2 : Int32) (M : Mm) : Option (Int32) :=
if x1 = x2 then
(some 0)
else
((pX9_placeOf x2 0 M).bind fun v1 =>
(pX9_placeOf x1 0 M).bind fun v3 =>
bnd (v1 - v3) fun v5 =>
(pX9_placeOf x2 1 M).bind fun v6 =>
(pX9_placeOf x1 1 M).bind fun v8 =>
bnd (v6 - v8) fun v10 =>
bnd (α := Int32) (if (pX9_size v5) ≤ (pX9_size v10) then
(pX9_size v10)
else
(pX9_size v5)) fun j11 =>
(pX9_of 1 M).bind fun v14 =>
(pX9_of 2 M).bind fun v16 =>
(pX9_of 3 M).bind fun v18 =>
bnd (((v14 * j11) - (v16 * v5)) - (v18 * v10)) fun v20 =>
if 1 ≤ v20 then
(some v20)
else
(some 1))
abbrev zX9_flight : Zx := (cX9_flight, RX9, 7, 1, (some .int))
set_option maxRecDepth 100000 in
set_option maxHeartbeats 4000000 in
theorem tX9_flight {l : Launch} {Y : Sx} {M : Mm} {x1 : Int32} {x2 : Int32} {q : Int32} (hY : isB Y) (h : pX9_flight x1 x2 M = some q) : Ct l Y yX9_flight cX9_flight 7 (some .int) 1 [.ref (adr Y 0), .int x1, .int x2] M (some q) M := by
  refine Ct.of (by decide) rfl (lv := [(0, .ref (adr Y 0)), (1, .int x1), (2, .int x2)]) rfl ?_
  intro K hkl C
  change Cx K zX9_flight Y at C
  subst hkl
  unfold pX9_flight at h
  show Wp K zX9_flight Y (Qm K Y (some q) M) M 0 [(0, .ref (adr Y 0)), (1, .int x1), (2, .int x2)] []
  refine w_iload_n C (pc := 0) dX9_flight_0 1 rfl ?_
  refine w_iload_n C (pc := 1) dX9_flight_1 2 rfl ?_
  refine w_icne C (pc := 2) 7 dX9_flight_2 (by decide) (fun c => ?_) (fun c => ?_)
  · have h := it_t h c
    refine w_iconst C (pc := 5) dX9_flight_5 (v := 0) (by decide) ?_
    exact w_retR C (pc := 6) dX9_flight_6 rfl (Option.some.inj h)
  · have h := it_f h c
    refine w_aload_n C (pc := 7) dX9_flight_7 0 rfl ?_
    refine w_iload_n C (pc := 8) dX9_flight_8 2 rfl ?_
    refine w_iconst C (pc := 9) dX9_flight_9 (v := 0) (by decide) ?_
    obtain ⟨v1, e2, h⟩ := ob h
    refine w_cVi C (pc := 10) dX9_flight_10 my_X9_placeOf mi_X9_placeOf ml_X9_82 (sB_0 hY) rfl rfl rfl [.int x2, .int 0] rfl rfl (Nat.le_of_ble_eq_true rfl) (tX9_placeOf hY  e2) ?_
    refine w_aload_n C (pc := 13) dX9_flight_13 0 rfl ?_
    refine w_iload_n C (pc := 14) dX9_flight_14 1 rfl ?_
    refine w_iconst C (pc := 15) dX9_flight_15 (v := 0) (by decide) ?_
    obtain ⟨v3, e4, h⟩ := ob h
    refine w_cVi C (pc := 16) dX9_flight_16 my_X9_placeOf mi_X9_placeOf ml_X9_82 (sB_0 hY) rfl rfl rfl [.int x1, .int 0] rfl rfl (Nat.le_of_ble_eq_true rfl) (tX9_placeOf hY  e4) ?_
    refine w_isub C (pc := 19) dX9_flight_19 ?_
    refine w_bnd h (fun v5 h => ?_)
    refine w_istore_n C (pc := 20) dX9_flight_20 (lv' := [(0, .ref (adr Y 0)), (1, .int x1), (2, .int x2), (3, .int v5)]) rfl rfl rfl ?_
    refine w_aload_n C (pc := 21) dX9_flight_21 0 rfl ?_
    refine w_iload_n C (pc := 22) dX9_flight_22 2 rfl ?_
    refine w_iconst C (pc := 23) dX9_flight_23 (v := 1) (by decide) ?_
    obtain ⟨v6, e7, h⟩ := ob h
    refine w_cVi C (pc := 24) dX9_flight_24 my_X9_placeOf mi_X9_placeOf ml_X9_82 (sB_0 hY) rfl rfl rfl [.int x2, .int 1] rfl rfl (Nat.le_of_ble_eq_true rfl) (tX9_placeOf hY  e7) ?_
    refine w_aload_n C (pc := 27) dX9_flight_27 0 rfl ?_
    refine w_iload_n C (pc := 28) dX9_flight_28 1 rfl ?_
    refine w_iconst C (pc := 29) dX9_flight_29 (v := 1) (by decide) ?_
    obtain ⟨v8, e9, h⟩ := ob h
    refine w_cVi C (pc := 30) dX9_flight_30 my_X9_placeOf mi_X9_placeOf ml_X9_82 (sB_0 hY) rfl rfl rfl [.int x1, .int 1] rfl rfl (Nat.le_of_ble_eq_true rfl) (tX9_placeOf hY  e9) ?_
    refine w_isub C (pc := 33) dX9_flight_33 ?_
    refine w_bnd h (fun v10 h => ?_)
    refine w_istore C (pc := 34) dX9_flight_34 (lv' := [(0, .ref (adr Y 0)), (1, .int x1), (2, .int x2), (3, .int v5), (4, .int v10)]) rfl rfl rfl ?_
    refine w_iload_n C (pc := 36) dX9_flight_36 3 rfl ?_
    refine w_cSi C (pc := 37) dX9_flight_37 my_X9_size ms_X9_size ml_X9_86 rfl rfl [.int v5] rfl rfl (Nat.le_of_ble_eq_true rfl) (tX9_size  rfl) ?_
    refine w_iload C (pc := 40) dX9_flight_40 4 rfl ?_
    refine w_cSi C (pc := 42) dX9_flight_42 my_X9_size ms_X9_size ml_X9_86 rfl rfl [.int v10] rfl rfl (Nat.le_of_ble_eq_true rfl) (tX9_size  rfl) ?_
    obtain ⟨j11, e12, h13⟩ := bn h
    have Jj11 : Wp K zX9_flight Y (Qm K Y (some q) M) M 60 [(0, .ref (adr Y 0)), (1, .int x1), (2, .int x2), (3, .int v5), (4, .int v10)] [.int j11] := by
      refine w_istore C (pc := 60) dX9_flight_60 (lv' := [(0, .ref (adr Y 0)), (1, .int x1), (2, .int x2), (3, .int v5), (4, .int v10), (5, .int j11)]) rfl rfl rfl ?_
      refine w_aload_n C (pc := 62) dX9_flight_62 0 rfl ?_
      refine w_iconst C (pc := 63) dX9_flight_63 (v := 1) (by decide) ?_
      obtain ⟨v14, e15, h13⟩ := ob h13
      refine w_cVi C (pc := 64) dX9_flight_64 my_X9_of mi_X9_of ml_X9_78 (sB_0 hY) rfl rfl rfl [.int 1] rfl rfl (Nat.le_of_ble_eq_true rfl) (tX9_of hY  e15) ?_
      refine w_iload C (pc := 67) dX9_flight_67 5 rfl ?_
      refine w_imul C (pc := 69) dX9_flight_69 ?_
      refine w_aload_n C (pc := 70) dX9_flight_70 0 rfl ?_
      refine w_iconst C (pc := 71) dX9_flight_71 (v := 2) (by decide) ?_
      obtain ⟨v16, e17, h13⟩ := ob h13
      refine w_cVi C (pc := 72) dX9_flight_72 my_X9_of mi_X9_of ml_X9_78 (sB_0 hY) rfl rfl rfl [.int 2] rfl rfl (Nat.le_of_ble_eq_true rfl) (tX9_of hY  e17) ?_
      refine w_iload_n C (pc := 75) dX9_flight_75 3 rfl ?_
      refine w_imul C (pc := 76) dX9_flight_76 ?_
      refine w_isub C (pc := 77) dX9_flight_77 ?_
      refine w_aload_n C (pc := 78) dX9_flight_78 0 rfl ?_
      refine w_iconst C (pc := 79) dX9_flight_79 (v := 3) (by decide) ?_
      obtain ⟨v18, e19, h13⟩ := ob h13
      refine w_cVi C (pc := 80) dX9_flight_80 my_X9_of mi_X9_of ml_X9_78 (sB_0 hY) rfl rfl rfl [.int 3] rfl rfl (Nat.le_of_ble_eq_true rfl) (tX9_of hY  e19) ?_
      refine w_iload C (pc := 83) dX9_flight_83 4 rfl ?_
      refine w_imul C (pc := 85) dX9_flight_85 ?_
      refine w_isub C (pc := 86) dX9_flight_86 ?_
      refine w_bnd h13 (fun v20 h13 => ?_)
      refine w_istore C (pc := 87) dX9_flight_87 (lv' := [(0, .ref (adr Y 0)), (1, .int x1), (2, .int x2), (3, .int v5), (4, .int v10), (5, .int j11), (6, .int v20)]) rfl rfl rfl ?_
      refine w_iload C (pc := 89) dX9_flight_89 6 rfl ?_
      refine w_iconst C (pc := 91) dX9_flight_91 (v := 1) (by decide) ?_
      refine w_icge C (pc := 92) 99 dX9_flight_92 (by decide) (fun c => ?_) (fun c => ?_)
      · have h13 := it_t h13 c
        refine w_iload C (pc := 99) dX9_flight_99 6 rfl ?_
        exact w_retR C (pc := 101) dX9_flight_101 rfl (Option.some.inj h13)
      · have h13 := it_f h13 c
        refine w_iconst C (pc := 95) dX9_flight_95 (v := 1) (by decide) ?_
        refine w_goto C (pc := 96) 101 dX9_flight_96 (by decide) ?_
        exact w_retR C (pc := 101) dX9_flight_101 rfl (Option.some.inj h13)
    refine w_icle C (pc := 45) 55 dX9_flight_45 (by decide) (fun c => ?_) (fun c => ?_)
    · have e12 := it_t e12 c
      refine w_iload C (pc := 55) dX9_flight_55 4 rfl ?_
      refine w_cSi C (pc := 57) dX9_flight_57 my_X9_size ms_X9_size ml_X9_86 rfl rfl [.int v10] rfl rfl (Nat.le_of_ble_eq_true rfl) (tX9_size  rfl) ?_
      obtain rfl := e12
      exact Jj11
    · have e12 := it_f e12 c
      refine w_iload_n C (pc := 48) dX9_flight_48 3 rfl ?_
      refine w_cSi C (pc := 49) dX9_flight_49 my_X9_size ms_X9_size ml_X9_86 rfl rfl [.int v5] rfl rfl (Nat.le_of_ble_eq_true rfl) (tX9_size  rfl) ?_
      refine w_goto C (pc := 52) 60 dX9_flight_52 (by decide) ?_
      obtain rfl := e12
      exact Jj11
theorem dX9_drive_0 : decode cX9_drive 0 = .ok (.aload_n 0, 1) := by decide +kernel
theorem dX9_drive_1 : decode cX9_drive 1 = .ok (.iconst 0, 1) := by decide +kernel
theorem dX9_drive_2 : decode cX9_drive 2 = .ok (.invokevirtual 78, 3) := by decide +kernel
theorem dX9_drive_5 : decode cX9_drive 5 = .ok (.aload_n 0, 1) := by decide +kernel
theorem dX9_drive_6 : decode cX9_drive 6 = .ok (.iload_n 1, 1) := by decide +kernel
theorem dX9_drive_7 : decode cX9_drive 7 = .ok (.iconst 0, 1) := by decide +kernel
theorem dX9_drive_8 : decode cX9_drive 8 = .ok (.invokevirtual 82, 3) := by decide +kernel
theorem dX9_drive_11 : decode cX9_drive 11 = .ok (.aload_n 0, 1) := by decide +kernel
theorem dX9_drive_12 : decode cX9_drive 12 = .ok (.iload_n 2, 1) := by decide +kernel
theorem dX9_drive_13 : decode cX9_drive 13 = .ok (.iconst 0, 1) := by decide +kernel
theorem dX9_drive_14 : decode cX9_drive 14 = .ok (.invokevirtual 82, 3) := by decide +kernel
theorem dX9_drive_17 : decode cX9_drive 17 = .ok (.isub, 1) := by decide +kernel
theorem dX9_drive_18 : decode cX9_drive 18 = .ok (.invokestatic 86, 3) := by decide +kernel
theorem dX9_drive_21 : decode cX9_drive 21 = .ok (.aload_n 0, 1) := by decide +kernel
theorem dX9_drive_22 : decode cX9_drive 22 = .ok (.iload_n 1, 1) := by decide +kernel
theorem dX9_drive_23 : decode cX9_drive 23 = .ok (.iconst 1, 1) := by decide +kernel
theorem dX9_drive_24 : decode cX9_drive 24 = .ok (.invokevirtual 82, 3) := by decide +kernel
theorem dX9_drive_27 : decode cX9_drive 27 = .ok (.aload_n 0, 1) := by decide +kernel
theorem dX9_drive_28 : decode cX9_drive 28 = .ok (.iload_n 2, 1) := by decide +kernel
theorem dX9_drive_29 : decode cX9_drive 29 = .ok (.iconst 1, 1) := by decide +kernel
theorem dX9_drive_30 : decode cX9_drive 30 = .ok (.invokevirtual 82, 3) := by decide +kernel
theorem dX9_drive_33 : decode cX9_drive 33 = .ok (.isub, 1) := by decide +kernel
theorem dX9_drive_34 : decode cX9_drive 34 = .ok (.invokestatic 86, 3) := by decide +kernel
theorem dX9_drive_37 : decode cX9_drive 37 = .ok (.iadd, 1) := by decide +kernel
theorem dX9_drive_38 : decode cX9_drive 38 = .ok (.imul, 1) := by decide +kernel
theorem dX9_drive_39 : decode cX9_drive 39 = .ok (.ireturn, 1) := by decide +kernel
def pX9_drive (x1 : Int32) (x2 : Int32) (M : Mm) : Option (Int32) :=
(pX9_of 0 M).bind fun v1 =>
(pX9_placeOf x1 0 M).bind fun v3 =>
(pX9_placeOf x2 0 M).bind fun v5 =>
(pX9_placeOf x1 1 M).bind fun v7 =>
(pX9_placeOf x2 1 M).bind fun v9 =>
some (v1 * ((pX9_size (v3 - v5)) + (pX9_size (v7 - v9))))
abbrev zX9_drive : Zx := (cX9_drive, RX9, 3, 1, (some .int))
set_option maxRecDepth 100000 in
set_option maxHeartbeats 4000000 in
theorem tX9_drive {l : Launch} {Y : Sx} {M : Mm} {x1 : Int32} {x2 : Int32} {q : Int32} (hY : isB Y) (h : pX9_drive x1 x2 M = some q) : Ct l Y yX9_drive cX9_drive 3 (some .int) 1 [.ref (adr Y 0), .int x1, .int x2] M (some q) M := by
  refine Ct.of (by decide) rfl (lv := [(0, .ref (adr Y 0)), (1, .int x1), (2, .int x2)]) rfl ?_
  intro K hkl C
  change Cx K zX9_drive Y at C
  subst hkl
  unfold pX9_drive at h
  show Wp K zX9_drive Y (Qm K Y (some q) M) M 0 [(0, .ref (adr Y 0)), (1, .int x1), (2, .int x2)] []
  refine w_aload_n C (pc := 0) dX9_drive_0 0 rfl ?_
  refine w_iconst C (pc := 1) dX9_drive_1 (v := 0) (by decide) ?_
  obtain ⟨v1, e2, h⟩ := ob h
  refine w_cVi C (pc := 2) dX9_drive_2 my_X9_of mi_X9_of ml_X9_78 (sB_0 hY) rfl rfl rfl [.int 0] rfl rfl (Nat.le_of_ble_eq_true rfl) (tX9_of hY  e2) ?_
  refine w_aload_n C (pc := 5) dX9_drive_5 0 rfl ?_
  refine w_iload_n C (pc := 6) dX9_drive_6 1 rfl ?_
  refine w_iconst C (pc := 7) dX9_drive_7 (v := 0) (by decide) ?_
  obtain ⟨v3, e4, h⟩ := ob h
  refine w_cVi C (pc := 8) dX9_drive_8 my_X9_placeOf mi_X9_placeOf ml_X9_82 (sB_0 hY) rfl rfl rfl [.int x1, .int 0] rfl rfl (Nat.le_of_ble_eq_true rfl) (tX9_placeOf hY  e4) ?_
  refine w_aload_n C (pc := 11) dX9_drive_11 0 rfl ?_
  refine w_iload_n C (pc := 12) dX9_drive_12 2 rfl ?_
  refine w_iconst C (pc := 13) dX9_drive_13 (v := 0) (by decide) ?_
  obtain ⟨v5, e6, h⟩ := ob h
  refine w_cVi C (pc := 14) dX9_drive_14 my_X9_placeOf mi_X9_placeOf ml_X9_82 (sB_0 hY) rfl rfl rfl [.int x2, .int 0] rfl rfl (Nat.le_of_ble_eq_true rfl) (tX9_placeOf hY  e6) ?_
  refine w_isub C (pc := 17) dX9_drive_17 ?_
  refine w_cSi C (pc := 18) dX9_drive_18 my_X9_size ms_X9_size ml_X9_86 rfl rfl [.int (v3 - v5)] rfl rfl (Nat.le_of_ble_eq_true rfl) (tX9_size  rfl) ?_
  refine w_aload_n C (pc := 21) dX9_drive_21 0 rfl ?_
  refine w_iload_n C (pc := 22) dX9_drive_22 1 rfl ?_
  refine w_iconst C (pc := 23) dX9_drive_23 (v := 1) (by decide) ?_
  obtain ⟨v7, e8, h⟩ := ob h
  refine w_cVi C (pc := 24) dX9_drive_24 my_X9_placeOf mi_X9_placeOf ml_X9_82 (sB_0 hY) rfl rfl rfl [.int x1, .int 1] rfl rfl (Nat.le_of_ble_eq_true rfl) (tX9_placeOf hY  e8) ?_
  refine w_aload_n C (pc := 27) dX9_drive_27 0 rfl ?_
  refine w_iload_n C (pc := 28) dX9_drive_28 2 rfl ?_
  refine w_iconst C (pc := 29) dX9_drive_29 (v := 1) (by decide) ?_
  obtain ⟨v9, e10, h⟩ := ob h
  refine w_cVi C (pc := 30) dX9_drive_30 my_X9_placeOf mi_X9_placeOf ml_X9_82 (sB_0 hY) rfl rfl rfl [.int x2, .int 1] rfl rfl (Nat.le_of_ble_eq_true rfl) (tX9_placeOf hY  e10) ?_
  refine w_isub C (pc := 33) dX9_drive_33 ?_
  refine w_cSi C (pc := 34) dX9_drive_34 my_X9_size ms_X9_size ml_X9_86 rfl rfl [.int (v7 - v9)] rfl rfl (Nat.le_of_ble_eq_true rfl) (tX9_size  rfl) ?_
  refine w_iadd C (pc := 37) dX9_drive_37 ?_
  refine w_imul C (pc := 38) dX9_drive_38 ?_
  exact w_retR C (pc := 39) dX9_drive_39 rfl (Option.some.inj h)
theorem dX9_service_0 : decode cX9_service 0 = .ok (.iload_n 1, 1) := by decide +kernel
theorem dX9_service_1 : decode cX9_service 1 = .ok (.ifCond .ne 7, 3) := by decide +kernel
theorem dX9_service_4 : decode cX9_service 4 = .ok (.iconst 0, 1) := by decide +kernel
theorem dX9_service_5 : decode cX9_service 5 = .ok (.goto 9, 3) := by decide +kernel
theorem dX9_service_8 : decode cX9_service 8 = .ok (.aload_n 0, 1) := by decide +kernel
theorem dX9_service_9 : decode cX9_service 9 = .ok (.iload_n 1, 1) := by decide +kernel
theorem dX9_service_10 : decode cX9_service 10 = .ok (.iconst 2, 1) := by decide +kernel
theorem dX9_service_11 : decode cX9_service 11 = .ok (.invokevirtual 82, 3) := by decide +kernel
theorem dX9_service_14 : decode cX9_service 14 = .ok (.ireturn, 1) := by decide +kernel
def pX9_service (x1 : Int32) (M : Mm) : Option (Int32) :=
if x1 = 0 then
(some 0)
else
((pX9_placeOf x1 2 M).bind fun v1 =>
some v1)
abbrev zX9_service : Zx := (cX9_service, RX9, 2, 1, (some .int))
set_option maxRecDepth 100000 in
set_option maxHeartbeats 4000000 in
theorem tX9_service {l : Launch} {Y : Sx} {M : Mm} {x1 : Int32} {q : Int32} (hY : isB Y) (h : pX9_service x1 M = some q) : Ct l Y yX9_service cX9_service 2 (some .int) 1 [.ref (adr Y 0), .int x1] M (some q) M := by
  refine Ct.of (by decide) rfl (lv := [(0, .ref (adr Y 0)), (1, .int x1)]) rfl ?_
  intro K hkl C
  change Cx K zX9_service Y at C
  subst hkl
  unfold pX9_service at h
  show Wp K zX9_service Y (Qm K Y (some q) M) M 0 [(0, .ref (adr Y 0)), (1, .int x1)] []
  refine w_iload_n C (pc := 0) dX9_service_0 1 rfl ?_
  refine w_ifne C (pc := 1) 8 dX9_service_1 (by decide) (fun c => ?_) (fun c => ?_)
  · have h := it_t h c
    refine w_iconst C (pc := 4) dX9_service_4 (v := 0) (by decide) ?_
    refine w_goto C (pc := 5) 14 dX9_service_5 (by decide) ?_
    exact w_retR C (pc := 14) dX9_service_14 rfl (Option.some.inj h)
  · have h := it_f h c
    refine w_aload_n C (pc := 8) dX9_service_8 0 rfl ?_
    refine w_iload_n C (pc := 9) dX9_service_9 1 rfl ?_
    refine w_iconst C (pc := 10) dX9_service_10 (v := 2) (by decide) ?_
    obtain ⟨v1, e2, h⟩ := ob h
    refine w_cVi C (pc := 11) dX9_service_11 my_X9_placeOf mi_X9_placeOf ml_X9_82 (sB_0 hY) rfl rfl rfl [.int x1, .int 2] rfl rfl (Nat.le_of_ble_eq_true rfl) (tX9_placeOf hY  e2) ?_
    exact w_retR C (pc := 14) dX9_service_14 rfl (Option.some.inj h)
theorem dX9_lasts_0 : decode cX9_lasts 0 = .ok (.iconst 0, 1) := by decide +kernel
theorem dX9_lasts_1 : decode cX9_lasts 1 = .ok (.istore 4, 2) := by decide +kernel
theorem dX9_lasts_3 : decode cX9_lasts 3 = .ok (.iconst 0, 1) := by decide +kernel
theorem dX9_lasts_4 : decode cX9_lasts 4 = .ok (.istore 5, 2) := by decide +kernel
theorem dX9_lasts_6 : decode cX9_lasts 6 = .ok (.aload_n 0, 1) := by decide +kernel
theorem dX9_lasts_7 : decode cX9_lasts 7 = .ok (.getfield 48, 3) := by decide +kernel
theorem dX9_lasts_10 : decode cX9_lasts 10 = .ok (.iload_n 1, 1) := by decide +kernel
theorem dX9_lasts_11 : decode cX9_lasts 11 = .ok (.iaload, 1) := by decide +kernel
theorem dX9_lasts_12 : decode cX9_lasts 12 = .ok (.istore 6, 2) := by decide +kernel
theorem dX9_lasts_14 : decode cX9_lasts 14 = .ok (.aload_n 0, 1) := by decide +kernel
theorem dX9_lasts_15 : decode cX9_lasts 15 = .ok (.getfield 48, 3) := by decide +kernel
theorem dX9_lasts_18 : decode cX9_lasts 18 = .ok (.iload_n 2, 1) := by decide +kernel
theorem dX9_lasts_19 : decode cX9_lasts 19 = .ok (.iaload, 1) := by decide +kernel
theorem dX9_lasts_20 : decode cX9_lasts 20 = .ok (.istore 7, 2) := by decide +kernel
theorem dX9_lasts_22 : decode cX9_lasts 22 = .ok (.iconst 0, 1) := by decide +kernel
theorem dX9_lasts_23 : decode cX9_lasts 23 = .ok (.istore 8, 2) := by decide +kernel
theorem dX9_lasts_25 : decode cX9_lasts 25 = .ok (.iload 8, 2) := by decide +kernel
theorem dX9_lasts_27 : decode cX9_lasts 27 = .ok (.iload_n 2, 1) := by decide +kernel
theorem dX9_lasts_28 : decode cX9_lasts 28 = .ok (.iload_n 1, 1) := by decide +kernel
theorem dX9_lasts_29 : decode cX9_lasts 29 = .ok (.isub, 1) := by decide +kernel
theorem dX9_lasts_30 : decode cX9_lasts 30 = .ok (.iconst 1, 1) := by decide +kernel
theorem dX9_lasts_31 : decode cX9_lasts 31 = .ok (.isub, 1) := by decide +kernel
theorem dX9_lasts_32 : decode cX9_lasts 32 = .ok (.if_icmp .ge 92, 3) := by decide +kernel
theorem dX9_lasts_35 : decode cX9_lasts 35 = .ok (.iload_n 3, 1) := by decide +kernel
theorem dX9_lasts_36 : decode cX9_lasts 36 = .ok (.iload 8, 2) := by decide +kernel
theorem dX9_lasts_38 : decode cX9_lasts 38 = .ok (.ishr, 1) := by decide +kernel
theorem dX9_lasts_39 : decode cX9_lasts 39 = .ok (.iconst 1, 1) := by decide +kernel
theorem dX9_lasts_40 : decode cX9_lasts 40 = .ok (.iand, 1) := by decide +kernel
theorem dX9_lasts_41 : decode cX9_lasts 41 = .ok (.ifCond .ne 6, 3) := by decide +kernel
theorem dX9_lasts_44 : decode cX9_lasts 44 = .ok (.goto 74, 3) := by decide +kernel
theorem dX9_lasts_47 : decode cX9_lasts 47 = .ok (.iload 4, 2) := by decide +kernel
theorem dX9_lasts_49 : decode cX9_lasts 49 = .ok (.aload_n 0, 1) := by decide +kernel
theorem dX9_lasts_50 : decode cX9_lasts 50 = .ok (.bipush 6, 2) := by decide +kernel
theorem dX9_lasts_52 : decode cX9_lasts 52 = .ok (.invokevirtual 78, 3) := by decide +kernel
theorem dX9_lasts_55 : decode cX9_lasts 55 = .ok (.iadd, 1) := by decide +kernel
theorem dX9_lasts_56 : decode cX9_lasts 56 = .ok (.istore 4, 2) := by decide +kernel
theorem dX9_lasts_58 : decode cX9_lasts 58 = .ok (.aload_n 0, 1) := by decide +kernel
theorem dX9_lasts_59 : decode cX9_lasts 59 = .ok (.getfield 48, 3) := by decide +kernel
theorem dX9_lasts_62 : decode cX9_lasts 62 = .ok (.iload_n 1, 1) := by decide +kernel
theorem dX9_lasts_63 : decode cX9_lasts 63 = .ok (.iconst 1, 1) := by decide +kernel
theorem dX9_lasts_64 : decode cX9_lasts 64 = .ok (.iadd, 1) := by decide +kernel
theorem dX9_lasts_65 : decode cX9_lasts 65 = .ok (.iload 8, 2) := by decide +kernel
theorem dX9_lasts_67 : decode cX9_lasts 67 = .ok (.iadd, 1) := by decide +kernel
theorem dX9_lasts_68 : decode cX9_lasts 68 = .ok (.iaload, 1) := by decide +kernel
theorem dX9_lasts_69 : decode cX9_lasts 69 = .ok (.istore 9, 2) := by decide +kernel
theorem dX9_lasts_71 : decode cX9_lasts 71 = .ok (.aload_n 0, 1) := by decide +kernel
theorem dX9_lasts_72 : decode cX9_lasts 72 = .ok (.getfield 32, 3) := by decide +kernel
theorem dX9_lasts_75 : decode cX9_lasts 75 = .ok (.iload 5, 2) := by decide +kernel
theorem dX9_lasts_77 : decode cX9_lasts 77 = .ok (.iload 4, 2) := by decide +kernel
theorem dX9_lasts_79 : decode cX9_lasts 79 = .ok (.iastore, 1) := by decide +kernel
theorem dX9_lasts_80 : decode cX9_lasts 80 = .ok (.aload_n 0, 1) := by decide +kernel
theorem dX9_lasts_81 : decode cX9_lasts 81 = .ok (.getfield 35, 3) := by decide +kernel
theorem dX9_lasts_84 : decode cX9_lasts 84 = .ok (.iload 5, 2) := by decide +kernel
theorem dX9_lasts_86 : decode cX9_lasts 86 = .ok (.iload 4, 2) := by decide +kernel
theorem dX9_lasts_88 : decode cX9_lasts 88 = .ok (.aload_n 0, 1) := by decide +kernel
theorem dX9_lasts_89 : decode cX9_lasts 89 = .ok (.iload 6, 2) := by decide +kernel
theorem dX9_lasts_91 : decode cX9_lasts 91 = .ok (.iload 9, 2) := by decide +kernel
theorem dX9_lasts_93 : decode cX9_lasts 93 = .ok (.invokevirtual 131, 3) := by decide +kernel
theorem dX9_lasts_96 : decode cX9_lasts 96 = .ok (.iadd, 1) := by decide +kernel
theorem dX9_lasts_97 : decode cX9_lasts 97 = .ok (.aload_n 0, 1) := by decide +kernel
theorem dX9_lasts_98 : decode cX9_lasts 98 = .ok (.iload 9, 2) := by decide +kernel
theorem dX9_lasts_100 : decode cX9_lasts 100 = .ok (.iconst 3, 1) := by decide +kernel
theorem dX9_lasts_101 : decode cX9_lasts 101 = .ok (.invokevirtual 82, 3) := by decide +kernel
theorem dX9_lasts_104 : decode cX9_lasts 104 = .ok (.iadd, 1) := by decide +kernel
theorem dX9_lasts_105 : decode cX9_lasts 105 = .ok (.aload_n 0, 1) := by decide +kernel
theorem dX9_lasts_106 : decode cX9_lasts 106 = .ok (.iload 9, 2) := by decide +kernel
theorem dX9_lasts_108 : decode cX9_lasts 108 = .ok (.iload 7, 2) := by decide +kernel
theorem dX9_lasts_110 : decode cX9_lasts 110 = .ok (.invokevirtual 131, 3) := by decide +kernel
theorem dX9_lasts_113 : decode cX9_lasts 113 = .ok (.iadd, 1) := by decide +kernel
theorem dX9_lasts_114 : decode cX9_lasts 114 = .ok (.iastore, 1) := by decide +kernel
theorem dX9_lasts_115 : decode cX9_lasts 115 = .ok (.iinc 5 1, 3) := by decide +kernel
theorem dX9_lasts_118 : decode cX9_lasts 118 = .ok (.iinc 8 1, 3) := by decide +kernel
theorem dX9_lasts_121 : decode cX9_lasts 121 = .ok (.goto (-96), 3) := by decide +kernel
theorem dX9_lasts_124 : decode cX9_lasts 124 = .ok (.iload 6, 2) := by decide +kernel
theorem dX9_lasts_126 : decode cX9_lasts 126 = .ok (.istore 8, 2) := by decide +kernel
theorem dX9_lasts_128 : decode cX9_lasts 128 = .ok (.iconst 0, 1) := by decide +kernel
theorem dX9_lasts_129 : decode cX9_lasts 129 = .ok (.istore 9, 2) := by decide +kernel
theorem dX9_lasts_131 : decode cX9_lasts 131 = .ok (.iload 9, 2) := by decide +kernel
theorem dX9_lasts_133 : decode cX9_lasts 133 = .ok (.iload_n 2, 1) := by decide +kernel
theorem dX9_lasts_134 : decode cX9_lasts 134 = .ok (.iload_n 1, 1) := by decide +kernel
theorem dX9_lasts_135 : decode cX9_lasts 135 = .ok (.isub, 1) := by decide +kernel
theorem dX9_lasts_136 : decode cX9_lasts 136 = .ok (.iconst 1, 1) := by decide +kernel
theorem dX9_lasts_137 : decode cX9_lasts 137 = .ok (.isub, 1) := by decide +kernel
theorem dX9_lasts_138 : decode cX9_lasts 138 = .ok (.if_icmp .gt 59, 3) := by decide +kernel
theorem dX9_lasts_141 : decode cX9_lasts 141 = .ok (.iload_n 3, 1) := by decide +kernel
theorem dX9_lasts_142 : decode cX9_lasts 142 = .ok (.iload 9, 2) := by decide +kernel
theorem dX9_lasts_144 : decode cX9_lasts 144 = .ok (.ishr, 1) := by decide +kernel
theorem dX9_lasts_145 : decode cX9_lasts 145 = .ok (.iconst 1, 1) := by decide +kernel
theorem dX9_lasts_146 : decode cX9_lasts 146 = .ok (.iand, 1) := by decide +kernel
theorem dX9_lasts_147 : decode cX9_lasts 147 = .ok (.iconst 1, 1) := by decide +kernel
theorem dX9_lasts_148 : decode cX9_lasts 148 = .ok (.if_icmp .ne 6, 3) := by decide +kernel
theorem dX9_lasts_151 : decode cX9_lasts 151 = .ok (.goto 40, 3) := by decide +kernel
theorem dX9_lasts_154 : decode cX9_lasts 154 = .ok (.aload_n 0, 1) := by decide +kernel
theorem dX9_lasts_155 : decode cX9_lasts 155 = .ok (.getfield 48, 3) := by decide +kernel
theorem dX9_lasts_158 : decode cX9_lasts 158 = .ok (.iload_n 1, 1) := by decide +kernel
theorem dX9_lasts_159 : decode cX9_lasts 159 = .ok (.iconst 1, 1) := by decide +kernel
theorem dX9_lasts_160 : decode cX9_lasts 160 = .ok (.iadd, 1) := by decide +kernel
theorem dX9_lasts_161 : decode cX9_lasts 161 = .ok (.iload 9, 2) := by decide +kernel
theorem dX9_lasts_163 : decode cX9_lasts 163 = .ok (.iadd, 1) := by decide +kernel
theorem dX9_lasts_164 : decode cX9_lasts 164 = .ok (.iaload, 1) := by decide +kernel
theorem dX9_lasts_165 : decode cX9_lasts 165 = .ok (.istore 10, 2) := by decide +kernel
theorem dX9_lasts_167 : decode cX9_lasts 167 = .ok (.iload 4, 2) := by decide +kernel
theorem dX9_lasts_169 : decode cX9_lasts 169 = .ok (.aload_n 0, 1) := by decide +kernel
theorem dX9_lasts_170 : decode cX9_lasts 170 = .ok (.iload 8, 2) := by decide +kernel
theorem dX9_lasts_172 : decode cX9_lasts 172 = .ok (.iload 10, 2) := by decide +kernel
theorem dX9_lasts_174 : decode cX9_lasts 174 = .ok (.invokevirtual 134, 3) := by decide +kernel
theorem dX9_lasts_177 : decode cX9_lasts 177 = .ok (.aload_n 0, 1) := by decide +kernel
theorem dX9_lasts_178 : decode cX9_lasts 178 = .ok (.iload 10, 2) := by decide +kernel
theorem dX9_lasts_180 : decode cX9_lasts 180 = .ok (.invokevirtual 208, 3) := by decide +kernel
theorem dX9_lasts_183 : decode cX9_lasts 183 = .ok (.iadd, 1) := by decide +kernel
theorem dX9_lasts_184 : decode cX9_lasts 184 = .ok (.iadd, 1) := by decide +kernel
theorem dX9_lasts_185 : decode cX9_lasts 185 = .ok (.istore 4, 2) := by decide +kernel
theorem dX9_lasts_187 : decode cX9_lasts 187 = .ok (.iload 10, 2) := by decide +kernel
theorem dX9_lasts_189 : decode cX9_lasts 189 = .ok (.istore 8, 2) := by decide +kernel
theorem dX9_lasts_191 : decode cX9_lasts 191 = .ok (.iinc 9 1, 3) := by decide +kernel
theorem dX9_lasts_194 : decode cX9_lasts 194 = .ok (.goto (-63), 3) := by decide +kernel
theorem dX9_lasts_197 : decode cX9_lasts 197 = .ok (.iload 5, 2) := by decide +kernel
theorem dX9_lasts_199 : decode cX9_lasts 199 = .ok (.iconst 2, 1) := by decide +kernel
theorem dX9_lasts_200 : decode cX9_lasts 200 = .ok (.if_icmp .ne 22, 3) := by decide +kernel
theorem dX9_lasts_203 : decode cX9_lasts 203 = .ok (.aload_n 0, 1) := by decide +kernel
theorem dX9_lasts_204 : decode cX9_lasts 204 = .ok (.getfield 35, 3) := by decide +kernel
theorem dX9_lasts_207 : decode cX9_lasts 207 = .ok (.iconst 1, 1) := by decide +kernel
theorem dX9_lasts_208 : decode cX9_lasts 208 = .ok (.iaload, 1) := by decide +kernel
theorem dX9_lasts_209 : decode cX9_lasts 209 = .ok (.aload_n 0, 1) := by decide +kernel
theorem dX9_lasts_210 : decode cX9_lasts 210 = .ok (.getfield 35, 3) := by decide +kernel
theorem dX9_lasts_213 : decode cX9_lasts 213 = .ok (.iconst 0, 1) := by decide +kernel
theorem dX9_lasts_214 : decode cX9_lasts 214 = .ok (.iaload, 1) := by decide +kernel
theorem dX9_lasts_215 : decode cX9_lasts 215 = .ok (.if_icmp .ge 7, 3) := by decide +kernel
theorem dX9_lasts_218 : decode cX9_lasts 218 = .ok (.iconst 1, 1) := by decide +kernel
theorem dX9_lasts_219 : decode cX9_lasts 219 = .ok (.goto 4, 3) := by decide +kernel
theorem dX9_lasts_222 : decode cX9_lasts 222 = .ok (.iconst 0, 1) := by decide +kernel
theorem dX9_lasts_223 : decode cX9_lasts 223 = .ok (.istore 9, 2) := by decide +kernel
theorem dX9_lasts_225 : decode cX9_lasts 225 = .ok (.iconst 0, 1) := by decide +kernel
theorem dX9_lasts_226 : decode cX9_lasts 226 = .ok (.istore 10, 2) := by decide +kernel
theorem dX9_lasts_228 : decode cX9_lasts 228 = .ok (.iload 10, 2) := by decide +kernel
theorem dX9_lasts_230 : decode cX9_lasts 230 = .ok (.iload 5, 2) := by decide +kernel
theorem dX9_lasts_232 : decode cX9_lasts 232 = .ok (.if_icmp .ge 102, 3) := by decide +kernel
theorem dX9_lasts_235 : decode cX9_lasts 235 = .ok (.iload 10, 2) := by decide +kernel
theorem dX9_lasts_237 : decode cX9_lasts 237 = .ok (.ifCond .ne 8, 3) := by decide +kernel
theorem dX9_lasts_240 : decode cX9_lasts 240 = .ok (.iload 9, 2) := by decide +kernel
theorem dX9_lasts_242 : decode cX9_lasts 242 = .ok (.goto 7, 3) := by decide +kernel
theorem dX9_lasts_245 : decode cX9_lasts 245 = .ok (.iconst 1, 1) := by decide +kernel
theorem dX9_lasts_246 : decode cX9_lasts 246 = .ok (.iload 9, 2) := by decide +kernel
theorem dX9_lasts_248 : decode cX9_lasts 248 = .ok (.isub, 1) := by decide +kernel
theorem dX9_lasts_249 : decode cX9_lasts 249 = .ok (.istore 11, 2) := by decide +kernel
theorem dX9_lasts_251 : decode cX9_lasts 251 = .ok (.aload_n 0, 1) := by decide +kernel
theorem dX9_lasts_252 : decode cX9_lasts 252 = .ok (.getfield 35, 3) := by decide +kernel
theorem dX9_lasts_255 : decode cX9_lasts 255 = .ok (.iload 11, 2) := by decide +kernel
theorem dX9_lasts_257 : decode cX9_lasts 257 = .ok (.iaload, 1) := by decide +kernel
theorem dX9_lasts_258 : decode cX9_lasts 258 = .ok (.iload 4, 2) := by decide +kernel
theorem dX9_lasts_260 : decode cX9_lasts 260 = .ok (.if_icmp .le 13, 3) := by decide +kernel
theorem dX9_lasts_263 : decode cX9_lasts 263 = .ok (.aload_n 0, 1) := by decide +kernel
theorem dX9_lasts_264 : decode cX9_lasts 264 = .ok (.getfield 35, 3) := by decide +kernel
theorem dX9_lasts_267 : decode cX9_lasts 267 = .ok (.iload 11, 2) := by decide +kernel
theorem dX9_lasts_269 : decode cX9_lasts 269 = .ok (.iaload, 1) := by decide +kernel
theorem dX9_lasts_270 : decode cX9_lasts 270 = .ok (.goto 5, 3) := by decide +kernel
theorem dX9_lasts_273 : decode cX9_lasts 273 = .ok (.iload 4, 2) := by decide +kernel
theorem dX9_lasts_275 : decode cX9_lasts 275 = .ok (.istore 4, 2) := by decide +kernel
theorem dX9_lasts_277 : decode cX9_lasts 277 = .ok (.aload_n 0, 1) := by decide +kernel
theorem dX9_lasts_278 : decode cX9_lasts 278 = .ok (.bipush 9, 2) := by decide +kernel
theorem dX9_lasts_280 : decode cX9_lasts 280 = .ok (.invokevirtual 78, 3) := by decide +kernel
theorem dX9_lasts_283 : decode cX9_lasts 283 = .ok (.iconst 1, 1) := by decide +kernel
theorem dX9_lasts_284 : decode cX9_lasts 284 = .ok (.if_icmp .ne 8, 3) := by decide +kernel
theorem dX9_lasts_287 : decode cX9_lasts 287 = .ok (.iload 4, 2) := by decide +kernel
theorem dX9_lasts_289 : decode cX9_lasts 289 = .ok (.goto 10, 3) := by decide +kernel
theorem dX9_lasts_292 : decode cX9_lasts 292 = .ok (.aload_n 0, 1) := by decide +kernel
theorem dX9_lasts_293 : decode cX9_lasts 293 = .ok (.getfield 35, 3) := by decide +kernel
theorem dX9_lasts_296 : decode cX9_lasts 296 = .ok (.iload 11, 2) := by decide +kernel
theorem dX9_lasts_298 : decode cX9_lasts 298 = .ok (.iaload, 1) := by decide +kernel
theorem dX9_lasts_299 : decode cX9_lasts 299 = .ok (.aload_n 0, 1) := by decide +kernel
theorem dX9_lasts_300 : decode cX9_lasts 300 = .ok (.getfield 32, 3) := by decide +kernel
theorem dX9_lasts_303 : decode cX9_lasts 303 = .ok (.iload 11, 2) := by decide +kernel
theorem dX9_lasts_305 : decode cX9_lasts 305 = .ok (.iaload, 1) := by decide +kernel
theorem dX9_lasts_306 : decode cX9_lasts 306 = .ok (.isub, 1) := by decide +kernel
theorem dX9_lasts_307 : decode cX9_lasts 307 = .ok (.aload_n 0, 1) := by decide +kernel
theorem dX9_lasts_308 : decode cX9_lasts 308 = .ok (.iconst 5, 1) := by decide +kernel
theorem dX9_lasts_309 : decode cX9_lasts 309 = .ok (.invokevirtual 78, 3) := by decide +kernel
theorem dX9_lasts_312 : decode cX9_lasts 312 = .ok (.if_icmp .le 5, 3) := by decide +kernel
theorem dX9_lasts_315 : decode cX9_lasts 315 = .ok (.iconst (-1), 1) := by decide +kernel
theorem dX9_lasts_316 : decode cX9_lasts 316 = .ok (.ireturn, 1) := by decide +kernel
theorem dX9_lasts_317 : decode cX9_lasts 317 = .ok (.iload 4, 2) := by decide +kernel
theorem dX9_lasts_319 : decode cX9_lasts 319 = .ok (.aload_n 0, 1) := by decide +kernel
theorem dX9_lasts_320 : decode cX9_lasts 320 = .ok (.bipush 7, 2) := by decide +kernel
theorem dX9_lasts_322 : decode cX9_lasts 322 = .ok (.invokevirtual 78, 3) := by decide +kernel
theorem dX9_lasts_325 : decode cX9_lasts 325 = .ok (.iadd, 1) := by decide +kernel
theorem dX9_lasts_326 : decode cX9_lasts 326 = .ok (.istore 4, 2) := by decide +kernel
theorem dX9_lasts_328 : decode cX9_lasts 328 = .ok (.iinc 10 1, 3) := by decide +kernel
theorem dX9_lasts_331 : decode cX9_lasts 331 = .ok (.goto (-103), 3) := by decide +kernel
theorem dX9_lasts_334 : decode cX9_lasts 334 = .ok (.iload 4, 2) := by decide +kernel
theorem dX9_lasts_336 : decode cX9_lasts 336 = .ok (.ireturn, 1) := by decide +kernel
def pX9_lasts_L25 (x1 : Int32) (x2 : Int32) (x3 : Int32) (x6 : Int32) (x7 : Int32) (s : Int32 × Int32 × Int32 × Mm) : Option ((Int32 × Int32 × Int32 × Mm) ⊕ (Int32 × Int32 × Mm)) :=
if ((x2 - x1) - 1) ≤ s.2.2.1 then
(some (Sum.inr (s.1, s.2.1, s.2.2.2)))
else
(if ((x3 >>> (s.2.2.1 &&& 31)) &&& 1) = 0 then
(some (Sum.inl (s.1, s.2.1, s.2.2.1 + 1, s.2.2.2)))
else
((pX9_of 6 s.2.2.2).bind fun v5 =>
bnd (s.1 + v5) fun v7 =>
(ald s.2.2.2 13 10 ((x1 + 1) + s.2.2.1)).bind fun v8 =>
(ast s.2.2.2 8 8 s.2.1 v7).bind fun M10 =>
(pX9_flight x6 v8 M10).bind fun v12 =>
(pX9_placeOf v8 3 M10).bind fun v14 =>
(pX9_flight v8 x7 M10).bind fun v16 =>
(ast M10 9 8 s.2.1 (((v7 + v12) + v14) + v16)).bind fun M18 =>
some (Sum.inl (v7, s.2.1 + 1, s.2.2.1 + 1, M18))))
def pX9_lasts_L131 (x1 : Int32) (x2 : Int32) (x3 : Int32) (x5 : Int32) (M : Mm) (s : Int32 × Int32 × Int32) : Option ((Int32 × Int32 × Int32) ⊕ (Int32)) :=
if ((x2 - x1) - 1) < s.2.2 then
(some (Sum.inr s.1))
else
(if ((x3 >>> (s.2.2 &&& 31)) &&& 1) = 1 then
(some (Sum.inl (s.1, s.2.1, s.2.2 + 1)))
else
((ald M 13 10 ((x1 + 1) + s.2.2)).bind fun v42 =>
(pX9_drive s.2.1 v42 M).bind fun v44 =>
(pX9_service v42 M).bind fun v46 =>
bnd (s.1 + (v44 + v46)) fun v48 =>
some (Sum.inl (v48, v42, s.2.2 + 1))))
def pX9_lasts_L228 (x5 : Int32) (x9 : Int32) (M : Mm) (s : Int32 × Int32) : Option ((Int32 × Int32) ⊕ ((Int32) ⊕ (Int32 × Mm))) :=
if x5 ≤ s.2 then
(some (Sum.inr (Sum.inl s.1)))
else
(bnd (α := Int32) (if s.2 = 0 then
(x9)
else
(1 - x9)) fun j66 =>
(ald M 9 8 j66).bind fun v69 =>
Option.bind (α := Int32) (if v69 ≤ s.1 then
(some s.1)
else
((ald M 9 8 j66).bind fun v94 =>
some v94)) fun j71 =>
(pX9_of 9 M).bind fun v74 =>
if v74 = 1 then
((ald M 8 8 j66).bind fun v76 =>
(pX9_of 5 M).bind fun v78 =>
if (j71 - v76) ≤ v78 then
((pX9_of 7 M).bind fun v80 =>
bnd (j71 + v80) fun v82 =>
some (Sum.inl (v82, s.2 + 1)))
else
(some (Sum.inr (Sum.inr ((-1), M)))))
else
((ald M 9 8 j66).bind fun v84 =>
(ald M 8 8 j66).bind fun v86 =>
(pX9_of 5 M).bind fun v88 =>
if (v84 - v86) ≤ v88 then
((pX9_of 7 M).bind fun v90 =>
bnd (j71 + v90) fun v92 =>
some (Sum.inl (v92, s.2 + 1)))
else
(some (Sum.inr (Sum.inr ((-1), M))))))
def pX9_lasts (x1 : Int32) (x2 : Int32) (x3 : Int32) (M : Mm) : Option (Int32 × Mm) :=
(ald M 13 10 x1).bind fun v1 =>
(ald M 13 10 x2).bind fun v3 =>
(itr (pX9_lasts_L25 x1 x2 x3 v1 v3) fuel (0, 0, 0, M)).bind fun x20 =>
(itr (pX9_lasts_L131 x1 x2 x3 x20.2.1 x20.2.2) fuel (x20.1, v1, 0)).bind fun x49 =>
Option.bind (α := (Int32) ⊕ (Int32 × Mm)) (if x20.2.1 = 2 then
((ald x20.2.2 9 8 1).bind fun v133 =>
(ald x20.2.2 9 8 0).bind fun v135 =>
if v135 ≤ v133 then
(some (Sum.inl x49))
else
((itr (pX9_lasts_L228 x20.2.1 1 x20.2.2) fuel (x49, 0)).bind fun x137 =>
Sum.elim (fun yx137 =>
some (Sum.inr (yx137, x20.2.2))) (fun r => some (Sum.inr r)) x137))
else
(some (Sum.inl x49))) fun j63 =>
Sum.elim (fun yj63 =>
(itr (pX9_lasts_L228 x20.2.1 0 x20.2.2) fuel (yj63, 0)).bind fun x96 =>
Sum.elim (fun yx96 =>
some (yx96, x20.2.2)) (fun r => some r) x96) (fun r => some r) j63
abbrev zX9_lasts : Zx := (cX9_lasts, RX9, 12, 2, (some .int))
set_option maxRecDepth 100000 in
set_option maxHeartbeats 4000000 in
theorem tX9_lasts {l : Launch} {Y : Sx} {M : Mm} {x1 : Int32} {x2 : Int32} {x3 : Int32} {q : Int32 × Mm} (hY : isB Y) (h : pX9_lasts x1 x2 x3 M = some q) : Ct l Y yX9_lasts cX9_lasts 12 (some .int) 2 [.ref (adr Y 0), .int x1, .int x2, .int x3] M (some q.1) q.2 := by
  refine Ct.of (by decide) rfl (lv := [(0, .ref (adr Y 0)), (1, .int x1), (2, .int x2), (3, .int x3)]) rfl ?_
  intro K hkl C
  change Cx K zX9_lasts Y at C
  subst hkl
  unfold pX9_lasts at h
  show Wp K zX9_lasts Y (Qm K Y (some q.1) q.2) M 0 [(0, .ref (adr Y 0)), (1, .int x1), (2, .int x2), (3, .int x3)] []
  refine w_iconst C (pc := 0) dX9_lasts_0 (v := 0) (by decide) ?_
  refine w_istore C (pc := 1) dX9_lasts_1 (lv' := [(0, .ref (adr Y 0)), (1, .int x1), (2, .int x2), (3, .int x3), (4, .int 0)]) rfl rfl rfl ?_
  refine w_iconst C (pc := 3) dX9_lasts_3 (v := 0) (by decide) ?_
  refine w_istore C (pc := 4) dX9_lasts_4 (lv' := [(0, .ref (adr Y 0)), (1, .int x1), (2, .int x2), (3, .int x3), (4, .int 0), (5, .int 0)]) rfl rfl rfl ?_
  refine w_aload_n C (pc := 6) dX9_lasts_6 0 rfl ?_
  refine w_getR C (pc := 7) dX9_lasts_7 f_X9_48 (sB_0 hY) rfl ?_
  refine w_iload_n C (pc := 10) dX9_lasts_10 1 rfl ?_
  obtain ⟨v1, e2, h⟩ := ob h
  refine w_iald C (pc := 11) dX9_lasts_11 (sB_13 hY) e2 ?_
  refine w_istore C (pc := 12) dX9_lasts_12 (lv' := [(0, .ref (adr Y 0)), (1, .int x1), (2, .int x2), (3, .int x3), (4, .int 0), (5, .int 0), (6, .int v1)]) rfl rfl rfl ?_
  refine w_aload_n C (pc := 14) dX9_lasts_14 0 rfl ?_
  refine w_getR C (pc := 15) dX9_lasts_15 f_X9_48 (sB_0 hY) rfl ?_
  refine w_iload_n C (pc := 18) dX9_lasts_18 2 rfl ?_
  obtain ⟨v3, e4, h⟩ := ob h
  refine w_iald C (pc := 19) dX9_lasts_19 (sB_13 hY) e4 ?_
  refine w_istore C (pc := 20) dX9_lasts_20 (lv' := [(0, .ref (adr Y 0)), (1, .int x1), (2, .int x2), (3, .int x3), (4, .int 0), (5, .int 0), (6, .int v1), (7, .int v3)]) rfl rfl rfl ?_
  refine w_iconst C (pc := 22) dX9_lasts_22 (v := 0) (by decide) ?_
  refine w_istore C (pc := 23) dX9_lasts_23 (lv' := [(0, .ref (adr Y 0)), (1, .int x1), (2, .int x2), (3, .int x3), (4, .int 0), (5, .int 0), (6, .int v1), (7, .int v3), (8, .int 0)]) rfl rfl rfl ?_
  obtain ⟨x20, e21, h⟩ := ob h
  refine itr_W (P := fun s22 => Wp K zX9_lasts Y (Qm K Y (some q.1) q.2) s22.2.2.2 25 [(0, .ref (adr Y 0)), (1, .int x1), (2, .int x2), (3, .int x3), (4, .int s22.1), (5, .int s22.2.1), (6, .int v1), (7, .int v3), (8, .int s22.2.2.1)] []) (R := fun x20 => Wp K zX9_lasts Y (Qm K Y (some q.1) q.2) x20.2.2 124 [(0, .ref (adr Y 0)), (1, .int x1), (2, .int x2), (3, .int x3), (4, .int x20.1), (5, .int x20.2.1), (6, .int v1), (7, .int v3)] []) ?_ fuel (0, 0, 0, M) x20 e21 ?_
  · intro s22 r23 h26 ki24 kx25
    unfold pX9_lasts_L25 at h26
    show Wp K zX9_lasts Y (Qm K Y (some q.1) q.2) s22.2.2.2 25 [(0, .ref (adr Y 0)), (1, .int x1), (2, .int x2), (3, .int x3), (4, .int s22.1), (5, .int s22.2.1), (6, .int v1), (7, .int v3), (8, .int s22.2.2.1)] []
    refine w_iload C (pc := 25) dX9_lasts_25 8 rfl ?_
    refine w_iload_n C (pc := 27) dX9_lasts_27 2 rfl ?_
    refine w_iload_n C (pc := 28) dX9_lasts_28 1 rfl ?_
    refine w_isub C (pc := 29) dX9_lasts_29 ?_
    refine w_iconst C (pc := 30) dX9_lasts_30 (v := 1) (by decide) ?_
    refine w_isub C (pc := 31) dX9_lasts_31 ?_
    refine w_icge C (pc := 32) 124 dX9_lasts_32 (by decide) (fun c => ?_) (fun c => ?_)
    · have h26 := it_t h26 c
      obtain rfl := Option.some.inj h26
      refine w_lv [0, 1, 2, 3, 4, 5, 6, 7] rfl ?_
      have k9 := kx25 (s22.1, s22.2.1, s22.2.2.2) rfl
      try dsimp only at k9
      exact k9
    · have h26 := it_f h26 c
      refine w_iload_n C (pc := 35) dX9_lasts_35 3 rfl ?_
      refine w_iload C (pc := 36) dX9_lasts_36 8 rfl ?_
      refine w_ishr C (pc := 38) dX9_lasts_38 ?_
      refine w_iconst C (pc := 39) dX9_lasts_39 (v := 1) (by decide) ?_
      refine w_iand C (pc := 40) dX9_lasts_40 ?_
      refine w_ifne C (pc := 41) 47 dX9_lasts_41 (by decide) (fun c => ?_) (fun c => ?_)
      · have h26 := it_t h26 c
        refine w_goto C (pc := 44) 118 dX9_lasts_44 (by decide) ?_
        refine w_iinc C (pc := 118) dX9_lasts_118 8 rfl (v := 1) (lv' := [(0, .ref (adr Y 0)), (1, .int x1), (2, .int x2), (3, .int x3), (4, .int s22.1), (5, .int s22.2.1), (6, .int v1), (7, .int v3), (8, .int (s22.2.2.1 + 1))]) (by decide) rfl rfl rfl ?_
        refine w_goto C (pc := 121) 25 dX9_lasts_121 (by decide) ?_
        obtain rfl := Option.some.inj h26
        have k9 := ki24 (s22.1, s22.2.1, s22.2.2.1 + 1, s22.2.2.2) rfl
        try dsimp only at k9
        exact k9
      · have h26 := it_f h26 c
        refine w_iload C (pc := 47) dX9_lasts_47 4 rfl ?_
        refine w_aload_n C (pc := 49) dX9_lasts_49 0 rfl ?_
        refine w_bipush C (pc := 50) dX9_lasts_50 (v := 6) (by decide) ?_
        obtain ⟨v27, e28, h26⟩ := ob h26
        refine w_cVi C (pc := 52) dX9_lasts_52 my_X9_of mi_X9_of ml_X9_78 (sB_0 hY) rfl rfl rfl [.int 6] rfl rfl (Nat.le_of_ble_eq_true rfl) (tX9_of hY  e28) ?_
        refine w_iadd C (pc := 55) dX9_lasts_55 ?_
        refine w_bnd h26 (fun v29 h26 => ?_)
        refine w_istore C (pc := 56) dX9_lasts_56 (lv' := [(0, .ref (adr Y 0)), (1, .int x1), (2, .int x2), (3, .int x3), (4, .int v29), (5, .int s22.2.1), (6, .int v1), (7, .int v3), (8, .int s22.2.2.1)]) rfl rfl rfl ?_
        refine w_aload_n C (pc := 58) dX9_lasts_58 0 rfl ?_
        refine w_getR C (pc := 59) dX9_lasts_59 f_X9_48 (sB_0 hY) rfl ?_
        refine w_iload_n C (pc := 62) dX9_lasts_62 1 rfl ?_
        refine w_iconst C (pc := 63) dX9_lasts_63 (v := 1) (by decide) ?_
        refine w_iadd C (pc := 64) dX9_lasts_64 ?_
        refine w_iload C (pc := 65) dX9_lasts_65 8 rfl ?_
        refine w_iadd C (pc := 67) dX9_lasts_67 ?_
        obtain ⟨v30, e31, h26⟩ := ob h26
        refine w_iald C (pc := 68) dX9_lasts_68 (sB_13 hY) e31 ?_
        refine w_istore C (pc := 69) dX9_lasts_69 (lv' := [(0, .ref (adr Y 0)), (1, .int x1), (2, .int x2), (3, .int x3), (4, .int v29), (5, .int s22.2.1), (6, .int v1), (7, .int v3), (8, .int s22.2.2.1), (9, .int v30)]) rfl rfl rfl ?_
        refine w_aload_n C (pc := 71) dX9_lasts_71 0 rfl ?_
        refine w_getR C (pc := 72) dX9_lasts_72 f_X9_32 (sB_0 hY) rfl ?_
        refine w_iload C (pc := 75) dX9_lasts_75 5 rfl ?_
        refine w_iload C (pc := 77) dX9_lasts_77 4 rfl ?_
        obtain ⟨M32, e33, h26⟩ := ob h26
        refine w_iast C (pc := 79) dX9_lasts_79 (sB_8 hY) e33 ?_
        refine w_aload_n C (pc := 80) dX9_lasts_80 0 rfl ?_
        refine w_getR C (pc := 81) dX9_lasts_81 f_X9_35 (sB_0 hY) rfl ?_
        refine w_iload C (pc := 84) dX9_lasts_84 5 rfl ?_
        refine w_iload C (pc := 86) dX9_lasts_86 4 rfl ?_
        refine w_aload_n C (pc := 88) dX9_lasts_88 0 rfl ?_
        refine w_iload C (pc := 89) dX9_lasts_89 6 rfl ?_
        refine w_iload C (pc := 91) dX9_lasts_91 9 rfl ?_
        obtain ⟨v34, e35, h26⟩ := ob h26
        refine w_cVi C (pc := 93) dX9_lasts_93 my_X9_flight mi_X9_flight ml_X9_131 (sB_0 hY) rfl rfl rfl [.int v1, .int v30] rfl rfl (Nat.le_of_ble_eq_true rfl) (tX9_flight hY  e35) ?_
        refine w_iadd C (pc := 96) dX9_lasts_96 ?_
        refine w_aload_n C (pc := 97) dX9_lasts_97 0 rfl ?_
        refine w_iload C (pc := 98) dX9_lasts_98 9 rfl ?_
        refine w_iconst C (pc := 100) dX9_lasts_100 (v := 3) (by decide) ?_
        obtain ⟨v36, e37, h26⟩ := ob h26
        refine w_cVi C (pc := 101) dX9_lasts_101 my_X9_placeOf mi_X9_placeOf ml_X9_82 (sB_0 hY) rfl rfl rfl [.int v30, .int 3] rfl rfl (Nat.le_of_ble_eq_true rfl) (tX9_placeOf hY  e37) ?_
        refine w_iadd C (pc := 104) dX9_lasts_104 ?_
        refine w_aload_n C (pc := 105) dX9_lasts_105 0 rfl ?_
        refine w_iload C (pc := 106) dX9_lasts_106 9 rfl ?_
        refine w_iload C (pc := 108) dX9_lasts_108 7 rfl ?_
        obtain ⟨v38, e39, h26⟩ := ob h26
        refine w_cVi C (pc := 110) dX9_lasts_110 my_X9_flight mi_X9_flight ml_X9_131 (sB_0 hY) rfl rfl rfl [.int v30, .int v3] rfl rfl (Nat.le_of_ble_eq_true rfl) (tX9_flight hY  e39) ?_
        refine w_iadd C (pc := 113) dX9_lasts_113 ?_
        obtain ⟨M40, e41, h26⟩ := ob h26
        refine w_iast C (pc := 114) dX9_lasts_114 (sB_9 hY) e41 ?_
        refine w_iinc C (pc := 115) dX9_lasts_115 5 rfl (v := 1) (lv' := [(0, .ref (adr Y 0)), (1, .int x1), (2, .int x2), (3, .int x3), (4, .int v29), (5, .int (s22.2.1 + 1)), (6, .int v1), (7, .int v3), (8, .int s22.2.2.1), (9, .int v30)]) (by decide) rfl rfl rfl ?_
        refine w_iinc C (pc := 118) dX9_lasts_118 8 rfl (v := 1) (lv' := [(0, .ref (adr Y 0)), (1, .int x1), (2, .int x2), (3, .int x3), (4, .int v29), (5, .int (s22.2.1 + 1)), (6, .int v1), (7, .int v3), (8, .int (s22.2.2.1 + 1)), (9, .int v30)]) (by decide) rfl rfl rfl ?_
        refine w_goto C (pc := 121) 25 dX9_lasts_121 (by decide) ?_
        obtain rfl := Option.some.inj h26
        refine w_lv [0, 1, 2, 3, 4, 5, 6, 7, 8] rfl ?_
        have k9 := ki24 (v29, s22.2.1 + 1, s22.2.2.1 + 1, M40) rfl
        try dsimp only at k9
        exact k9
  · refine w_iload C (pc := 124) dX9_lasts_124 6 rfl ?_
    refine w_istore C (pc := 126) dX9_lasts_126 (lv' := [(0, .ref (adr Y 0)), (1, .int x1), (2, .int x2), (3, .int x3), (4, .int x20.1), (5, .int x20.2.1), (6, .int v1), (7, .int v3), (8, .int v1)]) rfl rfl rfl ?_
    refine w_iconst C (pc := 128) dX9_lasts_128 (v := 0) (by decide) ?_
    refine w_istore C (pc := 129) dX9_lasts_129 (lv' := [(0, .ref (adr Y 0)), (1, .int x1), (2, .int x2), (3, .int x3), (4, .int x20.1), (5, .int x20.2.1), (6, .int v1), (7, .int v3), (8, .int v1), (9, .int 0)]) rfl rfl rfl ?_
    obtain ⟨x49, e50, h⟩ := ob h
    refine itr_W (P := fun s51 => Wp K zX9_lasts Y (Qm K Y (some q.1) q.2) x20.2.2 131 [(0, .ref (adr Y 0)), (1, .int x1), (2, .int x2), (3, .int x3), (4, .int s51.1), (5, .int x20.2.1), (6, .int v1), (7, .int v3), (8, .int s51.2.1), (9, .int s51.2.2)] []) (R := fun x49 => Wp K zX9_lasts Y (Qm K Y (some q.1) q.2) x20.2.2 197 [(0, .ref (adr Y 0)), (1, .int x1), (2, .int x2), (3, .int x3), (4, .int x49), (5, .int x20.2.1), (6, .int v1), (7, .int v3)] []) ?_ fuel (x20.1, v1, 0) x49 e50 ?_
    · intro s51 r52 h55 ki53 kx54
      unfold pX9_lasts_L131 at h55
      show Wp K zX9_lasts Y (Qm K Y (some q.1) q.2) x20.2.2 131 [(0, .ref (adr Y 0)), (1, .int x1), (2, .int x2), (3, .int x3), (4, .int s51.1), (5, .int x20.2.1), (6, .int v1), (7, .int v3), (8, .int s51.2.1), (9, .int s51.2.2)] []
      refine w_iload C (pc := 131) dX9_lasts_131 9 rfl ?_
      refine w_iload_n C (pc := 133) dX9_lasts_133 2 rfl ?_
      refine w_iload_n C (pc := 134) dX9_lasts_134 1 rfl ?_
      refine w_isub C (pc := 135) dX9_lasts_135 ?_
      refine w_iconst C (pc := 136) dX9_lasts_136 (v := 1) (by decide) ?_
      refine w_isub C (pc := 137) dX9_lasts_137 ?_
      refine w_icgt C (pc := 138) 197 dX9_lasts_138 (by decide) (fun c => ?_) (fun c => ?_)
      · have h55 := it_t h55 c
        obtain rfl := Option.some.inj h55
        refine w_lv [0, 1, 2, 3, 4, 5, 6, 7] rfl ?_
        have k9 := kx54 s51.1 rfl
        try dsimp only at k9
        exact k9
      · have h55 := it_f h55 c
        refine w_iload_n C (pc := 141) dX9_lasts_141 3 rfl ?_
        refine w_iload C (pc := 142) dX9_lasts_142 9 rfl ?_
        refine w_ishr C (pc := 144) dX9_lasts_144 ?_
        refine w_iconst C (pc := 145) dX9_lasts_145 (v := 1) (by decide) ?_
        refine w_iand C (pc := 146) dX9_lasts_146 ?_
        refine w_iconst C (pc := 147) dX9_lasts_147 (v := 1) (by decide) ?_
        refine w_icne C (pc := 148) 154 dX9_lasts_148 (by decide) (fun c => ?_) (fun c => ?_)
        · have h55 := it_t h55 c
          refine w_goto C (pc := 151) 191 dX9_lasts_151 (by decide) ?_
          refine w_iinc C (pc := 191) dX9_lasts_191 9 rfl (v := 1) (lv' := [(0, .ref (adr Y 0)), (1, .int x1), (2, .int x2), (3, .int x3), (4, .int s51.1), (5, .int x20.2.1), (6, .int v1), (7, .int v3), (8, .int s51.2.1), (9, .int (s51.2.2 + 1))]) (by decide) rfl rfl rfl ?_
          refine w_goto C (pc := 194) 131 dX9_lasts_194 (by decide) ?_
          obtain rfl := Option.some.inj h55
          have k9 := ki53 (s51.1, s51.2.1, s51.2.2 + 1) rfl
          try dsimp only at k9
          exact k9
        · have h55 := it_f h55 c
          refine w_aload_n C (pc := 154) dX9_lasts_154 0 rfl ?_
          refine w_getR C (pc := 155) dX9_lasts_155 f_X9_48 (sB_0 hY) rfl ?_
          refine w_iload_n C (pc := 158) dX9_lasts_158 1 rfl ?_
          refine w_iconst C (pc := 159) dX9_lasts_159 (v := 1) (by decide) ?_
          refine w_iadd C (pc := 160) dX9_lasts_160 ?_
          refine w_iload C (pc := 161) dX9_lasts_161 9 rfl ?_
          refine w_iadd C (pc := 163) dX9_lasts_163 ?_
          obtain ⟨v56, e57, h55⟩ := ob h55
          refine w_iald C (pc := 164) dX9_lasts_164 (sB_13 hY) e57 ?_
          refine w_istore C (pc := 165) dX9_lasts_165 (lv' := [(0, .ref (adr Y 0)), (1, .int x1), (2, .int x2), (3, .int x3), (4, .int s51.1), (5, .int x20.2.1), (6, .int v1), (7, .int v3), (8, .int s51.2.1), (9, .int s51.2.2), (10, .int v56)]) rfl rfl rfl ?_
          refine w_iload C (pc := 167) dX9_lasts_167 4 rfl ?_
          refine w_aload_n C (pc := 169) dX9_lasts_169 0 rfl ?_
          refine w_iload C (pc := 170) dX9_lasts_170 8 rfl ?_
          refine w_iload C (pc := 172) dX9_lasts_172 10 rfl ?_
          obtain ⟨v58, e59, h55⟩ := ob h55
          refine w_cVi C (pc := 174) dX9_lasts_174 my_X9_drive mi_X9_drive ml_X9_134 (sB_0 hY) rfl rfl rfl [.int s51.2.1, .int v56] rfl rfl (Nat.le_of_ble_eq_true rfl) (tX9_drive hY  e59) ?_
          refine w_aload_n C (pc := 177) dX9_lasts_177 0 rfl ?_
          refine w_iload C (pc := 178) dX9_lasts_178 10 rfl ?_
          obtain ⟨v60, e61, h55⟩ := ob h55
          refine w_cVi C (pc := 180) dX9_lasts_180 my_X9_service mi_X9_service ml_X9_208 (sB_0 hY) rfl rfl rfl [.int v56] rfl rfl (Nat.le_of_ble_eq_true rfl) (tX9_service hY  e61) ?_
          refine w_iadd C (pc := 183) dX9_lasts_183 ?_
          refine w_iadd C (pc := 184) dX9_lasts_184 ?_
          refine w_bnd h55 (fun v62 h55 => ?_)
          refine w_istore C (pc := 185) dX9_lasts_185 (lv' := [(0, .ref (adr Y 0)), (1, .int x1), (2, .int x2), (3, .int x3), (4, .int v62), (5, .int x20.2.1), (6, .int v1), (7, .int v3), (8, .int s51.2.1), (9, .int s51.2.2), (10, .int v56)]) rfl rfl rfl ?_
          refine w_iload C (pc := 187) dX9_lasts_187 10 rfl ?_
          refine w_istore C (pc := 189) dX9_lasts_189 (lv' := [(0, .ref (adr Y 0)), (1, .int x1), (2, .int x2), (3, .int x3), (4, .int v62), (5, .int x20.2.1), (6, .int v1), (7, .int v3), (8, .int v56), (9, .int s51.2.2), (10, .int v56)]) rfl rfl rfl ?_
          refine w_iinc C (pc := 191) dX9_lasts_191 9 rfl (v := 1) (lv' := [(0, .ref (adr Y 0)), (1, .int x1), (2, .int x2), (3, .int x3), (4, .int v62), (5, .int x20.2.1), (6, .int v1), (7, .int v3), (8, .int v56), (9, .int (s51.2.2 + 1)), (10, .int v56)]) (by decide) rfl rfl rfl ?_
          refine w_goto C (pc := 194) 131 dX9_lasts_194 (by decide) ?_
          obtain rfl := Option.some.inj h55
          refine w_lv [0, 1, 2, 3, 4, 5, 6, 7, 8, 9] rfl ?_
          have k9 := ki53 (v62, v56, s51.2.2 + 1) rfl
          try dsimp only at k9
          exact k9
    · refine w_iload C (pc := 197) dX9_lasts_197 5 rfl ?_
      refine w_iconst C (pc := 199) dX9_lasts_199 (v := 2) (by decide) ?_
      obtain ⟨j63, e64, h65⟩ := ob h
      have Jj63 : ∀ yj63, j63 = Sum.inl yj63 → Wp K zX9_lasts Y (Qm K Y (some q.1) q.2) x20.2.2 222 [(0, .ref (adr Y 0)), (1, .int x1), (2, .int x2), (3, .int x3), (4, .int yj63), (5, .int x20.2.1), (6, .int v1), (7, .int v3)] [] := by
        intro yj63 hj
        subst hj
        dsimp only [Sum.elim] at h65
        refine w_iconst C (pc := 222) dX9_lasts_222 (v := 0) (by decide) ?_
        refine w_istore C (pc := 223) dX9_lasts_223 (lv' := [(0, .ref (adr Y 0)), (1, .int x1), (2, .int x2), (3, .int x3), (4, .int yj63), (5, .int x20.2.1), (6, .int v1), (7, .int v3), (9, .int 0)]) rfl rfl rfl ?_
        refine w_iconst C (pc := 225) dX9_lasts_225 (v := 0) (by decide) ?_
        refine w_istore C (pc := 226) dX9_lasts_226 (lv' := [(0, .ref (adr Y 0)), (1, .int x1), (2, .int x2), (3, .int x3), (4, .int yj63), (5, .int x20.2.1), (6, .int v1), (7, .int v3), (9, .int 0), (10, .int 0)]) rfl rfl rfl ?_
        obtain ⟨x96, e97, h65⟩ := ob h65
        refine itr_W (P := fun s98 => Wp K zX9_lasts Y (Qm K Y (some q.1) q.2) x20.2.2 228 [(0, .ref (adr Y 0)), (1, .int x1), (2, .int x2), (3, .int x3), (4, .int s98.1), (5, .int x20.2.1), (6, .int v1), (7, .int v3), (9, .int 0), (10, .int s98.2)] []) (R := fun x9 => (∀ yx96, x9 = Sum.inl yx96 → Wp K zX9_lasts Y (Qm K Y (some q.1) q.2) x20.2.2 334 [(0, .ref (adr Y 0)), (1, .int x1), (2, .int x2), (3, .int x3), (4, .int yx96), (5, .int x20.2.1), (6, .int v1), (7, .int v3), (9, .int 0)] []) ∧ (∀ v9, x9 = Sum.inr v9 → some v9 = some q)) ?_ fuel (yj63, 0) x96 e97 ?_
        · intro s98 r99 h102 ki100 kx101
          unfold pX9_lasts_L228 at h102
          show Wp K zX9_lasts Y (Qm K Y (some q.1) q.2) x20.2.2 228 [(0, .ref (adr Y 0)), (1, .int x1), (2, .int x2), (3, .int x3), (4, .int s98.1), (5, .int x20.2.1), (6, .int v1), (7, .int v3), (9, .int 0), (10, .int s98.2)] []
          refine w_iload C (pc := 228) dX9_lasts_228 9 rfl ?_
          refine w_iload C (pc := 230) dX9_lasts_230 5 rfl ?_
          refine w_icge C (pc := 232) 334 dX9_lasts_232 (by decide) (fun c => ?_) (fun c => ?_)
          · have h102 := it_t h102 c
            obtain rfl := Option.some.inj h102
            refine w_lv [0, 1, 2, 3, 4, 5, 6, 7, 8] rfl ?_
            have k9 := (kx101 (Sum.inl s98.1) rfl).1 s98.1 rfl
            try dsimp only at k9
            exact k9
          · have h102 := it_f h102 c
            refine w_iload C (pc := 235) dX9_lasts_235 9 rfl ?_
            obtain ⟨j103, e104, h105⟩ := bn h102
            have Jj103 : Wp K zX9_lasts Y (Qm K Y (some q.1) q.2) x20.2.2 249 [(0, .ref (adr Y 0)), (1, .int x1), (2, .int x2), (3, .int x3), (4, .int s98.1), (5, .int x20.2.1), (6, .int v1), (7, .int v3), (9, .int 0), (10, .int s98.2)] [.int j103] := by
              refine w_istore C (pc := 249) dX9_lasts_249 (lv' := [(0, .ref (adr Y 0)), (1, .int x1), (2, .int x2), (3, .int x3), (4, .int s98.1), (5, .int x20.2.1), (6, .int v1), (7, .int v3), (9, .int 0), (10, .int s98.2), (11, .int j103)]) rfl rfl rfl ?_
              refine w_aload_n C (pc := 251) dX9_lasts_251 0 rfl ?_
              refine w_getR C (pc := 252) dX9_lasts_252 f_X9_35 (sB_0 hY) rfl ?_
              refine w_iload C (pc := 255) dX9_lasts_255 10 rfl ?_
              obtain ⟨v106, e107, h105⟩ := ob h105
              refine w_iald C (pc := 257) dX9_lasts_257 (sB_9 hY) e107 ?_
              refine w_iload C (pc := 258) dX9_lasts_258 4 rfl ?_
              obtain ⟨j108, e109, h110⟩ := ob h105
              have Jj108 : Wp K zX9_lasts Y (Qm K Y (some q.1) q.2) x20.2.2 275 [(0, .ref (adr Y 0)), (1, .int x1), (2, .int x2), (3, .int x3), (4, .int s98.1), (5, .int x20.2.1), (6, .int v1), (7, .int v3), (9, .int 0), (10, .int s98.2), (11, .int j103)] [.int j108] := by
                refine w_istore C (pc := 275) dX9_lasts_275 (lv' := [(0, .ref (adr Y 0)), (1, .int x1), (2, .int x2), (3, .int x3), (4, .int j108), (5, .int x20.2.1), (6, .int v1), (7, .int v3), (9, .int 0), (10, .int s98.2), (11, .int j103)]) rfl rfl rfl ?_
                refine w_aload_n C (pc := 277) dX9_lasts_277 0 rfl ?_
                refine w_bipush C (pc := 278) dX9_lasts_278 (v := 9) (by decide) ?_
                obtain ⟨v111, e112, h110⟩ := ob h110
                refine w_cVi C (pc := 280) dX9_lasts_280 my_X9_of mi_X9_of ml_X9_78 (sB_0 hY) rfl rfl rfl [.int 9] rfl rfl (Nat.le_of_ble_eq_true rfl) (tX9_of hY  e112) ?_
                refine w_iconst C (pc := 283) dX9_lasts_283 (v := 1) (by decide) ?_
                refine w_icne C (pc := 284) 292 dX9_lasts_284 (by decide) (fun c => ?_) (fun c => ?_)
                · have h110 := it_t h110 c
                  refine w_iload C (pc := 287) dX9_lasts_287 4 rfl ?_
                  refine w_goto C (pc := 289) 299 dX9_lasts_289 (by decide) ?_
                  refine w_aload_n C (pc := 299) dX9_lasts_299 0 rfl ?_
                  refine w_getR C (pc := 300) dX9_lasts_300 f_X9_32 (sB_0 hY) rfl ?_
                  refine w_iload C (pc := 303) dX9_lasts_303 10 rfl ?_
                  obtain ⟨v113, e114, h110⟩ := ob h110
                  refine w_iald C (pc := 305) dX9_lasts_305 (sB_8 hY) e114 ?_
                  refine w_isub C (pc := 306) dX9_lasts_306 ?_
                  refine w_aload_n C (pc := 307) dX9_lasts_307 0 rfl ?_
                  refine w_iconst C (pc := 308) dX9_lasts_308 (v := 5) (by decide) ?_
                  obtain ⟨v115, e116, h110⟩ := ob h110
                  refine w_cVi C (pc := 309) dX9_lasts_309 my_X9_of mi_X9_of ml_X9_78 (sB_0 hY) rfl rfl rfl [.int 5] rfl rfl (Nat.le_of_ble_eq_true rfl) (tX9_of hY  e116) ?_
                  refine w_icle C (pc := 312) 317 dX9_lasts_312 (by decide) (fun c => ?_) (fun c => ?_)
                  · have h110 := it_t h110 c
                    refine w_iload C (pc := 317) dX9_lasts_317 4 rfl ?_
                    refine w_aload_n C (pc := 319) dX9_lasts_319 0 rfl ?_
                    refine w_bipush C (pc := 320) dX9_lasts_320 (v := 7) (by decide) ?_
                    obtain ⟨v117, e118, h110⟩ := ob h110
                    refine w_cVi C (pc := 322) dX9_lasts_322 my_X9_of mi_X9_of ml_X9_78 (sB_0 hY) rfl rfl rfl [.int 7] rfl rfl (Nat.le_of_ble_eq_true rfl) (tX9_of hY  e118) ?_
                    refine w_iadd C (pc := 325) dX9_lasts_325 ?_
                    refine w_bnd h110 (fun v119 h110 => ?_)
                    refine w_istore C (pc := 326) dX9_lasts_326 (lv' := [(0, .ref (adr Y 0)), (1, .int x1), (2, .int x2), (3, .int x3), (4, .int v119), (5, .int x20.2.1), (6, .int v1), (7, .int v3), (9, .int 0), (10, .int s98.2), (11, .int j103)]) rfl rfl rfl ?_
                    refine w_iinc C (pc := 328) dX9_lasts_328 9 rfl (v := 1) (lv' := [(0, .ref (adr Y 0)), (1, .int x1), (2, .int x2), (3, .int x3), (4, .int v119), (5, .int x20.2.1), (6, .int v1), (7, .int v3), (9, .int 0), (10, .int (s98.2 + 1)), (11, .int j103)]) (by decide) rfl rfl rfl ?_
                    refine w_goto C (pc := 331) 228 dX9_lasts_331 (by decide) ?_
                    obtain rfl := Option.some.inj h110
                    refine w_lv [0, 1, 2, 3, 4, 5, 6, 7, 8, 9] rfl ?_
                    have k9 := ki100 (v119, s98.2 + 1) rfl
                    try dsimp only at k9
                    exact k9
                  · have h110 := it_f h110 c
                    refine w_iconst C (pc := 315) dX9_lasts_315 (v := (-1)) (by decide) ?_
                    obtain rfl := Option.some.inj h110
                    have h120 := (kx101 (Sum.inr ((-1), x20.2.2)) rfl).2 ((-1), x20.2.2) rfl
                    exact w_ret C (pc := 316) dX9_lasts_316 rfl (Option.some.inj h120)
                · have h110 := it_f h110 c
                  refine w_aload_n C (pc := 292) dX9_lasts_292 0 rfl ?_
                  refine w_getR C (pc := 293) dX9_lasts_293 f_X9_35 (sB_0 hY) rfl ?_
                  refine w_iload C (pc := 296) dX9_lasts_296 10 rfl ?_
                  obtain ⟨v121, e122, h110⟩ := ob h110
                  refine w_iald C (pc := 298) dX9_lasts_298 (sB_9 hY) e122 ?_
                  refine w_aload_n C (pc := 299) dX9_lasts_299 0 rfl ?_
                  refine w_getR C (pc := 300) dX9_lasts_300 f_X9_32 (sB_0 hY) rfl ?_
                  refine w_iload C (pc := 303) dX9_lasts_303 10 rfl ?_
                  obtain ⟨v123, e124, h110⟩ := ob h110
                  refine w_iald C (pc := 305) dX9_lasts_305 (sB_8 hY) e124 ?_
                  refine w_isub C (pc := 306) dX9_lasts_306 ?_
                  refine w_aload_n C (pc := 307) dX9_lasts_307 0 rfl ?_
                  refine w_iconst C (pc := 308) dX9_lasts_308 (v := 5) (by decide) ?_
                  obtain ⟨v125, e126, h110⟩ := ob h110
                  refine w_cVi C (pc := 309) dX9_lasts_309 my_X9_of mi_X9_of ml_X9_78 (sB_0 hY) rfl rfl rfl [.int 5] rfl rfl (Nat.le_of_ble_eq_true rfl) (tX9_of hY  e126) ?_
                  refine w_icle C (pc := 312) 317 dX9_lasts_312 (by decide) (fun c => ?_) (fun c => ?_)
                  · have h110 := it_t h110 c
                    refine w_iload C (pc := 317) dX9_lasts_317 4 rfl ?_
                    refine w_aload_n C (pc := 319) dX9_lasts_319 0 rfl ?_
                    refine w_bipush C (pc := 320) dX9_lasts_320 (v := 7) (by decide) ?_
                    obtain ⟨v127, e128, h110⟩ := ob h110
                    refine w_cVi C (pc := 322) dX9_lasts_322 my_X9_of mi_X9_of ml_X9_78 (sB_0 hY) rfl rfl rfl [.int 7] rfl rfl (Nat.le_of_ble_eq_true rfl) (tX9_of hY  e128) ?_
                    refine w_iadd C (pc := 325) dX9_lasts_325 ?_
                    refine w_bnd h110 (fun v129 h110 => ?_)
                    refine w_istore C (pc := 326) dX9_lasts_326 (lv' := [(0, .ref (adr Y 0)), (1, .int x1), (2, .int x2), (3, .int x3), (4, .int v129), (5, .int x20.2.1), (6, .int v1), (7, .int v3), (9, .int 0), (10, .int s98.2), (11, .int j103)]) rfl rfl rfl ?_
                    refine w_iinc C (pc := 328) dX9_lasts_328 9 rfl (v := 1) (lv' := [(0, .ref (adr Y 0)), (1, .int x1), (2, .int x2), (3, .int x3), (4, .int v129), (5, .int x20.2.1), (6, .int v1), (7, .int v3), (9, .int 0), (10, .int (s98.2 + 1)), (11, .int j103)]) (by decide) rfl rfl rfl ?_
                    refine w_goto C (pc := 331) 228 dX9_lasts_331 (by decide) ?_
                    obtain rfl := Option.some.inj h110
                    refine w_lv [0, 1, 2, 3, 4, 5, 6, 7, 8, 9] rfl ?_
                    have k9 := ki100 (v129, s98.2 + 1) rfl
                    try dsimp only at k9
                    exact k9
                  · have h110 := it_f h110 c
                    refine w_iconst C (pc := 315) dX9_lasts_315 (v := (-1)) (by decide) ?_
                    obtain rfl := Option.some.inj h110
                    have h130 := (kx101 (Sum.inr ((-1), x20.2.2)) rfl).2 ((-1), x20.2.2) rfl
                    exact w_ret C (pc := 316) dX9_lasts_316 rfl (Option.some.inj h130)
              refine w_icle C (pc := 260) 273 dX9_lasts_260 (by decide) (fun c => ?_) (fun c => ?_)
              · have e109 := it_t e109 c
                refine w_iload C (pc := 273) dX9_lasts_273 4 rfl ?_
                obtain rfl := Option.some.inj e109
                exact Jj108
              · have e109 := it_f e109 c
                refine w_aload_n C (pc := 263) dX9_lasts_263 0 rfl ?_
                refine w_getR C (pc := 264) dX9_lasts_264 f_X9_35 (sB_0 hY) rfl ?_
                refine w_iload C (pc := 267) dX9_lasts_267 10 rfl ?_
                obtain ⟨v131, e132, e109⟩ := ob e109
                refine w_iald C (pc := 269) dX9_lasts_269 (sB_9 hY) e132 ?_
                refine w_goto C (pc := 270) 275 dX9_lasts_270 (by decide) ?_
                obtain rfl := Option.some.inj e109
                exact Jj108
            refine w_ifne C (pc := 237) 245 dX9_lasts_237 (by decide) (fun c => ?_) (fun c => ?_)
            · have e104 := it_t e104 c
              refine w_iload C (pc := 240) dX9_lasts_240 8 rfl ?_
              refine w_goto C (pc := 242) 249 dX9_lasts_242 (by decide) ?_
              obtain rfl := e104
              exact Jj103
            · have e104 := it_f e104 c
              refine w_iconst C (pc := 245) dX9_lasts_245 (v := 1) (by decide) ?_
              refine w_iload C (pc := 246) dX9_lasts_246 8 rfl ?_
              refine w_isub C (pc := 248) dX9_lasts_248 ?_
              obtain rfl := e104
              exact Jj103
        · refine ⟨fun yx96 hy => ?_, fun v9 hv => ?_⟩
          · subst hy
            dsimp only [Sum.elim] at h65
            refine w_iload C (pc := 334) dX9_lasts_334 4 rfl ?_
            exact w_ret C (pc := 336) dX9_lasts_336 rfl (Option.some.inj h65)
          · subst hv
            exact h65
      refine w_icne C (pc := 200) 222 dX9_lasts_200 (by decide) (fun c => ?_) (fun c => ?_)
      · have e64 := it_t e64 c
        refine w_aload_n C (pc := 203) dX9_lasts_203 0 rfl ?_
        refine w_getR C (pc := 204) dX9_lasts_204 f_X9_35 (sB_0 hY) rfl ?_
        refine w_iconst C (pc := 207) dX9_lasts_207 (v := 1) (by decide) ?_
        obtain ⟨v133, e134, e64⟩ := ob e64
        refine w_iald C (pc := 208) dX9_lasts_208 (sB_9 hY) e134 ?_
        refine w_aload_n C (pc := 209) dX9_lasts_209 0 rfl ?_
        refine w_getR C (pc := 210) dX9_lasts_210 f_X9_35 (sB_0 hY) rfl ?_
        refine w_iconst C (pc := 213) dX9_lasts_213 (v := 0) (by decide) ?_
        obtain ⟨v135, e136, e64⟩ := ob e64
        refine w_iald C (pc := 214) dX9_lasts_214 (sB_9 hY) e136 ?_
        refine w_icge C (pc := 215) 222 dX9_lasts_215 (by decide) (fun c => ?_) (fun c => ?_)
        · have e64 := it_t e64 c
          obtain rfl := Option.some.inj e64
          have k9 := Jj63 x49 rfl
          try dsimp only at k9
          exact k9
        · have e64 := it_f e64 c
          refine w_iconst C (pc := 218) dX9_lasts_218 (v := 1) (by decide) ?_
          refine w_goto C (pc := 219) 223 dX9_lasts_219 (by decide) ?_
          refine w_istore C (pc := 223) dX9_lasts_223 (lv' := [(0, .ref (adr Y 0)), (1, .int x1), (2, .int x2), (3, .int x3), (4, .int x49), (5, .int x20.2.1), (6, .int v1), (7, .int v3), (9, .int 1)]) rfl rfl rfl ?_
          refine w_iconst C (pc := 225) dX9_lasts_225 (v := 0) (by decide) ?_
          refine w_istore C (pc := 226) dX9_lasts_226 (lv' := [(0, .ref (adr Y 0)), (1, .int x1), (2, .int x2), (3, .int x3), (4, .int x49), (5, .int x20.2.1), (6, .int v1), (7, .int v3), (9, .int 1), (10, .int 0)]) rfl rfl rfl ?_
          obtain ⟨x137, e138, e64⟩ := ob e64
          refine itr_W (P := fun s139 => Wp K zX9_lasts Y (Qm K Y (some q.1) q.2) x20.2.2 228 [(0, .ref (adr Y 0)), (1, .int x1), (2, .int x2), (3, .int x3), (4, .int s139.1), (5, .int x20.2.1), (6, .int v1), (7, .int v3), (9, .int 1), (10, .int s139.2)] []) (R := fun x9 => (∀ yx137, x9 = Sum.inl yx137 → Wp K zX9_lasts Y (Qm K Y (some q.1) q.2) x20.2.2 334 [(0, .ref (adr Y 0)), (1, .int x1), (2, .int x2), (3, .int x3), (4, .int yx137), (5, .int x20.2.1), (6, .int v1), (7, .int v3), (9, .int 1)] []) ∧ (∀ v9, x9 = Sum.inr v9 → some (Sum.inr v9) = some j63)) ?_ fuel (x49, 0) x137 e138 ?_
          · intro s139 r140 h143 ki141 kx142
            unfold pX9_lasts_L228 at h143
            show Wp K zX9_lasts Y (Qm K Y (some q.1) q.2) x20.2.2 228 [(0, .ref (adr Y 0)), (1, .int x1), (2, .int x2), (3, .int x3), (4, .int s139.1), (5, .int x20.2.1), (6, .int v1), (7, .int v3), (9, .int 1), (10, .int s139.2)] []
            refine w_iload C (pc := 228) dX9_lasts_228 9 rfl ?_
            refine w_iload C (pc := 230) dX9_lasts_230 5 rfl ?_
            refine w_icge C (pc := 232) 334 dX9_lasts_232 (by decide) (fun c => ?_) (fun c => ?_)
            · have h143 := it_t h143 c
              obtain rfl := Option.some.inj h143
              refine w_lv [0, 1, 2, 3, 4, 5, 6, 7, 8] rfl ?_
              have k9 := (kx142 (Sum.inl s139.1) rfl).1 s139.1 rfl
              try dsimp only at k9
              exact k9
            · have h143 := it_f h143 c
              refine w_iload C (pc := 235) dX9_lasts_235 9 rfl ?_
              obtain ⟨j144, e145, h146⟩ := bn h143
              have Jj144 : Wp K zX9_lasts Y (Qm K Y (some q.1) q.2) x20.2.2 249 [(0, .ref (adr Y 0)), (1, .int x1), (2, .int x2), (3, .int x3), (4, .int s139.1), (5, .int x20.2.1), (6, .int v1), (7, .int v3), (9, .int 1), (10, .int s139.2)] [.int j144] := by
                refine w_istore C (pc := 249) dX9_lasts_249 (lv' := [(0, .ref (adr Y 0)), (1, .int x1), (2, .int x2), (3, .int x3), (4, .int s139.1), (5, .int x20.2.1), (6, .int v1), (7, .int v3), (9, .int 1), (10, .int s139.2), (11, .int j144)]) rfl rfl rfl ?_
                refine w_aload_n C (pc := 251) dX9_lasts_251 0 rfl ?_
                refine w_getR C (pc := 252) dX9_lasts_252 f_X9_35 (sB_0 hY) rfl ?_
                refine w_iload C (pc := 255) dX9_lasts_255 10 rfl ?_
                obtain ⟨v147, e148, h146⟩ := ob h146
                refine w_iald C (pc := 257) dX9_lasts_257 (sB_9 hY) e148 ?_
                refine w_iload C (pc := 258) dX9_lasts_258 4 rfl ?_
                obtain ⟨j149, e150, h151⟩ := ob h146
                have Jj149 : Wp K zX9_lasts Y (Qm K Y (some q.1) q.2) x20.2.2 275 [(0, .ref (adr Y 0)), (1, .int x1), (2, .int x2), (3, .int x3), (4, .int s139.1), (5, .int x20.2.1), (6, .int v1), (7, .int v3), (9, .int 1), (10, .int s139.2), (11, .int j144)] [.int j149] := by
                  refine w_istore C (pc := 275) dX9_lasts_275 (lv' := [(0, .ref (adr Y 0)), (1, .int x1), (2, .int x2), (3, .int x3), (4, .int j149), (5, .int x20.2.1), (6, .int v1), (7, .int v3), (9, .int 1), (10, .int s139.2), (11, .int j144)]) rfl rfl rfl ?_
                  refine w_aload_n C (pc := 277) dX9_lasts_277 0 rfl ?_
                  refine w_bipush C (pc := 278) dX9_lasts_278 (v := 9) (by decide) ?_
                  obtain ⟨v152, e153, h151⟩ := ob h151
                  refine w_cVi C (pc := 280) dX9_lasts_280 my_X9_of mi_X9_of ml_X9_78 (sB_0 hY) rfl rfl rfl [.int 9] rfl rfl (Nat.le_of_ble_eq_true rfl) (tX9_of hY  e153) ?_
                  refine w_iconst C (pc := 283) dX9_lasts_283 (v := 1) (by decide) ?_
                  refine w_icne C (pc := 284) 292 dX9_lasts_284 (by decide) (fun c => ?_) (fun c => ?_)
                  · have h151 := it_t h151 c
                    refine w_iload C (pc := 287) dX9_lasts_287 4 rfl ?_
                    refine w_goto C (pc := 289) 299 dX9_lasts_289 (by decide) ?_
                    refine w_aload_n C (pc := 299) dX9_lasts_299 0 rfl ?_
                    refine w_getR C (pc := 300) dX9_lasts_300 f_X9_32 (sB_0 hY) rfl ?_
                    refine w_iload C (pc := 303) dX9_lasts_303 10 rfl ?_
                    obtain ⟨v154, e155, h151⟩ := ob h151
                    refine w_iald C (pc := 305) dX9_lasts_305 (sB_8 hY) e155 ?_
                    refine w_isub C (pc := 306) dX9_lasts_306 ?_
                    refine w_aload_n C (pc := 307) dX9_lasts_307 0 rfl ?_
                    refine w_iconst C (pc := 308) dX9_lasts_308 (v := 5) (by decide) ?_
                    obtain ⟨v156, e157, h151⟩ := ob h151
                    refine w_cVi C (pc := 309) dX9_lasts_309 my_X9_of mi_X9_of ml_X9_78 (sB_0 hY) rfl rfl rfl [.int 5] rfl rfl (Nat.le_of_ble_eq_true rfl) (tX9_of hY  e157) ?_
                    refine w_icle C (pc := 312) 317 dX9_lasts_312 (by decide) (fun c => ?_) (fun c => ?_)
                    · have h151 := it_t h151 c
                      refine w_iload C (pc := 317) dX9_lasts_317 4 rfl ?_
                      refine w_aload_n C (pc := 319) dX9_lasts_319 0 rfl ?_
                      refine w_bipush C (pc := 320) dX9_lasts_320 (v := 7) (by decide) ?_
                      obtain ⟨v158, e159, h151⟩ := ob h151
                      refine w_cVi C (pc := 322) dX9_lasts_322 my_X9_of mi_X9_of ml_X9_78 (sB_0 hY) rfl rfl rfl [.int 7] rfl rfl (Nat.le_of_ble_eq_true rfl) (tX9_of hY  e159) ?_
                      refine w_iadd C (pc := 325) dX9_lasts_325 ?_
                      refine w_bnd h151 (fun v160 h151 => ?_)
                      refine w_istore C (pc := 326) dX9_lasts_326 (lv' := [(0, .ref (adr Y 0)), (1, .int x1), (2, .int x2), (3, .int x3), (4, .int v160), (5, .int x20.2.1), (6, .int v1), (7, .int v3), (9, .int 1), (10, .int s139.2), (11, .int j144)]) rfl rfl rfl ?_
                      refine w_iinc C (pc := 328) dX9_lasts_328 9 rfl (v := 1) (lv' := [(0, .ref (adr Y 0)), (1, .int x1), (2, .int x2), (3, .int x3), (4, .int v160), (5, .int x20.2.1), (6, .int v1), (7, .int v3), (9, .int 1), (10, .int (s139.2 + 1)), (11, .int j144)]) (by decide) rfl rfl rfl ?_
                      refine w_goto C (pc := 331) 228 dX9_lasts_331 (by decide) ?_
                      obtain rfl := Option.some.inj h151
                      refine w_lv [0, 1, 2, 3, 4, 5, 6, 7, 8, 9] rfl ?_
                      have k9 := ki141 (v160, s139.2 + 1) rfl
                      try dsimp only at k9
                      exact k9
                    · have h151 := it_f h151 c
                      refine w_iconst C (pc := 315) dX9_lasts_315 (v := (-1)) (by decide) ?_
                      obtain rfl := Option.some.inj h151
                      have h161 := (kx142 (Sum.inr ((-1), x20.2.2)) rfl).2 ((-1), x20.2.2) rfl
                      obtain rfl := Option.some.inj h161
                      have h162 : some ((-1), x20.2.2) = some q := h65
                      exact w_ret C (pc := 316) dX9_lasts_316 rfl (Option.some.inj h162)
                  · have h151 := it_f h151 c
                    refine w_aload_n C (pc := 292) dX9_lasts_292 0 rfl ?_
                    refine w_getR C (pc := 293) dX9_lasts_293 f_X9_35 (sB_0 hY) rfl ?_
                    refine w_iload C (pc := 296) dX9_lasts_296 10 rfl ?_
                    obtain ⟨v163, e164, h151⟩ := ob h151
                    refine w_iald C (pc := 298) dX9_lasts_298 (sB_9 hY) e164 ?_
                    refine w_aload_n C (pc := 299) dX9_lasts_299 0 rfl ?_
                    refine w_getR C (pc := 300) dX9_lasts_300 f_X9_32 (sB_0 hY) rfl ?_
                    refine w_iload C (pc := 303) dX9_lasts_303 10 rfl ?_
                    obtain ⟨v165, e166, h151⟩ := ob h151
                    refine w_iald C (pc := 305) dX9_lasts_305 (sB_8 hY) e166 ?_
                    refine w_isub C (pc := 306) dX9_lasts_306 ?_
                    refine w_aload_n C (pc := 307) dX9_lasts_307 0 rfl ?_
                    refine w_iconst C (pc := 308) dX9_lasts_308 (v := 5) (by decide) ?_
                    obtain ⟨v167, e168, h151⟩ := ob h151
                    refine w_cVi C (pc := 309) dX9_lasts_309 my_X9_of mi_X9_of ml_X9_78 (sB_0 hY) rfl rfl rfl [.int 5] rfl rfl (Nat.le_of_ble_eq_true rfl) (tX9_of hY  e168) ?_
                    refine w_icle C (pc := 312) 317 dX9_lasts_312 (by decide) (fun c => ?_) (fun c => ?_)
                    · have h151 := it_t h151 c
                      refine w_iload C (pc := 317) dX9_lasts_317 4 rfl ?_
                      refine w_aload_n C (pc := 319) dX9_lasts_319 0 rfl ?_
                      refine w_bipush C (pc := 320) dX9_lasts_320 (v := 7) (by decide) ?_
                      obtain ⟨v169, e170, h151⟩ := ob h151
                      refine w_cVi C (pc := 322) dX9_lasts_322 my_X9_of mi_X9_of ml_X9_78 (sB_0 hY) rfl rfl rfl [.int 7] rfl rfl (Nat.le_of_ble_eq_true rfl) (tX9_of hY  e170) ?_
                      refine w_iadd C (pc := 325) dX9_lasts_325 ?_
                      refine w_bnd h151 (fun v171 h151 => ?_)
                      refine w_istore C (pc := 326) dX9_lasts_326 (lv' := [(0, .ref (adr Y 0)), (1, .int x1), (2, .int x2), (3, .int x3), (4, .int v171), (5, .int x20.2.1), (6, .int v1), (7, .int v3), (9, .int 1), (10, .int s139.2), (11, .int j144)]) rfl rfl rfl ?_
                      refine w_iinc C (pc := 328) dX9_lasts_328 9 rfl (v := 1) (lv' := [(0, .ref (adr Y 0)), (1, .int x1), (2, .int x2), (3, .int x3), (4, .int v171), (5, .int x20.2.1), (6, .int v1), (7, .int v3), (9, .int 1), (10, .int (s139.2 + 1)), (11, .int j144)]) (by decide) rfl rfl rfl ?_
                      refine w_goto C (pc := 331) 228 dX9_lasts_331 (by decide) ?_
                      obtain rfl := Option.some.inj h151
                      refine w_lv [0, 1, 2, 3, 4, 5, 6, 7, 8, 9] rfl ?_
                      have k9 := ki141 (v171, s139.2 + 1) rfl
                      try dsimp only at k9
                      exact k9
                    · have h151 := it_f h151 c
                      refine w_iconst C (pc := 315) dX9_lasts_315 (v := (-1)) (by decide) ?_
                      obtain rfl := Option.some.inj h151
                      have h172 := (kx142 (Sum.inr ((-1), x20.2.2)) rfl).2 ((-1), x20.2.2) rfl
                      obtain rfl := Option.some.inj h172
                      have h173 : some ((-1), x20.2.2) = some q := h65
                      exact w_ret C (pc := 316) dX9_lasts_316 rfl (Option.some.inj h173)
                refine w_icle C (pc := 260) 273 dX9_lasts_260 (by decide) (fun c => ?_) (fun c => ?_)
                · have e150 := it_t e150 c
                  refine w_iload C (pc := 273) dX9_lasts_273 4 rfl ?_
                  obtain rfl := Option.some.inj e150
                  exact Jj149
                · have e150 := it_f e150 c
                  refine w_aload_n C (pc := 263) dX9_lasts_263 0 rfl ?_
                  refine w_getR C (pc := 264) dX9_lasts_264 f_X9_35 (sB_0 hY) rfl ?_
                  refine w_iload C (pc := 267) dX9_lasts_267 10 rfl ?_
                  obtain ⟨v174, e175, e150⟩ := ob e150
                  refine w_iald C (pc := 269) dX9_lasts_269 (sB_9 hY) e175 ?_
                  refine w_goto C (pc := 270) 275 dX9_lasts_270 (by decide) ?_
                  obtain rfl := Option.some.inj e150
                  exact Jj149
              refine w_ifne C (pc := 237) 245 dX9_lasts_237 (by decide) (fun c => ?_) (fun c => ?_)
              · have e145 := it_t e145 c
                refine w_iload C (pc := 240) dX9_lasts_240 8 rfl ?_
                refine w_goto C (pc := 242) 249 dX9_lasts_242 (by decide) ?_
                obtain rfl := e145
                exact Jj144
              · have e145 := it_f e145 c
                refine w_iconst C (pc := 245) dX9_lasts_245 (v := 1) (by decide) ?_
                refine w_iload C (pc := 246) dX9_lasts_246 8 rfl ?_
                refine w_isub C (pc := 248) dX9_lasts_248 ?_
                obtain rfl := e145
                exact Jj144
          · refine ⟨fun yx137 hy => ?_, fun v9 hv => ?_⟩
            · subst hy
              dsimp only [Sum.elim] at e64
              refine w_iload C (pc := 334) dX9_lasts_334 4 rfl ?_
              obtain rfl := Option.some.inj e64
              have h176 : some (yx137, x20.2.2) = some q := h65
              exact w_ret C (pc := 336) dX9_lasts_336 rfl (Option.some.inj h176)
            · subst hv
              exact e64
      · have e64 := it_f e64 c
        obtain rfl := Option.some.inj e64
        have k9 := Jj63 x49 rfl
        try dsimp only at k9
        exact k9
theorem dX9_splits_0 : decode cX9_splits 0 = .ok (.aload_n 0, 1) := by decide +kernel
theorem dX9_splits_1 : decode cX9_splits 1 = .ok (.invokevirtual 74, 3) := by decide +kernel
theorem dX9_splits_4 : decode cX9_splits 4 = .ok (.istore_n 2, 1) := by decide +kernel
theorem dX9_splits_5 : decode cX9_splits 5 = .ok (.aload_n 0, 1) := by decide +kernel
theorem dX9_splits_6 : decode cX9_splits 6 = .ok (.getfield 51, 3) := by decide +kernel
theorem dX9_splits_9 : decode cX9_splits 9 = .ok (.iconst 0, 1) := by decide +kernel
theorem dX9_splits_10 : decode cX9_splits 10 = .ok (.iconst 0, 1) := by decide +kernel
theorem dX9_splits_11 : decode cX9_splits 11 = .ok (.iastore, 1) := by decide +kernel
theorem dX9_splits_12 : decode cX9_splits 12 = .ok (.aload_n 0, 1) := by decide +kernel
theorem dX9_splits_13 : decode cX9_splits 13 = .ok (.getfield 54, 3) := by decide +kernel
theorem dX9_splits_16 : decode cX9_splits 16 = .ok (.iconst 0, 1) := by decide +kernel
theorem dX9_splits_17 : decode cX9_splits 17 = .ok (.iconst 0, 1) := by decide +kernel
theorem dX9_splits_18 : decode cX9_splits 18 = .ok (.iastore, 1) := by decide +kernel
theorem dX9_splits_19 : decode cX9_splits 19 = .ok (.iconst 1, 1) := by decide +kernel
theorem dX9_splits_20 : decode cX9_splits 20 = .ok (.istore_n 3, 1) := by decide +kernel
theorem dX9_splits_21 : decode cX9_splits 21 = .ok (.iload_n 3, 1) := by decide +kernel
theorem dX9_splits_22 : decode cX9_splits 22 = .ok (.iload_n 2, 1) := by decide +kernel
theorem dX9_splits_23 : decode cX9_splits 23 = .ok (.iconst 1, 1) := by decide +kernel
theorem dX9_splits_24 : decode cX9_splits 24 = .ok (.iadd, 1) := by decide +kernel
theorem dX9_splits_25 : decode cX9_splits 25 = .ok (.if_icmp .gt 218, 3) := by decide +kernel
theorem dX9_splits_28 : decode cX9_splits 28 = .ok (.aload_n 0, 1) := by decide +kernel
theorem dX9_splits_29 : decode cX9_splits 29 = .ok (.getfield 51, 3) := by decide +kernel
theorem dX9_splits_32 : decode cX9_splits 32 = .ok (.iload_n 3, 1) := by decide +kernel
theorem dX9_splits_33 : decode cX9_splits 33 = .ok (.iconst (-1), 1) := by decide +kernel
theorem dX9_splits_34 : decode cX9_splits 34 = .ok (.iastore, 1) := by decide +kernel
theorem dX9_splits_35 : decode cX9_splits 35 = .ok (.iload_n 3, 1) := by decide +kernel
theorem dX9_splits_36 : decode cX9_splits 36 = .ok (.iconst 1, 1) := by decide +kernel
theorem dX9_splits_37 : decode cX9_splits 37 = .ok (.isub, 1) := by decide +kernel
theorem dX9_splits_38 : decode cX9_splits 38 = .ok (.istore 4, 2) := by decide +kernel
theorem dX9_splits_40 : decode cX9_splits 40 = .ok (.iload 4, 2) := by decide +kernel
theorem dX9_splits_42 : decode cX9_splits 42 = .ok (.ifCond .lt 195, 3) := by decide +kernel
theorem dX9_splits_45 : decode cX9_splits 45 = .ok (.iconst 1, 1) := by decide +kernel
theorem dX9_splits_46 : decode cX9_splits 46 = .ok (.iload_n 3, 1) := by decide +kernel
theorem dX9_splits_47 : decode cX9_splits 47 = .ok (.iload 4, 2) := by decide +kernel
theorem dX9_splits_49 : decode cX9_splits 49 = .ok (.isub, 1) := by decide +kernel
theorem dX9_splits_50 : decode cX9_splits 50 = .ok (.iconst 1, 1) := by decide +kernel
theorem dX9_splits_51 : decode cX9_splits 51 = .ok (.isub, 1) := by decide +kernel
theorem dX9_splits_52 : decode cX9_splits 52 = .ok (.ishl, 1) := by decide +kernel
theorem dX9_splits_53 : decode cX9_splits 53 = .ok (.istore 5, 2) := by decide +kernel
theorem dX9_splits_55 : decode cX9_splits 55 = .ok (.iload 4, 2) := by decide +kernel
theorem dX9_splits_57 : decode cX9_splits 57 = .ok (.iload_n 3, 1) := by decide +kernel
theorem dX9_splits_58 : decode cX9_splits 58 = .ok (.iconst 1, 1) := by decide +kernel
theorem dX9_splits_59 : decode cX9_splits 59 = .ok (.isub, 1) := by decide +kernel
theorem dX9_splits_60 : decode cX9_splits 60 = .ok (.if_icmp .ne 7, 3) := by decide +kernel
theorem dX9_splits_63 : decode cX9_splits 63 = .ok (.iconst 0, 1) := by decide +kernel
theorem dX9_splits_64 : decode cX9_splits 64 = .ok (.goto 4, 3) := by decide +kernel
theorem dX9_splits_67 : decode cX9_splits 67 = .ok (.iconst 1, 1) := by decide +kernel
theorem dX9_splits_68 : decode cX9_splits 68 = .ok (.istore 6, 2) := by decide +kernel
theorem dX9_splits_70 : decode cX9_splits 70 = .ok (.iload 6, 2) := by decide +kernel
theorem dX9_splits_72 : decode cX9_splits 72 = .ok (.iload 5, 2) := by decide +kernel
theorem dX9_splits_74 : decode cX9_splits 74 = .ok (.if_icmp .ge 157, 3) := by decide +kernel
theorem dX9_splits_77 : decode cX9_splits 77 = .ok (.iload 6, 2) := by decide +kernel
theorem dX9_splits_79 : decode cX9_splits 79 = .ok (.invokestatic 230, 3) := by decide +kernel
theorem dX9_splits_82 : decode cX9_splits 82 = .ok (.iload_n 1, 1) := by decide +kernel
theorem dX9_splits_83 : decode cX9_splits 83 = .ok (.if_icmp .gt 142, 3) := by decide +kernel
theorem dX9_splits_86 : decode cX9_splits 86 = .ok (.aload_n 0, 1) := by decide +kernel
theorem dX9_splits_87 : decode cX9_splits 87 = .ok (.iload 4, 2) := by decide +kernel
theorem dX9_splits_89 : decode cX9_splits 89 = .ok (.iload 6, 2) := by decide +kernel
theorem dX9_splits_91 : decode cX9_splits 91 = .ok (.invokevirtual 233, 3) := by decide +kernel
theorem dX9_splits_94 : decode cX9_splits 94 = .ok (.ifCond .ne 6, 3) := by decide +kernel
theorem dX9_splits_97 : decode cX9_splits 97 = .ok (.goto 128, 3) := by decide +kernel
theorem dX9_splits_100 : decode cX9_splits 100 = .ok (.aload_n 0, 1) := by decide +kernel
theorem dX9_splits_101 : decode cX9_splits 101 = .ok (.iload 4, 2) := by decide +kernel
theorem dX9_splits_103 : decode cX9_splits 103 = .ok (.iload_n 3, 1) := by decide +kernel
theorem dX9_splits_104 : decode cX9_splits 104 = .ok (.iload 6, 2) := by decide +kernel
theorem dX9_splits_106 : decode cX9_splits 106 = .ok (.invokevirtual 236, 3) := by decide +kernel
theorem dX9_splits_109 : decode cX9_splits 109 = .ok (.istore 7, 2) := by decide +kernel
theorem dX9_splits_111 : decode cX9_splits 111 = .ok (.iload 7, 2) := by decide +kernel
theorem dX9_splits_113 : decode cX9_splits 113 = .ok (.iconst (-1), 1) := by decide +kernel
theorem dX9_splits_114 : decode cX9_splits 114 = .ok (.if_icmp .ne 6, 3) := by decide +kernel
theorem dX9_splits_117 : decode cX9_splits 117 = .ok (.goto 108, 3) := by decide +kernel
theorem dX9_splits_120 : decode cX9_splits 120 = .ok (.aload_n 0, 1) := by decide +kernel
theorem dX9_splits_121 : decode cX9_splits 121 = .ok (.getfield 51, 3) := by decide +kernel
theorem dX9_splits_124 : decode cX9_splits 124 = .ok (.iload 4, 2) := by decide +kernel
theorem dX9_splits_126 : decode cX9_splits 126 = .ok (.iaload, 1) := by decide +kernel
theorem dX9_splits_127 : decode cX9_splits 127 = .ok (.iload 7, 2) := by decide +kernel
theorem dX9_splits_129 : decode cX9_splits 129 = .ok (.iadd, 1) := by decide +kernel
theorem dX9_splits_130 : decode cX9_splits 130 = .ok (.istore 8, 2) := by decide +kernel
theorem dX9_splits_132 : decode cX9_splits 132 = .ok (.aload_n 0, 1) := by decide +kernel
theorem dX9_splits_133 : decode cX9_splits 133 = .ok (.getfield 54, 3) := by decide +kernel
theorem dX9_splits_136 : decode cX9_splits 136 = .ok (.iload 4, 2) := by decide +kernel
theorem dX9_splits_138 : decode cX9_splits 138 = .ok (.iaload, 1) := by decide +kernel
theorem dX9_splits_139 : decode cX9_splits 139 = .ok (.iload 6, 2) := by decide +kernel
theorem dX9_splits_141 : decode cX9_splits 141 = .ok (.invokestatic 230, 3) := by decide +kernel
theorem dX9_splits_144 : decode cX9_splits 144 = .ok (.iadd, 1) := by decide +kernel
theorem dX9_splits_145 : decode cX9_splits 145 = .ok (.istore 9, 2) := by decide +kernel
theorem dX9_splits_147 : decode cX9_splits 147 = .ok (.aload_n 0, 1) := by decide +kernel
theorem dX9_splits_148 : decode cX9_splits 148 = .ok (.getfield 51, 3) := by decide +kernel
theorem dX9_splits_151 : decode cX9_splits 151 = .ok (.iload_n 3, 1) := by decide +kernel
theorem dX9_splits_152 : decode cX9_splits 152 = .ok (.iaload, 1) := by decide +kernel
theorem dX9_splits_153 : decode cX9_splits 153 = .ok (.iconst (-1), 1) := by decide +kernel
theorem dX9_splits_154 : decode cX9_splits 154 = .ok (.if_icmp .eq 39, 3) := by decide +kernel
theorem dX9_splits_157 : decode cX9_splits 157 = .ok (.iload 8, 2) := by decide +kernel
theorem dX9_splits_159 : decode cX9_splits 159 = .ok (.aload_n 0, 1) := by decide +kernel
theorem dX9_splits_160 : decode cX9_splits 160 = .ok (.getfield 51, 3) := by decide +kernel
theorem dX9_splits_163 : decode cX9_splits 163 = .ok (.iload_n 3, 1) := by decide +kernel
theorem dX9_splits_164 : decode cX9_splits 164 = .ok (.iaload, 1) := by decide +kernel
theorem dX9_splits_165 : decode cX9_splits 165 = .ok (.if_icmp .gt 60, 3) := by decide +kernel
theorem dX9_splits_168 : decode cX9_splits 168 = .ok (.iload 8, 2) := by decide +kernel
theorem dX9_splits_170 : decode cX9_splits 170 = .ok (.aload_n 0, 1) := by decide +kernel
theorem dX9_splits_171 : decode cX9_splits 171 = .ok (.getfield 51, 3) := by decide +kernel
theorem dX9_splits_174 : decode cX9_splits 174 = .ok (.iload_n 3, 1) := by decide +kernel
theorem dX9_splits_175 : decode cX9_splits 175 = .ok (.iaload, 1) := by decide +kernel
theorem dX9_splits_176 : decode cX9_splits 176 = .ok (.if_icmp .ne 17, 3) := by decide +kernel
theorem dX9_splits_179 : decode cX9_splits 179 = .ok (.iload 9, 2) := by decide +kernel
theorem dX9_splits_181 : decode cX9_splits 181 = .ok (.aload_n 0, 1) := by decide +kernel
theorem dX9_splits_182 : decode cX9_splits 182 = .ok (.getfield 54, 3) := by decide +kernel
theorem dX9_splits_185 : decode cX9_splits 185 = .ok (.iload_n 3, 1) := by decide +kernel
theorem dX9_splits_186 : decode cX9_splits 186 = .ok (.iaload, 1) := by decide +kernel
theorem dX9_splits_187 : decode cX9_splits 187 = .ok (.if_icmp .lt 6, 3) := by decide +kernel
theorem dX9_splits_190 : decode cX9_splits 190 = .ok (.goto 35, 3) := by decide +kernel
theorem dX9_splits_193 : decode cX9_splits 193 = .ok (.aload_n 0, 1) := by decide +kernel
theorem dX9_splits_194 : decode cX9_splits 194 = .ok (.getfield 51, 3) := by decide +kernel
theorem dX9_splits_197 : decode cX9_splits 197 = .ok (.iload_n 3, 1) := by decide +kernel
theorem dX9_splits_198 : decode cX9_splits 198 = .ok (.iload 8, 2) := by decide +kernel
theorem dX9_splits_200 : decode cX9_splits 200 = .ok (.iastore, 1) := by decide +kernel
theorem dX9_splits_201 : decode cX9_splits 201 = .ok (.aload_n 0, 1) := by decide +kernel
theorem dX9_splits_202 : decode cX9_splits 202 = .ok (.getfield 54, 3) := by decide +kernel
theorem dX9_splits_205 : decode cX9_splits 205 = .ok (.iload_n 3, 1) := by decide +kernel
theorem dX9_splits_206 : decode cX9_splits 206 = .ok (.iload 9, 2) := by decide +kernel
theorem dX9_splits_208 : decode cX9_splits 208 = .ok (.iastore, 1) := by decide +kernel
theorem dX9_splits_209 : decode cX9_splits 209 = .ok (.aload_n 0, 1) := by decide +kernel
theorem dX9_splits_210 : decode cX9_splits 210 = .ok (.getfield 57, 3) := by decide +kernel
theorem dX9_splits_213 : decode cX9_splits 213 = .ok (.iload_n 3, 1) := by decide +kernel
theorem dX9_splits_214 : decode cX9_splits 214 = .ok (.iload 4, 2) := by decide +kernel
theorem dX9_splits_216 : decode cX9_splits 216 = .ok (.iastore, 1) := by decide +kernel
theorem dX9_splits_217 : decode cX9_splits 217 = .ok (.aload_n 0, 1) := by decide +kernel
theorem dX9_splits_218 : decode cX9_splits 218 = .ok (.getfield 60, 3) := by decide +kernel
theorem dX9_splits_221 : decode cX9_splits 221 = .ok (.iload_n 3, 1) := by decide +kernel
theorem dX9_splits_222 : decode cX9_splits 222 = .ok (.iload 6, 2) := by decide +kernel
theorem dX9_splits_224 : decode cX9_splits 224 = .ok (.iastore, 1) := by decide +kernel
theorem dX9_splits_225 : decode cX9_splits 225 = .ok (.iinc 6 1, 3) := by decide +kernel
theorem dX9_splits_228 : decode cX9_splits 228 = .ok (.goto (-158), 3) := by decide +kernel
theorem dX9_splits_231 : decode cX9_splits 231 = .ok (.iinc 4 (-1), 3) := by decide +kernel
theorem dX9_splits_234 : decode cX9_splits 234 = .ok (.goto (-194), 3) := by decide +kernel
theorem dX9_splits_237 : decode cX9_splits 237 = .ok (.iinc 3 1, 3) := by decide +kernel
theorem dX9_splits_240 : decode cX9_splits 240 = .ok (.goto (-219), 3) := by decide +kernel
theorem dX9_splits_243 : decode cX9_splits 243 = .ok (.aload_n 0, 1) := by decide +kernel
theorem dX9_splits_244 : decode cX9_splits 244 = .ok (.getfield 51, 3) := by decide +kernel
theorem dX9_splits_247 : decode cX9_splits 247 = .ok (.iload_n 2, 1) := by decide +kernel
theorem dX9_splits_248 : decode cX9_splits 248 = .ok (.iconst 1, 1) := by decide +kernel
theorem dX9_splits_249 : decode cX9_splits 249 = .ok (.iadd, 1) := by decide +kernel
theorem dX9_splits_250 : decode cX9_splits 250 = .ok (.iaload, 1) := by decide +kernel
theorem dX9_splits_251 : decode cX9_splits 251 = .ok (.ireturn, 1) := by decide +kernel
def pX9_splits_L70 (x1 : Int32) (x2 : Int32) (x3 : Int32) (x4 : Int32) (x5 : Int32) (s : Int32 × Mm) : Option ((Int32 × Mm) ⊕ (Mm)) :=
if x5 ≤ s.1 then
(some (Sum.inr s.2))
else
((pX9_bits s.1).bind fun v14 =>
if x1 < v14 then
(some (Sum.inl (s.1 + 1, s.2)))
else
((pX9_isLightSet x4 s.1 s.2).bind fun v16 =>
if v16 = 0 then
(some (Sum.inl (s.1 + 1, s.2)))
else
((pX9_lasts x4 x3 s.1 s.2).bind fun v18 =>
bnd (v18.1) fun v20 =>
if v20 = (-1) then
(some (Sum.inl (s.1 + 1, v18.2)))
else
((ald v18.2 14 10 x4).bind fun v21 =>
bnd (v21 + v20) fun v23 =>
(ald v18.2 15 10 x4).bind fun v24 =>
(pX9_bits s.1).bind fun v26 =>
bnd (v24 + v26) fun v28 =>
(ald v18.2 14 10 x3).bind fun v29 =>
Option.bind (α := (Int32) ⊕ ((Int32 × Mm) ⊕ (Mm))) (if v29 = (-1) then
(some (Sum.inl s.1))
else
((ald v18.2 14 10 x3).bind fun v42 =>
if v42 < v23 then
(some (Sum.inr (Sum.inl (s.1 + 1, v18.2))))
else
((ald v18.2 14 10 x3).bind fun v45 =>
if v23 = v45 then
((ald v18.2 15 10 x3).bind fun v47 =>
if v28 < v47 then
(some (Sum.inl s.1))
else
(some (Sum.inr (Sum.inl (s.1 + 1, v18.2)))))
else
(some (Sum.inl s.1))))) fun j31 =>
Sum.elim (fun yj31 =>
(ast v18.2 14 10 x3 v23).bind fun M34 =>
(ast M34 15 10 x3 v28).bind fun M36 =>
(ast M36 16 10 x3 x4).bind fun M38 =>
(ast M38 17 10 x3 yj31).bind fun M40 =>
some (Sum.inl (yj31 + 1, M40))) (fun r => some r) j31))))
def pX9_splits_L40 (x1 : Int32) (x2 : Int32) (x3 : Int32) (s : Int32 × Mm) : Option ((Int32 × Mm) ⊕ (Mm)) :=
if s.1 < 0 then
(some (Sum.inr s.2))
else
(bnd (1 <<< (((x3 - s.1) - 1) &&& 31)) fun v10 =>
bnd (α := Int32) (if s.1 = (x3 - 1) then
(0)
else
(1)) fun j11 =>
(itr (pX9_splits_L70 x1 x2 x3 s.1 v10) fuel (j11, s.2)).bind fun x50 =>
some (Sum.inl (s.1 + (-1), x50)))
def pX9_splits_L21 (x1 : Int32) (x2 : Int32) (s : Int32 × Mm) : Option ((Int32 × Mm) ⊕ (Mm)) :=
if (x2 + 1) < s.1 then
(some (Sum.inr s.2))
else
((ast s.2 14 10 s.1 (-1)).bind fun M7 =>
bnd (s.1 - 1) fun v9 =>
(itr (pX9_splits_L40 x1 x2 s.1) fuel (v9, M7)).bind fun x93 =>
some (Sum.inl (s.1 + 1, x93)))
def pX9_splits (x1 : Int32) (M : Mm) : Option (Int32 × Mm) :=
(pX9_customers M).bind fun v1 =>
(ast M 14 10 0 0).bind fun M3 =>
(ast M3 15 10 0 0).bind fun M5 =>
(itr (pX9_splits_L21 x1 v1) fuel (1, M5)).bind fun x147 =>
(ald x147 14 10 (v1 + 1)).bind fun v211 =>
some (v211, x147)
abbrev zX9_splits : Zx := (cX9_splits, RX9, 10, 3, (some .int))
set_option maxRecDepth 100000 in
set_option maxHeartbeats 4000000 in
theorem tX9_splits {l : Launch} {Y : Sx} {M : Mm} {x1 : Int32} {q : Int32 × Mm} (hY : isB Y) (h : pX9_splits x1 M = some q) : Ct l Y yX9_splits cX9_splits 10 (some .int) 3 [.ref (adr Y 0), .int x1] M (some q.1) q.2 := by
  refine Ct.of (by decide) rfl (lv := [(0, .ref (adr Y 0)), (1, .int x1)]) rfl ?_
  intro K hkl C
  change Cx K zX9_splits Y at C
  subst hkl
  unfold pX9_splits at h
  show Wp K zX9_splits Y (Qm K Y (some q.1) q.2) M 0 [(0, .ref (adr Y 0)), (1, .int x1)] []
  refine w_aload_n C (pc := 0) dX9_splits_0 0 rfl ?_
  obtain ⟨v1, e2, h⟩ := ob h
  refine w_cVi C (pc := 1) dX9_splits_1 my_X9_customers mi_X9_customers ml_X9_74 (sB_0 hY) rfl rfl rfl [] rfl rfl (Nat.le_of_ble_eq_true rfl) (tX9_customers hY  e2) ?_
  refine w_istore_n C (pc := 4) dX9_splits_4 (lv' := [(0, .ref (adr Y 0)), (1, .int x1), (2, .int v1)]) rfl rfl rfl ?_
  refine w_aload_n C (pc := 5) dX9_splits_5 0 rfl ?_
  refine w_getR C (pc := 6) dX9_splits_6 f_X9_51 (sB_0 hY) rfl ?_
  refine w_iconst C (pc := 9) dX9_splits_9 (v := 0) (by decide) ?_
  refine w_iconst C (pc := 10) dX9_splits_10 (v := 0) (by decide) ?_
  obtain ⟨M3, e4, h⟩ := ob h
  refine w_iast C (pc := 11) dX9_splits_11 (sB_14 hY) e4 ?_
  refine w_aload_n C (pc := 12) dX9_splits_12 0 rfl ?_
  refine w_getR C (pc := 13) dX9_splits_13 f_X9_54 (sB_0 hY) rfl ?_
  refine w_iconst C (pc := 16) dX9_splits_16 (v := 0) (by decide) ?_
  refine w_iconst C (pc := 17) dX9_splits_17 (v := 0) (by decide) ?_
  obtain ⟨M5, e6, h⟩ := ob h
  refine w_iast C (pc := 18) dX9_splits_18 (sB_15 hY) e6 ?_
  refine w_iconst C (pc := 19) dX9_splits_19 (v := 1) (by decide) ?_
  refine w_istore_n C (pc := 20) dX9_splits_20 (lv' := [(0, .ref (adr Y 0)), (1, .int x1), (2, .int v1), (3, .int 1)]) rfl rfl rfl ?_
  obtain ⟨x147, e148, h⟩ := ob h
  refine itr_W (P := fun s149 => Wp K zX9_splits Y (Qm K Y (some q.1) q.2) s149.2 21 [(0, .ref (adr Y 0)), (1, .int x1), (2, .int v1), (3, .int s149.1)] []) (R := fun x147 => Wp K zX9_splits Y (Qm K Y (some q.1) q.2) x147 243 [(0, .ref (adr Y 0)), (1, .int x1), (2, .int v1)] []) ?_ fuel (1, M5) x147 e148 ?_
  · intro s149 r150 h153 ki151 kx152
    unfold pX9_splits_L21 at h153
    show Wp K zX9_splits Y (Qm K Y (some q.1) q.2) s149.2 21 [(0, .ref (adr Y 0)), (1, .int x1), (2, .int v1), (3, .int s149.1)] []
    refine w_iload_n C (pc := 21) dX9_splits_21 3 rfl ?_
    refine w_iload_n C (pc := 22) dX9_splits_22 2 rfl ?_
    refine w_iconst C (pc := 23) dX9_splits_23 (v := 1) (by decide) ?_
    refine w_iadd C (pc := 24) dX9_splits_24 ?_
    refine w_icgt C (pc := 25) 243 dX9_splits_25 (by decide) (fun c => ?_) (fun c => ?_)
    · have h153 := it_t h153 c
      obtain rfl := Option.some.inj h153
      refine w_lv [0, 1, 2] rfl ?_
      have k9 := kx152 s149.2 rfl
      try dsimp only at k9
      exact k9
    · have h153 := it_f h153 c
      refine w_aload_n C (pc := 28) dX9_splits_28 0 rfl ?_
      refine w_getR C (pc := 29) dX9_splits_29 f_X9_51 (sB_0 hY) rfl ?_
      refine w_iload_n C (pc := 32) dX9_splits_32 3 rfl ?_
      refine w_iconst C (pc := 33) dX9_splits_33 (v := (-1)) (by decide) ?_
      obtain ⟨M154, e155, h153⟩ := ob h153
      refine w_iast C (pc := 34) dX9_splits_34 (sB_14 hY) e155 ?_
      refine w_iload_n C (pc := 35) dX9_splits_35 3 rfl ?_
      refine w_iconst C (pc := 36) dX9_splits_36 (v := 1) (by decide) ?_
      refine w_isub C (pc := 37) dX9_splits_37 ?_
      refine w_bnd h153 (fun v156 h153 => ?_)
      refine w_istore C (pc := 38) dX9_splits_38 (lv' := [(0, .ref (adr Y 0)), (1, .int x1), (2, .int v1), (3, .int s149.1), (4, .int v156)]) rfl rfl rfl ?_
      obtain ⟨x157, e158, h153⟩ := ob h153
      refine itr_W (P := fun s159 => Wp K zX9_splits Y (Qm K Y (some q.1) q.2) s159.2 40 [(0, .ref (adr Y 0)), (1, .int x1), (2, .int v1), (3, .int s149.1), (4, .int s159.1)] []) (R := fun x157 => Wp K zX9_splits Y (Qm K Y (some q.1) q.2) x157 237 [(0, .ref (adr Y 0)), (1, .int x1), (2, .int v1), (3, .int s149.1)] []) ?_ fuel (v156, M154) x157 e158 ?_
      · intro s159 r160 h163 ki161 kx162
        unfold pX9_splits_L40 at h163
        show Wp K zX9_splits Y (Qm K Y (some q.1) q.2) s159.2 40 [(0, .ref (adr Y 0)), (1, .int x1), (2, .int v1), (3, .int s149.1), (4, .int s159.1)] []
        refine w_iload C (pc := 40) dX9_splits_40 4 rfl ?_
        refine w_iflt C (pc := 42) 237 dX9_splits_42 (by decide) (fun c => ?_) (fun c => ?_)
        · have h163 := it_t h163 c
          obtain rfl := Option.some.inj h163
          refine w_lv [0, 1, 2, 3] rfl ?_
          have k9 := kx162 s159.2 rfl
          try dsimp only at k9
          exact k9
        · have h163 := it_f h163 c
          refine w_iconst C (pc := 45) dX9_splits_45 (v := 1) (by decide) ?_
          refine w_iload_n C (pc := 46) dX9_splits_46 3 rfl ?_
          refine w_iload C (pc := 47) dX9_splits_47 4 rfl ?_
          refine w_isub C (pc := 49) dX9_splits_49 ?_
          refine w_iconst C (pc := 50) dX9_splits_50 (v := 1) (by decide) ?_
          refine w_isub C (pc := 51) dX9_splits_51 ?_
          refine w_ishl C (pc := 52) dX9_splits_52 ?_
          refine w_bnd h163 (fun v164 h163 => ?_)
          refine w_istore C (pc := 53) dX9_splits_53 (lv' := [(0, .ref (adr Y 0)), (1, .int x1), (2, .int v1), (3, .int s149.1), (4, .int s159.1), (5, .int v164)]) rfl rfl rfl ?_
          refine w_iload C (pc := 55) dX9_splits_55 4 rfl ?_
          refine w_iload_n C (pc := 57) dX9_splits_57 3 rfl ?_
          refine w_iconst C (pc := 58) dX9_splits_58 (v := 1) (by decide) ?_
          refine w_isub C (pc := 59) dX9_splits_59 ?_
          obtain ⟨j165, e166, h167⟩ := bn h163
          have Jj165 : Wp K zX9_splits Y (Qm K Y (some q.1) q.2) s159.2 68 [(0, .ref (adr Y 0)), (1, .int x1), (2, .int v1), (3, .int s149.1), (4, .int s159.1), (5, .int v164)] [.int j165] := by
            refine w_istore C (pc := 68) dX9_splits_68 (lv' := [(0, .ref (adr Y 0)), (1, .int x1), (2, .int v1), (3, .int s149.1), (4, .int s159.1), (5, .int v164), (6, .int j165)]) rfl rfl rfl ?_
            obtain ⟨x168, e169, h167⟩ := ob h167
            refine itr_W (P := fun s170 => Wp K zX9_splits Y (Qm K Y (some q.1) q.2) s170.2 70 [(0, .ref (adr Y 0)), (1, .int x1), (2, .int v1), (3, .int s149.1), (4, .int s159.1), (5, .int v164), (6, .int s170.1)] []) (R := fun x168 => Wp K zX9_splits Y (Qm K Y (some q.1) q.2) x168 231 [(0, .ref (adr Y 0)), (1, .int x1), (2, .int v1), (3, .int s149.1), (4, .int s159.1), (5, .int v164)] []) ?_ fuel (j165, s159.2) x168 e169 ?_
            · intro s170 r171 h174 ki172 kx173
              unfold pX9_splits_L70 at h174
              show Wp K zX9_splits Y (Qm K Y (some q.1) q.2) s170.2 70 [(0, .ref (adr Y 0)), (1, .int x1), (2, .int v1), (3, .int s149.1), (4, .int s159.1), (5, .int v164), (6, .int s170.1)] []
              refine w_iload C (pc := 70) dX9_splits_70 6 rfl ?_
              refine w_iload C (pc := 72) dX9_splits_72 5 rfl ?_
              refine w_icge C (pc := 74) 231 dX9_splits_74 (by decide) (fun c => ?_) (fun c => ?_)
              · have h174 := it_t h174 c
                obtain rfl := Option.some.inj h174
                refine w_lv [0, 1, 2, 3, 4, 5] rfl ?_
                have k9 := kx173 s170.2 rfl
                try dsimp only at k9
                exact k9
              · have h174 := it_f h174 c
                refine w_iload C (pc := 77) dX9_splits_77 6 rfl ?_
                obtain ⟨v175, e176, h174⟩ := ob h174
                refine w_cSi C (pc := 79) dX9_splits_79 my_X9_bits ms_X9_bits ml_X9_230 rfl rfl [.int s170.1] rfl rfl (Nat.le_of_ble_eq_true rfl) (tX9_bits  e176) ?_
                refine w_iload_n C (pc := 82) dX9_splits_82 1 rfl ?_
                refine w_icgt C (pc := 83) 225 dX9_splits_83 (by decide) (fun c => ?_) (fun c => ?_)
                · have h174 := it_t h174 c
                  refine w_iinc C (pc := 225) dX9_splits_225 6 rfl (v := 1) (lv' := [(0, .ref (adr Y 0)), (1, .int x1), (2, .int v1), (3, .int s149.1), (4, .int s159.1), (5, .int v164), (6, .int (s170.1 + 1))]) (by decide) rfl rfl rfl ?_
                  refine w_goto C (pc := 228) 70 dX9_splits_228 (by decide) ?_
                  obtain rfl := Option.some.inj h174
                  have k9 := ki172 (s170.1 + 1, s170.2) rfl
                  try dsimp only at k9
                  exact k9
                · have h174 := it_f h174 c
                  refine w_aload_n C (pc := 86) dX9_splits_86 0 rfl ?_
                  refine w_iload C (pc := 87) dX9_splits_87 4 rfl ?_
                  refine w_iload C (pc := 89) dX9_splits_89 6 rfl ?_
                  obtain ⟨v177, e178, h174⟩ := ob h174
                  refine w_cVi C (pc := 91) dX9_splits_91 my_X9_isLightSet mi_X9_isLightSet ml_X9_233 (sB_0 hY) rfl rfl rfl [.int s159.1, .int s170.1] rfl rfl (Nat.le_of_ble_eq_true rfl) (tX9_isLightSet hY  e178) ?_
                  refine w_ifne C (pc := 94) 100 dX9_splits_94 (by decide) (fun c => ?_) (fun c => ?_)
                  · have h174 := it_t h174 c
                    refine w_goto C (pc := 97) 225 dX9_splits_97 (by decide) ?_
                    refine w_iinc C (pc := 225) dX9_splits_225 6 rfl (v := 1) (lv' := [(0, .ref (adr Y 0)), (1, .int x1), (2, .int v1), (3, .int s149.1), (4, .int s159.1), (5, .int v164), (6, .int (s170.1 + 1))]) (by decide) rfl rfl rfl ?_
                    refine w_goto C (pc := 228) 70 dX9_splits_228 (by decide) ?_
                    obtain rfl := Option.some.inj h174
                    have k9 := ki172 (s170.1 + 1, s170.2) rfl
                    try dsimp only at k9
                    exact k9
                  · have h174 := it_f h174 c
                    refine w_aload_n C (pc := 100) dX9_splits_100 0 rfl ?_
                    refine w_iload C (pc := 101) dX9_splits_101 4 rfl ?_
                    refine w_iload_n C (pc := 103) dX9_splits_103 3 rfl ?_
                    refine w_iload C (pc := 104) dX9_splits_104 6 rfl ?_
                    obtain ⟨v179, e180, h174⟩ := ob h174
                    refine w_cVi C (pc := 106) dX9_splits_106 my_X9_lasts mi_X9_lasts ml_X9_236 (sB_0 hY) rfl rfl rfl [.int s159.1, .int s149.1, .int s170.1] rfl rfl (Nat.le_of_ble_eq_true rfl) (tX9_lasts hY  e180) ?_
                    refine w_bnd h174 (fun v181 h174 => ?_)
                    refine w_istore C (pc := 109) dX9_splits_109 (lv' := [(0, .ref (adr Y 0)), (1, .int x1), (2, .int v1), (3, .int s149.1), (4, .int s159.1), (5, .int v164), (6, .int s170.1), (7, .int v181)]) rfl rfl rfl ?_
                    refine w_iload C (pc := 111) dX9_splits_111 7 rfl ?_
                    refine w_iconst C (pc := 113) dX9_splits_113 (v := (-1)) (by decide) ?_
                    refine w_icne C (pc := 114) 120 dX9_splits_114 (by decide) (fun c => ?_) (fun c => ?_)
                    · have h174 := it_t h174 c
                      refine w_goto C (pc := 117) 225 dX9_splits_117 (by decide) ?_
                      refine w_iinc C (pc := 225) dX9_splits_225 6 rfl (v := 1) (lv' := [(0, .ref (adr Y 0)), (1, .int x1), (2, .int v1), (3, .int s149.1), (4, .int s159.1), (5, .int v164), (6, .int (s170.1 + 1)), (7, .int v181)]) (by decide) rfl rfl rfl ?_
                      refine w_goto C (pc := 228) 70 dX9_splits_228 (by decide) ?_
                      obtain rfl := Option.some.inj h174
                      refine w_lv [0, 1, 2, 3, 4, 5, 6] rfl ?_
                      have k9 := ki172 (s170.1 + 1, v179.2) rfl
                      try dsimp only at k9
                      exact k9
                    · have h174 := it_f h174 c
                      refine w_aload_n C (pc := 120) dX9_splits_120 0 rfl ?_
                      refine w_getR C (pc := 121) dX9_splits_121 f_X9_51 (sB_0 hY) rfl ?_
                      refine w_iload C (pc := 124) dX9_splits_124 4 rfl ?_
                      obtain ⟨v182, e183, h174⟩ := ob h174
                      refine w_iald C (pc := 126) dX9_splits_126 (sB_14 hY) e183 ?_
                      refine w_iload C (pc := 127) dX9_splits_127 7 rfl ?_
                      refine w_iadd C (pc := 129) dX9_splits_129 ?_
                      refine w_bnd h174 (fun v184 h174 => ?_)
                      refine w_istore C (pc := 130) dX9_splits_130 (lv' := [(0, .ref (adr Y 0)), (1, .int x1), (2, .int v1), (3, .int s149.1), (4, .int s159.1), (5, .int v164), (6, .int s170.1), (7, .int v181), (8, .int v184)]) rfl rfl rfl ?_
                      refine w_aload_n C (pc := 132) dX9_splits_132 0 rfl ?_
                      refine w_getR C (pc := 133) dX9_splits_133 f_X9_54 (sB_0 hY) rfl ?_
                      refine w_iload C (pc := 136) dX9_splits_136 4 rfl ?_
                      obtain ⟨v185, e186, h174⟩ := ob h174
                      refine w_iald C (pc := 138) dX9_splits_138 (sB_15 hY) e186 ?_
                      refine w_iload C (pc := 139) dX9_splits_139 6 rfl ?_
                      obtain ⟨v187, e188, h174⟩ := ob h174
                      refine w_cSi C (pc := 141) dX9_splits_141 my_X9_bits ms_X9_bits ml_X9_230 rfl rfl [.int s170.1] rfl rfl (Nat.le_of_ble_eq_true rfl) (tX9_bits  e188) ?_
                      refine w_iadd C (pc := 144) dX9_splits_144 ?_
                      refine w_bnd h174 (fun v189 h174 => ?_)
                      refine w_istore C (pc := 145) dX9_splits_145 (lv' := [(0, .ref (adr Y 0)), (1, .int x1), (2, .int v1), (3, .int s149.1), (4, .int s159.1), (5, .int v164), (6, .int s170.1), (7, .int v181), (8, .int v184), (9, .int v189)]) rfl rfl rfl ?_
                      refine w_aload_n C (pc := 147) dX9_splits_147 0 rfl ?_
                      refine w_getR C (pc := 148) dX9_splits_148 f_X9_51 (sB_0 hY) rfl ?_
                      refine w_iload_n C (pc := 151) dX9_splits_151 3 rfl ?_
                      obtain ⟨v190, e191, h174⟩ := ob h174
                      refine w_iald C (pc := 152) dX9_splits_152 (sB_14 hY) e191 ?_
                      refine w_iconst C (pc := 153) dX9_splits_153 (v := (-1)) (by decide) ?_
                      obtain ⟨j192, e193, h194⟩ := ob h174
                      have Jj192 : ∀ yj192, j192 = Sum.inl yj192 → Wp K zX9_splits Y (Qm K Y (some q.1) q.2) v179.2 193 [(0, .ref (adr Y 0)), (1, .int x1), (2, .int v1), (3, .int s149.1), (4, .int s159.1), (5, .int v164), (6, .int yj192), (7, .int v181), (8, .int v184), (9, .int v189)] [] := by
                        intro yj192 hj
                        subst hj
                        dsimp only [Sum.elim] at h194
                        refine w_aload_n C (pc := 193) dX9_splits_193 0 rfl ?_
                        refine w_getR C (pc := 194) dX9_splits_194 f_X9_51 (sB_0 hY) rfl ?_
                        refine w_iload_n C (pc := 197) dX9_splits_197 3 rfl ?_
                        refine w_iload C (pc := 198) dX9_splits_198 8 rfl ?_
                        obtain ⟨M195, e196, h194⟩ := ob h194
                        refine w_iast C (pc := 200) dX9_splits_200 (sB_14 hY) e196 ?_
                        refine w_aload_n C (pc := 201) dX9_splits_201 0 rfl ?_
                        refine w_getR C (pc := 202) dX9_splits_202 f_X9_54 (sB_0 hY) rfl ?_
                        refine w_iload_n C (pc := 205) dX9_splits_205 3 rfl ?_
                        refine w_iload C (pc := 206) dX9_splits_206 9 rfl ?_
                        obtain ⟨M197, e198, h194⟩ := ob h194
                        refine w_iast C (pc := 208) dX9_splits_208 (sB_15 hY) e198 ?_
                        refine w_aload_n C (pc := 209) dX9_splits_209 0 rfl ?_
                        refine w_getR C (pc := 210) dX9_splits_210 f_X9_57 (sB_0 hY) rfl ?_
                        refine w_iload_n C (pc := 213) dX9_splits_213 3 rfl ?_
                        refine w_iload C (pc := 214) dX9_splits_214 4 rfl ?_
                        obtain ⟨M199, e200, h194⟩ := ob h194
                        refine w_iast C (pc := 216) dX9_splits_216 (sB_16 hY) e200 ?_
                        refine w_aload_n C (pc := 217) dX9_splits_217 0 rfl ?_
                        refine w_getR C (pc := 218) dX9_splits_218 f_X9_60 (sB_0 hY) rfl ?_
                        refine w_iload_n C (pc := 221) dX9_splits_221 3 rfl ?_
                        refine w_iload C (pc := 222) dX9_splits_222 6 rfl ?_
                        obtain ⟨M201, e202, h194⟩ := ob h194
                        refine w_iast C (pc := 224) dX9_splits_224 (sB_17 hY) e202 ?_
                        refine w_iinc C (pc := 225) dX9_splits_225 6 rfl (v := 1) (lv' := [(0, .ref (adr Y 0)), (1, .int x1), (2, .int v1), (3, .int s149.1), (4, .int s159.1), (5, .int v164), (6, .int (yj192 + 1)), (7, .int v181), (8, .int v184), (9, .int v189)]) (by decide) rfl rfl rfl ?_
                        refine w_goto C (pc := 228) 70 dX9_splits_228 (by decide) ?_
                        obtain rfl := Option.some.inj h194
                        refine w_lv [0, 1, 2, 3, 4, 5, 6] rfl ?_
                        have k9 := ki172 (yj192 + 1, M201) rfl
                        try dsimp only at k9
                        exact k9
                      refine w_iceq C (pc := 154) 193 dX9_splits_154 (by decide) (fun c => ?_) (fun c => ?_)
                      · have e193 := it_t e193 c
                        obtain rfl := Option.some.inj e193
                        have k9 := Jj192 s170.1 rfl
                        try dsimp only at k9
                        exact k9
                      · have e193 := it_f e193 c
                        refine w_iload C (pc := 157) dX9_splits_157 8 rfl ?_
                        refine w_aload_n C (pc := 159) dX9_splits_159 0 rfl ?_
                        refine w_getR C (pc := 160) dX9_splits_160 f_X9_51 (sB_0 hY) rfl ?_
                        refine w_iload_n C (pc := 163) dX9_splits_163 3 rfl ?_
                        obtain ⟨v203, e204, e193⟩ := ob e193
                        refine w_iald C (pc := 164) dX9_splits_164 (sB_14 hY) e204 ?_
                        refine w_icgt C (pc := 165) 225 dX9_splits_165 (by decide) (fun c => ?_) (fun c => ?_)
                        · have e193 := it_t e193 c
                          refine w_iinc C (pc := 225) dX9_splits_225 6 rfl (v := 1) (lv' := [(0, .ref (adr Y 0)), (1, .int x1), (2, .int v1), (3, .int s149.1), (4, .int s159.1), (5, .int v164), (6, .int (s170.1 + 1)), (7, .int v181), (8, .int v184), (9, .int v189)]) (by decide) rfl rfl rfl ?_
                          refine w_goto C (pc := 228) 70 dX9_splits_228 (by decide) ?_
                          obtain rfl := Option.some.inj e193
                          have h205 : some (Sum.inl (s170.1 + 1, v179.2)) = some r171 := h194
                          obtain rfl := Option.some.inj h205
                          refine w_lv [0, 1, 2, 3, 4, 5, 6] rfl ?_
                          have k9 := ki172 (s170.1 + 1, v179.2) rfl
                          try dsimp only at k9
                          exact k9
                        · have e193 := it_f e193 c
                          refine w_iload C (pc := 168) dX9_splits_168 8 rfl ?_
                          refine w_aload_n C (pc := 170) dX9_splits_170 0 rfl ?_
                          refine w_getR C (pc := 171) dX9_splits_171 f_X9_51 (sB_0 hY) rfl ?_
                          refine w_iload_n C (pc := 174) dX9_splits_174 3 rfl ?_
                          obtain ⟨v206, e207, e193⟩ := ob e193
                          refine w_iald C (pc := 175) dX9_splits_175 (sB_14 hY) e207 ?_
                          refine w_icne C (pc := 176) 193 dX9_splits_176 (by decide) (fun c => ?_) (fun c => ?_)
                          · have e193 := it_t e193 c
                            refine w_iload C (pc := 179) dX9_splits_179 9 rfl ?_
                            refine w_aload_n C (pc := 181) dX9_splits_181 0 rfl ?_
                            refine w_getR C (pc := 182) dX9_splits_182 f_X9_54 (sB_0 hY) rfl ?_
                            refine w_iload_n C (pc := 185) dX9_splits_185 3 rfl ?_
                            obtain ⟨v208, e209, e193⟩ := ob e193
                            refine w_iald C (pc := 186) dX9_splits_186 (sB_15 hY) e209 ?_
                            refine w_iclt C (pc := 187) 193 dX9_splits_187 (by decide) (fun c => ?_) (fun c => ?_)
                            · have e193 := it_t e193 c
                              obtain rfl := Option.some.inj e193
                              have k9 := Jj192 s170.1 rfl
                              try dsimp only at k9
                              exact k9
                            · have e193 := it_f e193 c
                              refine w_goto C (pc := 190) 225 dX9_splits_190 (by decide) ?_
                              refine w_iinc C (pc := 225) dX9_splits_225 6 rfl (v := 1) (lv' := [(0, .ref (adr Y 0)), (1, .int x1), (2, .int v1), (3, .int s149.1), (4, .int s159.1), (5, .int v164), (6, .int (s170.1 + 1)), (7, .int v181), (8, .int v184), (9, .int v189)]) (by decide) rfl rfl rfl ?_
                              refine w_goto C (pc := 228) 70 dX9_splits_228 (by decide) ?_
                              obtain rfl := Option.some.inj e193
                              have h210 : some (Sum.inl (s170.1 + 1, v179.2)) = some r171 := h194
                              obtain rfl := Option.some.inj h210
                              refine w_lv [0, 1, 2, 3, 4, 5, 6] rfl ?_
                              have k9 := ki172 (s170.1 + 1, v179.2) rfl
                              try dsimp only at k9
                              exact k9
                          · have e193 := it_f e193 c
                            obtain rfl := Option.some.inj e193
                            have k9 := Jj192 s170.1 rfl
                            try dsimp only at k9
                            exact k9
            · refine w_iinc C (pc := 231) dX9_splits_231 4 rfl (v := (-1)) (lv' := [(0, .ref (adr Y 0)), (1, .int x1), (2, .int v1), (3, .int s149.1), (4, .int (s159.1 + (-1))), (5, .int v164)]) (by decide) rfl rfl rfl ?_
              refine w_goto C (pc := 234) 40 dX9_splits_234 (by decide) ?_
              obtain rfl := Option.some.inj h167
              refine w_lv [0, 1, 2, 3, 4] rfl ?_
              have k9 := ki161 (s159.1 + (-1), x168) rfl
              try dsimp only at k9
              exact k9
          refine w_icne C (pc := 60) 67 dX9_splits_60 (by decide) (fun c => ?_) (fun c => ?_)
          · have e166 := it_t e166 c
            refine w_iconst C (pc := 63) dX9_splits_63 (v := 0) (by decide) ?_
            refine w_goto C (pc := 64) 68 dX9_splits_64 (by decide) ?_
            obtain rfl := e166
            exact Jj165
          · have e166 := it_f e166 c
            refine w_iconst C (pc := 67) dX9_splits_67 (v := 1) (by decide) ?_
            obtain rfl := e166
            exact Jj165
      · refine w_iinc C (pc := 237) dX9_splits_237 3 rfl (v := 1) (lv' := [(0, .ref (adr Y 0)), (1, .int x1), (2, .int v1), (3, .int (s149.1 + 1))]) (by decide) rfl rfl rfl ?_
        refine w_goto C (pc := 240) 21 dX9_splits_240 (by decide) ?_
        obtain rfl := Option.some.inj h153
        have k9 := ki151 (s149.1 + 1, x157) rfl
        try dsimp only at k9
        exact k9
  · refine w_aload_n C (pc := 243) dX9_splits_243 0 rfl ?_
    refine w_getR C (pc := 244) dX9_splits_244 f_X9_51 (sB_0 hY) rfl ?_
    refine w_iload_n C (pc := 247) dX9_splits_247 2 rfl ?_
    refine w_iconst C (pc := 248) dX9_splits_248 (v := 1) (by decide) ?_
    refine w_iadd C (pc := 249) dX9_splits_249 ?_
    obtain ⟨v211, e212, h⟩ := ob h
    refine w_iald C (pc := 250) dX9_splits_250 (sB_14 hY) e212 ?_
    exact w_ret C (pc := 251) dX9_splits_251 rfl (Option.some.inj h)
theorem dX9_told_0 : decode cX9_told 0 = .ok (.iconst 0, 1) := by decide +kernel
theorem dX9_told_1 : decode cX9_told 1 = .ok (.istore_n 1, 1) := by decide +kernel
theorem dX9_told_2 : decode cX9_told 2 = .ok (.iconst 1, 1) := by decide +kernel
theorem dX9_told_3 : decode cX9_told 3 = .ok (.istore_n 2, 1) := by decide +kernel
theorem dX9_told_4 : decode cX9_told 4 = .ok (.iload_n 2, 1) := by decide +kernel
theorem dX9_told_5 : decode cX9_told 5 = .ok (.aload_n 0, 1) := by decide +kernel
theorem dX9_told_6 : decode cX9_told 6 = .ok (.invokevirtual 74, 3) := by decide +kernel
theorem dX9_told_9 : decode cX9_told 9 = .ok (.if_icmp .gt 21, 3) := by decide +kernel
theorem dX9_told_12 : decode cX9_told 12 = .ok (.bipush 10, 2) := by decide +kernel
theorem dX9_told_14 : decode cX9_told 14 = .ok (.iload_n 1, 1) := by decide +kernel
theorem dX9_told_15 : decode cX9_told 15 = .ok (.imul, 1) := by decide +kernel
theorem dX9_told_16 : decode cX9_told 16 = .ok (.aload_n 0, 1) := by decide +kernel
theorem dX9_told_17 : decode cX9_told 17 = .ok (.getfield 48, 3) := by decide +kernel
theorem dX9_told_20 : decode cX9_told 20 = .ok (.iload_n 2, 1) := by decide +kernel
theorem dX9_told_21 : decode cX9_told 21 = .ok (.iaload, 1) := by decide +kernel
theorem dX9_told_22 : decode cX9_told 22 = .ok (.iadd, 1) := by decide +kernel
theorem dX9_told_23 : decode cX9_told 23 = .ok (.istore_n 1, 1) := by decide +kernel
theorem dX9_told_24 : decode cX9_told 24 = .ok (.iinc 2 1, 3) := by decide +kernel
theorem dX9_told_27 : decode cX9_told 27 = .ok (.goto (-23), 3) := by decide +kernel
theorem dX9_told_30 : decode cX9_told 30 = .ok (.iload_n 1, 1) := by decide +kernel
theorem dX9_told_31 : decode cX9_told 31 = .ok (.ireturn, 1) := by decide +kernel
def pX9_told_L4 (M : Mm) (s : Int32 × Int32) : Option ((Int32 × Int32) ⊕ (Int32)) :=
(pX9_customers M).bind fun v1 =>
if v1 < s.2 then
(some (Sum.inr s.1))
else
((ald M 13 10 s.2).bind fun v3 =>
bnd ((10 * s.1) + v3) fun v5 =>
some (Sum.inl (v5, s.2 + 1)))
def pX9_told (M : Mm) : Option (Int32) :=
(itr (pX9_told_L4 M) fuel (0, 1)).bind fun x6 =>
some x6
abbrev zX9_told : Zx := (cX9_told, RX9, 3, 1, (some .int))
set_option maxRecDepth 100000 in
set_option maxHeartbeats 4000000 in
theorem tX9_told {l : Launch} {Y : Sx} {M : Mm} {q : Int32} (hY : isB Y) (h : pX9_told M = some q) : Ct l Y yX9_told cX9_told 3 (some .int) 1 [.ref (adr Y 0)] M (some q) M := by
  refine Ct.of (by decide) rfl (lv := [(0, .ref (adr Y 0))]) rfl ?_
  intro K hkl C
  change Cx K zX9_told Y at C
  subst hkl
  unfold pX9_told at h
  show Wp K zX9_told Y (Qm K Y (some q) M) M 0 [(0, .ref (adr Y 0))] []
  refine w_iconst C (pc := 0) dX9_told_0 (v := 0) (by decide) ?_
  refine w_istore_n C (pc := 1) dX9_told_1 (lv' := [(0, .ref (adr Y 0)), (1, .int 0)]) rfl rfl rfl ?_
  refine w_iconst C (pc := 2) dX9_told_2 (v := 1) (by decide) ?_
  refine w_istore_n C (pc := 3) dX9_told_3 (lv' := [(0, .ref (adr Y 0)), (1, .int 0), (2, .int 1)]) rfl rfl rfl ?_
  obtain ⟨x6, e7, h⟩ := ob h
  refine itr_W (P := fun s8 => Wp K zX9_told Y (Qm K Y (some q) M) M 4 [(0, .ref (adr Y 0)), (1, .int s8.1), (2, .int s8.2)] []) (R := fun x6 => Wp K zX9_told Y (Qm K Y (some q) M) M 30 [(0, .ref (adr Y 0)), (1, .int x6)] []) ?_ fuel (0, 1) x6 e7 ?_
  · intro s8 r9 h12 ki10 kx11
    unfold pX9_told_L4 at h12
    show Wp K zX9_told Y (Qm K Y (some q) M) M 4 [(0, .ref (adr Y 0)), (1, .int s8.1), (2, .int s8.2)] []
    refine w_iload_n C (pc := 4) dX9_told_4 2 rfl ?_
    refine w_aload_n C (pc := 5) dX9_told_5 0 rfl ?_
    obtain ⟨v13, e14, h12⟩ := ob h12
    refine w_cVi C (pc := 6) dX9_told_6 my_X9_customers mi_X9_customers ml_X9_74 (sB_0 hY) rfl rfl rfl [] rfl rfl (Nat.le_of_ble_eq_true rfl) (tX9_customers hY  e14) ?_
    refine w_icgt C (pc := 9) 30 dX9_told_9 (by decide) (fun c => ?_) (fun c => ?_)
    · have h12 := it_t h12 c
      obtain rfl := Option.some.inj h12
      refine w_lv [0, 1] rfl ?_
      have k9 := kx11 s8.1 rfl
      try dsimp only at k9
      exact k9
    · have h12 := it_f h12 c
      refine w_bipush C (pc := 12) dX9_told_12 (v := 10) (by decide) ?_
      refine w_iload_n C (pc := 14) dX9_told_14 1 rfl ?_
      refine w_imul C (pc := 15) dX9_told_15 ?_
      refine w_aload_n C (pc := 16) dX9_told_16 0 rfl ?_
      refine w_getR C (pc := 17) dX9_told_17 f_X9_48 (sB_0 hY) rfl ?_
      refine w_iload_n C (pc := 20) dX9_told_20 2 rfl ?_
      obtain ⟨v15, e16, h12⟩ := ob h12
      refine w_iald C (pc := 21) dX9_told_21 (sB_13 hY) e16 ?_
      refine w_iadd C (pc := 22) dX9_told_22 ?_
      refine w_bnd h12 (fun v17 h12 => ?_)
      refine w_istore_n C (pc := 23) dX9_told_23 (lv' := [(0, .ref (adr Y 0)), (1, .int v17), (2, .int s8.2)]) rfl rfl rfl ?_
      refine w_iinc C (pc := 24) dX9_told_24 2 rfl (v := 1) (lv' := [(0, .ref (adr Y 0)), (1, .int v17), (2, .int (s8.2 + 1))]) (by decide) rfl rfl rfl ?_
      refine w_goto C (pc := 27) 4 dX9_told_27 (by decide) ?_
      obtain rfl := Option.some.inj h12
      have k9 := ki10 (v17, s8.2 + 1) rfl
      try dsimp only at k9
      exact k9
  · refine w_iload_n C (pc := 30) dX9_told_30 1 rfl ?_
    exact w_retR C (pc := 31) dX9_told_31 rfl (Option.some.inj h)
theorem dX9_swaps_0 : decode cX9_swaps 0 = .ok (.aload_n 0, 1) := by decide +kernel
theorem dX9_swaps_1 : decode cX9_swaps 1 = .ok (.getfield 48, 3) := by decide +kernel
theorem dX9_swaps_4 : decode cX9_swaps 4 = .ok (.iload_n 1, 1) := by decide +kernel
theorem dX9_swaps_5 : decode cX9_swaps 5 = .ok (.iaload, 1) := by decide +kernel
theorem dX9_swaps_6 : decode cX9_swaps 6 = .ok (.istore_n 3, 1) := by decide +kernel
theorem dX9_swaps_7 : decode cX9_swaps 7 = .ok (.aload_n 0, 1) := by decide +kernel
theorem dX9_swaps_8 : decode cX9_swaps 8 = .ok (.getfield 48, 3) := by decide +kernel
theorem dX9_swaps_11 : decode cX9_swaps 11 = .ok (.iload_n 1, 1) := by decide +kernel
theorem dX9_swaps_12 : decode cX9_swaps 12 = .ok (.aload_n 0, 1) := by decide +kernel
theorem dX9_swaps_13 : decode cX9_swaps 13 = .ok (.getfield 48, 3) := by decide +kernel
theorem dX9_swaps_16 : decode cX9_swaps 16 = .ok (.iload_n 2, 1) := by decide +kernel
theorem dX9_swaps_17 : decode cX9_swaps 17 = .ok (.iaload, 1) := by decide +kernel
theorem dX9_swaps_18 : decode cX9_swaps 18 = .ok (.iastore, 1) := by decide +kernel
theorem dX9_swaps_19 : decode cX9_swaps 19 = .ok (.aload_n 0, 1) := by decide +kernel
theorem dX9_swaps_20 : decode cX9_swaps 20 = .ok (.getfield 48, 3) := by decide +kernel
theorem dX9_swaps_23 : decode cX9_swaps 23 = .ok (.iload_n 2, 1) := by decide +kernel
theorem dX9_swaps_24 : decode cX9_swaps 24 = .ok (.iload_n 3, 1) := by decide +kernel
theorem dX9_swaps_25 : decode cX9_swaps 25 = .ok (.iastore, 1) := by decide +kernel
theorem dX9_swaps_26 : decode cX9_swaps 26 = .ok (.return_, 1) := by decide +kernel
def pX9_swaps (x1 : Int32) (x2 : Int32) (M : Mm) : Option (Mm) :=
(ald M 13 10 x1).bind fun v1 =>
(ald M 13 10 x2).bind fun v3 =>
(ast M 13 10 x1 v3).bind fun M5 =>
(ast M5 13 10 x2 v1).bind fun M7 =>
some M7
abbrev zX9_swaps : Zx := (cX9_swaps, RX9, 4, 0, none)
set_option maxRecDepth 100000 in
set_option maxHeartbeats 4000000 in
theorem tX9_swaps {l : Launch} {Y : Sx} {M : Mm} {x1 : Int32} {x2 : Int32} {q : Mm} (hY : isB Y) (h : pX9_swaps x1 x2 M = some q) : Ct l Y yX9_swaps cX9_swaps 4 none 0 [.ref (adr Y 0), .int x1, .int x2] M none q := by
  refine Ct.of (by decide) rfl (lv := [(0, .ref (adr Y 0)), (1, .int x1), (2, .int x2)]) rfl ?_
  intro K hkl C
  change Cx K zX9_swaps Y at C
  subst hkl
  unfold pX9_swaps at h
  show Wp K zX9_swaps Y (Qm K Y none q) M 0 [(0, .ref (adr Y 0)), (1, .int x1), (2, .int x2)] []
  refine w_aload_n C (pc := 0) dX9_swaps_0 0 rfl ?_
  refine w_getR C (pc := 1) dX9_swaps_1 f_X9_48 (sB_0 hY) rfl ?_
  refine w_iload_n C (pc := 4) dX9_swaps_4 1 rfl ?_
  obtain ⟨v1, e2, h⟩ := ob h
  refine w_iald C (pc := 5) dX9_swaps_5 (sB_13 hY) e2 ?_
  refine w_istore_n C (pc := 6) dX9_swaps_6 (lv' := [(0, .ref (adr Y 0)), (1, .int x1), (2, .int x2), (3, .int v1)]) rfl rfl rfl ?_
  refine w_aload_n C (pc := 7) dX9_swaps_7 0 rfl ?_
  refine w_getR C (pc := 8) dX9_swaps_8 f_X9_48 (sB_0 hY) rfl ?_
  refine w_iload_n C (pc := 11) dX9_swaps_11 1 rfl ?_
  refine w_aload_n C (pc := 12) dX9_swaps_12 0 rfl ?_
  refine w_getR C (pc := 13) dX9_swaps_13 f_X9_48 (sB_0 hY) rfl ?_
  refine w_iload_n C (pc := 16) dX9_swaps_16 2 rfl ?_
  obtain ⟨v3, e4, h⟩ := ob h
  refine w_iald C (pc := 17) dX9_swaps_17 (sB_13 hY) e4 ?_
  obtain ⟨M5, e6, h⟩ := ob h
  refine w_iast C (pc := 18) dX9_swaps_18 (sB_13 hY) e6 ?_
  refine w_aload_n C (pc := 19) dX9_swaps_19 0 rfl ?_
  refine w_getR C (pc := 20) dX9_swaps_20 f_X9_48 (sB_0 hY) rfl ?_
  refine w_iload_n C (pc := 23) dX9_swaps_23 2 rfl ?_
  refine w_iload_n C (pc := 24) dX9_swaps_24 3 rfl ?_
  obtain ⟨M7, e8, h⟩ := ob h
  refine w_iast C (pc := 25) dX9_swaps_25 (sB_13 hY) e8 ?_
  exact w_retV C (pc := 26) dX9_swaps_26 rfl (Option.some.inj h)
theorem dX9_goesOn_0 : decode cX9_goesOn 0 = .ok (.aload_n 0, 1) := by decide +kernel
theorem dX9_goesOn_1 : decode cX9_goesOn 1 = .ok (.invokevirtual 74, 3) := by decide +kernel
theorem dX9_goesOn_4 : decode cX9_goesOn 4 = .ok (.istore_n 1, 1) := by decide +kernel
theorem dX9_goesOn_5 : decode cX9_goesOn 5 = .ok (.iload_n 1, 1) := by decide +kernel
theorem dX9_goesOn_6 : decode cX9_goesOn 6 = .ok (.iconst 1, 1) := by decide +kernel
theorem dX9_goesOn_7 : decode cX9_goesOn 7 = .ok (.isub, 1) := by decide +kernel
theorem dX9_goesOn_8 : decode cX9_goesOn 8 = .ok (.istore_n 2, 1) := by decide +kernel
theorem dX9_goesOn_9 : decode cX9_goesOn 9 = .ok (.iload_n 2, 1) := by decide +kernel
theorem dX9_goesOn_10 : decode cX9_goesOn 10 = .ok (.ifCond .le 26, 3) := by decide +kernel
theorem dX9_goesOn_13 : decode cX9_goesOn 13 = .ok (.aload_n 0, 1) := by decide +kernel
theorem dX9_goesOn_14 : decode cX9_goesOn 14 = .ok (.getfield 48, 3) := by decide +kernel
theorem dX9_goesOn_17 : decode cX9_goesOn 17 = .ok (.iload_n 2, 1) := by decide +kernel
theorem dX9_goesOn_18 : decode cX9_goesOn 18 = .ok (.iaload, 1) := by decide +kernel
theorem dX9_goesOn_19 : decode cX9_goesOn 19 = .ok (.aload_n 0, 1) := by decide +kernel
theorem dX9_goesOn_20 : decode cX9_goesOn 20 = .ok (.getfield 48, 3) := by decide +kernel
theorem dX9_goesOn_23 : decode cX9_goesOn 23 = .ok (.iload_n 2, 1) := by decide +kernel
theorem dX9_goesOn_24 : decode cX9_goesOn 24 = .ok (.iconst 1, 1) := by decide +kernel
theorem dX9_goesOn_25 : decode cX9_goesOn 25 = .ok (.iadd, 1) := by decide +kernel
theorem dX9_goesOn_26 : decode cX9_goesOn 26 = .ok (.iaload, 1) := by decide +kernel
theorem dX9_goesOn_27 : decode cX9_goesOn 27 = .ok (.if_icmp .le 9, 3) := by decide +kernel
theorem dX9_goesOn_30 : decode cX9_goesOn 30 = .ok (.iinc 2 (-1), 3) := by decide +kernel
theorem dX9_goesOn_33 : decode cX9_goesOn 33 = .ok (.goto (-24), 3) := by decide +kernel
theorem dX9_goesOn_36 : decode cX9_goesOn 36 = .ok (.iload_n 2, 1) := by decide +kernel
theorem dX9_goesOn_37 : decode cX9_goesOn 37 = .ok (.ifCond .gt 5, 3) := by decide +kernel
theorem dX9_goesOn_40 : decode cX9_goesOn 40 = .ok (.iconst 0, 1) := by decide +kernel
theorem dX9_goesOn_41 : decode cX9_goesOn 41 = .ok (.ireturn, 1) := by decide +kernel
theorem dX9_goesOn_42 : decode cX9_goesOn 42 = .ok (.iload_n 1, 1) := by decide +kernel
theorem dX9_goesOn_43 : decode cX9_goesOn 43 = .ok (.istore_n 3, 1) := by decide +kernel
theorem dX9_goesOn_44 : decode cX9_goesOn 44 = .ok (.aload_n 0, 1) := by decide +kernel
theorem dX9_goesOn_45 : decode cX9_goesOn 45 = .ok (.getfield 48, 3) := by decide +kernel
theorem dX9_goesOn_48 : decode cX9_goesOn 48 = .ok (.iload_n 3, 1) := by decide +kernel
theorem dX9_goesOn_49 : decode cX9_goesOn 49 = .ok (.iaload, 1) := by decide +kernel
theorem dX9_goesOn_50 : decode cX9_goesOn 50 = .ok (.aload_n 0, 1) := by decide +kernel
theorem dX9_goesOn_51 : decode cX9_goesOn 51 = .ok (.getfield 48, 3) := by decide +kernel
theorem dX9_goesOn_54 : decode cX9_goesOn 54 = .ok (.iload_n 2, 1) := by decide +kernel
theorem dX9_goesOn_55 : decode cX9_goesOn 55 = .ok (.iaload, 1) := by decide +kernel
theorem dX9_goesOn_56 : decode cX9_goesOn 56 = .ok (.if_icmp .ge 9, 3) := by decide +kernel
theorem dX9_goesOn_59 : decode cX9_goesOn 59 = .ok (.iinc 3 (-1), 3) := by decide +kernel
theorem dX9_goesOn_62 : decode cX9_goesOn 62 = .ok (.goto (-18), 3) := by decide +kernel
theorem dX9_goesOn_65 : decode cX9_goesOn 65 = .ok (.aload_n 0, 1) := by decide +kernel
theorem dX9_goesOn_66 : decode cX9_goesOn 66 = .ok (.iload_n 2, 1) := by decide +kernel
theorem dX9_goesOn_67 : decode cX9_goesOn 67 = .ok (.iload_n 3, 1) := by decide +kernel
theorem dX9_goesOn_68 : decode cX9_goesOn 68 = .ok (.invokevirtual 245, 3) := by decide +kernel
theorem dX9_goesOn_71 : decode cX9_goesOn 71 = .ok (.iload_n 2, 1) := by decide +kernel
theorem dX9_goesOn_72 : decode cX9_goesOn 72 = .ok (.iconst 1, 1) := by decide +kernel
theorem dX9_goesOn_73 : decode cX9_goesOn 73 = .ok (.iadd, 1) := by decide +kernel
theorem dX9_goesOn_74 : decode cX9_goesOn 74 = .ok (.istore 4, 2) := by decide +kernel
theorem dX9_goesOn_76 : decode cX9_goesOn 76 = .ok (.iload_n 1, 1) := by decide +kernel
theorem dX9_goesOn_77 : decode cX9_goesOn 77 = .ok (.istore 5, 2) := by decide +kernel
theorem dX9_goesOn_79 : decode cX9_goesOn 79 = .ok (.iload 4, 2) := by decide +kernel
theorem dX9_goesOn_81 : decode cX9_goesOn 81 = .ok (.iload 5, 2) := by decide +kernel
theorem dX9_goesOn_83 : decode cX9_goesOn 83 = .ok (.if_icmp .ge 20, 3) := by decide +kernel
theorem dX9_goesOn_86 : decode cX9_goesOn 86 = .ok (.aload_n 0, 1) := by decide +kernel
theorem dX9_goesOn_87 : decode cX9_goesOn 87 = .ok (.iload 4, 2) := by decide +kernel
theorem dX9_goesOn_89 : decode cX9_goesOn 89 = .ok (.iload 5, 2) := by decide +kernel
theorem dX9_goesOn_91 : decode cX9_goesOn 91 = .ok (.invokevirtual 245, 3) := by decide +kernel
theorem dX9_goesOn_94 : decode cX9_goesOn 94 = .ok (.iinc 4 1, 3) := by decide +kernel
theorem dX9_goesOn_97 : decode cX9_goesOn 97 = .ok (.iinc 5 (-1), 3) := by decide +kernel
theorem dX9_goesOn_100 : decode cX9_goesOn 100 = .ok (.goto (-21), 3) := by decide +kernel
theorem dX9_goesOn_103 : decode cX9_goesOn 103 = .ok (.iconst 1, 1) := by decide +kernel
theorem dX9_goesOn_104 : decode cX9_goesOn 104 = .ok (.ireturn, 1) := by decide +kernel
def pX9_goesOn_L9 (x1 : Int32) (M : Mm) (s : Int32) : Option ((Int32) ⊕ (Int32)) :=
if s ≤ 0 then
(some (Sum.inr s))
else
((ald M 13 10 s).bind fun v4 =>
(ald M 13 10 (s + 1)).bind fun v6 =>
if v4 ≤ v6 then
(some (Sum.inr s))
else
(some (Sum.inl (s + (-1)))))
def pX9_goesOn_L44 (x1 : Int32) (x2 : Int32) (M : Mm) (s : Int32) : Option ((Int32) ⊕ (Int32)) :=
(ald M 13 10 s).bind fun v19 =>
(ald M 13 10 x2).bind fun v21 =>
if v21 ≤ v19 then
(some (Sum.inr s))
else
(some (Sum.inl (s + (-1))))
def pX9_goesOn_L79 (s : Int32 × Int32 × Mm) : Option ((Int32 × Int32 × Mm) ⊕ (Mm)) :=
if s.2.1 ≤ s.1 then
(some (Sum.inr s.2.2))
else
((pX9_swaps s.1 s.2.1 s.2.2).bind fun v37 =>
some (Sum.inl (s.1 + 1, s.2.1 + (-1), v37)))
def pX9_goesOn (M : Mm) : Option (Int32 × Mm) :=
(pX9_customers M).bind fun v1 =>
bnd (v1 - 1) fun v3 =>
(itr (pX9_goesOn_L9 v1 M) fuel v3).bind fun x8 =>
if 0 < x8 then
((itr (pX9_goesOn_L44 v1 x8 M) fuel v1).bind fun x23 =>
(pX9_swaps x8 x23 M).bind fun v34 =>
bnd (x8 + 1) fun v36 =>
(itr (pX9_goesOn_L79) fuel (v36, v1, v34)).bind fun x39 =>
some (1, x39))
else
(some (0, M))
abbrev zX9_goesOn : Zx := (cX9_goesOn, RX9, 6, 1, (some .boolean))
set_option maxRecDepth 100000 in
set_option maxHeartbeats 4000000 in
theorem tX9_goesOn {l : Launch} {Y : Sx} {M : Mm} {q : Int32 × Mm} (hY : isB Y) (h : pX9_goesOn M = some q) : Ct l Y yX9_goesOn cX9_goesOn 6 (some .boolean) 1 [.ref (adr Y 0)] M (some q.1) q.2 := by
  refine Ct.of (by decide) rfl (lv := [(0, .ref (adr Y 0))]) rfl ?_
  intro K hkl C
  change Cx K zX9_goesOn Y at C
  subst hkl
  unfold pX9_goesOn at h
  show Wp K zX9_goesOn Y (Qm K Y (some q.1) q.2) M 0 [(0, .ref (adr Y 0))] []
  refine w_aload_n C (pc := 0) dX9_goesOn_0 0 rfl ?_
  obtain ⟨v1, e2, h⟩ := ob h
  refine w_cVi C (pc := 1) dX9_goesOn_1 my_X9_customers mi_X9_customers ml_X9_74 (sB_0 hY) rfl rfl rfl [] rfl rfl (Nat.le_of_ble_eq_true rfl) (tX9_customers hY  e2) ?_
  refine w_istore_n C (pc := 4) dX9_goesOn_4 (lv' := [(0, .ref (adr Y 0)), (1, .int v1)]) rfl rfl rfl ?_
  refine w_iload_n C (pc := 5) dX9_goesOn_5 1 rfl ?_
  refine w_iconst C (pc := 6) dX9_goesOn_6 (v := 1) (by decide) ?_
  refine w_isub C (pc := 7) dX9_goesOn_7 ?_
  refine w_bnd h (fun v3 h => ?_)
  refine w_istore_n C (pc := 8) dX9_goesOn_8 (lv' := [(0, .ref (adr Y 0)), (1, .int v1), (2, .int v3)]) rfl rfl rfl ?_
  obtain ⟨x8, e9, h⟩ := ob h
  refine itr_W (P := fun s10 => Wp K zX9_goesOn Y (Qm K Y (some q.1) q.2) M 9 [(0, .ref (adr Y 0)), (1, .int v1), (2, .int s10)] []) (R := fun x8 => Wp K zX9_goesOn Y (Qm K Y (some q.1) q.2) M 36 [(0, .ref (adr Y 0)), (1, .int v1), (2, .int x8)] []) ?_ fuel v3 x8 e9 ?_
  · intro s10 r11 h14 ki12 kx13
    unfold pX9_goesOn_L9 at h14
    show Wp K zX9_goesOn Y (Qm K Y (some q.1) q.2) M 9 [(0, .ref (adr Y 0)), (1, .int v1), (2, .int s10)] []
    refine w_iload_n C (pc := 9) dX9_goesOn_9 2 rfl ?_
    refine w_ifle C (pc := 10) 36 dX9_goesOn_10 (by decide) (fun c => ?_) (fun c => ?_)
    · have h14 := it_t h14 c
      obtain rfl := Option.some.inj h14
      have k9 := kx13 s10 rfl
      try dsimp only at k9
      exact k9
    · have h14 := it_f h14 c
      refine w_aload_n C (pc := 13) dX9_goesOn_13 0 rfl ?_
      refine w_getR C (pc := 14) dX9_goesOn_14 f_X9_48 (sB_0 hY) rfl ?_
      refine w_iload_n C (pc := 17) dX9_goesOn_17 2 rfl ?_
      obtain ⟨v15, e16, h14⟩ := ob h14
      refine w_iald C (pc := 18) dX9_goesOn_18 (sB_13 hY) e16 ?_
      refine w_aload_n C (pc := 19) dX9_goesOn_19 0 rfl ?_
      refine w_getR C (pc := 20) dX9_goesOn_20 f_X9_48 (sB_0 hY) rfl ?_
      refine w_iload_n C (pc := 23) dX9_goesOn_23 2 rfl ?_
      refine w_iconst C (pc := 24) dX9_goesOn_24 (v := 1) (by decide) ?_
      refine w_iadd C (pc := 25) dX9_goesOn_25 ?_
      obtain ⟨v17, e18, h14⟩ := ob h14
      refine w_iald C (pc := 26) dX9_goesOn_26 (sB_13 hY) e18 ?_
      refine w_icle C (pc := 27) 36 dX9_goesOn_27 (by decide) (fun c => ?_) (fun c => ?_)
      · have h14 := it_t h14 c
        obtain rfl := Option.some.inj h14
        have k9 := kx13 s10 rfl
        try dsimp only at k9
        exact k9
      · have h14 := it_f h14 c
        refine w_iinc C (pc := 30) dX9_goesOn_30 2 rfl (v := (-1)) (lv' := [(0, .ref (adr Y 0)), (1, .int v1), (2, .int (s10 + (-1)))]) (by decide) rfl rfl rfl ?_
        refine w_goto C (pc := 33) 9 dX9_goesOn_33 (by decide) ?_
        obtain rfl := Option.some.inj h14
        have k9 := ki12 (s10 + (-1)) rfl
        try dsimp only at k9
        exact k9
  · refine w_iload_n C (pc := 36) dX9_goesOn_36 2 rfl ?_
    refine w_ifgt C (pc := 37) 42 dX9_goesOn_37 (by decide) (fun c => ?_) (fun c => ?_)
    · have h := it_t h c
      refine w_iload_n C (pc := 42) dX9_goesOn_42 1 rfl ?_
      refine w_istore_n C (pc := 43) dX9_goesOn_43 (lv' := [(0, .ref (adr Y 0)), (1, .int v1), (2, .int x8), (3, .int v1)]) rfl rfl rfl ?_
      obtain ⟨x23, e24, h⟩ := ob h
      refine itr_W (P := fun s25 => Wp K zX9_goesOn Y (Qm K Y (some q.1) q.2) M 44 [(0, .ref (adr Y 0)), (1, .int v1), (2, .int x8), (3, .int s25)] []) (R := fun x23 => Wp K zX9_goesOn Y (Qm K Y (some q.1) q.2) M 65 [(0, .ref (adr Y 0)), (1, .int v1), (2, .int x8), (3, .int x23)] []) ?_ fuel v1 x23 e24 ?_
      · intro s25 r26 h29 ki27 kx28
        unfold pX9_goesOn_L44 at h29
        show Wp K zX9_goesOn Y (Qm K Y (some q.1) q.2) M 44 [(0, .ref (adr Y 0)), (1, .int v1), (2, .int x8), (3, .int s25)] []
        refine w_aload_n C (pc := 44) dX9_goesOn_44 0 rfl ?_
        refine w_getR C (pc := 45) dX9_goesOn_45 f_X9_48 (sB_0 hY) rfl ?_
        refine w_iload_n C (pc := 48) dX9_goesOn_48 3 rfl ?_
        obtain ⟨v30, e31, h29⟩ := ob h29
        refine w_iald C (pc := 49) dX9_goesOn_49 (sB_13 hY) e31 ?_
        refine w_aload_n C (pc := 50) dX9_goesOn_50 0 rfl ?_
        refine w_getR C (pc := 51) dX9_goesOn_51 f_X9_48 (sB_0 hY) rfl ?_
        refine w_iload_n C (pc := 54) dX9_goesOn_54 2 rfl ?_
        obtain ⟨v32, e33, h29⟩ := ob h29
        refine w_iald C (pc := 55) dX9_goesOn_55 (sB_13 hY) e33 ?_
        refine w_icge C (pc := 56) 65 dX9_goesOn_56 (by decide) (fun c => ?_) (fun c => ?_)
        · have h29 := it_t h29 c
          obtain rfl := Option.some.inj h29
          have k9 := kx28 s25 rfl
          try dsimp only at k9
          exact k9
        · have h29 := it_f h29 c
          refine w_iinc C (pc := 59) dX9_goesOn_59 3 rfl (v := (-1)) (lv' := [(0, .ref (adr Y 0)), (1, .int v1), (2, .int x8), (3, .int (s25 + (-1)))]) (by decide) rfl rfl rfl ?_
          refine w_goto C (pc := 62) 44 dX9_goesOn_62 (by decide) ?_
          obtain rfl := Option.some.inj h29
          have k9 := ki27 (s25 + (-1)) rfl
          try dsimp only at k9
          exact k9
      · refine w_aload_n C (pc := 65) dX9_goesOn_65 0 rfl ?_
        refine w_iload_n C (pc := 66) dX9_goesOn_66 2 rfl ?_
        refine w_iload_n C (pc := 67) dX9_goesOn_67 3 rfl ?_
        obtain ⟨v34, e35, h⟩ := ob h
        refine w_cVv C (pc := 68) dX9_goesOn_68 my_X9_swaps mi_X9_swaps ml_X9_245 (sB_0 hY) rfl rfl rfl [.int x8, .int x23] rfl rfl (Nat.le_of_ble_eq_true rfl) (tX9_swaps hY  e35) ?_
        refine w_iload_n C (pc := 71) dX9_goesOn_71 2 rfl ?_
        refine w_iconst C (pc := 72) dX9_goesOn_72 (v := 1) (by decide) ?_
        refine w_iadd C (pc := 73) dX9_goesOn_73 ?_
        refine w_bnd h (fun v36 h => ?_)
        refine w_istore C (pc := 74) dX9_goesOn_74 (lv' := [(0, .ref (adr Y 0)), (1, .int v1), (2, .int x8), (3, .int x23), (4, .int v36)]) rfl rfl rfl ?_
        refine w_iload_n C (pc := 76) dX9_goesOn_76 1 rfl ?_
        refine w_istore C (pc := 77) dX9_goesOn_77 (lv' := [(0, .ref (adr Y 0)), (1, .int v1), (2, .int x8), (3, .int x23), (4, .int v36), (5, .int v1)]) rfl rfl rfl ?_
        obtain ⟨x39, e40, h⟩ := ob h
        refine itr_W (P := fun s41 => Wp K zX9_goesOn Y (Qm K Y (some q.1) q.2) s41.2.2 79 [(0, .ref (adr Y 0)), (1, .int v1), (2, .int x8), (3, .int x23), (4, .int s41.1), (5, .int s41.2.1)] []) (R := fun x39 => Wp K zX9_goesOn Y (Qm K Y (some q.1) q.2) x39 103 [(0, .ref (adr Y 0)), (1, .int v1), (2, .int x8), (3, .int x23)] []) ?_ fuel (v36, v1, v34) x39 e40 ?_
        · intro s41 r42 h45 ki43 kx44
          unfold pX9_goesOn_L79 at h45
          show Wp K zX9_goesOn Y (Qm K Y (some q.1) q.2) s41.2.2 79 [(0, .ref (adr Y 0)), (1, .int v1), (2, .int x8), (3, .int x23), (4, .int s41.1), (5, .int s41.2.1)] []
          refine w_iload C (pc := 79) dX9_goesOn_79 4 rfl ?_
          refine w_iload C (pc := 81) dX9_goesOn_81 5 rfl ?_
          refine w_icge C (pc := 83) 103 dX9_goesOn_83 (by decide) (fun c => ?_) (fun c => ?_)
          · have h45 := it_t h45 c
            obtain rfl := Option.some.inj h45
            refine w_lv [0, 1, 2, 3] rfl ?_
            have k9 := kx44 s41.2.2 rfl
            try dsimp only at k9
            exact k9
          · have h45 := it_f h45 c
            refine w_aload_n C (pc := 86) dX9_goesOn_86 0 rfl ?_
            refine w_iload C (pc := 87) dX9_goesOn_87 4 rfl ?_
            refine w_iload C (pc := 89) dX9_goesOn_89 5 rfl ?_
            obtain ⟨v46, e47, h45⟩ := ob h45
            refine w_cVv C (pc := 91) dX9_goesOn_91 my_X9_swaps mi_X9_swaps ml_X9_245 (sB_0 hY) rfl rfl rfl [.int s41.1, .int s41.2.1] rfl rfl (Nat.le_of_ble_eq_true rfl) (tX9_swaps hY  e47) ?_
            refine w_iinc C (pc := 94) dX9_goesOn_94 4 rfl (v := 1) (lv' := [(0, .ref (adr Y 0)), (1, .int v1), (2, .int x8), (3, .int x23), (4, .int (s41.1 + 1)), (5, .int s41.2.1)]) (by decide) rfl rfl rfl ?_
            refine w_iinc C (pc := 97) dX9_goesOn_97 5 rfl (v := (-1)) (lv' := [(0, .ref (adr Y 0)), (1, .int v1), (2, .int x8), (3, .int x23), (4, .int (s41.1 + 1)), (5, .int (s41.2.1 + (-1)))]) (by decide) rfl rfl rfl ?_
            refine w_goto C (pc := 100) 79 dX9_goesOn_100 (by decide) ?_
            obtain rfl := Option.some.inj h45
            have k9 := ki43 (s41.1 + 1, s41.2.1 + (-1), v46) rfl
            try dsimp only at k9
            exact k9
        · refine w_iconst C (pc := 103) dX9_goesOn_103 (v := 1) (by decide) ?_
          exact w_retz C (pc := 104) dX9_goesOn_104 rfl (by decide) (Option.some.inj h)
    · have h := it_f h c
      refine w_iconst C (pc := 40) dX9_goesOn_40 (v := 0) (by decide) ?_
      exact w_retz C (pc := 41) dX9_goesOn_41 rfl (by decide) (Option.some.inj h)
theorem dX9_seeks_0 : decode cX9_seeks 0 = .ok (.iconst 0, 1) := by decide +kernel
theorem dX9_seeks_1 : decode cX9_seeks 1 = .ok (.istore_n 2, 1) := by decide +kernel
theorem dX9_seeks_2 : decode cX9_seeks 2 = .ok (.iload_n 2, 1) := by decide +kernel
theorem dX9_seeks_3 : decode cX9_seeks 3 = .ok (.aload_n 0, 1) := by decide +kernel
theorem dX9_seeks_4 : decode cX9_seeks 4 = .ok (.invokevirtual 74, 3) := by decide +kernel
theorem dX9_seeks_7 : decode cX9_seeks 7 = .ok (.if_icmp .gt 16, 3) := by decide +kernel
theorem dX9_seeks_10 : decode cX9_seeks 10 = .ok (.aload_n 0, 1) := by decide +kernel
theorem dX9_seeks_11 : decode cX9_seeks 11 = .ok (.getfield 48, 3) := by decide +kernel
theorem dX9_seeks_14 : decode cX9_seeks 14 = .ok (.iload_n 2, 1) := by decide +kernel
theorem dX9_seeks_15 : decode cX9_seeks 15 = .ok (.iload_n 2, 1) := by decide +kernel
theorem dX9_seeks_16 : decode cX9_seeks 16 = .ok (.iastore, 1) := by decide +kernel
theorem dX9_seeks_17 : decode cX9_seeks 17 = .ok (.iinc 2 1, 3) := by decide +kernel
theorem dX9_seeks_20 : decode cX9_seeks 20 = .ok (.goto (-18), 3) := by decide +kernel
theorem dX9_seeks_23 : decode cX9_seeks 23 = .ok (.aload_n 0, 1) := by decide +kernel
theorem dX9_seeks_24 : decode cX9_seeks 24 = .ok (.getfield 48, 3) := by decide +kernel
theorem dX9_seeks_27 : decode cX9_seeks 27 = .ok (.aload_n 0, 1) := by decide +kernel
theorem dX9_seeks_28 : decode cX9_seeks 28 = .ok (.invokevirtual 74, 3) := by decide +kernel
theorem dX9_seeks_31 : decode cX9_seeks 31 = .ok (.iconst 1, 1) := by decide +kernel
theorem dX9_seeks_32 : decode cX9_seeks 32 = .ok (.iadd, 1) := by decide +kernel
theorem dX9_seeks_33 : decode cX9_seeks 33 = .ok (.iconst 0, 1) := by decide +kernel
theorem dX9_seeks_34 : decode cX9_seeks 34 = .ok (.iastore, 1) := by decide +kernel
theorem dX9_seeks_35 : decode cX9_seeks 35 = .ok (.aload_n 0, 1) := by decide +kernel
theorem dX9_seeks_36 : decode cX9_seeks 36 = .ok (.iconst (-1), 1) := by decide +kernel
theorem dX9_seeks_37 : decode cX9_seeks 37 = .ok (.putfield 248, 3) := by decide +kernel
theorem dX9_seeks_40 : decode cX9_seeks 40 = .ok (.aload_n 0, 1) := by decide +kernel
theorem dX9_seeks_41 : decode cX9_seeks 41 = .ok (.iload_n 1, 1) := by decide +kernel
theorem dX9_seeks_42 : decode cX9_seeks 42 = .ok (.invokevirtual 242, 3) := by decide +kernel
theorem dX9_seeks_45 : decode cX9_seeks 45 = .ok (.istore_n 2, 1) := by decide +kernel
theorem dX9_seeks_46 : decode cX9_seeks 46 = .ok (.aload_n 0, 1) := by decide +kernel
theorem dX9_seeks_47 : decode cX9_seeks 47 = .ok (.getfield 248, 3) := by decide +kernel
theorem dX9_seeks_50 : decode cX9_seeks 50 = .ok (.iconst (-1), 1) := by decide +kernel
theorem dX9_seeks_51 : decode cX9_seeks 51 = .ok (.if_icmp .eq 14, 3) := by decide +kernel
theorem dX9_seeks_54 : decode cX9_seeks 54 = .ok (.iload_n 2, 1) := by decide +kernel
theorem dX9_seeks_55 : decode cX9_seeks 55 = .ok (.aload_n 0, 1) := by decide +kernel
theorem dX9_seeks_56 : decode cX9_seeks 56 = .ok (.getfield 248, 3) := by decide +kernel
theorem dX9_seeks_59 : decode cX9_seeks 59 = .ok (.if_icmp .lt 6, 3) := by decide +kernel
theorem dX9_seeks_62 : decode cX9_seeks 62 = .ok (.goto 16, 3) := by decide +kernel
theorem dX9_seeks_65 : decode cX9_seeks 65 = .ok (.aload_n 0, 1) := by decide +kernel
theorem dX9_seeks_66 : decode cX9_seeks 66 = .ok (.iload_n 2, 1) := by decide +kernel
theorem dX9_seeks_67 : decode cX9_seeks 67 = .ok (.putfield 248, 3) := by decide +kernel
theorem dX9_seeks_70 : decode cX9_seeks 70 = .ok (.aload_n 0, 1) := by decide +kernel
theorem dX9_seeks_71 : decode cX9_seeks 71 = .ok (.aload_n 0, 1) := by decide +kernel
theorem dX9_seeks_72 : decode cX9_seeks 72 = .ok (.invokevirtual 251, 3) := by decide +kernel
theorem dX9_seeks_75 : decode cX9_seeks 75 = .ok (.putfield 254, 3) := by decide +kernel
theorem dX9_seeks_78 : decode cX9_seeks 78 = .ok (.aload_n 0, 1) := by decide +kernel
theorem dX9_seeks_79 : decode cX9_seeks 79 = .ok (.invokevirtual 257, 3) := by decide +kernel
theorem dX9_seeks_82 : decode cX9_seeks 82 = .ok (.ifCond .ne (-42), 3) := by decide +kernel
theorem dX9_seeks_85 : decode cX9_seeks 85 = .ok (.return_, 1) := by decide +kernel
def pX9_seeks_L2 (x1 : Int32) (s : Int32 × Mm) : Option ((Int32 × Mm) ⊕ (Mm)) :=
(pX9_customers s.2).bind fun v1 =>
if v1 < s.1 then
(some (Sum.inr s.2))
else
((ast s.2 13 10 s.1 s.1).bind fun M3 =>
some (Sum.inl (s.1 + 1, M3)))
def pX9_seeks_L40 (x1 : Int32) (s : Mm) : Option ((Mm) ⊕ (Mm)) :=
(pX9_splits x1 s).bind fun v22 =>
bnd (v22.1) fun v24 =>
Option.bind (α := (Mm) ⊕ ((Mm) ⊕ (Mm))) (if (v22.2 0 25) = (-1) then
(some (Sum.inl v22.2))
else
(if v24 < (v22.2 0 25) then
(some (Sum.inl v22.2))
else
((pX9_goesOn v22.2).bind fun v36 =>
if v36.1 = 0 then
(some (Sum.inr (Sum.inr v36.2)))
else
(some (Sum.inr (Sum.inl v36.2)))))) fun j25 =>
Sum.elim (fun yj25 =>
bnd (mset yj25 0 25 v24) fun M28 =>
(pX9_told M28).bind fun v30 =>
bnd (mset M28 0 26 v30) fun M32 =>
(pX9_goesOn M32).bind fun v34 =>
if v34.1 = 0 then
(some (Sum.inr v34.2))
else
(some (Sum.inl v34.2))) (fun r => some r) j25
def pX9_seeks (x1 : Int32) (M : Mm) : Option (Mm) :=
(itr (pX9_seeks_L2 x1) fuel (0, M)).bind fun x5 =>
(pX9_customers x5).bind fun v16 =>
(ast x5 13 10 (v16 + 1) 0).bind fun M18 =>
bnd (mset M18 0 25 (-1)) fun M20 =>
(itr (pX9_seeks_L40 x1) fuel M20).bind fun x40 =>
some x40
abbrev zX9_seeks : Zx := (cX9_seeks, RX9, 3, 4, none)
set_option maxRecDepth 100000 in
set_option maxHeartbeats 4000000 in
theorem tX9_seeks {l : Launch} {Y : Sx} {M : Mm} {x1 : Int32} {q : Mm} (hY : isB Y) (h : pX9_seeks x1 M = some q) : Ct l Y yX9_seeks cX9_seeks 3 none 4 [.ref (adr Y 0), .int x1] M none q := by
  refine Ct.of (by decide) rfl (lv := [(0, .ref (adr Y 0)), (1, .int x1)]) rfl ?_
  intro K hkl C
  change Cx K zX9_seeks Y at C
  subst hkl
  unfold pX9_seeks at h
  show Wp K zX9_seeks Y (Qm K Y none q) M 0 [(0, .ref (adr Y 0)), (1, .int x1)] []
  refine w_iconst C (pc := 0) dX9_seeks_0 (v := 0) (by decide) ?_
  refine w_istore_n C (pc := 1) dX9_seeks_1 (lv' := [(0, .ref (adr Y 0)), (1, .int x1), (2, .int 0)]) rfl rfl rfl ?_
  obtain ⟨x5, e6, h⟩ := ob h
  refine itr_W (P := fun s7 => Wp K zX9_seeks Y (Qm K Y none q) s7.2 2 [(0, .ref (adr Y 0)), (1, .int x1), (2, .int s7.1)] []) (R := fun x5 => Wp K zX9_seeks Y (Qm K Y none q) x5 23 [(0, .ref (adr Y 0)), (1, .int x1)] []) ?_ fuel (0, M) x5 e6 ?_
  · intro s7 r8 h11 ki9 kx10
    unfold pX9_seeks_L2 at h11
    show Wp K zX9_seeks Y (Qm K Y none q) s7.2 2 [(0, .ref (adr Y 0)), (1, .int x1), (2, .int s7.1)] []
    refine w_iload_n C (pc := 2) dX9_seeks_2 2 rfl ?_
    refine w_aload_n C (pc := 3) dX9_seeks_3 0 rfl ?_
    obtain ⟨v12, e13, h11⟩ := ob h11
    refine w_cVi C (pc := 4) dX9_seeks_4 my_X9_customers mi_X9_customers ml_X9_74 (sB_0 hY) rfl rfl rfl [] rfl rfl (Nat.le_of_ble_eq_true rfl) (tX9_customers hY  e13) ?_
    refine w_icgt C (pc := 7) 23 dX9_seeks_7 (by decide) (fun c => ?_) (fun c => ?_)
    · have h11 := it_t h11 c
      obtain rfl := Option.some.inj h11
      refine w_lv [0, 1] rfl ?_
      have k9 := kx10 s7.2 rfl
      try dsimp only at k9
      exact k9
    · have h11 := it_f h11 c
      refine w_aload_n C (pc := 10) dX9_seeks_10 0 rfl ?_
      refine w_getR C (pc := 11) dX9_seeks_11 f_X9_48 (sB_0 hY) rfl ?_
      refine w_iload_n C (pc := 14) dX9_seeks_14 2 rfl ?_
      refine w_iload_n C (pc := 15) dX9_seeks_15 2 rfl ?_
      obtain ⟨M14, e15, h11⟩ := ob h11
      refine w_iast C (pc := 16) dX9_seeks_16 (sB_13 hY) e15 ?_
      refine w_iinc C (pc := 17) dX9_seeks_17 2 rfl (v := 1) (lv' := [(0, .ref (adr Y 0)), (1, .int x1), (2, .int (s7.1 + 1))]) (by decide) rfl rfl rfl ?_
      refine w_goto C (pc := 20) 2 dX9_seeks_20 (by decide) ?_
      obtain rfl := Option.some.inj h11
      have k9 := ki9 (s7.1 + 1, M14) rfl
      try dsimp only at k9
      exact k9
  · refine w_aload_n C (pc := 23) dX9_seeks_23 0 rfl ?_
    refine w_getR C (pc := 24) dX9_seeks_24 f_X9_48 (sB_0 hY) rfl ?_
    refine w_aload_n C (pc := 27) dX9_seeks_27 0 rfl ?_
    obtain ⟨v16, e17, h⟩ := ob h
    refine w_cVi C (pc := 28) dX9_seeks_28 my_X9_customers mi_X9_customers ml_X9_74 (sB_0 hY) rfl rfl rfl [] rfl rfl (Nat.le_of_ble_eq_true rfl) (tX9_customers hY  e17) ?_
    refine w_iconst C (pc := 31) dX9_seeks_31 (v := 1) (by decide) ?_
    refine w_iadd C (pc := 32) dX9_seeks_32 ?_
    refine w_iconst C (pc := 33) dX9_seeks_33 (v := 0) (by decide) ?_
    obtain ⟨M18, e19, h⟩ := ob h
    refine w_iast C (pc := 34) dX9_seeks_34 (sB_13 hY) e19 ?_
    refine w_aload_n C (pc := 35) dX9_seeks_35 0 rfl ?_
    refine w_iconst C (pc := 36) dX9_seeks_36 (v := (-1)) (by decide) ?_
    obtain ⟨M20, e21, h⟩ := bn h
    refine w_putI C (pc := 37) dX9_seeks_37 fp_X9_248 (sB_0 hY) rfl ?_
    rw [e21]
    obtain ⟨x40, e41, h⟩ := ob h
    refine itr_W (P := fun s42 => Wp K zX9_seeks Y (Qm K Y none q) s42 40 [(0, .ref (adr Y 0)), (1, .int x1)] []) (R := fun x40 => Wp K zX9_seeks Y (Qm K Y none q) x40 85 [(0, .ref (adr Y 0)), (1, .int x1)] []) ?_ fuel M20 x40 e41 ?_
    · intro s42 r43 h46 ki44 kx45
      unfold pX9_seeks_L40 at h46
      show Wp K zX9_seeks Y (Qm K Y none q) s42 40 [(0, .ref (adr Y 0)), (1, .int x1)] []
      refine w_aload_n C (pc := 40) dX9_seeks_40 0 rfl ?_
      refine w_iload_n C (pc := 41) dX9_seeks_41 1 rfl ?_
      obtain ⟨v47, e48, h46⟩ := ob h46
      refine w_cVi C (pc := 42) dX9_seeks_42 my_X9_splits mi_X9_splits ml_X9_242 (sB_0 hY) rfl rfl rfl [.int x1] rfl rfl (Nat.le_of_ble_eq_true rfl) (tX9_splits hY  e48) ?_
      refine w_bnd h46 (fun v49 h46 => ?_)
      refine w_istore_n C (pc := 45) dX9_seeks_45 (lv' := [(0, .ref (adr Y 0)), (1, .int x1), (2, .int v49)]) rfl rfl rfl ?_
      refine w_aload_n C (pc := 46) dX9_seeks_46 0 rfl ?_
      refine w_getI C (pc := 47) dX9_seeks_47 f_X9_248 (sB_0 hY) rfl ?_
      refine w_iconst C (pc := 50) dX9_seeks_50 (v := (-1)) (by decide) ?_
      obtain ⟨j50, e51, h52⟩ := ob h46
      have Jj50 : ∀ yj50, j50 = Sum.inl yj50 → Wp K zX9_seeks Y (Qm K Y none q) yj50 65 [(0, .ref (adr Y 0)), (1, .int x1), (2, .int v49)] [] := by
        intro yj50 hj
        subst hj
        dsimp only [Sum.elim] at h52
        refine w_aload_n C (pc := 65) dX9_seeks_65 0 rfl ?_
        refine w_iload_n C (pc := 66) dX9_seeks_66 2 rfl ?_
        obtain ⟨M53, e54, h52⟩ := bn h52
        refine w_putI C (pc := 67) dX9_seeks_67 fp_X9_248 (sB_0 hY) rfl ?_
        rw [e54]
        refine w_aload_n C (pc := 70) dX9_seeks_70 0 rfl ?_
        refine w_aload_n C (pc := 71) dX9_seeks_71 0 rfl ?_
        obtain ⟨v55, e56, h52⟩ := ob h52
        refine w_cVi C (pc := 72) dX9_seeks_72 my_X9_told mi_X9_told ml_X9_251 (sB_0 hY) rfl rfl rfl [] rfl rfl (Nat.le_of_ble_eq_true rfl) (tX9_told hY  e56) ?_
        obtain ⟨M57, e58, h52⟩ := bn h52
        refine w_putI C (pc := 75) dX9_seeks_75 fp_X9_254 (sB_0 hY) rfl ?_
        rw [e58]
        refine w_aload_n C (pc := 78) dX9_seeks_78 0 rfl ?_
        obtain ⟨v59, e60, h52⟩ := ob h52
        refine w_cVi C (pc := 79) dX9_seeks_79 my_X9_goesOn mi_X9_goesOn ml_X9_257 (sB_0 hY) rfl rfl rfl [] rfl rfl (Nat.le_of_ble_eq_true rfl) (tX9_goesOn hY  e60) ?_
        refine w_ifne C (pc := 82) 40 dX9_seeks_82 (by decide) (fun c => ?_) (fun c => ?_)
        · have h52 := it_t h52 c
          obtain rfl := Option.some.inj h52
          refine w_lv [0, 1] rfl ?_
          have k9 := kx45 v59.2 rfl
          try dsimp only at k9
          exact k9
        · have h52 := it_f h52 c
          obtain rfl := Option.some.inj h52
          refine w_lv [0, 1] rfl ?_
          have k9 := ki44 v59.2 rfl
          try dsimp only at k9
          exact k9
      refine w_iceq C (pc := 51) 65 dX9_seeks_51 (by decide) (fun c => ?_) (fun c => ?_)
      · have e51 := it_t e51 c
        obtain rfl := Option.some.inj e51
        have k9 := Jj50 v47.2 rfl
        try dsimp only at k9
        exact k9
      · have e51 := it_f e51 c
        refine w_iload_n C (pc := 54) dX9_seeks_54 2 rfl ?_
        refine w_aload_n C (pc := 55) dX9_seeks_55 0 rfl ?_
        refine w_getI C (pc := 56) dX9_seeks_56 f_X9_248 (sB_0 hY) rfl ?_
        refine w_iclt C (pc := 59) 65 dX9_seeks_59 (by decide) (fun c => ?_) (fun c => ?_)
        · have e51 := it_t e51 c
          obtain rfl := Option.some.inj e51
          have k9 := Jj50 v47.2 rfl
          try dsimp only at k9
          exact k9
        · have e51 := it_f e51 c
          refine w_goto C (pc := 62) 78 dX9_seeks_62 (by decide) ?_
          refine w_aload_n C (pc := 78) dX9_seeks_78 0 rfl ?_
          obtain ⟨v61, e62, e51⟩ := ob e51
          refine w_cVi C (pc := 79) dX9_seeks_79 my_X9_goesOn mi_X9_goesOn ml_X9_257 (sB_0 hY) rfl rfl rfl [] rfl rfl (Nat.le_of_ble_eq_true rfl) (tX9_goesOn hY  e62) ?_
          refine w_ifne C (pc := 82) 40 dX9_seeks_82 (by decide) (fun c => ?_) (fun c => ?_)
          · have e51 := it_t e51 c
            obtain rfl := Option.some.inj e51
            have h63 : some (Sum.inr v61.2) = some r43 := h52
            obtain rfl := Option.some.inj h63
            refine w_lv [0, 1] rfl ?_
            have k9 := kx45 v61.2 rfl
            try dsimp only at k9
            exact k9
          · have e51 := it_f e51 c
            obtain rfl := Option.some.inj e51
            have h64 : some (Sum.inl v61.2) = some r43 := h52
            obtain rfl := Option.some.inj h64
            refine w_lv [0, 1] rfl ?_
            have k9 := ki44 v61.2 rfl
            try dsimp only at k9
            exact k9
    · exact w_retV C (pc := 85) dX9_seeks_85 rfl (Option.some.inj h)
theorem dX9_alone_0 : decode cX9_alone 0 = .ok (.aload_n 0, 1) := by decide +kernel
theorem dX9_alone_1 : decode cX9_alone 1 = .ok (.iconst 0, 1) := by decide +kernel
theorem dX9_alone_2 : decode cX9_alone 2 = .ok (.putfield 66, 3) := by decide +kernel
theorem dX9_alone_5 : decode cX9_alone 5 = .ok (.aload_n 0, 1) := by decide +kernel
theorem dX9_alone_6 : decode cX9_alone 6 = .ok (.invokevirtual 74, 3) := by decide +kernel
theorem dX9_alone_9 : decode cX9_alone 9 = .ok (.bipush 7, 2) := by decide +kernel
theorem dX9_alone_11 : decode cX9_alone 11 = .ok (.if_icmp .gt 12, 3) := by decide +kernel
theorem dX9_alone_14 : decode cX9_alone 14 = .ok (.iload_n 1, 1) := by decide +kernel
theorem dX9_alone_15 : decode cX9_alone 15 = .ok (.iconst 0, 1) := by decide +kernel
theorem dX9_alone_16 : decode cX9_alone 16 = .ok (.iconst 1, 1) := by decide +kernel
theorem dX9_alone_17 : decode cX9_alone 17 = .ok (.invokestatic 70, 3) := by decide +kernel
theorem dX9_alone_20 : decode cX9_alone 20 = .ok (.ifCond .ne 5, 3) := by decide +kernel
theorem dX9_alone_23 : decode cX9_alone 23 = .ok (.iconst (-1), 1) := by decide +kernel
theorem dX9_alone_24 : decode cX9_alone 24 = .ok (.ireturn, 1) := by decide +kernel
theorem dX9_alone_25 : decode cX9_alone 25 = .ok (.aload_n 0, 1) := by decide +kernel
theorem dX9_alone_26 : decode cX9_alone 26 = .ok (.iconst 0, 1) := by decide +kernel
theorem dX9_alone_27 : decode cX9_alone 27 = .ok (.invokevirtual 260, 3) := by decide +kernel
theorem dX9_alone_30 : decode cX9_alone 30 = .ok (.iload_n 1, 1) := by decide +kernel
theorem dX9_alone_31 : decode cX9_alone 31 = .ok (.ifCond .ne 10, 3) := by decide +kernel
theorem dX9_alone_34 : decode cX9_alone 34 = .ok (.aload_n 0, 1) := by decide +kernel
theorem dX9_alone_35 : decode cX9_alone 35 = .ok (.getfield 248, 3) := by decide +kernel
theorem dX9_alone_38 : decode cX9_alone 38 = .ok (.goto 7, 3) := by decide +kernel
theorem dX9_alone_41 : decode cX9_alone 41 = .ok (.aload_n 0, 1) := by decide +kernel
theorem dX9_alone_42 : decode cX9_alone 42 = .ok (.getfield 254, 3) := by decide +kernel
theorem dX9_alone_45 : decode cX9_alone 45 = .ok (.ireturn, 1) := by decide +kernel
def pX9_alone (x1 : Int32) (M : Mm) : Option (Int32 × Mm) :=
bnd (mset M 0 0 0) fun M1 =>
(pX9_customers M1).bind fun v3 =>
if 7 < v3 then
(some ((-1), M1))
else
(if (pX9_isIn x1 0 1) = 0 then
(some ((-1), M1))
else
((pX9_seeks 0 M1).bind fun v5 =>
if x1 = 0 then
(some (v5 0 25, v5))
else
(some (v5 0 26, v5))))
abbrev zX9_alone : Zx := (cX9_alone, RX9, 2, 5, (some .int))
set_option maxRecDepth 100000 in
set_option maxHeartbeats 4000000 in
theorem tX9_alone {l : Launch} {Y : Sx} {M : Mm} {x1 : Int32} {q : Int32 × Mm} (hY : isB Y) (h : pX9_alone x1 M = some q) : Ct l Y yX9_alone cX9_alone 2 (some .int) 5 [.ref (adr Y 0), .int x1] M (some q.1) q.2 := by
  refine Ct.of (by decide) rfl (lv := [(0, .ref (adr Y 0)), (1, .int x1)]) rfl ?_
  intro K hkl C
  change Cx K zX9_alone Y at C
  subst hkl
  unfold pX9_alone at h
  show Wp K zX9_alone Y (Qm K Y (some q.1) q.2) M 0 [(0, .ref (adr Y 0)), (1, .int x1)] []
  refine w_aload_n C (pc := 0) dX9_alone_0 0 rfl ?_
  refine w_iconst C (pc := 1) dX9_alone_1 (v := 0) (by decide) ?_
  obtain ⟨M1, e2, h⟩ := bn h
  refine w_putI C (pc := 2) dX9_alone_2 fp_X9_66 (sB_0 hY) rfl ?_
  rw [e2]
  refine w_aload_n C (pc := 5) dX9_alone_5 0 rfl ?_
  obtain ⟨v3, e4, h⟩ := ob h
  refine w_cVi C (pc := 6) dX9_alone_6 my_X9_customers mi_X9_customers ml_X9_74 (sB_0 hY) rfl rfl rfl [] rfl rfl (Nat.le_of_ble_eq_true rfl) (tX9_customers hY  e4) ?_
  refine w_bipush C (pc := 9) dX9_alone_9 (v := 7) (by decide) ?_
  refine w_icgt C (pc := 11) 23 dX9_alone_11 (by decide) (fun c => ?_) (fun c => ?_)
  · have h := it_t h c
    refine w_iconst C (pc := 23) dX9_alone_23 (v := (-1)) (by decide) ?_
    exact w_ret C (pc := 24) dX9_alone_24 rfl (Option.some.inj h)
  · have h := it_f h c
    refine w_iload_n C (pc := 14) dX9_alone_14 1 rfl ?_
    refine w_iconst C (pc := 15) dX9_alone_15 (v := 0) (by decide) ?_
    refine w_iconst C (pc := 16) dX9_alone_16 (v := 1) (by decide) ?_
    refine w_cSi C (pc := 17) dX9_alone_17 my_X9_isIn ms_X9_isIn ml_X9_70 rfl rfl [.int x1, .int 0, .int 1] rfl rfl (Nat.le_of_ble_eq_true rfl) (tX9_isIn  rfl) ?_
    refine w_ifne C (pc := 20) 25 dX9_alone_20 (by decide) (fun c => ?_) (fun c => ?_)
    · have h := it_t h c
      refine w_iconst C (pc := 23) dX9_alone_23 (v := (-1)) (by decide) ?_
      exact w_ret C (pc := 24) dX9_alone_24 rfl (Option.some.inj h)
    · have h := it_f h c
      refine w_aload_n C (pc := 25) dX9_alone_25 0 rfl ?_
      refine w_iconst C (pc := 26) dX9_alone_26 (v := 0) (by decide) ?_
      obtain ⟨v5, e6, h⟩ := ob h
      refine w_cVv C (pc := 27) dX9_alone_27 my_X9_seeks mi_X9_seeks ml_X9_260 (sB_0 hY) rfl rfl rfl [.int 0] rfl rfl (Nat.le_of_ble_eq_true rfl) (tX9_seeks hY  e6) ?_
      refine w_iload_n C (pc := 30) dX9_alone_30 1 rfl ?_
      refine w_ifne C (pc := 31) 41 dX9_alone_31 (by decide) (fun c => ?_) (fun c => ?_)
      · have h := it_t h c
        refine w_aload_n C (pc := 34) dX9_alone_34 0 rfl ?_
        refine w_getI C (pc := 35) dX9_alone_35 f_X9_248 (sB_0 hY) rfl ?_
        refine w_goto C (pc := 38) 45 dX9_alone_38 (by decide) ?_
        exact w_ret C (pc := 45) dX9_alone_45 rfl (Option.some.inj h)
      · have h := it_f h c
        refine w_aload_n C (pc := 41) dX9_alone_41 0 rfl ?_
        refine w_getI C (pc := 42) dX9_alone_42 f_X9_254 (sB_0 hY) rfl ?_
        exact w_ret C (pc := 45) dX9_alone_45 rfl (Option.some.inj h)
theorem dX9_best_0 : decode cX9_best 0 = .ok (.aload_n 0, 1) := by decide +kernel
theorem dX9_best_1 : decode cX9_best 1 = .ok (.iconst 0, 1) := by decide +kernel
theorem dX9_best_2 : decode cX9_best 2 = .ok (.putfield 66, 3) := by decide +kernel
theorem dX9_best_5 : decode cX9_best 5 = .ok (.aload_n 0, 1) := by decide +kernel
theorem dX9_best_6 : decode cX9_best 6 = .ok (.invokevirtual 74, 3) := by decide +kernel
theorem dX9_best_9 : decode cX9_best 9 = .ok (.bipush 7, 2) := by decide +kernel
theorem dX9_best_11 : decode cX9_best 11 = .ok (.if_icmp .le 5, 3) := by decide +kernel
theorem dX9_best_14 : decode cX9_best 14 = .ok (.iconst (-1), 1) := by decide +kernel
theorem dX9_best_15 : decode cX9_best 15 = .ok (.ireturn, 1) := by decide +kernel
theorem dX9_best_16 : decode cX9_best 16 = .ok (.aload_n 0, 1) := by decide +kernel
theorem dX9_best_17 : decode cX9_best 17 = .ok (.aload_n 0, 1) := by decide +kernel
theorem dX9_best_18 : decode cX9_best 18 = .ok (.bipush 8, 2) := by decide +kernel
theorem dX9_best_20 : decode cX9_best 20 = .ok (.invokevirtual 78, 3) := by decide +kernel
theorem dX9_best_23 : decode cX9_best 23 = .ok (.invokevirtual 260, 3) := by decide +kernel
theorem dX9_best_26 : decode cX9_best 26 = .ok (.aload_n 0, 1) := by decide +kernel
theorem dX9_best_27 : decode cX9_best 27 = .ok (.getfield 248, 3) := by decide +kernel
theorem dX9_best_30 : decode cX9_best 30 = .ok (.ireturn, 1) := by decide +kernel
def pX9_best (M : Mm) : Option (Int32 × Mm) :=
bnd (mset M 0 0 0) fun M1 =>
(pX9_customers M1).bind fun v3 =>
if v3 ≤ 7 then
((pX9_of 8 M1).bind fun v5 =>
(pX9_seeks v5 M1).bind fun v7 =>
some (v7 0 25, v7))
else
(some ((-1), M1))
abbrev zX9_best : Zx := (cX9_best, RX9, 1, 5, (some .int))
set_option maxRecDepth 100000 in
set_option maxHeartbeats 4000000 in
theorem tX9_best {l : Launch} {Y : Sx} {M : Mm} {q : Int32 × Mm} (hY : isB Y) (h : pX9_best M = some q) : Ct l Y yX9_best cX9_best 1 (some .int) 5 [.ref (adr Y 0)] M (some q.1) q.2 := by
  refine Ct.of (by decide) rfl (lv := [(0, .ref (adr Y 0))]) rfl ?_
  intro K hkl C
  change Cx K zX9_best Y at C
  subst hkl
  unfold pX9_best at h
  show Wp K zX9_best Y (Qm K Y (some q.1) q.2) M 0 [(0, .ref (adr Y 0))] []
  refine w_aload_n C (pc := 0) dX9_best_0 0 rfl ?_
  refine w_iconst C (pc := 1) dX9_best_1 (v := 0) (by decide) ?_
  obtain ⟨M1, e2, h⟩ := bn h
  refine w_putI C (pc := 2) dX9_best_2 fp_X9_66 (sB_0 hY) rfl ?_
  rw [e2]
  refine w_aload_n C (pc := 5) dX9_best_5 0 rfl ?_
  obtain ⟨v3, e4, h⟩ := ob h
  refine w_cVi C (pc := 6) dX9_best_6 my_X9_customers mi_X9_customers ml_X9_74 (sB_0 hY) rfl rfl rfl [] rfl rfl (Nat.le_of_ble_eq_true rfl) (tX9_customers hY  e4) ?_
  refine w_bipush C (pc := 9) dX9_best_9 (v := 7) (by decide) ?_
  refine w_icle C (pc := 11) 16 dX9_best_11 (by decide) (fun c => ?_) (fun c => ?_)
  · have h := it_t h c
    refine w_aload_n C (pc := 16) dX9_best_16 0 rfl ?_
    refine w_aload_n C (pc := 17) dX9_best_17 0 rfl ?_
    refine w_bipush C (pc := 18) dX9_best_18 (v := 8) (by decide) ?_
    obtain ⟨v5, e6, h⟩ := ob h
    refine w_cVi C (pc := 20) dX9_best_20 my_X9_of mi_X9_of ml_X9_78 (sB_0 hY) rfl rfl rfl [.int 8] rfl rfl (Nat.le_of_ble_eq_true rfl) (tX9_of hY  e6) ?_
    obtain ⟨v7, e8, h⟩ := ob h
    refine w_cVv C (pc := 23) dX9_best_23 my_X9_seeks mi_X9_seeks ml_X9_260 (sB_0 hY) rfl rfl rfl [.int v5] rfl rfl (Nat.le_of_ble_eq_true rfl) (tX9_seeks hY  e8) ?_
    refine w_aload_n C (pc := 26) dX9_best_26 0 rfl ?_
    refine w_getI C (pc := 27) dX9_best_27 f_X9_248 (sB_0 hY) rfl ?_
    exact w_ret C (pc := 30) dX9_best_30 rfl (Option.some.inj h)
  · have h := it_f h c
    refine w_iconst C (pc := 14) dX9_best_14 (v := (-1)) (by decide) ?_
    exact w_ret C (pc := 15) dX9_best_15 rfl (Option.some.inj h)
theorem dX9_bestOrder_0 : decode cX9_bestOrder 0 = .ok (.aload_n 0, 1) := by decide +kernel
theorem dX9_bestOrder_1 : decode cX9_bestOrder 1 = .ok (.iconst 0, 1) := by decide +kernel
theorem dX9_bestOrder_2 : decode cX9_bestOrder 2 = .ok (.putfield 66, 3) := by decide +kernel
theorem dX9_bestOrder_5 : decode cX9_bestOrder 5 = .ok (.aload_n 0, 1) := by decide +kernel
theorem dX9_bestOrder_6 : decode cX9_bestOrder 6 = .ok (.invokevirtual 74, 3) := by decide +kernel
theorem dX9_bestOrder_9 : decode cX9_bestOrder 9 = .ok (.bipush 7, 2) := by decide +kernel
theorem dX9_bestOrder_11 : decode cX9_bestOrder 11 = .ok (.if_icmp .le 5, 3) := by decide +kernel
theorem dX9_bestOrder_14 : decode cX9_bestOrder 14 = .ok (.iconst (-1), 1) := by decide +kernel
theorem dX9_bestOrder_15 : decode cX9_bestOrder 15 = .ok (.ireturn, 1) := by decide +kernel
theorem dX9_bestOrder_16 : decode cX9_bestOrder 16 = .ok (.aload_n 0, 1) := by decide +kernel
theorem dX9_bestOrder_17 : decode cX9_bestOrder 17 = .ok (.aload_n 0, 1) := by decide +kernel
theorem dX9_bestOrder_18 : decode cX9_bestOrder 18 = .ok (.bipush 8, 2) := by decide +kernel
theorem dX9_bestOrder_20 : decode cX9_bestOrder 20 = .ok (.invokevirtual 78, 3) := by decide +kernel
theorem dX9_bestOrder_23 : decode cX9_bestOrder 23 = .ok (.invokevirtual 260, 3) := by decide +kernel
theorem dX9_bestOrder_26 : decode cX9_bestOrder 26 = .ok (.aload_n 0, 1) := by decide +kernel
theorem dX9_bestOrder_27 : decode cX9_bestOrder 27 = .ok (.getfield 254, 3) := by decide +kernel
theorem dX9_bestOrder_30 : decode cX9_bestOrder 30 = .ok (.ireturn, 1) := by decide +kernel
def pX9_bestOrder (M : Mm) : Option (Int32 × Mm) :=
bnd (mset M 0 0 0) fun M1 =>
(pX9_customers M1).bind fun v3 =>
if v3 ≤ 7 then
((pX9_of 8 M1).bind fun v5 =>
(pX9_seeks v5 M1).bind fun v7 =>
some (v7 0 26, v7))
else
(some ((-1), M1))
abbrev zX9_bestOrder : Zx := (cX9_bestOrder, RX9, 1, 5, (some .int))
set_option maxRecDepth 100000 in
set_option maxHeartbeats 4000000 in
theorem tX9_bestOrder {l : Launch} {Y : Sx} {M : Mm} {q : Int32 × Mm} (hY : isB Y) (h : pX9_bestOrder M = some q) : Ct l Y yX9_bestOrder cX9_bestOrder 1 (some .int) 5 [.ref (adr Y 0)] M (some q.1) q.2 := by
  refine Ct.of (by decide) rfl (lv := [(0, .ref (adr Y 0))]) rfl ?_
  intro K hkl C
  change Cx K zX9_bestOrder Y at C
  subst hkl
  unfold pX9_bestOrder at h
  show Wp K zX9_bestOrder Y (Qm K Y (some q.1) q.2) M 0 [(0, .ref (adr Y 0))] []
  refine w_aload_n C (pc := 0) dX9_bestOrder_0 0 rfl ?_
  refine w_iconst C (pc := 1) dX9_bestOrder_1 (v := 0) (by decide) ?_
  obtain ⟨M1, e2, h⟩ := bn h
  refine w_putI C (pc := 2) dX9_bestOrder_2 fp_X9_66 (sB_0 hY) rfl ?_
  rw [e2]
  refine w_aload_n C (pc := 5) dX9_bestOrder_5 0 rfl ?_
  obtain ⟨v3, e4, h⟩ := ob h
  refine w_cVi C (pc := 6) dX9_bestOrder_6 my_X9_customers mi_X9_customers ml_X9_74 (sB_0 hY) rfl rfl rfl [] rfl rfl (Nat.le_of_ble_eq_true rfl) (tX9_customers hY  e4) ?_
  refine w_bipush C (pc := 9) dX9_bestOrder_9 (v := 7) (by decide) ?_
  refine w_icle C (pc := 11) 16 dX9_bestOrder_11 (by decide) (fun c => ?_) (fun c => ?_)
  · have h := it_t h c
    refine w_aload_n C (pc := 16) dX9_bestOrder_16 0 rfl ?_
    refine w_aload_n C (pc := 17) dX9_bestOrder_17 0 rfl ?_
    refine w_bipush C (pc := 18) dX9_bestOrder_18 (v := 8) (by decide) ?_
    obtain ⟨v5, e6, h⟩ := ob h
    refine w_cVi C (pc := 20) dX9_bestOrder_20 my_X9_of mi_X9_of ml_X9_78 (sB_0 hY) rfl rfl rfl [.int 8] rfl rfl (Nat.le_of_ble_eq_true rfl) (tX9_of hY  e6) ?_
    obtain ⟨v7, e8, h⟩ := ob h
    refine w_cVv C (pc := 23) dX9_bestOrder_23 my_X9_seeks mi_X9_seeks ml_X9_260 (sB_0 hY) rfl rfl rfl [.int v5] rfl rfl (Nat.le_of_ble_eq_true rfl) (tX9_seeks hY  e8) ?_
    refine w_aload_n C (pc := 26) dX9_bestOrder_26 0 rfl ?_
    refine w_getI C (pc := 27) dX9_bestOrder_27 f_X9_254 (sB_0 hY) rfl ?_
    exact w_ret C (pc := 30) dX9_bestOrder_30 rfl (Option.some.inj h)
  · have h := it_f h c
    refine w_iconst C (pc := 14) dX9_bestOrder_14 (v := (-1)) (by decide) ?_
    exact w_ret C (pc := 15) dX9_bestOrder_15 rfl (Option.some.inj h)
theorem dX9_clears_0 : decode cX9_clears 0 = .ok (.aload_n 0, 1) := by decide +kernel
theorem dX9_clears_1 : decode cX9_clears 1 = .ok (.getfield 7, 3) := by decide +kernel
theorem dX9_clears_4 : decode cX9_clears 4 = .ok (.bipush 60, 2) := by decide +kernel
theorem dX9_clears_6 : decode cX9_clears 6 = .ok (.iconst 0, 1) := by decide +kernel
theorem dX9_clears_7 : decode cX9_clears 7 = .ok (.iastore, 1) := by decide +kernel
theorem dX9_clears_8 : decode cX9_clears 8 = .ok (.aload_n 0, 1) := by decide +kernel
theorem dX9_clears_9 : decode cX9_clears 9 = .ok (.getfield 7, 3) := by decide +kernel
theorem dX9_clears_12 : decode cX9_clears 12 = .ok (.bipush 70, 2) := by decide +kernel
theorem dX9_clears_14 : decode cX9_clears 14 = .ok (.iconst 0, 1) := by decide +kernel
theorem dX9_clears_15 : decode cX9_clears 15 = .ok (.iastore, 1) := by decide +kernel
theorem dX9_clears_16 : decode cX9_clears 16 = .ok (.return_, 1) := by decide +kernel
def pX9_clears (M : Mm) : Option (Mm) :=
(ast M 1 160 60 0).bind fun M1 =>
(ast M1 1 160 70 0).bind fun M3 =>
some M3
abbrev zX9_clears : Zx := (cX9_clears, RX9, 1, 0, none)
set_option maxRecDepth 100000 in
set_option maxHeartbeats 4000000 in
theorem tX9_clears {l : Launch} {Y : Sx} {M : Mm} {q : Mm} (hY : isB Y) (h : pX9_clears M = some q) : Ct l Y yX9_clears cX9_clears 1 none 0 [.ref (adr Y 0)] M none q := by
  refine Ct.of (by decide) rfl (lv := [(0, .ref (adr Y 0))]) rfl ?_
  intro K hkl C
  change Cx K zX9_clears Y at C
  subst hkl
  unfold pX9_clears at h
  show Wp K zX9_clears Y (Qm K Y none q) M 0 [(0, .ref (adr Y 0))] []
  refine w_aload_n C (pc := 0) dX9_clears_0 0 rfl ?_
  refine w_getR C (pc := 1) dX9_clears_1 f_X9_7 (sB_0 hY) rfl ?_
  refine w_bipush C (pc := 4) dX9_clears_4 (v := 60) (by decide) ?_
  refine w_iconst C (pc := 6) dX9_clears_6 (v := 0) (by decide) ?_
  obtain ⟨M1, e2, h⟩ := ob h
  refine w_iast C (pc := 7) dX9_clears_7 (sB_1 hY) e2 ?_
  refine w_aload_n C (pc := 8) dX9_clears_8 0 rfl ?_
  refine w_getR C (pc := 9) dX9_clears_9 f_X9_7 (sB_0 hY) rfl ?_
  refine w_bipush C (pc := 12) dX9_clears_12 (v := 70) (by decide) ?_
  refine w_iconst C (pc := 14) dX9_clears_14 (v := 0) (by decide) ?_
  obtain ⟨M3, e4, h⟩ := ob h
  refine w_iast C (pc := 15) dX9_clears_15 (sB_1 hY) e4 ?_
  exact w_retV C (pc := 16) dX9_clears_16 rfl (Option.some.inj h)
theorem dX9_clear_0 : decode cX9_clear 0 = .ok (.aload_n 0, 1) := by decide +kernel
theorem dX9_clear_1 : decode cX9_clear 1 = .ok (.iconst 0, 1) := by decide +kernel
theorem dX9_clear_2 : decode cX9_clear 2 = .ok (.putfield 66, 3) := by decide +kernel
theorem dX9_clear_5 : decode cX9_clear 5 = .ok (.aload_n 0, 1) := by decide +kernel
theorem dX9_clear_6 : decode cX9_clear 6 = .ok (.invokevirtual 97, 3) := by decide +kernel
theorem dX9_clear_9 : decode cX9_clear 9 = .ok (.return_, 1) := by decide +kernel
def pX9_clear (M : Mm) : Option (Mm) :=
bnd (mset M 0 0 0) fun M1 =>
(pX9_clears M1).bind fun v3 =>
some v3
abbrev zX9_clear : Zx := (cX9_clear, RX9, 1, 1, none)
set_option maxRecDepth 100000 in
set_option maxHeartbeats 4000000 in
theorem tX9_clear {l : Launch} {Y : Sx} {M : Mm} {q : Mm} (hY : isB Y) (h : pX9_clear M = some q) : Ct l Y yX9_clear cX9_clear 1 none 1 [.ref (adr Y 0)] M none q := by
  refine Ct.of (by decide) rfl (lv := [(0, .ref (adr Y 0))]) rfl ?_
  intro K hkl C
  change Cx K zX9_clear Y at C
  subst hkl
  unfold pX9_clear at h
  show Wp K zX9_clear Y (Qm K Y none q) M 0 [(0, .ref (adr Y 0))] []
  refine w_aload_n C (pc := 0) dX9_clear_0 0 rfl ?_
  refine w_iconst C (pc := 1) dX9_clear_1 (v := 0) (by decide) ?_
  obtain ⟨M1, e2, h⟩ := bn h
  refine w_putI C (pc := 2) dX9_clear_2 fp_X9_66 (sB_0 hY) rfl ?_
  rw [e2]
  refine w_aload_n C (pc := 5) dX9_clear_5 0 rfl ?_
  obtain ⟨v3, e4, h⟩ := ob h
  refine w_cVv C (pc := 6) dX9_clear_6 my_X9_clears mi_X9_clears ml_X9_97 (sB_0 hY) rfl rfl rfl [] rfl rfl (Nat.le_of_ble_eq_true rfl) (tX9_clears hY  e4) ?_
  exact w_retV C (pc := 9) dX9_clear_9 rfl (Option.some.inj h)
theorem dX9_stops_0 : decode cX9_stops 0 = .ok (.aload_n 0, 1) := by decide +kernel
theorem dX9_stops_1 : decode cX9_stops 1 = .ok (.getfield 7, 3) := by decide +kernel
theorem dX9_stops_4 : decode cX9_stops 4 = .ok (.bipush 60, 2) := by decide +kernel
theorem dX9_stops_6 : decode cX9_stops 6 = .ok (.iaload, 1) := by decide +kernel
theorem dX9_stops_7 : decode cX9_stops 7 = .ok (.iconst 2, 1) := by decide +kernel
theorem dX9_stops_8 : decode cX9_stops 8 = .ok (.iadd, 1) := by decide +kernel
theorem dX9_stops_9 : decode cX9_stops 9 = .ok (.ireturn, 1) := by decide +kernel
def pX9_stops (M : Mm) : Option (Int32) :=
(ald M 1 160 60).bind fun v1 =>
some (v1 + 2)
abbrev zX9_stops : Zx := (cX9_stops, RX9, 1, 0, (some .int))
set_option maxRecDepth 100000 in
set_option maxHeartbeats 4000000 in
theorem tX9_stops {l : Launch} {Y : Sx} {M : Mm} {q : Int32} (hY : isB Y) (h : pX9_stops M = some q) : Ct l Y yX9_stops cX9_stops 1 (some .int) 0 [.ref (adr Y 0)] M (some q) M := by
  refine Ct.of (by decide) rfl (lv := [(0, .ref (adr Y 0))]) rfl ?_
  intro K hkl C
  change Cx K zX9_stops Y at C
  subst hkl
  unfold pX9_stops at h
  show Wp K zX9_stops Y (Qm K Y (some q) M) M 0 [(0, .ref (adr Y 0))] []
  refine w_aload_n C (pc := 0) dX9_stops_0 0 rfl ?_
  refine w_getR C (pc := 1) dX9_stops_1 f_X9_7 (sB_0 hY) rfl ?_
  refine w_bipush C (pc := 4) dX9_stops_4 (v := 60) (by decide) ?_
  obtain ⟨v1, e2, h⟩ := ob h
  refine w_iald C (pc := 6) dX9_stops_6 (sB_1 hY) e2 ?_
  refine w_iconst C (pc := 7) dX9_stops_7 (v := 2) (by decide) ?_
  refine w_iadd C (pc := 8) dX9_stops_8 ?_
  exact w_retR C (pc := 9) dX9_stops_9 rfl (Option.some.inj h)
theorem dX9_sorties_0 : decode cX9_sorties 0 = .ok (.aload_n 0, 1) := by decide +kernel
theorem dX9_sorties_1 : decode cX9_sorties 1 = .ok (.getfield 7, 3) := by decide +kernel
theorem dX9_sorties_4 : decode cX9_sorties 4 = .ok (.bipush 70, 2) := by decide +kernel
theorem dX9_sorties_6 : decode cX9_sorties 6 = .ok (.iaload, 1) := by decide +kernel
theorem dX9_sorties_7 : decode cX9_sorties 7 = .ok (.ireturn, 1) := by decide +kernel
def pX9_sorties (M : Mm) : Option (Int32) :=
(ald M 1 160 70).bind fun v1 =>
some v1
abbrev zX9_sorties : Zx := (cX9_sorties, RX9, 1, 0, (some .int))
set_option maxRecDepth 100000 in
set_option maxHeartbeats 4000000 in
theorem tX9_sorties {l : Launch} {Y : Sx} {M : Mm} {q : Int32} (hY : isB Y) (h : pX9_sorties M = some q) : Ct l Y yX9_sorties cX9_sorties 1 (some .int) 0 [.ref (adr Y 0)] M (some q) M := by
  refine Ct.of (by decide) rfl (lv := [(0, .ref (adr Y 0))]) rfl ?_
  intro K hkl C
  change Cx K zX9_sorties Y at C
  subst hkl
  unfold pX9_sorties at h
  show Wp K zX9_sorties Y (Qm K Y (some q) M) M 0 [(0, .ref (adr Y 0))] []
  refine w_aload_n C (pc := 0) dX9_sorties_0 0 rfl ?_
  refine w_getR C (pc := 1) dX9_sorties_1 f_X9_7 (sB_0 hY) rfl ?_
  refine w_bipush C (pc := 4) dX9_sorties_4 (v := 70) (by decide) ?_
  obtain ⟨v1, e2, h⟩ := ob h
  refine w_iald C (pc := 6) dX9_sorties_6 (sB_1 hY) e2 ?_
  exact w_retR C (pc := 7) dX9_sorties_7 rfl (Option.some.inj h)
theorem dX9_count_0 : decode cX9_count 0 = .ok (.aload_n 0, 1) := by decide +kernel
theorem dX9_count_1 : decode cX9_count 1 = .ok (.iconst 0, 1) := by decide +kernel
theorem dX9_count_2 : decode cX9_count 2 = .ok (.putfield 66, 3) := by decide +kernel
theorem dX9_count_5 : decode cX9_count 5 = .ok (.iload_n 1, 1) := by decide +kernel
theorem dX9_count_6 : decode cX9_count 6 = .ok (.tableswitch 50 0 3 #[30, 35, 40, 45], 30) := by decide +kernel
theorem dX9_count_36 : decode cX9_count 36 = .ok (.aload_n 0, 1) := by decide +kernel
theorem dX9_count_37 : decode cX9_count 37 = .ok (.invokevirtual 74, 3) := by decide +kernel
theorem dX9_count_40 : decode cX9_count 40 = .ok (.ireturn, 1) := by decide +kernel
theorem dX9_count_41 : decode cX9_count 41 = .ok (.aload_n 0, 1) := by decide +kernel
theorem dX9_count_42 : decode cX9_count 42 = .ok (.invokevirtual 107, 3) := by decide +kernel
theorem dX9_count_45 : decode cX9_count 45 = .ok (.ireturn, 1) := by decide +kernel
theorem dX9_count_46 : decode cX9_count 46 = .ok (.aload_n 0, 1) := by decide +kernel
theorem dX9_count_47 : decode cX9_count 47 = .ok (.invokevirtual 118, 3) := by decide +kernel
theorem dX9_count_50 : decode cX9_count 50 = .ok (.ireturn, 1) := by decide +kernel
theorem dX9_count_51 : decode cX9_count 51 = .ok (.aload_n 0, 1) := by decide +kernel
theorem dX9_count_52 : decode cX9_count 52 = .ok (.getfield 125, 3) := by decide +kernel
theorem dX9_count_55 : decode cX9_count 55 = .ok (.ireturn, 1) := by decide +kernel
theorem dX9_count_56 : decode cX9_count 56 = .ok (.iload_n 1, 1) := by decide +kernel
theorem dX9_count_57 : decode cX9_count 57 = .ok (.bipush 10, 2) := by decide +kernel
theorem dX9_count_59 : decode cX9_count 59 = .ok (.bipush 19, 2) := by decide +kernel
theorem dX9_count_61 : decode cX9_count 61 = .ok (.invokestatic 70, 3) := by decide +kernel
theorem dX9_count_64 : decode cX9_count 64 = .ok (.ifCond .eq 14, 3) := by decide +kernel
theorem dX9_count_67 : decode cX9_count 67 = .ok (.aload_n 0, 1) := by decide +kernel
theorem dX9_count_68 : decode cX9_count 68 = .ok (.iload_n 1, 1) := by decide +kernel
theorem dX9_count_69 : decode cX9_count 69 = .ok (.bipush 10, 2) := by decide +kernel
theorem dX9_count_71 : decode cX9_count 71 = .ok (.isub, 1) := by decide +kernel
theorem dX9_count_72 : decode cX9_count 72 = .ok (.invokevirtual 78, 3) := by decide +kernel
theorem dX9_count_75 : decode cX9_count 75 = .ok (.goto 5, 3) := by decide +kernel
theorem dX9_count_78 : decode cX9_count 78 = .ok (.bipush (-99), 2) := by decide +kernel
theorem dX9_count_80 : decode cX9_count 80 = .ok (.ireturn, 1) := by decide +kernel
def pX9_count (x1 : Int32) (M : Mm) : Option (Int32 × Mm) :=
bnd (mset M 0 0 0) fun M1 =>
if x1 = 0 then
((pX9_customers M1).bind fun v3 =>
some (v3, M1))
else
(if x1 = 1 then
((pX9_stops M1).bind fun v5 =>
some (v5, M1))
else
(if x1 = 2 then
((pX9_sorties M1).bind fun v7 =>
some (v7, M1))
else
(if x1 = 3 then
(some (M1 0 4, M1))
else
(if (pX9_isIn x1 10 19) = 0 then
(some ((-99), M1))
else
((pX9_of (x1 - 10) M1).bind fun v9 =>
some (v9, M1))))))
abbrev zX9_count : Zx := (cX9_count, RX9, 2, 1, (some .int))
set_option maxRecDepth 100000 in
set_option maxHeartbeats 4000000 in
theorem tX9_count {l : Launch} {Y : Sx} {M : Mm} {x1 : Int32} {q : Int32 × Mm} (hY : isB Y) (h : pX9_count x1 M = some q) : Ct l Y yX9_count cX9_count 2 (some .int) 1 [.ref (adr Y 0), .int x1] M (some q.1) q.2 := by
  refine Ct.of (by decide) rfl (lv := [(0, .ref (adr Y 0)), (1, .int x1)]) rfl ?_
  intro K hkl C
  change Cx K zX9_count Y at C
  subst hkl
  unfold pX9_count at h
  show Wp K zX9_count Y (Qm K Y (some q.1) q.2) M 0 [(0, .ref (adr Y 0)), (1, .int x1)] []
  refine w_aload_n C (pc := 0) dX9_count_0 0 rfl ?_
  refine w_iconst C (pc := 1) dX9_count_1 (v := 0) (by decide) ?_
  obtain ⟨M1, e2, h⟩ := bn h
  refine w_putI C (pc := 2) dX9_count_2 fp_X9_66 (sB_0 hY) rfl ?_
  rw [e2]
  refine w_iload_n C (pc := 5) dX9_count_5 1 rfl ?_
  by_cases c6_0 : x1 = 0
  · have h := it_t h c6_0
    refine w_swIn C (pc := 6) (v := 0) 36 dX9_count_6 c6_0 (by decide) (by decide) rfl (by decide) ?_
    refine w_aload_n C (pc := 36) dX9_count_36 0 rfl ?_
    obtain ⟨v3, e4, h⟩ := ob h
    refine w_cVi C (pc := 37) dX9_count_37 my_X9_customers mi_X9_customers ml_X9_74 (sB_0 hY) rfl rfl rfl [] rfl rfl (Nat.le_of_ble_eq_true rfl) (tX9_customers hY  e4) ?_
    exact w_ret C (pc := 40) dX9_count_40 rfl (Option.some.inj h)
  have h := it_f h c6_0
  by_cases c6_1 : x1 = 1
  · have h := it_t h c6_1
    refine w_swIn C (pc := 6) (v := 1) 41 dX9_count_6 c6_1 (by decide) (by decide) rfl (by decide) ?_
    refine w_aload_n C (pc := 41) dX9_count_41 0 rfl ?_
    obtain ⟨v5, e6, h⟩ := ob h
    refine w_cVi C (pc := 42) dX9_count_42 my_X9_stops mi_X9_stops ml_X9_107 (sB_0 hY) rfl rfl rfl [] rfl rfl (Nat.le_of_ble_eq_true rfl) (tX9_stops hY  e6) ?_
    exact w_ret C (pc := 45) dX9_count_45 rfl (Option.some.inj h)
  have h := it_f h c6_1
  by_cases c6_2 : x1 = 2
  · have h := it_t h c6_2
    refine w_swIn C (pc := 6) (v := 2) 46 dX9_count_6 c6_2 (by decide) (by decide) rfl (by decide) ?_
    refine w_aload_n C (pc := 46) dX9_count_46 0 rfl ?_
    obtain ⟨v7, e8, h⟩ := ob h
    refine w_cVi C (pc := 47) dX9_count_47 my_X9_sorties mi_X9_sorties ml_X9_118 (sB_0 hY) rfl rfl rfl [] rfl rfl (Nat.le_of_ble_eq_true rfl) (tX9_sorties hY  e8) ?_
    exact w_ret C (pc := 50) dX9_count_50 rfl (Option.some.inj h)
  have h := it_f h c6_2
  by_cases c6_3 : x1 = 3
  · have h := it_t h c6_3
    refine w_swIn C (pc := 6) (v := 3) 51 dX9_count_6 c6_3 (by decide) (by decide) rfl (by decide) ?_
    refine w_aload_n C (pc := 51) dX9_count_51 0 rfl ?_
    refine w_getI C (pc := 52) dX9_count_52 f_X9_125 (sB_0 hY) rfl ?_
    exact w_ret C (pc := 55) dX9_count_55 rfl (Option.some.inj h)
  have h := it_f h c6_3
  refine w_swOut C (pc := 6) 56 dX9_count_6 (by have q0 := lv_neT c6_0 (a := 0) rfl; have q1 := lv_neT c6_1 (a := 1) rfl; have q2 := lv_neT c6_2 (a := 2) rfl; have q3 := lv_neT c6_3 (a := 3) rfl; omega) (by decide) ?_
  refine w_iload_n C (pc := 56) dX9_count_56 1 rfl ?_
  refine w_bipush C (pc := 57) dX9_count_57 (v := 10) (by decide) ?_
  refine w_bipush C (pc := 59) dX9_count_59 (v := 19) (by decide) ?_
  refine w_cSi C (pc := 61) dX9_count_61 my_X9_isIn ms_X9_isIn ml_X9_70 rfl rfl [.int x1, .int 10, .int 19] rfl rfl (Nat.le_of_ble_eq_true rfl) (tX9_isIn  rfl) ?_
  refine w_ifeq C (pc := 64) 78 dX9_count_64 (by decide) (fun c => ?_) (fun c => ?_)
  · have h := it_t h c
    refine w_bipush C (pc := 78) dX9_count_78 (v := (-99)) (by decide) ?_
    exact w_ret C (pc := 80) dX9_count_80 rfl (Option.some.inj h)
  · have h := it_f h c
    refine w_aload_n C (pc := 67) dX9_count_67 0 rfl ?_
    refine w_iload_n C (pc := 68) dX9_count_68 1 rfl ?_
    refine w_bipush C (pc := 69) dX9_count_69 (v := 10) (by decide) ?_
    refine w_isub C (pc := 71) dX9_count_71 ?_
    obtain ⟨v9, e10, h⟩ := ob h
    refine w_cVi C (pc := 72) dX9_count_72 my_X9_of mi_X9_of ml_X9_78 (sB_0 hY) rfl rfl rfl [.int (x1 - 10)] rfl rfl (Nat.le_of_ble_eq_true rfl) (tX9_of hY  e10) ?_
    refine w_goto C (pc := 75) 80 dX9_count_75 (by decide) ?_
    exact w_ret C (pc := 80) dX9_count_80 rfl (Option.some.inj h)
theorem dX9_sortieOf_0 : decode cX9_sortieOf 0 = .ok (.aload_n 0, 1) := by decide +kernel
theorem dX9_sortieOf_1 : decode cX9_sortieOf 1 = .ok (.getfield 7, 3) := by decide +kernel
theorem dX9_sortieOf_4 : decode cX9_sortieOf 4 = .ok (.bipush 71, 2) := by decide +kernel
theorem dX9_sortieOf_6 : decode cX9_sortieOf 6 = .ok (.iconst 4, 1) := by decide +kernel
theorem dX9_sortieOf_7 : decode cX9_sortieOf 7 = .ok (.iload_n 1, 1) := by decide +kernel
theorem dX9_sortieOf_8 : decode cX9_sortieOf 8 = .ok (.imul, 1) := by decide +kernel
theorem dX9_sortieOf_9 : decode cX9_sortieOf 9 = .ok (.iadd, 1) := by decide +kernel
theorem dX9_sortieOf_10 : decode cX9_sortieOf 10 = .ok (.iload_n 2, 1) := by decide +kernel
theorem dX9_sortieOf_11 : decode cX9_sortieOf 11 = .ok (.iadd, 1) := by decide +kernel
theorem dX9_sortieOf_12 : decode cX9_sortieOf 12 = .ok (.iaload, 1) := by decide +kernel
theorem dX9_sortieOf_13 : decode cX9_sortieOf 13 = .ok (.ireturn, 1) := by decide +kernel
def pX9_sortieOf (x1 : Int32) (x2 : Int32) (M : Mm) : Option (Int32) :=
(ald M 1 160 ((71 + (4 * x1)) + x2)).bind fun v1 =>
some v1
abbrev zX9_sortieOf : Zx := (cX9_sortieOf, RX9, 3, 0, (some .int))
set_option maxRecDepth 100000 in
set_option maxHeartbeats 4000000 in
theorem tX9_sortieOf {l : Launch} {Y : Sx} {M : Mm} {x1 : Int32} {x2 : Int32} {q : Int32} (hY : isB Y) (h : pX9_sortieOf x1 x2 M = some q) : Ct l Y yX9_sortieOf cX9_sortieOf 3 (some .int) 0 [.ref (adr Y 0), .int x1, .int x2] M (some q) M := by
  refine Ct.of (by decide) rfl (lv := [(0, .ref (adr Y 0)), (1, .int x1), (2, .int x2)]) rfl ?_
  intro K hkl C
  change Cx K zX9_sortieOf Y at C
  subst hkl
  unfold pX9_sortieOf at h
  show Wp K zX9_sortieOf Y (Qm K Y (some q) M) M 0 [(0, .ref (adr Y 0)), (1, .int x1), (2, .int x2)] []
  refine w_aload_n C (pc := 0) dX9_sortieOf_0 0 rfl ?_
  refine w_getR C (pc := 1) dX9_sortieOf_1 f_X9_7 (sB_0 hY) rfl ?_
  refine w_bipush C (pc := 4) dX9_sortieOf_4 (v := 71) (by decide) ?_
  refine w_iconst C (pc := 6) dX9_sortieOf_6 (v := 4) (by decide) ?_
  refine w_iload_n C (pc := 7) dX9_sortieOf_7 1 rfl ?_
  refine w_imul C (pc := 8) dX9_sortieOf_8 ?_
  refine w_iadd C (pc := 9) dX9_sortieOf_9 ?_
  refine w_iload_n C (pc := 10) dX9_sortieOf_10 2 rfl ?_
  refine w_iadd C (pc := 11) dX9_sortieOf_11 ?_
  obtain ⟨v1, e2, h⟩ := ob h
  refine w_iald C (pc := 12) dX9_sortieOf_12 (sB_1 hY) e2 ?_
  exact w_retR C (pc := 13) dX9_sortieOf_13 rfl (Option.some.inj h)
theorem dX9_crosses_0 : decode cX9_crosses 0 = .ok (.iconst 0, 1) := by decide +kernel
theorem dX9_crosses_1 : decode cX9_crosses 1 = .ok (.istore_n 2, 1) := by decide +kernel
theorem dX9_crosses_2 : decode cX9_crosses 2 = .ok (.iload_n 2, 1) := by decide +kernel
theorem dX9_crosses_3 : decode cX9_crosses 3 = .ok (.iload_n 1, 1) := by decide +kernel
theorem dX9_crosses_4 : decode cX9_crosses 4 = .ok (.if_icmp .ge 56, 3) := by decide +kernel
theorem dX9_crosses_7 : decode cX9_crosses 7 = .ok (.aload_n 0, 1) := by decide +kernel
theorem dX9_crosses_8 : decode cX9_crosses 8 = .ok (.iload_n 2, 1) := by decide +kernel
theorem dX9_crosses_9 : decode cX9_crosses 9 = .ok (.iconst 0, 1) := by decide +kernel
theorem dX9_crosses_10 : decode cX9_crosses 10 = .ok (.invokevirtual 137, 3) := by decide +kernel
theorem dX9_crosses_13 : decode cX9_crosses 13 = .ok (.aload_n 0, 1) := by decide +kernel
theorem dX9_crosses_14 : decode cX9_crosses 14 = .ok (.iload_n 1, 1) := by decide +kernel
theorem dX9_crosses_15 : decode cX9_crosses 15 = .ok (.iconst 0, 1) := by decide +kernel
theorem dX9_crosses_16 : decode cX9_crosses 16 = .ok (.invokevirtual 137, 3) := by decide +kernel
theorem dX9_crosses_19 : decode cX9_crosses 19 = .ok (.if_icmp .ne 35, 3) := by decide +kernel
theorem dX9_crosses_22 : decode cX9_crosses 22 = .ok (.aload_n 0, 1) := by decide +kernel
theorem dX9_crosses_23 : decode cX9_crosses 23 = .ok (.iload_n 1, 1) := by decide +kernel
theorem dX9_crosses_24 : decode cX9_crosses 24 = .ok (.iconst 1, 1) := by decide +kernel
theorem dX9_crosses_25 : decode cX9_crosses 25 = .ok (.invokevirtual 137, 3) := by decide +kernel
theorem dX9_crosses_28 : decode cX9_crosses 28 = .ok (.aload_n 0, 1) := by decide +kernel
theorem dX9_crosses_29 : decode cX9_crosses 29 = .ok (.iload_n 2, 1) := by decide +kernel
theorem dX9_crosses_30 : decode cX9_crosses 30 = .ok (.iconst 3, 1) := by decide +kernel
theorem dX9_crosses_31 : decode cX9_crosses 31 = .ok (.invokevirtual 137, 3) := by decide +kernel
theorem dX9_crosses_34 : decode cX9_crosses 34 = .ok (.if_icmp .ge 20, 3) := by decide +kernel
theorem dX9_crosses_37 : decode cX9_crosses 37 = .ok (.aload_n 0, 1) := by decide +kernel
theorem dX9_crosses_38 : decode cX9_crosses 38 = .ok (.iload_n 1, 1) := by decide +kernel
theorem dX9_crosses_39 : decode cX9_crosses 39 = .ok (.iconst 3, 1) := by decide +kernel
theorem dX9_crosses_40 : decode cX9_crosses 40 = .ok (.invokevirtual 137, 3) := by decide +kernel
theorem dX9_crosses_43 : decode cX9_crosses 43 = .ok (.aload_n 0, 1) := by decide +kernel
theorem dX9_crosses_44 : decode cX9_crosses 44 = .ok (.iload_n 2, 1) := by decide +kernel
theorem dX9_crosses_45 : decode cX9_crosses 45 = .ok (.iconst 1, 1) := by decide +kernel
theorem dX9_crosses_46 : decode cX9_crosses 46 = .ok (.invokevirtual 137, 3) := by decide +kernel
theorem dX9_crosses_49 : decode cX9_crosses 49 = .ok (.if_icmp .le 5, 3) := by decide +kernel
theorem dX9_crosses_52 : decode cX9_crosses 52 = .ok (.iconst 1, 1) := by decide +kernel
theorem dX9_crosses_53 : decode cX9_crosses 53 = .ok (.ireturn, 1) := by decide +kernel
theorem dX9_crosses_54 : decode cX9_crosses 54 = .ok (.iinc 2 1, 3) := by decide +kernel
theorem dX9_crosses_57 : decode cX9_crosses 57 = .ok (.goto (-55), 3) := by decide +kernel
theorem dX9_crosses_60 : decode cX9_crosses 60 = .ok (.iconst 0, 1) := by decide +kernel
theorem dX9_crosses_61 : decode cX9_crosses 61 = .ok (.ireturn, 1) := by decide +kernel
def pX9_crosses_L2 (x1 : Int32) (M : Mm) (s : Int32) : Option ((Int32) ⊕ ((Unit) ⊕ (Int32))) :=
if x1 ≤ s then
(some (Sum.inr (Sum.inl ())))
else
((pX9_sortieOf s 0 M).bind fun v1 =>
(pX9_sortieOf x1 0 M).bind fun v3 =>
if v1 = v3 then
((pX9_sortieOf x1 1 M).bind fun v5 =>
(pX9_sortieOf s 3 M).bind fun v7 =>
if v7 ≤ v5 then
(some (Sum.inl (s + 1)))
else
((pX9_sortieOf x1 3 M).bind fun v9 =>
(pX9_sortieOf s 1 M).bind fun v11 =>
if v9 ≤ v11 then
(some (Sum.inl (s + 1)))
else
(some (Sum.inr (Sum.inr 1)))))
else
(some (Sum.inl (s + 1))))
def pX9_crosses (x1 : Int32) (M : Mm) : Option (Int32) :=
(itr (pX9_crosses_L2 x1 M) fuel 0).bind fun x14 =>
Sum.elim (fun yx14 =>
some 0) (fun r => some r) x14
abbrev zX9_crosses : Zx := (cX9_crosses, RX9, 3, 1, (some .boolean))
set_option maxRecDepth 100000 in
set_option maxHeartbeats 4000000 in
theorem tX9_crosses {l : Launch} {Y : Sx} {M : Mm} {x1 : Int32} {q : Int32} (hY : isB Y) (h : pX9_crosses x1 M = some q) : Ct l Y yX9_crosses cX9_crosses 3 (some .boolean) 1 [.ref (adr Y 0), .int x1] M (some q) M := by
  refine Ct.of (by decide) rfl (lv := [(0, .ref (adr Y 0)), (1, .int x1)]) rfl ?_
  intro K hkl C
  change Cx K zX9_crosses Y at C
  subst hkl
  unfold pX9_crosses at h
  show Wp K zX9_crosses Y (Qm K Y (some q) M) M 0 [(0, .ref (adr Y 0)), (1, .int x1)] []
  refine w_iconst C (pc := 0) dX9_crosses_0 (v := 0) (by decide) ?_
  refine w_istore_n C (pc := 1) dX9_crosses_1 (lv' := [(0, .ref (adr Y 0)), (1, .int x1), (2, .int 0)]) rfl rfl rfl ?_
  obtain ⟨x14, e15, h⟩ := ob h
  refine itr_W (P := fun s16 => Wp K zX9_crosses Y (Qm K Y (some q) M) M 2 [(0, .ref (adr Y 0)), (1, .int x1), (2, .int s16)] []) (R := fun x9 => (∀ yx14, x9 = Sum.inl yx14 → Wp K zX9_crosses Y (Qm K Y (some q) M) M 60 [(0, .ref (adr Y 0)), (1, .int x1)] []) ∧ (∀ v9, x9 = Sum.inr v9 → some v9 = some q)) ?_ fuel 0 x14 e15 ?_
  · intro s16 r17 h20 ki18 kx19
    unfold pX9_crosses_L2 at h20
    show Wp K zX9_crosses Y (Qm K Y (some q) M) M 2 [(0, .ref (adr Y 0)), (1, .int x1), (2, .int s16)] []
    refine w_iload_n C (pc := 2) dX9_crosses_2 2 rfl ?_
    refine w_iload_n C (pc := 3) dX9_crosses_3 1 rfl ?_
    refine w_icge C (pc := 4) 60 dX9_crosses_4 (by decide) (fun c => ?_) (fun c => ?_)
    · have h20 := it_t h20 c
      obtain rfl := Option.some.inj h20
      refine w_lv [0, 1] rfl ?_
      have k9 := (kx19 (Sum.inl ()) rfl).1 () rfl
      try dsimp only at k9
      exact k9
    · have h20 := it_f h20 c
      refine w_aload_n C (pc := 7) dX9_crosses_7 0 rfl ?_
      refine w_iload_n C (pc := 8) dX9_crosses_8 2 rfl ?_
      refine w_iconst C (pc := 9) dX9_crosses_9 (v := 0) (by decide) ?_
      obtain ⟨v21, e22, h20⟩ := ob h20
      refine w_cVi C (pc := 10) dX9_crosses_10 my_X9_sortieOf mi_X9_sortieOf ml_X9_137 (sB_0 hY) rfl rfl rfl [.int s16, .int 0] rfl rfl (Nat.le_of_ble_eq_true rfl) (tX9_sortieOf hY  e22) ?_
      refine w_aload_n C (pc := 13) dX9_crosses_13 0 rfl ?_
      refine w_iload_n C (pc := 14) dX9_crosses_14 1 rfl ?_
      refine w_iconst C (pc := 15) dX9_crosses_15 (v := 0) (by decide) ?_
      obtain ⟨v23, e24, h20⟩ := ob h20
      refine w_cVi C (pc := 16) dX9_crosses_16 my_X9_sortieOf mi_X9_sortieOf ml_X9_137 (sB_0 hY) rfl rfl rfl [.int x1, .int 0] rfl rfl (Nat.le_of_ble_eq_true rfl) (tX9_sortieOf hY  e24) ?_
      refine w_icne C (pc := 19) 54 dX9_crosses_19 (by decide) (fun c => ?_) (fun c => ?_)
      · have h20 := it_t h20 c
        refine w_aload_n C (pc := 22) dX9_crosses_22 0 rfl ?_
        refine w_iload_n C (pc := 23) dX9_crosses_23 1 rfl ?_
        refine w_iconst C (pc := 24) dX9_crosses_24 (v := 1) (by decide) ?_
        obtain ⟨v25, e26, h20⟩ := ob h20
        refine w_cVi C (pc := 25) dX9_crosses_25 my_X9_sortieOf mi_X9_sortieOf ml_X9_137 (sB_0 hY) rfl rfl rfl [.int x1, .int 1] rfl rfl (Nat.le_of_ble_eq_true rfl) (tX9_sortieOf hY  e26) ?_
        refine w_aload_n C (pc := 28) dX9_crosses_28 0 rfl ?_
        refine w_iload_n C (pc := 29) dX9_crosses_29 2 rfl ?_
        refine w_iconst C (pc := 30) dX9_crosses_30 (v := 3) (by decide) ?_
        obtain ⟨v27, e28, h20⟩ := ob h20
        refine w_cVi C (pc := 31) dX9_crosses_31 my_X9_sortieOf mi_X9_sortieOf ml_X9_137 (sB_0 hY) rfl rfl rfl [.int s16, .int 3] rfl rfl (Nat.le_of_ble_eq_true rfl) (tX9_sortieOf hY  e28) ?_
        refine w_icge C (pc := 34) 54 dX9_crosses_34 (by decide) (fun c => ?_) (fun c => ?_)
        · have h20 := it_t h20 c
          refine w_iinc C (pc := 54) dX9_crosses_54 2 rfl (v := 1) (lv' := [(0, .ref (adr Y 0)), (1, .int x1), (2, .int (s16 + 1))]) (by decide) rfl rfl rfl ?_
          refine w_goto C (pc := 57) 2 dX9_crosses_57 (by decide) ?_
          obtain rfl := Option.some.inj h20
          have k9 := ki18 (s16 + 1) rfl
          try dsimp only at k9
          exact k9
        · have h20 := it_f h20 c
          refine w_aload_n C (pc := 37) dX9_crosses_37 0 rfl ?_
          refine w_iload_n C (pc := 38) dX9_crosses_38 1 rfl ?_
          refine w_iconst C (pc := 39) dX9_crosses_39 (v := 3) (by decide) ?_
          obtain ⟨v29, e30, h20⟩ := ob h20
          refine w_cVi C (pc := 40) dX9_crosses_40 my_X9_sortieOf mi_X9_sortieOf ml_X9_137 (sB_0 hY) rfl rfl rfl [.int x1, .int 3] rfl rfl (Nat.le_of_ble_eq_true rfl) (tX9_sortieOf hY  e30) ?_
          refine w_aload_n C (pc := 43) dX9_crosses_43 0 rfl ?_
          refine w_iload_n C (pc := 44) dX9_crosses_44 2 rfl ?_
          refine w_iconst C (pc := 45) dX9_crosses_45 (v := 1) (by decide) ?_
          obtain ⟨v31, e32, h20⟩ := ob h20
          refine w_cVi C (pc := 46) dX9_crosses_46 my_X9_sortieOf mi_X9_sortieOf ml_X9_137 (sB_0 hY) rfl rfl rfl [.int s16, .int 1] rfl rfl (Nat.le_of_ble_eq_true rfl) (tX9_sortieOf hY  e32) ?_
          refine w_icle C (pc := 49) 54 dX9_crosses_49 (by decide) (fun c => ?_) (fun c => ?_)
          · have h20 := it_t h20 c
            refine w_iinc C (pc := 54) dX9_crosses_54 2 rfl (v := 1) (lv' := [(0, .ref (adr Y 0)), (1, .int x1), (2, .int (s16 + 1))]) (by decide) rfl rfl rfl ?_
            refine w_goto C (pc := 57) 2 dX9_crosses_57 (by decide) ?_
            obtain rfl := Option.some.inj h20
            have k9 := ki18 (s16 + 1) rfl
            try dsimp only at k9
            exact k9
          · have h20 := it_f h20 c
            refine w_iconst C (pc := 52) dX9_crosses_52 (v := 1) (by decide) ?_
            obtain rfl := Option.some.inj h20
            have h33 := (kx19 (Sum.inr 1) rfl).2 1 rfl
            exact w_retzR C (pc := 53) dX9_crosses_53 rfl (by decide) (Option.some.inj h33)
      · have h20 := it_f h20 c
        refine w_iinc C (pc := 54) dX9_crosses_54 2 rfl (v := 1) (lv' := [(0, .ref (adr Y 0)), (1, .int x1), (2, .int (s16 + 1))]) (by decide) rfl rfl rfl ?_
        refine w_goto C (pc := 57) 2 dX9_crosses_57 (by decide) ?_
        obtain rfl := Option.some.inj h20
        have k9 := ki18 (s16 + 1) rfl
        try dsimp only at k9
        exact k9
  · refine ⟨fun yx14 hy => ?_, fun v9 hv => ?_⟩
    · subst hy
      dsimp only [Sum.elim] at h
      refine w_iconst C (pc := 60) dX9_crosses_60 (v := 0) (by decide) ?_
      exact w_retzR C (pc := 61) dX9_crosses_61 rfl (by decide) (Option.some.inj h)
    · subst hv
      exact h
theorem dX9_mayBe_0 : decode cX9_mayBe 0 = .ok (.iload_n 0, 1) := by decide +kernel
theorem dX9_mayBe_1 : decode cX9_mayBe 1 = .ok (.tableswitch 47 0 3 #[31, 31, 39, 39], 31) := by decide +kernel
theorem dX9_mayBe_32 : decode cX9_mayBe 32 = .ok (.iload_n 1, 1) := by decide +kernel
theorem dX9_mayBe_33 : decode cX9_mayBe 33 = .ok (.iconst 0, 1) := by decide +kernel
theorem dX9_mayBe_34 : decode cX9_mayBe 34 = .ok (.bipush 50, 2) := by decide +kernel
theorem dX9_mayBe_36 : decode cX9_mayBe 36 = .ok (.invokestatic 70, 3) := by decide +kernel
theorem dX9_mayBe_39 : decode cX9_mayBe 39 = .ok (.ireturn, 1) := by decide +kernel
theorem dX9_mayBe_40 : decode cX9_mayBe 40 = .ok (.iload_n 1, 1) := by decide +kernel
theorem dX9_mayBe_41 : decode cX9_mayBe 41 = .ok (.iconst 0, 1) := by decide +kernel
theorem dX9_mayBe_42 : decode cX9_mayBe 42 = .ok (.bipush 30, 2) := by decide +kernel
theorem dX9_mayBe_44 : decode cX9_mayBe 44 = .ok (.invokestatic 70, 3) := by decide +kernel
theorem dX9_mayBe_47 : decode cX9_mayBe 47 = .ok (.ireturn, 1) := by decide +kernel
theorem dX9_mayBe_48 : decode cX9_mayBe 48 = .ok (.iload_n 1, 1) := by decide +kernel
theorem dX9_mayBe_49 : decode cX9_mayBe 49 = .ok (.iconst 0, 1) := by decide +kernel
theorem dX9_mayBe_50 : decode cX9_mayBe 50 = .ok (.bipush 99, 2) := by decide +kernel
theorem dX9_mayBe_52 : decode cX9_mayBe 52 = .ok (.invokestatic 70, 3) := by decide +kernel
theorem dX9_mayBe_55 : decode cX9_mayBe 55 = .ok (.ireturn, 1) := by decide +kernel
def pX9_mayBe (x0 : Int32) (x1 : Int32) : Int32 :=
if x0 = 0 then
((pX9_isIn x1 0 50) &&& 1)
else
(if x0 = 1 then
((pX9_isIn x1 0 50) &&& 1)
else
(if x0 = 2 then
((pX9_isIn x1 0 30) &&& 1)
else
(if x0 = 3 then
((pX9_isIn x1 0 30) &&& 1)
else
((pX9_isIn x1 0 99) &&& 1))))
abbrev zX9_mayBe : Zx := (cX9_mayBe, RX9, 2, 1, (some .boolean))
set_option maxRecDepth 100000 in
set_option maxHeartbeats 4000000 in
theorem tX9_mayBe {l : Launch} {Y : Sx} {M : Mm} {x0 : Int32} {x1 : Int32} {q : Int32} (h : pX9_mayBe x0 x1 = q) : Ct l Y yX9_mayBe cX9_mayBe 2 (some .boolean) 1 [.int x0, .int x1] M (some q) M := by
  refine Ct.of (by decide) rfl (lv := [(0, .int x0), (1, .int x1)]) rfl ?_
  intro K hkl C
  change Cx K zX9_mayBe Y at C
  subst hkl
  unfold pX9_mayBe at h
  show Wp K zX9_mayBe Y (Qm K Y (some q) M) M 0 [(0, .int x0), (1, .int x1)] []
  refine w_iload_n C (pc := 0) dX9_mayBe_0 0 rfl ?_
  by_cases c1_0 : x0 = 0
  · have h := it_t h c1_0
    refine w_swIn C (pc := 1) (v := 0) 32 dX9_mayBe_1 c1_0 (by decide) (by decide) rfl (by decide) ?_
    refine w_iload_n C (pc := 32) dX9_mayBe_32 1 rfl ?_
    refine w_iconst C (pc := 33) dX9_mayBe_33 (v := 0) (by decide) ?_
    refine w_bipush C (pc := 34) dX9_mayBe_34 (v := 50) (by decide) ?_
    refine w_cSi C (pc := 36) dX9_mayBe_36 my_X9_isIn ms_X9_isIn ml_X9_70 rfl rfl [.int x1, .int 0, .int 50] rfl rfl (Nat.le_of_ble_eq_true rfl) (tX9_isIn  rfl) ?_
    exact w_retZR C (pc := 39) dX9_mayBe_39 rfl h
  have h := it_f h c1_0
  by_cases c1_1 : x0 = 1
  · have h := it_t h c1_1
    refine w_swIn C (pc := 1) (v := 1) 32 dX9_mayBe_1 c1_1 (by decide) (by decide) rfl (by decide) ?_
    refine w_iload_n C (pc := 32) dX9_mayBe_32 1 rfl ?_
    refine w_iconst C (pc := 33) dX9_mayBe_33 (v := 0) (by decide) ?_
    refine w_bipush C (pc := 34) dX9_mayBe_34 (v := 50) (by decide) ?_
    refine w_cSi C (pc := 36) dX9_mayBe_36 my_X9_isIn ms_X9_isIn ml_X9_70 rfl rfl [.int x1, .int 0, .int 50] rfl rfl (Nat.le_of_ble_eq_true rfl) (tX9_isIn  rfl) ?_
    exact w_retZR C (pc := 39) dX9_mayBe_39 rfl h
  have h := it_f h c1_1
  by_cases c1_2 : x0 = 2
  · have h := it_t h c1_2
    refine w_swIn C (pc := 1) (v := 2) 40 dX9_mayBe_1 c1_2 (by decide) (by decide) rfl (by decide) ?_
    refine w_iload_n C (pc := 40) dX9_mayBe_40 1 rfl ?_
    refine w_iconst C (pc := 41) dX9_mayBe_41 (v := 0) (by decide) ?_
    refine w_bipush C (pc := 42) dX9_mayBe_42 (v := 30) (by decide) ?_
    refine w_cSi C (pc := 44) dX9_mayBe_44 my_X9_isIn ms_X9_isIn ml_X9_70 rfl rfl [.int x1, .int 0, .int 30] rfl rfl (Nat.le_of_ble_eq_true rfl) (tX9_isIn  rfl) ?_
    exact w_retZR C (pc := 47) dX9_mayBe_47 rfl h
  have h := it_f h c1_2
  by_cases c1_3 : x0 = 3
  · have h := it_t h c1_3
    refine w_swIn C (pc := 1) (v := 3) 40 dX9_mayBe_1 c1_3 (by decide) (by decide) rfl (by decide) ?_
    refine w_iload_n C (pc := 40) dX9_mayBe_40 1 rfl ?_
    refine w_iconst C (pc := 41) dX9_mayBe_41 (v := 0) (by decide) ?_
    refine w_bipush C (pc := 42) dX9_mayBe_42 (v := 30) (by decide) ?_
    refine w_cSi C (pc := 44) dX9_mayBe_44 my_X9_isIn ms_X9_isIn ml_X9_70 rfl rfl [.int x1, .int 0, .int 30] rfl rfl (Nat.le_of_ble_eq_true rfl) (tX9_isIn  rfl) ?_
    exact w_retZR C (pc := 47) dX9_mayBe_47 rfl h
  have h := it_f h c1_3
  refine w_swOut C (pc := 1) 48 dX9_mayBe_1 (by have q0 := lv_neT c1_0 (a := 0) rfl; have q1 := lv_neT c1_1 (a := 1) rfl; have q2 := lv_neT c1_2 (a := 2) rfl; have q3 := lv_neT c1_3 (a := 3) rfl; omega) (by decide) ?_
  refine w_iload_n C (pc := 48) dX9_mayBe_48 1 rfl ?_
  refine w_iconst C (pc := 49) dX9_mayBe_49 (v := 0) (by decide) ?_
  refine w_bipush C (pc := 50) dX9_mayBe_50 (v := 99) (by decide) ?_
  refine w_cSi C (pc := 52) dX9_mayBe_52 my_X9_isIn ms_X9_isIn ml_X9_70 rfl rfl [.int x1, .int 0, .int 99] rfl rfl (Nat.le_of_ble_eq_true rfl) (tX9_isIn  rfl) ?_
  exact w_retZR C (pc := 55) dX9_mayBe_55 rfl h
theorem dX9_more_0 : decode cX9_more 0 = .ok (.aload_n 0, 1) := by decide +kernel
theorem dX9_more_1 : decode cX9_more 1 = .ok (.getfield 7, 3) := by decide +kernel
theorem dX9_more_4 : decode cX9_more 4 = .ok (.iconst 0, 1) := by decide +kernel
theorem dX9_more_5 : decode cX9_more 5 = .ok (.dup2, 1) := by decide +kernel
theorem dX9_more_6 : decode cX9_more 6 = .ok (.iaload, 1) := by decide +kernel
theorem dX9_more_7 : decode cX9_more 7 = .ok (.iconst 1, 1) := by decide +kernel
theorem dX9_more_8 : decode cX9_more 8 = .ok (.iadd, 1) := by decide +kernel
theorem dX9_more_9 : decode cX9_more 9 = .ok (.iastore, 1) := by decide +kernel
theorem dX9_more_10 : decode cX9_more 10 = .ok (.iconst 1, 1) := by decide +kernel
theorem dX9_more_11 : decode cX9_more 11 = .ok (.iconst 5, 1) := by decide +kernel
theorem dX9_more_12 : decode cX9_more 12 = .ok (.aload_n 0, 1) := by decide +kernel
theorem dX9_more_13 : decode cX9_more 13 = .ok (.getfield 7, 3) := by decide +kernel
theorem dX9_more_16 : decode cX9_more 16 = .ok (.iconst 0, 1) := by decide +kernel
theorem dX9_more_17 : decode cX9_more 17 = .ok (.iaload, 1) := by decide +kernel
theorem dX9_more_18 : decode cX9_more 18 = .ok (.imul, 1) := by decide +kernel
theorem dX9_more_19 : decode cX9_more 19 = .ok (.iadd, 1) := by decide +kernel
theorem dX9_more_20 : decode cX9_more 20 = .ok (.istore 6, 2) := by decide +kernel
theorem dX9_more_22 : decode cX9_more 22 = .ok (.aload_n 0, 1) := by decide +kernel
theorem dX9_more_23 : decode cX9_more 23 = .ok (.getfield 7, 3) := by decide +kernel
theorem dX9_more_26 : decode cX9_more 26 = .ok (.iload 6, 2) := by decide +kernel
theorem dX9_more_28 : decode cX9_more 28 = .ok (.iload_n 1, 1) := by decide +kernel
theorem dX9_more_29 : decode cX9_more 29 = .ok (.iastore, 1) := by decide +kernel
theorem dX9_more_30 : decode cX9_more 30 = .ok (.aload_n 0, 1) := by decide +kernel
theorem dX9_more_31 : decode cX9_more 31 = .ok (.getfield 7, 3) := by decide +kernel
theorem dX9_more_34 : decode cX9_more 34 = .ok (.iload 6, 2) := by decide +kernel
theorem dX9_more_36 : decode cX9_more 36 = .ok (.iconst 1, 1) := by decide +kernel
theorem dX9_more_37 : decode cX9_more 37 = .ok (.iadd, 1) := by decide +kernel
theorem dX9_more_38 : decode cX9_more 38 = .ok (.iload_n 2, 1) := by decide +kernel
theorem dX9_more_39 : decode cX9_more 39 = .ok (.iastore, 1) := by decide +kernel
theorem dX9_more_40 : decode cX9_more 40 = .ok (.aload_n 0, 1) := by decide +kernel
theorem dX9_more_41 : decode cX9_more 41 = .ok (.getfield 7, 3) := by decide +kernel
theorem dX9_more_44 : decode cX9_more 44 = .ok (.iload 6, 2) := by decide +kernel
theorem dX9_more_46 : decode cX9_more 46 = .ok (.iconst 2, 1) := by decide +kernel
theorem dX9_more_47 : decode cX9_more 47 = .ok (.iadd, 1) := by decide +kernel
theorem dX9_more_48 : decode cX9_more 48 = .ok (.iload_n 3, 1) := by decide +kernel
theorem dX9_more_49 : decode cX9_more 49 = .ok (.iastore, 1) := by decide +kernel
theorem dX9_more_50 : decode cX9_more 50 = .ok (.aload_n 0, 1) := by decide +kernel
theorem dX9_more_51 : decode cX9_more 51 = .ok (.getfield 7, 3) := by decide +kernel
theorem dX9_more_54 : decode cX9_more 54 = .ok (.iload 6, 2) := by decide +kernel
theorem dX9_more_56 : decode cX9_more 56 = .ok (.iconst 3, 1) := by decide +kernel
theorem dX9_more_57 : decode cX9_more 57 = .ok (.iadd, 1) := by decide +kernel
theorem dX9_more_58 : decode cX9_more 58 = .ok (.iload 4, 2) := by decide +kernel
theorem dX9_more_60 : decode cX9_more 60 = .ok (.iastore, 1) := by decide +kernel
theorem dX9_more_61 : decode cX9_more 61 = .ok (.aload_n 0, 1) := by decide +kernel
theorem dX9_more_62 : decode cX9_more 62 = .ok (.getfield 7, 3) := by decide +kernel
theorem dX9_more_65 : decode cX9_more 65 = .ok (.iload 6, 2) := by decide +kernel
theorem dX9_more_67 : decode cX9_more 67 = .ok (.iconst 4, 1) := by decide +kernel
theorem dX9_more_68 : decode cX9_more 68 = .ok (.iadd, 1) := by decide +kernel
theorem dX9_more_69 : decode cX9_more 69 = .ok (.iload 5, 2) := by decide +kernel
theorem dX9_more_71 : decode cX9_more 71 = .ok (.iastore, 1) := by decide +kernel
theorem dX9_more_72 : decode cX9_more 72 = .ok (.return_, 1) := by decide +kernel
def pX9_more (x1 : Int32) (x2 : Int32) (x3 : Int32) (x4 : Int32) (x5 : Int32) (M : Mm) : Option (Mm) :=
(ald M 1 160 0).bind fun v1 =>
(ast M 1 160 0 (v1 + 1)).bind fun M3 =>
(ald M3 1 160 0).bind fun v5 =>
bnd (1 + (5 * v5)) fun v7 =>
(ast M3 1 160 v7 x1).bind fun M8 =>
(ast M8 1 160 (v7 + 1) x2).bind fun M10 =>
(ast M10 1 160 (v7 + 2) x3).bind fun M12 =>
(ast M12 1 160 (v7 + 3) x4).bind fun M14 =>
(ast M14 1 160 (v7 + 4) x5).bind fun M16 =>
some M16
abbrev zX9_more : Zx := (cX9_more, RX9, 7, 0, none)
set_option maxRecDepth 100000 in
set_option maxHeartbeats 4000000 in
theorem tX9_more {l : Launch} {Y : Sx} {M : Mm} {x1 : Int32} {x2 : Int32} {x3 : Int32} {x4 : Int32} {x5 : Int32} {q : Mm} (hY : isB Y) (h : pX9_more x1 x2 x3 x4 x5 M = some q) : Ct l Y yX9_more cX9_more 7 none 0 [.ref (adr Y 0), .int x1, .int x2, .int x3, .int x4, .int x5] M none q := by
  refine Ct.of (by decide) rfl (lv := [(0, .ref (adr Y 0)), (1, .int x1), (2, .int x2), (3, .int x3), (4, .int x4), (5, .int x5)]) rfl ?_
  intro K hkl C
  change Cx K zX9_more Y at C
  subst hkl
  unfold pX9_more at h
  show Wp K zX9_more Y (Qm K Y none q) M 0 [(0, .ref (adr Y 0)), (1, .int x1), (2, .int x2), (3, .int x3), (4, .int x4), (5, .int x5)] []
  refine w_aload_n C (pc := 0) dX9_more_0 0 rfl ?_
  refine w_getR C (pc := 1) dX9_more_1 f_X9_7 (sB_0 hY) rfl ?_
  refine w_iconst C (pc := 4) dX9_more_4 (v := 0) (by decide) ?_
  refine w_dup2 C (pc := 5) dX9_more_5 rfl rfl ?_
  obtain ⟨v1, e2, h⟩ := ob h
  refine w_iald C (pc := 6) dX9_more_6 (sB_1 hY) e2 ?_
  refine w_iconst C (pc := 7) dX9_more_7 (v := 1) (by decide) ?_
  refine w_iadd C (pc := 8) dX9_more_8 ?_
  obtain ⟨M3, e4, h⟩ := ob h
  refine w_iast C (pc := 9) dX9_more_9 (sB_1 hY) e4 ?_
  refine w_iconst C (pc := 10) dX9_more_10 (v := 1) (by decide) ?_
  refine w_iconst C (pc := 11) dX9_more_11 (v := 5) (by decide) ?_
  refine w_aload_n C (pc := 12) dX9_more_12 0 rfl ?_
  refine w_getR C (pc := 13) dX9_more_13 f_X9_7 (sB_0 hY) rfl ?_
  refine w_iconst C (pc := 16) dX9_more_16 (v := 0) (by decide) ?_
  obtain ⟨v5, e6, h⟩ := ob h
  refine w_iald C (pc := 17) dX9_more_17 (sB_1 hY) e6 ?_
  refine w_imul C (pc := 18) dX9_more_18 ?_
  refine w_iadd C (pc := 19) dX9_more_19 ?_
  refine w_bnd h (fun v7 h => ?_)
  refine w_istore C (pc := 20) dX9_more_20 (lv' := [(0, .ref (adr Y 0)), (1, .int x1), (2, .int x2), (3, .int x3), (4, .int x4), (5, .int x5), (6, .int v7)]) rfl rfl rfl ?_
  refine w_aload_n C (pc := 22) dX9_more_22 0 rfl ?_
  refine w_getR C (pc := 23) dX9_more_23 f_X9_7 (sB_0 hY) rfl ?_
  refine w_iload C (pc := 26) dX9_more_26 6 rfl ?_
  refine w_iload_n C (pc := 28) dX9_more_28 1 rfl ?_
  obtain ⟨M8, e9, h⟩ := ob h
  refine w_iast C (pc := 29) dX9_more_29 (sB_1 hY) e9 ?_
  refine w_aload_n C (pc := 30) dX9_more_30 0 rfl ?_
  refine w_getR C (pc := 31) dX9_more_31 f_X9_7 (sB_0 hY) rfl ?_
  refine w_iload C (pc := 34) dX9_more_34 6 rfl ?_
  refine w_iconst C (pc := 36) dX9_more_36 (v := 1) (by decide) ?_
  refine w_iadd C (pc := 37) dX9_more_37 ?_
  refine w_iload_n C (pc := 38) dX9_more_38 2 rfl ?_
  obtain ⟨M10, e11, h⟩ := ob h
  refine w_iast C (pc := 39) dX9_more_39 (sB_1 hY) e11 ?_
  refine w_aload_n C (pc := 40) dX9_more_40 0 rfl ?_
  refine w_getR C (pc := 41) dX9_more_41 f_X9_7 (sB_0 hY) rfl ?_
  refine w_iload C (pc := 44) dX9_more_44 6 rfl ?_
  refine w_iconst C (pc := 46) dX9_more_46 (v := 2) (by decide) ?_
  refine w_iadd C (pc := 47) dX9_more_47 ?_
  refine w_iload_n C (pc := 48) dX9_more_48 3 rfl ?_
  obtain ⟨M12, e13, h⟩ := ob h
  refine w_iast C (pc := 49) dX9_more_49 (sB_1 hY) e13 ?_
  refine w_aload_n C (pc := 50) dX9_more_50 0 rfl ?_
  refine w_getR C (pc := 51) dX9_more_51 f_X9_7 (sB_0 hY) rfl ?_
  refine w_iload C (pc := 54) dX9_more_54 6 rfl ?_
  refine w_iconst C (pc := 56) dX9_more_56 (v := 3) (by decide) ?_
  refine w_iadd C (pc := 57) dX9_more_57 ?_
  refine w_iload C (pc := 58) dX9_more_58 4 rfl ?_
  obtain ⟨M14, e15, h⟩ := ob h
  refine w_iast C (pc := 60) dX9_more_60 (sB_1 hY) e15 ?_
  refine w_aload_n C (pc := 61) dX9_more_61 0 rfl ?_
  refine w_getR C (pc := 62) dX9_more_62 f_X9_7 (sB_0 hY) rfl ?_
  refine w_iload C (pc := 65) dX9_more_65 6 rfl ?_
  refine w_iconst C (pc := 67) dX9_more_67 (v := 4) (by decide) ?_
  refine w_iadd C (pc := 68) dX9_more_68 ?_
  refine w_iload C (pc := 69) dX9_more_69 5 rfl ?_
  obtain ⟨M16, e17, h⟩ := ob h
  refine w_iast C (pc := 71) dX9_more_71 (sB_1 hY) e17 ?_
  exact w_retV C (pc := 72) dX9_more_72 rfl (Option.some.inj h)
theorem dX9_customer_0 : decode cX9_customer 0 = .ok (.aload_n 0, 1) := by decide +kernel
theorem dX9_customer_1 : decode cX9_customer 1 = .ok (.iconst 0, 1) := by decide +kernel
theorem dX9_customer_2 : decode cX9_customer 2 = .ok (.putfield 66, 3) := by decide +kernel
theorem dX9_customer_5 : decode cX9_customer 5 = .ok (.iconst 0, 1) := by decide +kernel
theorem dX9_customer_6 : decode cX9_customer 6 = .ok (.iload_n 1, 1) := by decide +kernel
theorem dX9_customer_7 : decode cX9_customer 7 = .ok (.invokestatic 89, 3) := by decide +kernel
theorem dX9_customer_10 : decode cX9_customer 10 = .ok (.ifCond .eq 37, 3) := by decide +kernel
theorem dX9_customer_13 : decode cX9_customer 13 = .ok (.iconst 1, 1) := by decide +kernel
theorem dX9_customer_14 : decode cX9_customer 14 = .ok (.iload_n 2, 1) := by decide +kernel
theorem dX9_customer_15 : decode cX9_customer 15 = .ok (.invokestatic 89, 3) := by decide +kernel
theorem dX9_customer_18 : decode cX9_customer 18 = .ok (.ifCond .eq 29, 3) := by decide +kernel
theorem dX9_customer_21 : decode cX9_customer 21 = .ok (.iconst 2, 1) := by decide +kernel
theorem dX9_customer_22 : decode cX9_customer 22 = .ok (.iload_n 3, 1) := by decide +kernel
theorem dX9_customer_23 : decode cX9_customer 23 = .ok (.invokestatic 89, 3) := by decide +kernel
theorem dX9_customer_26 : decode cX9_customer 26 = .ok (.ifCond .eq 21, 3) := by decide +kernel
theorem dX9_customer_29 : decode cX9_customer 29 = .ok (.iconst 3, 1) := by decide +kernel
theorem dX9_customer_30 : decode cX9_customer 30 = .ok (.iload 4, 2) := by decide +kernel
theorem dX9_customer_32 : decode cX9_customer 32 = .ok (.invokestatic 89, 3) := by decide +kernel
theorem dX9_customer_35 : decode cX9_customer 35 = .ok (.ifCond .eq 12, 3) := by decide +kernel
theorem dX9_customer_38 : decode cX9_customer 38 = .ok (.iconst 4, 1) := by decide +kernel
theorem dX9_customer_39 : decode cX9_customer 39 = .ok (.iload 5, 2) := by decide +kernel
theorem dX9_customer_41 : decode cX9_customer 41 = .ok (.invokestatic 89, 3) := by decide +kernel
theorem dX9_customer_44 : decode cX9_customer 44 = .ok (.ifCond .ne 5, 3) := by decide +kernel
theorem dX9_customer_47 : decode cX9_customer 47 = .ok (.iconst (-1), 1) := by decide +kernel
theorem dX9_customer_48 : decode cX9_customer 48 = .ok (.ireturn, 1) := by decide +kernel
theorem dX9_customer_49 : decode cX9_customer 49 = .ok (.aload_n 0, 1) := by decide +kernel
theorem dX9_customer_50 : decode cX9_customer 50 = .ok (.invokevirtual 74, 3) := by decide +kernel
theorem dX9_customer_53 : decode cX9_customer 53 = .ok (.bipush 8, 2) := by decide +kernel
theorem dX9_customer_55 : decode cX9_customer 55 = .ok (.if_icmp .ne 6, 3) := by decide +kernel
theorem dX9_customer_58 : decode cX9_customer 58 = .ok (.bipush (-2), 2) := by decide +kernel
theorem dX9_customer_60 : decode cX9_customer 60 = .ok (.ireturn, 1) := by decide +kernel
theorem dX9_customer_61 : decode cX9_customer 61 = .ok (.aload_n 0, 1) := by decide +kernel
theorem dX9_customer_62 : decode cX9_customer 62 = .ok (.iload_n 1, 1) := by decide +kernel
theorem dX9_customer_63 : decode cX9_customer 63 = .ok (.iload_n 2, 1) := by decide +kernel
theorem dX9_customer_64 : decode cX9_customer 64 = .ok (.iload_n 3, 1) := by decide +kernel
theorem dX9_customer_65 : decode cX9_customer 65 = .ok (.iload 4, 2) := by decide +kernel
theorem dX9_customer_67 : decode cX9_customer 67 = .ok (.iload 5, 2) := by decide +kernel
theorem dX9_customer_69 : decode cX9_customer 69 = .ok (.invokevirtual 93, 3) := by decide +kernel
theorem dX9_customer_72 : decode cX9_customer 72 = .ok (.aload_n 0, 1) := by decide +kernel
theorem dX9_customer_73 : decode cX9_customer 73 = .ok (.invokevirtual 74, 3) := by decide +kernel
theorem dX9_customer_76 : decode cX9_customer 76 = .ok (.ireturn, 1) := by decide +kernel
def pX9_customer (x1 : Int32) (x2 : Int32) (x3 : Int32) (x4 : Int32) (x5 : Int32) (M : Mm) : Option (Int32 × Mm) :=
bnd (mset M 0 0 0) fun M1 =>
if (pX9_mayBe 0 x1) = 0 then
(some ((-1), M1))
else
(if (pX9_mayBe 1 x2) = 0 then
(some ((-1), M1))
else
(if (pX9_mayBe 2 x3) = 0 then
(some ((-1), M1))
else
(if (pX9_mayBe 3 x4) = 0 then
(some ((-1), M1))
else
(if (pX9_mayBe 4 x5) = 0 then
(some ((-1), M1))
else
((pX9_customers M1).bind fun v3 =>
if v3 = 8 then
(some ((-2), M1))
else
((pX9_more x1 x2 x3 x4 x5 M1).bind fun v5 =>
(pX9_customers v5).bind fun v7 =>
some (v7, v5)))))))
abbrev zX9_customer : Zx := (cX9_customer, RX9, 6, 2, (some .int))
set_option maxRecDepth 100000 in
set_option maxHeartbeats 4000000 in
theorem tX9_customer {l : Launch} {Y : Sx} {M : Mm} {x1 : Int32} {x2 : Int32} {x3 : Int32} {x4 : Int32} {x5 : Int32} {q : Int32 × Mm} (hY : isB Y) (h : pX9_customer x1 x2 x3 x4 x5 M = some q) : Ct l Y yX9_customer cX9_customer 6 (some .int) 2 [.ref (adr Y 0), .int x1, .int x2, .int x3, .int x4, .int x5] M (some q.1) q.2 := by
  refine Ct.of (by decide) rfl (lv := [(0, .ref (adr Y 0)), (1, .int x1), (2, .int x2), (3, .int x3), (4, .int x4), (5, .int x5)]) rfl ?_
  intro K hkl C
  change Cx K zX9_customer Y at C
  subst hkl
  unfold pX9_customer at h
  show Wp K zX9_customer Y (Qm K Y (some q.1) q.2) M 0 [(0, .ref (adr Y 0)), (1, .int x1), (2, .int x2), (3, .int x3), (4, .int x4), (5, .int x5)] []
  refine w_aload_n C (pc := 0) dX9_customer_0 0 rfl ?_
  refine w_iconst C (pc := 1) dX9_customer_1 (v := 0) (by decide) ?_
  obtain ⟨M1, e2, h⟩ := bn h
  refine w_putI C (pc := 2) dX9_customer_2 fp_X9_66 (sB_0 hY) rfl ?_
  rw [e2]
  refine w_iconst C (pc := 5) dX9_customer_5 (v := 0) (by decide) ?_
  refine w_iload_n C (pc := 6) dX9_customer_6 1 rfl ?_
  refine w_cSi C (pc := 7) dX9_customer_7 my_X9_mayBe ms_X9_mayBe ml_X9_89 rfl rfl [.int 0, .int x1] rfl rfl (Nat.le_of_ble_eq_true rfl) (tX9_mayBe  rfl) ?_
  refine w_ifeq C (pc := 10) 47 dX9_customer_10 (by decide) (fun c => ?_) (fun c => ?_)
  · have h := it_t h c
    refine w_iconst C (pc := 47) dX9_customer_47 (v := (-1)) (by decide) ?_
    exact w_ret C (pc := 48) dX9_customer_48 rfl (Option.some.inj h)
  · have h := it_f h c
    refine w_iconst C (pc := 13) dX9_customer_13 (v := 1) (by decide) ?_
    refine w_iload_n C (pc := 14) dX9_customer_14 2 rfl ?_
    refine w_cSi C (pc := 15) dX9_customer_15 my_X9_mayBe ms_X9_mayBe ml_X9_89 rfl rfl [.int 1, .int x2] rfl rfl (Nat.le_of_ble_eq_true rfl) (tX9_mayBe  rfl) ?_
    refine w_ifeq C (pc := 18) 47 dX9_customer_18 (by decide) (fun c => ?_) (fun c => ?_)
    · have h := it_t h c
      refine w_iconst C (pc := 47) dX9_customer_47 (v := (-1)) (by decide) ?_
      exact w_ret C (pc := 48) dX9_customer_48 rfl (Option.some.inj h)
    · have h := it_f h c
      refine w_iconst C (pc := 21) dX9_customer_21 (v := 2) (by decide) ?_
      refine w_iload_n C (pc := 22) dX9_customer_22 3 rfl ?_
      refine w_cSi C (pc := 23) dX9_customer_23 my_X9_mayBe ms_X9_mayBe ml_X9_89 rfl rfl [.int 2, .int x3] rfl rfl (Nat.le_of_ble_eq_true rfl) (tX9_mayBe  rfl) ?_
      refine w_ifeq C (pc := 26) 47 dX9_customer_26 (by decide) (fun c => ?_) (fun c => ?_)
      · have h := it_t h c
        refine w_iconst C (pc := 47) dX9_customer_47 (v := (-1)) (by decide) ?_
        exact w_ret C (pc := 48) dX9_customer_48 rfl (Option.some.inj h)
      · have h := it_f h c
        refine w_iconst C (pc := 29) dX9_customer_29 (v := 3) (by decide) ?_
        refine w_iload C (pc := 30) dX9_customer_30 4 rfl ?_
        refine w_cSi C (pc := 32) dX9_customer_32 my_X9_mayBe ms_X9_mayBe ml_X9_89 rfl rfl [.int 3, .int x4] rfl rfl (Nat.le_of_ble_eq_true rfl) (tX9_mayBe  rfl) ?_
        refine w_ifeq C (pc := 35) 47 dX9_customer_35 (by decide) (fun c => ?_) (fun c => ?_)
        · have h := it_t h c
          refine w_iconst C (pc := 47) dX9_customer_47 (v := (-1)) (by decide) ?_
          exact w_ret C (pc := 48) dX9_customer_48 rfl (Option.some.inj h)
        · have h := it_f h c
          refine w_iconst C (pc := 38) dX9_customer_38 (v := 4) (by decide) ?_
          refine w_iload C (pc := 39) dX9_customer_39 5 rfl ?_
          refine w_cSi C (pc := 41) dX9_customer_41 my_X9_mayBe ms_X9_mayBe ml_X9_89 rfl rfl [.int 4, .int x5] rfl rfl (Nat.le_of_ble_eq_true rfl) (tX9_mayBe  rfl) ?_
          refine w_ifne C (pc := 44) 49 dX9_customer_44 (by decide) (fun c => ?_) (fun c => ?_)
          · have h := it_t h c
            refine w_iconst C (pc := 47) dX9_customer_47 (v := (-1)) (by decide) ?_
            exact w_ret C (pc := 48) dX9_customer_48 rfl (Option.some.inj h)
          · have h := it_f h c
            refine w_aload_n C (pc := 49) dX9_customer_49 0 rfl ?_
            obtain ⟨v3, e4, h⟩ := ob h
            refine w_cVi C (pc := 50) dX9_customer_50 my_X9_customers mi_X9_customers ml_X9_74 (sB_0 hY) rfl rfl rfl [] rfl rfl (Nat.le_of_ble_eq_true rfl) (tX9_customers hY  e4) ?_
            refine w_bipush C (pc := 53) dX9_customer_53 (v := 8) (by decide) ?_
            refine w_icne C (pc := 55) 61 dX9_customer_55 (by decide) (fun c => ?_) (fun c => ?_)
            · have h := it_t h c
              refine w_bipush C (pc := 58) dX9_customer_58 (v := (-2)) (by decide) ?_
              exact w_ret C (pc := 60) dX9_customer_60 rfl (Option.some.inj h)
            · have h := it_f h c
              refine w_aload_n C (pc := 61) dX9_customer_61 0 rfl ?_
              refine w_iload_n C (pc := 62) dX9_customer_62 1 rfl ?_
              refine w_iload_n C (pc := 63) dX9_customer_63 2 rfl ?_
              refine w_iload_n C (pc := 64) dX9_customer_64 3 rfl ?_
              refine w_iload C (pc := 65) dX9_customer_65 4 rfl ?_
              refine w_iload C (pc := 67) dX9_customer_67 5 rfl ?_
              obtain ⟨v5, e6, h⟩ := ob h
              refine w_cVv C (pc := 69) dX9_customer_69 my_X9_more mi_X9_more ml_X9_93 (sB_0 hY) rfl rfl rfl [.int x1, .int x2, .int x3, .int x4, .int x5] rfl rfl (Nat.le_of_ble_eq_true rfl) (tX9_more hY  e6) ?_
              refine w_aload_n C (pc := 72) dX9_customer_72 0 rfl ?_
              obtain ⟨v7, e8, h⟩ := ob h
              refine w_cVi C (pc := 73) dX9_customer_73 my_X9_customers mi_X9_customers ml_X9_74 (sB_0 hY) rfl rfl rfl [] rfl rfl (Nat.le_of_ble_eq_true rfl) (tX9_customers hY  e8) ?_
              exact w_ret C (pc := 76) dX9_customer_76 rfl (Option.some.inj h)
theorem dX9_drop_0 : decode cX9_drop 0 = .ok (.aload_n 0, 1) := by decide +kernel
theorem dX9_drop_1 : decode cX9_drop 1 = .ok (.iconst 0, 1) := by decide +kernel
theorem dX9_drop_2 : decode cX9_drop 2 = .ok (.putfield 66, 3) := by decide +kernel
theorem dX9_drop_5 : decode cX9_drop 5 = .ok (.aload_n 0, 1) := by decide +kernel
theorem dX9_drop_6 : decode cX9_drop 6 = .ok (.invokevirtual 74, 3) := by decide +kernel
theorem dX9_drop_9 : decode cX9_drop 9 = .ok (.ifCond .ne 5, 3) := by decide +kernel
theorem dX9_drop_12 : decode cX9_drop 12 = .ok (.iconst (-1), 1) := by decide +kernel
theorem dX9_drop_13 : decode cX9_drop 13 = .ok (.ireturn, 1) := by decide +kernel
theorem dX9_drop_14 : decode cX9_drop 14 = .ok (.aload_n 0, 1) := by decide +kernel
theorem dX9_drop_15 : decode cX9_drop 15 = .ok (.getfield 7, 3) := by decide +kernel
theorem dX9_drop_18 : decode cX9_drop 18 = .ok (.iconst 0, 1) := by decide +kernel
theorem dX9_drop_19 : decode cX9_drop 19 = .ok (.dup2, 1) := by decide +kernel
theorem dX9_drop_20 : decode cX9_drop 20 = .ok (.iaload, 1) := by decide +kernel
theorem dX9_drop_21 : decode cX9_drop 21 = .ok (.iconst 1, 1) := by decide +kernel
theorem dX9_drop_22 : decode cX9_drop 22 = .ok (.isub, 1) := by decide +kernel
theorem dX9_drop_23 : decode cX9_drop 23 = .ok (.iastore, 1) := by decide +kernel
theorem dX9_drop_24 : decode cX9_drop 24 = .ok (.aload_n 0, 1) := by decide +kernel
theorem dX9_drop_25 : decode cX9_drop 25 = .ok (.invokevirtual 97, 3) := by decide +kernel
theorem dX9_drop_28 : decode cX9_drop 28 = .ok (.aload_n 0, 1) := by decide +kernel
theorem dX9_drop_29 : decode cX9_drop 29 = .ok (.invokevirtual 74, 3) := by decide +kernel
theorem dX9_drop_32 : decode cX9_drop 32 = .ok (.ireturn, 1) := by decide +kernel
def pX9_drop (M : Mm) : Option (Int32 × Mm) :=
bnd (mset M 0 0 0) fun M1 =>
(pX9_customers M1).bind fun v3 =>
if v3 = 0 then
(some ((-1), M1))
else
((ald M1 1 160 0).bind fun v5 =>
(ast M1 1 160 0 (v5 - 1)).bind fun M7 =>
(pX9_clears M7).bind fun v9 =>
(pX9_customers v9).bind fun v11 =>
some (v11, v9))
abbrev zX9_drop : Zx := (cX9_drop, RX9, 1, 1, (some .int))
set_option maxRecDepth 100000 in
set_option maxHeartbeats 4000000 in
theorem tX9_drop {l : Launch} {Y : Sx} {M : Mm} {q : Int32 × Mm} (hY : isB Y) (h : pX9_drop M = some q) : Ct l Y yX9_drop cX9_drop 1 (some .int) 1 [.ref (adr Y 0)] M (some q.1) q.2 := by
  refine Ct.of (by decide) rfl (lv := [(0, .ref (adr Y 0))]) rfl ?_
  intro K hkl C
  change Cx K zX9_drop Y at C
  subst hkl
  unfold pX9_drop at h
  show Wp K zX9_drop Y (Qm K Y (some q.1) q.2) M 0 [(0, .ref (adr Y 0))] []
  refine w_aload_n C (pc := 0) dX9_drop_0 0 rfl ?_
  refine w_iconst C (pc := 1) dX9_drop_1 (v := 0) (by decide) ?_
  obtain ⟨M1, e2, h⟩ := bn h
  refine w_putI C (pc := 2) dX9_drop_2 fp_X9_66 (sB_0 hY) rfl ?_
  rw [e2]
  refine w_aload_n C (pc := 5) dX9_drop_5 0 rfl ?_
  obtain ⟨v3, e4, h⟩ := ob h
  refine w_cVi C (pc := 6) dX9_drop_6 my_X9_customers mi_X9_customers ml_X9_74 (sB_0 hY) rfl rfl rfl [] rfl rfl (Nat.le_of_ble_eq_true rfl) (tX9_customers hY  e4) ?_
  refine w_ifne C (pc := 9) 14 dX9_drop_9 (by decide) (fun c => ?_) (fun c => ?_)
  · have h := it_t h c
    refine w_iconst C (pc := 12) dX9_drop_12 (v := (-1)) (by decide) ?_
    exact w_ret C (pc := 13) dX9_drop_13 rfl (Option.some.inj h)
  · have h := it_f h c
    refine w_aload_n C (pc := 14) dX9_drop_14 0 rfl ?_
    refine w_getR C (pc := 15) dX9_drop_15 f_X9_7 (sB_0 hY) rfl ?_
    refine w_iconst C (pc := 18) dX9_drop_18 (v := 0) (by decide) ?_
    refine w_dup2 C (pc := 19) dX9_drop_19 rfl rfl ?_
    obtain ⟨v5, e6, h⟩ := ob h
    refine w_iald C (pc := 20) dX9_drop_20 (sB_1 hY) e6 ?_
    refine w_iconst C (pc := 21) dX9_drop_21 (v := 1) (by decide) ?_
    refine w_isub C (pc := 22) dX9_drop_22 ?_
    obtain ⟨M7, e8, h⟩ := ob h
    refine w_iast C (pc := 23) dX9_drop_23 (sB_1 hY) e8 ?_
    refine w_aload_n C (pc := 24) dX9_drop_24 0 rfl ?_
    obtain ⟨v9, e10, h⟩ := ob h
    refine w_cVv C (pc := 25) dX9_drop_25 my_X9_clears mi_X9_clears ml_X9_97 (sB_0 hY) rfl rfl rfl [] rfl rfl (Nat.le_of_ble_eq_true rfl) (tX9_clears hY  e10) ?_
    refine w_aload_n C (pc := 28) dX9_drop_28 0 rfl ?_
    obtain ⟨v11, e12, h⟩ := ob h
    refine w_cVi C (pc := 29) dX9_drop_29 my_X9_customers mi_X9_customers ml_X9_74 (sB_0 hY) rfl rfl rfl [] rfl rfl (Nat.le_of_ble_eq_true rfl) (tX9_customers hY  e12) ?_
    exact w_ret C (pc := 32) dX9_drop_32 rfl (Option.some.inj h)
theorem dX9_end_0 : decode cX9_end 0 = .ok (.aload_n 0, 1) := by decide +kernel
theorem dX9_end_1 : decode cX9_end 1 = .ok (.iconst 0, 1) := by decide +kernel
theorem dX9_end_2 : decode cX9_end 2 = .ok (.putfield 66, 3) := by decide +kernel
theorem dX9_end_5 : decode cX9_end 5 = .ok (.iload_n 1, 1) := by decide +kernel
theorem dX9_end_6 : decode cX9_end 6 = .ok (.iconst 0, 1) := by decide +kernel
theorem dX9_end_7 : decode cX9_end 7 = .ok (.aload_n 0, 1) := by decide +kernel
theorem dX9_end_8 : decode cX9_end 8 = .ok (.getfield 125, 3) := by decide +kernel
theorem dX9_end_11 : decode cX9_end 11 = .ok (.invokestatic 70, 3) := by decide +kernel
theorem dX9_end_14 : decode cX9_end 14 = .ok (.ifCond .ne 5, 3) := by decide +kernel
theorem dX9_end_17 : decode cX9_end 17 = .ok (.iconst 0, 1) := by decide +kernel
theorem dX9_end_18 : decode cX9_end 18 = .ok (.ireturn, 1) := by decide +kernel
theorem dX9_end_19 : decode cX9_end 19 = .ok (.aload_n 0, 1) := by decide +kernel
theorem dX9_end_20 : decode cX9_end 20 = .ok (.iload_n 1, 1) := by decide +kernel
theorem dX9_end_21 : decode cX9_end 21 = .ok (.putfield 125, 3) := by decide +kernel
theorem dX9_end_24 : decode cX9_end 24 = .ok (.iconst 1, 1) := by decide +kernel
theorem dX9_end_25 : decode cX9_end 25 = .ok (.ireturn, 1) := by decide +kernel
def pX9_end (x1 : Int32) (M : Mm) : Int32 × Mm :=
bnd (mset M 0 0 0) fun M1 =>
if (pX9_isIn x1 0 (M1 0 4)) = 0 then
((0, M1))
else
(bnd (mset M1 0 4 x1) fun M3 =>
(1, M3))
abbrev zX9_end : Zx := (cX9_end, RX9, 2, 1, (some .boolean))
set_option maxRecDepth 100000 in
set_option maxHeartbeats 4000000 in
theorem tX9_end {l : Launch} {Y : Sx} {M : Mm} {x1 : Int32} {q : Int32 × Mm} (hY : isB Y) (h : pX9_end x1 M = q) : Ct l Y yX9_end cX9_end 2 (some .boolean) 1 [.ref (adr Y 0), .int x1] M (some q.1) q.2 := by
  refine Ct.of (by decide) rfl (lv := [(0, .ref (adr Y 0)), (1, .int x1)]) rfl ?_
  intro K hkl C
  change Cx K zX9_end Y at C
  subst hkl
  unfold pX9_end at h
  show Wp K zX9_end Y (Qm K Y (some q.1) q.2) M 0 [(0, .ref (adr Y 0)), (1, .int x1)] []
  refine w_aload_n C (pc := 0) dX9_end_0 0 rfl ?_
  refine w_iconst C (pc := 1) dX9_end_1 (v := 0) (by decide) ?_
  obtain ⟨M1, e2, h⟩ := bn h
  refine w_putI C (pc := 2) dX9_end_2 fp_X9_66 (sB_0 hY) rfl ?_
  rw [e2]
  refine w_iload_n C (pc := 5) dX9_end_5 1 rfl ?_
  refine w_iconst C (pc := 6) dX9_end_6 (v := 0) (by decide) ?_
  refine w_aload_n C (pc := 7) dX9_end_7 0 rfl ?_
  refine w_getI C (pc := 8) dX9_end_8 f_X9_125 (sB_0 hY) rfl ?_
  refine w_cSi C (pc := 11) dX9_end_11 my_X9_isIn ms_X9_isIn ml_X9_70 rfl rfl [.int x1, .int 0, .int (M1 0 4)] rfl rfl (Nat.le_of_ble_eq_true rfl) (tX9_isIn  rfl) ?_
  refine w_ifne C (pc := 14) 19 dX9_end_14 (by decide) (fun c => ?_) (fun c => ?_)
  · have h := it_t h c
    refine w_iconst C (pc := 17) dX9_end_17 (v := 0) (by decide) ?_
    exact w_retz C (pc := 18) dX9_end_18 rfl (by decide) h
  · have h := it_f h c
    refine w_aload_n C (pc := 19) dX9_end_19 0 rfl ?_
    refine w_iload_n C (pc := 20) dX9_end_20 1 rfl ?_
    obtain ⟨M3, e4, h⟩ := bn h
    refine w_putI C (pc := 21) dX9_end_21 fp_X9_125 (sB_0 hY) rfl ?_
    rw [e4]
    refine w_iconst C (pc := 24) dX9_end_24 (v := 1) (by decide) ?_
    exact w_retz C (pc := 25) dX9_end_25 rfl (by decide) h
theorem dX9_stopAt_0 : decode cX9_stopAt 0 = .ok (.iload_n 1, 1) := by decide +kernel
theorem dX9_stopAt_1 : decode cX9_stopAt 1 = .ok (.iconst 1, 1) := by decide +kernel
theorem dX9_stopAt_2 : decode cX9_stopAt 2 = .ok (.aload_n 0, 1) := by decide +kernel
theorem dX9_stopAt_3 : decode cX9_stopAt 3 = .ok (.getfield 7, 3) := by decide +kernel
theorem dX9_stopAt_6 : decode cX9_stopAt 6 = .ok (.bipush 60, 2) := by decide +kernel
theorem dX9_stopAt_8 : decode cX9_stopAt 8 = .ok (.iaload, 1) := by decide +kernel
theorem dX9_stopAt_9 : decode cX9_stopAt 9 = .ok (.invokestatic 70, 3) := by decide +kernel
theorem dX9_stopAt_12 : decode cX9_stopAt 12 = .ok (.ifCond .eq 17, 3) := by decide +kernel
theorem dX9_stopAt_15 : decode cX9_stopAt 15 = .ok (.aload_n 0, 1) := by decide +kernel
theorem dX9_stopAt_16 : decode cX9_stopAt 16 = .ok (.getfield 7, 3) := by decide +kernel
theorem dX9_stopAt_19 : decode cX9_stopAt 19 = .ok (.bipush 61, 2) := by decide +kernel
theorem dX9_stopAt_21 : decode cX9_stopAt 21 = .ok (.iload_n 1, 1) := by decide +kernel
theorem dX9_stopAt_22 : decode cX9_stopAt 22 = .ok (.iadd, 1) := by decide +kernel
theorem dX9_stopAt_23 : decode cX9_stopAt 23 = .ok (.iconst 1, 1) := by decide +kernel
theorem dX9_stopAt_24 : decode cX9_stopAt 24 = .ok (.isub, 1) := by decide +kernel
theorem dX9_stopAt_25 : decode cX9_stopAt 25 = .ok (.iaload, 1) := by decide +kernel
theorem dX9_stopAt_26 : decode cX9_stopAt 26 = .ok (.goto 4, 3) := by decide +kernel
theorem dX9_stopAt_29 : decode cX9_stopAt 29 = .ok (.iconst 0, 1) := by decide +kernel
theorem dX9_stopAt_30 : decode cX9_stopAt 30 = .ok (.ireturn, 1) := by decide +kernel
def pX9_stopAt (x1 : Int32) (M : Mm) : Option (Int32) :=
(ald M 1 160 60).bind fun v1 =>
if (pX9_isIn x1 1 v1) = 0 then
(some 0)
else
((ald M 1 160 ((61 + x1) - 1)).bind fun v3 =>
some v3)
abbrev zX9_stopAt : Zx := (cX9_stopAt, RX9, 2, 1, (some .int))
set_option maxRecDepth 100000 in
set_option maxHeartbeats 4000000 in
theorem tX9_stopAt {l : Launch} {Y : Sx} {M : Mm} {x1 : Int32} {q : Int32} (hY : isB Y) (h : pX9_stopAt x1 M = some q) : Ct l Y yX9_stopAt cX9_stopAt 2 (some .int) 1 [.ref (adr Y 0), .int x1] M (some q) M := by
  refine Ct.of (by decide) rfl (lv := [(0, .ref (adr Y 0)), (1, .int x1)]) rfl ?_
  intro K hkl C
  change Cx K zX9_stopAt Y at C
  subst hkl
  unfold pX9_stopAt at h
  show Wp K zX9_stopAt Y (Qm K Y (some q) M) M 0 [(0, .ref (adr Y 0)), (1, .int x1)] []
  refine w_iload_n C (pc := 0) dX9_stopAt_0 1 rfl ?_
  refine w_iconst C (pc := 1) dX9_stopAt_1 (v := 1) (by decide) ?_
  refine w_aload_n C (pc := 2) dX9_stopAt_2 0 rfl ?_
  refine w_getR C (pc := 3) dX9_stopAt_3 f_X9_7 (sB_0 hY) rfl ?_
  refine w_bipush C (pc := 6) dX9_stopAt_6 (v := 60) (by decide) ?_
  obtain ⟨v1, e2, h⟩ := ob h
  refine w_iald C (pc := 8) dX9_stopAt_8 (sB_1 hY) e2 ?_
  refine w_cSi C (pc := 9) dX9_stopAt_9 my_X9_isIn ms_X9_isIn ml_X9_70 rfl rfl [.int x1, .int 1, .int v1] rfl rfl (Nat.le_of_ble_eq_true rfl) (tX9_isIn  rfl) ?_
  refine w_ifeq C (pc := 12) 29 dX9_stopAt_12 (by decide) (fun c => ?_) (fun c => ?_)
  · have h := it_t h c
    refine w_iconst C (pc := 29) dX9_stopAt_29 (v := 0) (by decide) ?_
    exact w_retR C (pc := 30) dX9_stopAt_30 rfl (Option.some.inj h)
  · have h := it_f h c
    refine w_aload_n C (pc := 15) dX9_stopAt_15 0 rfl ?_
    refine w_getR C (pc := 16) dX9_stopAt_16 f_X9_7 (sB_0 hY) rfl ?_
    refine w_bipush C (pc := 19) dX9_stopAt_19 (v := 61) (by decide) ?_
    refine w_iload_n C (pc := 21) dX9_stopAt_21 1 rfl ?_
    refine w_iadd C (pc := 22) dX9_stopAt_22 ?_
    refine w_iconst C (pc := 23) dX9_stopAt_23 (v := 1) (by decide) ?_
    refine w_isub C (pc := 24) dX9_stopAt_24 ?_
    obtain ⟨v3, e4, h⟩ := ob h
    refine w_iald C (pc := 25) dX9_stopAt_25 (sB_1 hY) e4 ?_
    refine w_goto C (pc := 26) 30 dX9_stopAt_26 (by decide) ?_
    exact w_retR C (pc := 30) dX9_stopAt_30 rfl (Option.some.inj h)
theorem dX9_servedBy_0 : decode cX9_servedBy 0 = .ok (.iconst 0, 1) := by decide +kernel
theorem dX9_servedBy_1 : decode cX9_servedBy 1 = .ok (.istore_n 2, 1) := by decide +kernel
theorem dX9_servedBy_2 : decode cX9_servedBy 2 = .ok (.iconst 1, 1) := by decide +kernel
theorem dX9_servedBy_3 : decode cX9_servedBy 3 = .ok (.istore_n 3, 1) := by decide +kernel
theorem dX9_servedBy_4 : decode cX9_servedBy 4 = .ok (.iload_n 3, 1) := by decide +kernel
theorem dX9_servedBy_5 : decode cX9_servedBy 5 = .ok (.aload_n 0, 1) := by decide +kernel
theorem dX9_servedBy_6 : decode cX9_servedBy 6 = .ok (.getfield 7, 3) := by decide +kernel
theorem dX9_servedBy_9 : decode cX9_servedBy 9 = .ok (.bipush 60, 2) := by decide +kernel
theorem dX9_servedBy_11 : decode cX9_servedBy 11 = .ok (.iaload, 1) := by decide +kernel
theorem dX9_servedBy_12 : decode cX9_servedBy 12 = .ok (.if_icmp .gt 26, 3) := by decide +kernel
theorem dX9_servedBy_15 : decode cX9_servedBy 15 = .ok (.iload_n 2, 1) := by decide +kernel
theorem dX9_servedBy_16 : decode cX9_servedBy 16 = .ok (.aload_n 0, 1) := by decide +kernel
theorem dX9_servedBy_17 : decode cX9_servedBy 17 = .ok (.iload_n 3, 1) := by decide +kernel
theorem dX9_servedBy_18 : decode cX9_servedBy 18 = .ok (.invokevirtual 187, 3) := by decide +kernel
theorem dX9_servedBy_21 : decode cX9_servedBy 21 = .ok (.iload_n 1, 1) := by decide +kernel
theorem dX9_servedBy_22 : decode cX9_servedBy 22 = .ok (.if_icmp .ne 7, 3) := by decide +kernel
theorem dX9_servedBy_25 : decode cX9_servedBy 25 = .ok (.iconst 1, 1) := by decide +kernel
theorem dX9_servedBy_26 : decode cX9_servedBy 26 = .ok (.goto 4, 3) := by decide +kernel
theorem dX9_servedBy_29 : decode cX9_servedBy 29 = .ok (.iconst 0, 1) := by decide +kernel
theorem dX9_servedBy_30 : decode cX9_servedBy 30 = .ok (.iadd, 1) := by decide +kernel
theorem dX9_servedBy_31 : decode cX9_servedBy 31 = .ok (.istore_n 2, 1) := by decide +kernel
theorem dX9_servedBy_32 : decode cX9_servedBy 32 = .ok (.iinc 3 1, 3) := by decide +kernel
theorem dX9_servedBy_35 : decode cX9_servedBy 35 = .ok (.goto (-31), 3) := by decide +kernel
theorem dX9_servedBy_38 : decode cX9_servedBy 38 = .ok (.iconst 0, 1) := by decide +kernel
theorem dX9_servedBy_39 : decode cX9_servedBy 39 = .ok (.istore_n 3, 1) := by decide +kernel
theorem dX9_servedBy_40 : decode cX9_servedBy 40 = .ok (.iload_n 3, 1) := by decide +kernel
theorem dX9_servedBy_41 : decode cX9_servedBy 41 = .ok (.aload_n 0, 1) := by decide +kernel
theorem dX9_servedBy_42 : decode cX9_servedBy 42 = .ok (.invokevirtual 118, 3) := by decide +kernel
theorem dX9_servedBy_45 : decode cX9_servedBy 45 = .ok (.if_icmp .ge 27, 3) := by decide +kernel
theorem dX9_servedBy_48 : decode cX9_servedBy 48 = .ok (.iload_n 2, 1) := by decide +kernel
theorem dX9_servedBy_49 : decode cX9_servedBy 49 = .ok (.aload_n 0, 1) := by decide +kernel
theorem dX9_servedBy_50 : decode cX9_servedBy 50 = .ok (.iload_n 3, 1) := by decide +kernel
theorem dX9_servedBy_51 : decode cX9_servedBy 51 = .ok (.iconst 2, 1) := by decide +kernel
theorem dX9_servedBy_52 : decode cX9_servedBy 52 = .ok (.invokevirtual 137, 3) := by decide +kernel
theorem dX9_servedBy_55 : decode cX9_servedBy 55 = .ok (.iload_n 1, 1) := by decide +kernel
theorem dX9_servedBy_56 : decode cX9_servedBy 56 = .ok (.if_icmp .ne 7, 3) := by decide +kernel
theorem dX9_servedBy_59 : decode cX9_servedBy 59 = .ok (.iconst 1, 1) := by decide +kernel
theorem dX9_servedBy_60 : decode cX9_servedBy 60 = .ok (.goto 4, 3) := by decide +kernel
theorem dX9_servedBy_63 : decode cX9_servedBy 63 = .ok (.iconst 0, 1) := by decide +kernel
theorem dX9_servedBy_64 : decode cX9_servedBy 64 = .ok (.iadd, 1) := by decide +kernel
theorem dX9_servedBy_65 : decode cX9_servedBy 65 = .ok (.istore_n 2, 1) := by decide +kernel
theorem dX9_servedBy_66 : decode cX9_servedBy 66 = .ok (.iinc 3 1, 3) := by decide +kernel
theorem dX9_servedBy_69 : decode cX9_servedBy 69 = .ok (.goto (-29), 3) := by decide +kernel
theorem dX9_servedBy_72 : decode cX9_servedBy 72 = .ok (.iload_n 2, 1) := by decide +kernel
theorem dX9_servedBy_73 : decode cX9_servedBy 73 = .ok (.ireturn, 1) := by decide +kernel
def pX9_servedBy_L4 (x1 : Int32) (M : Mm) (s : Int32 × Int32) : Option ((Int32 × Int32) ⊕ (Int32)) :=
(ald M 1 160 60).bind fun v1 =>
if v1 < s.2 then
(some (Sum.inr s.1))
else
((pX9_stopAt s.2 M).bind fun v3 =>
if v3 = x1 then
(bnd (s.1 + 1) fun v5 =>
some (Sum.inl (v5, s.2 + 1)))
else
(bnd (s.1 + 0) fun v6 =>
some (Sum.inl (v6, s.2 + 1))))
def pX9_servedBy_L40 (x1 : Int32) (M : Mm) (s : Int32 × Int32) : Option ((Int32 × Int32) ⊕ (Int32)) :=
(pX9_sorties M).bind fun v20 =>
if v20 ≤ s.2 then
(some (Sum.inr s.1))
else
((pX9_sortieOf s.2 2 M).bind fun v22 =>
if v22 = x1 then
(bnd (s.1 + 1) fun v24 =>
some (Sum.inl (v24, s.2 + 1)))
else
(bnd (s.1 + 0) fun v25 =>
some (Sum.inl (v25, s.2 + 1))))
def pX9_servedBy (x1 : Int32) (M : Mm) : Option (Int32) :=
(itr (pX9_servedBy_L4 x1 M) fuel (0, 1)).bind fun x7 =>
(itr (pX9_servedBy_L40 x1 M) fuel (x7, 0)).bind fun x26 =>
some x26
abbrev zX9_servedBy : Zx := (cX9_servedBy, RX9, 4, 2, (some .int))
set_option maxRecDepth 100000 in
set_option maxHeartbeats 4000000 in
theorem tX9_servedBy {l : Launch} {Y : Sx} {M : Mm} {x1 : Int32} {q : Int32} (hY : isB Y) (h : pX9_servedBy x1 M = some q) : Ct l Y yX9_servedBy cX9_servedBy 4 (some .int) 2 [.ref (adr Y 0), .int x1] M (some q) M := by
  refine Ct.of (by decide) rfl (lv := [(0, .ref (adr Y 0)), (1, .int x1)]) rfl ?_
  intro K hkl C
  change Cx K zX9_servedBy Y at C
  subst hkl
  unfold pX9_servedBy at h
  show Wp K zX9_servedBy Y (Qm K Y (some q) M) M 0 [(0, .ref (adr Y 0)), (1, .int x1)] []
  refine w_iconst C (pc := 0) dX9_servedBy_0 (v := 0) (by decide) ?_
  refine w_istore_n C (pc := 1) dX9_servedBy_1 (lv' := [(0, .ref (adr Y 0)), (1, .int x1), (2, .int 0)]) rfl rfl rfl ?_
  refine w_iconst C (pc := 2) dX9_servedBy_2 (v := 1) (by decide) ?_
  refine w_istore_n C (pc := 3) dX9_servedBy_3 (lv' := [(0, .ref (adr Y 0)), (1, .int x1), (2, .int 0), (3, .int 1)]) rfl rfl rfl ?_
  obtain ⟨x7, e8, h⟩ := ob h
  refine itr_W (P := fun s9 => Wp K zX9_servedBy Y (Qm K Y (some q) M) M 4 [(0, .ref (adr Y 0)), (1, .int x1), (2, .int s9.1), (3, .int s9.2)] []) (R := fun x7 => Wp K zX9_servedBy Y (Qm K Y (some q) M) M 38 [(0, .ref (adr Y 0)), (1, .int x1), (2, .int x7)] []) ?_ fuel (0, 1) x7 e8 ?_
  · intro s9 r10 h13 ki11 kx12
    unfold pX9_servedBy_L4 at h13
    show Wp K zX9_servedBy Y (Qm K Y (some q) M) M 4 [(0, .ref (adr Y 0)), (1, .int x1), (2, .int s9.1), (3, .int s9.2)] []
    refine w_iload_n C (pc := 4) dX9_servedBy_4 3 rfl ?_
    refine w_aload_n C (pc := 5) dX9_servedBy_5 0 rfl ?_
    refine w_getR C (pc := 6) dX9_servedBy_6 f_X9_7 (sB_0 hY) rfl ?_
    refine w_bipush C (pc := 9) dX9_servedBy_9 (v := 60) (by decide) ?_
    obtain ⟨v14, e15, h13⟩ := ob h13
    refine w_iald C (pc := 11) dX9_servedBy_11 (sB_1 hY) e15 ?_
    refine w_icgt C (pc := 12) 38 dX9_servedBy_12 (by decide) (fun c => ?_) (fun c => ?_)
    · have h13 := it_t h13 c
      obtain rfl := Option.some.inj h13
      refine w_lv [0, 1, 2] rfl ?_
      have k9 := kx12 s9.1 rfl
      try dsimp only at k9
      exact k9
    · have h13 := it_f h13 c
      refine w_iload_n C (pc := 15) dX9_servedBy_15 2 rfl ?_
      refine w_aload_n C (pc := 16) dX9_servedBy_16 0 rfl ?_
      refine w_iload_n C (pc := 17) dX9_servedBy_17 3 rfl ?_
      obtain ⟨v16, e17, h13⟩ := ob h13
      refine w_cVi C (pc := 18) dX9_servedBy_18 my_X9_stopAt mi_X9_stopAt ml_X9_187 (sB_0 hY) rfl rfl rfl [.int s9.2] rfl rfl (Nat.le_of_ble_eq_true rfl) (tX9_stopAt hY  e17) ?_
      refine w_iload_n C (pc := 21) dX9_servedBy_21 1 rfl ?_
      refine w_icne C (pc := 22) 29 dX9_servedBy_22 (by decide) (fun c => ?_) (fun c => ?_)
      · have h13 := it_t h13 c
        refine w_iconst C (pc := 25) dX9_servedBy_25 (v := 1) (by decide) ?_
        refine w_goto C (pc := 26) 30 dX9_servedBy_26 (by decide) ?_
        refine w_iadd C (pc := 30) dX9_servedBy_30 ?_
        refine w_bnd h13 (fun v18 h13 => ?_)
        refine w_istore_n C (pc := 31) dX9_servedBy_31 (lv' := [(0, .ref (adr Y 0)), (1, .int x1), (2, .int v18), (3, .int s9.2)]) rfl rfl rfl ?_
        refine w_iinc C (pc := 32) dX9_servedBy_32 3 rfl (v := 1) (lv' := [(0, .ref (adr Y 0)), (1, .int x1), (2, .int v18), (3, .int (s9.2 + 1))]) (by decide) rfl rfl rfl ?_
        refine w_goto C (pc := 35) 4 dX9_servedBy_35 (by decide) ?_
        obtain rfl := Option.some.inj h13
        have k9 := ki11 (v18, s9.2 + 1) rfl
        try dsimp only at k9
        exact k9
      · have h13 := it_f h13 c
        refine w_iconst C (pc := 29) dX9_servedBy_29 (v := 0) (by decide) ?_
        refine w_iadd C (pc := 30) dX9_servedBy_30 ?_
        refine w_bnd h13 (fun v19 h13 => ?_)
        refine w_istore_n C (pc := 31) dX9_servedBy_31 (lv' := [(0, .ref (adr Y 0)), (1, .int x1), (2, .int v19), (3, .int s9.2)]) rfl rfl rfl ?_
        refine w_iinc C (pc := 32) dX9_servedBy_32 3 rfl (v := 1) (lv' := [(0, .ref (adr Y 0)), (1, .int x1), (2, .int v19), (3, .int (s9.2 + 1))]) (by decide) rfl rfl rfl ?_
        refine w_goto C (pc := 35) 4 dX9_servedBy_35 (by decide) ?_
        obtain rfl := Option.some.inj h13
        have k9 := ki11 (v19, s9.2 + 1) rfl
        try dsimp only at k9
        exact k9
  · refine w_iconst C (pc := 38) dX9_servedBy_38 (v := 0) (by decide) ?_
    refine w_istore_n C (pc := 39) dX9_servedBy_39 (lv' := [(0, .ref (adr Y 0)), (1, .int x1), (2, .int x7), (3, .int 0)]) rfl rfl rfl ?_
    obtain ⟨x26, e27, h⟩ := ob h
    refine itr_W (P := fun s28 => Wp K zX9_servedBy Y (Qm K Y (some q) M) M 40 [(0, .ref (adr Y 0)), (1, .int x1), (2, .int s28.1), (3, .int s28.2)] []) (R := fun x26 => Wp K zX9_servedBy Y (Qm K Y (some q) M) M 72 [(0, .ref (adr Y 0)), (1, .int x1), (2, .int x26)] []) ?_ fuel (x7, 0) x26 e27 ?_
    · intro s28 r29 h32 ki30 kx31
      unfold pX9_servedBy_L40 at h32
      show Wp K zX9_servedBy Y (Qm K Y (some q) M) M 40 [(0, .ref (adr Y 0)), (1, .int x1), (2, .int s28.1), (3, .int s28.2)] []
      refine w_iload_n C (pc := 40) dX9_servedBy_40 3 rfl ?_
      refine w_aload_n C (pc := 41) dX9_servedBy_41 0 rfl ?_
      obtain ⟨v33, e34, h32⟩ := ob h32
      refine w_cVi C (pc := 42) dX9_servedBy_42 my_X9_sorties mi_X9_sorties ml_X9_118 (sB_0 hY) rfl rfl rfl [] rfl rfl (Nat.le_of_ble_eq_true rfl) (tX9_sorties hY  e34) ?_
      refine w_icge C (pc := 45) 72 dX9_servedBy_45 (by decide) (fun c => ?_) (fun c => ?_)
      · have h32 := it_t h32 c
        obtain rfl := Option.some.inj h32
        refine w_lv [0, 1, 2] rfl ?_
        have k9 := kx31 s28.1 rfl
        try dsimp only at k9
        exact k9
      · have h32 := it_f h32 c
        refine w_iload_n C (pc := 48) dX9_servedBy_48 2 rfl ?_
        refine w_aload_n C (pc := 49) dX9_servedBy_49 0 rfl ?_
        refine w_iload_n C (pc := 50) dX9_servedBy_50 3 rfl ?_
        refine w_iconst C (pc := 51) dX9_servedBy_51 (v := 2) (by decide) ?_
        obtain ⟨v35, e36, h32⟩ := ob h32
        refine w_cVi C (pc := 52) dX9_servedBy_52 my_X9_sortieOf mi_X9_sortieOf ml_X9_137 (sB_0 hY) rfl rfl rfl [.int s28.2, .int 2] rfl rfl (Nat.le_of_ble_eq_true rfl) (tX9_sortieOf hY  e36) ?_
        refine w_iload_n C (pc := 55) dX9_servedBy_55 1 rfl ?_
        refine w_icne C (pc := 56) 63 dX9_servedBy_56 (by decide) (fun c => ?_) (fun c => ?_)
        · have h32 := it_t h32 c
          refine w_iconst C (pc := 59) dX9_servedBy_59 (v := 1) (by decide) ?_
          refine w_goto C (pc := 60) 64 dX9_servedBy_60 (by decide) ?_
          refine w_iadd C (pc := 64) dX9_servedBy_64 ?_
          refine w_bnd h32 (fun v37 h32 => ?_)
          refine w_istore_n C (pc := 65) dX9_servedBy_65 (lv' := [(0, .ref (adr Y 0)), (1, .int x1), (2, .int v37), (3, .int s28.2)]) rfl rfl rfl ?_
          refine w_iinc C (pc := 66) dX9_servedBy_66 3 rfl (v := 1) (lv' := [(0, .ref (adr Y 0)), (1, .int x1), (2, .int v37), (3, .int (s28.2 + 1))]) (by decide) rfl rfl rfl ?_
          refine w_goto C (pc := 69) 40 dX9_servedBy_69 (by decide) ?_
          obtain rfl := Option.some.inj h32
          have k9 := ki30 (v37, s28.2 + 1) rfl
          try dsimp only at k9
          exact k9
        · have h32 := it_f h32 c
          refine w_iconst C (pc := 63) dX9_servedBy_63 (v := 0) (by decide) ?_
          refine w_iadd C (pc := 64) dX9_servedBy_64 ?_
          refine w_bnd h32 (fun v38 h32 => ?_)
          refine w_istore_n C (pc := 65) dX9_servedBy_65 (lv' := [(0, .ref (adr Y 0)), (1, .int x1), (2, .int v38), (3, .int s28.2)]) rfl rfl rfl ?_
          refine w_iinc C (pc := 66) dX9_servedBy_66 3 rfl (v := 1) (lv' := [(0, .ref (adr Y 0)), (1, .int x1), (2, .int v38), (3, .int (s28.2 + 1))]) (by decide) rfl rfl rfl ?_
          refine w_goto C (pc := 69) 40 dX9_servedBy_69 (by decide) ?_
          obtain rfl := Option.some.inj h32
          have k9 := ki30 (v38, s28.2 + 1) rfl
          try dsimp only at k9
          exact k9
    · refine w_iload_n C (pc := 72) dX9_servedBy_72 2 rfl ?_
      exact w_retR C (pc := 73) dX9_servedBy_73 rfl (Option.some.inj h)
