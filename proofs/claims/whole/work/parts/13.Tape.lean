theorem dX6_append_0 : decode cX6_append 0 = .ok (.aload_n 0, 1) := by decide +kernel
theorem dX6_append_1 : decode cX6_append 1 = .ok (.getfield 15, 3) := by decide +kernel
theorem dX6_append_4 : decode cX6_append 4 = .ok (.iconst 4, 1) := by decide +kernel
theorem dX6_append_5 : decode cX6_append 5 = .ok (.iadd, 1) := by decide +kernel
theorem dX6_append_6 : decode cX6_append 6 = .ok (.sipush 300, 3) := by decide +kernel
theorem dX6_append_9 : decode cX6_append 9 = .ok (.if_icmp .le 4, 3) := by decide +kernel
theorem dX6_append_12 : decode cX6_append 12 = .ok (.return_, 1) := by decide +kernel
theorem dX6_append_13 : decode cX6_append 13 = .ok (.bipush 24, 2) := by decide +kernel
theorem dX6_append_15 : decode cX6_append 15 = .ok (.istore_n 2, 1) := by decide +kernel
theorem dX6_append_16 : decode cX6_append 16 = .ok (.iload_n 2, 1) := by decide +kernel
theorem dX6_append_17 : decode cX6_append 17 = .ok (.ifCond .lt 35, 3) := by decide +kernel
theorem dX6_append_20 : decode cX6_append 20 = .ok (.aload_n 0, 1) := by decide +kernel
theorem dX6_append_21 : decode cX6_append 21 = .ok (.getfield 9, 3) := by decide +kernel
theorem dX6_append_24 : decode cX6_append 24 = .ok (.aload_n 0, 1) := by decide +kernel
theorem dX6_append_25 : decode cX6_append 25 = .ok (.getfield 15, 3) := by decide +kernel
theorem dX6_append_28 : decode cX6_append 28 = .ok (.iload_n 1, 1) := by decide +kernel
theorem dX6_append_29 : decode cX6_append 29 = .ok (.iload_n 2, 1) := by decide +kernel
theorem dX6_append_30 : decode cX6_append 30 = .ok (.iushr, 1) := by decide +kernel
theorem dX6_append_31 : decode cX6_append 31 = .ok (.sipush 255, 3) := by decide +kernel
theorem dX6_append_34 : decode cX6_append 34 = .ok (.iand, 1) := by decide +kernel
theorem dX6_append_35 : decode cX6_append 35 = .ok (.iastore, 1) := by decide +kernel
theorem dX6_append_36 : decode cX6_append 36 = .ok (.aload_n 0, 1) := by decide +kernel
theorem dX6_append_37 : decode cX6_append 37 = .ok (.dup, 1) := by decide +kernel
theorem dX6_append_38 : decode cX6_append 38 = .ok (.getfield 15, 3) := by decide +kernel
theorem dX6_append_41 : decode cX6_append 41 = .ok (.iconst 1, 1) := by decide +kernel
theorem dX6_append_42 : decode cX6_append 42 = .ok (.iadd, 1) := by decide +kernel
theorem dX6_append_43 : decode cX6_append 43 = .ok (.putfield 15, 3) := by decide +kernel
theorem dX6_append_46 : decode cX6_append 46 = .ok (.iinc 2 (-8), 3) := by decide +kernel
theorem dX6_append_49 : decode cX6_append 49 = .ok (.goto (-33), 3) := by decide +kernel
theorem dX6_append_52 : decode cX6_append 52 = .ok (.return_, 1) := by decide +kernel
def pX6_append_L16 (x1 : Int32) (s : Int32 × Mm) : Option ((Int32 × Mm) ⊕ (Mm)) :=
if s.1 < 0 then
(some (Sum.inr s.2))
else
((ast s.2 30 300 (s.2 29 0) ((ush x1 s.1) &&& 255)).bind fun M1 =>
bnd (mset M1 29 0 ((M1 29 0) + 1)) fun M3 =>
some (Sum.inl (s.1 + (-8), M3)))
def pX6_append (x1 : Int32) (M : Mm) : Option (Mm) :=
if ((M 29 0) + 4) ≤ 300 then
((itr (pX6_append_L16 x1) fuel (24, M)).bind fun x5 =>
some x5)
else
(some M)
abbrev zX6_append : Zx := (cX6_append, RX6, 3, 0, none)
set_option maxRecDepth 100000 in
set_option maxHeartbeats 4000000 in
theorem tX6_append {l : Launch} {Y : Sx} {M : Mm} {x1 : Int32} {q : Mm} (hY : isA Y) (h : pX6_append x1 M = some q) : Ct l Y yX6_append cX6_append 3 none 0 [.ref (adr Y 29), .int x1] M none q := by
  refine Ct.of (by decide) rfl (lv := [(0, .ref (adr Y 29)), (1, .int x1)]) rfl ?_
  intro K hkl C
  change Cx K zX6_append Y at C
  subst hkl
  unfold pX6_append at h
  show Wp K zX6_append Y (Qm K Y none q) M 0 [(0, .ref (adr Y 29)), (1, .int x1)] []
  refine w_aload_n C (pc := 0) dX6_append_0 0 rfl ?_
  refine w_getI C (pc := 1) dX6_append_1 f_X6_15 (sA_29 hY) rfl ?_
  refine w_iconst C (pc := 4) dX6_append_4 (v := 4) (by decide) ?_
  refine w_iadd C (pc := 5) dX6_append_5 ?_
  refine w_sipush C (pc := 6) dX6_append_6 (v := 300) (by decide) ?_
  refine w_icle C (pc := 9) 13 dX6_append_9 (by decide) (fun c => ?_) (fun c => ?_)
  · have h := it_t h c
    refine w_bipush C (pc := 13) dX6_append_13 (v := 24) (by decide) ?_
    refine w_istore_n C (pc := 15) dX6_append_15 (lv' := [(0, .ref (adr Y 29)), (1, .int x1), (2, .int 24)]) rfl rfl rfl ?_
    obtain ⟨x5, e6, h⟩ := ob h
    refine itr_W (P := fun s7 => Wp K zX6_append Y (Qm K Y none q) s7.2 16 [(0, .ref (adr Y 29)), (1, .int x1), (2, .int s7.1)] []) (R := fun x5 => Wp K zX6_append Y (Qm K Y none q) x5 52 [(0, .ref (adr Y 29)), (1, .int x1)] []) ?_ fuel (24, M) x5 e6 ?_
    · intro s7 r8 h11 ki9 kx10
      unfold pX6_append_L16 at h11
      show Wp K zX6_append Y (Qm K Y none q) s7.2 16 [(0, .ref (adr Y 29)), (1, .int x1), (2, .int s7.1)] []
      refine w_iload_n C (pc := 16) dX6_append_16 2 rfl ?_
      refine w_iflt C (pc := 17) 52 dX6_append_17 (by decide) (fun c => ?_) (fun c => ?_)
      · have h11 := it_t h11 c
        obtain rfl := Option.some.inj h11
        refine w_lv [0, 1] rfl ?_
        have k9 := kx10 s7.2 rfl
        try dsimp only at k9
        exact k9
      · have h11 := it_f h11 c
        refine w_aload_n C (pc := 20) dX6_append_20 0 rfl ?_
        refine w_getR C (pc := 21) dX6_append_21 f_X6_9 (sA_29 hY) rfl ?_
        refine w_aload_n C (pc := 24) dX6_append_24 0 rfl ?_
        refine w_getI C (pc := 25) dX6_append_25 f_X6_15 (sA_29 hY) rfl ?_
        refine w_iload_n C (pc := 28) dX6_append_28 1 rfl ?_
        refine w_iload_n C (pc := 29) dX6_append_29 2 rfl ?_
        refine w_iushr C (pc := 30) dX6_append_30 ?_
        refine w_sipush C (pc := 31) dX6_append_31 (v := 255) (by decide) ?_
        refine w_iand C (pc := 34) dX6_append_34 ?_
        obtain ⟨M12, e13, h11⟩ := ob h11
        refine w_iast C (pc := 35) dX6_append_35 (sA_30 hY) e13 ?_
        refine w_aload_n C (pc := 36) dX6_append_36 0 rfl ?_
        refine w_dup C (pc := 37) dX6_append_37 rfl ?_
        refine w_getI C (pc := 38) dX6_append_38 f_X6_15 (sA_29 hY) rfl ?_
        refine w_iconst C (pc := 41) dX6_append_41 (v := 1) (by decide) ?_
        refine w_iadd C (pc := 42) dX6_append_42 ?_
        obtain ⟨M14, e15, h11⟩ := bn h11
        refine w_putI C (pc := 43) dX6_append_43 fp_X6_15 (sA_29 hY) rfl ?_
        rw [e15]
        refine w_iinc C (pc := 46) dX6_append_46 2 rfl (v := (-8)) (lv' := [(0, .ref (adr Y 29)), (1, .int x1), (2, .int (s7.1 + (-8)))]) (by decide) rfl rfl rfl ?_
        refine w_goto C (pc := 49) 16 dX6_append_49 (by decide) ?_
        obtain rfl := Option.some.inj h11
        have k9 := ki9 (s7.1 + (-8), M14) rfl
        try dsimp only at k9
        exact k9
    · exact w_retV C (pc := 52) dX6_append_52 rfl (Option.some.inj h)
  · have h := it_f h c
    exact w_retV C (pc := 12) dX6_append_12 rfl (Option.some.inj h)
theorem dX6_byteAt_0 : decode cX6_byteAt 0 = .ok (.iload_n 1, 1) := by decide +kernel
theorem dX6_byteAt_1 : decode cX6_byteAt 1 = .ok (.ifCond .lt 20, 3) := by decide +kernel
theorem dX6_byteAt_4 : decode cX6_byteAt 4 = .ok (.iload_n 1, 1) := by decide +kernel
theorem dX6_byteAt_5 : decode cX6_byteAt 5 = .ok (.aload_n 0, 1) := by decide +kernel
theorem dX6_byteAt_6 : decode cX6_byteAt 6 = .ok (.getfield 15, 3) := by decide +kernel
theorem dX6_byteAt_9 : decode cX6_byteAt 9 = .ok (.if_icmp .ge 12, 3) := by decide +kernel
theorem dX6_byteAt_12 : decode cX6_byteAt 12 = .ok (.aload_n 0, 1) := by decide +kernel
theorem dX6_byteAt_13 : decode cX6_byteAt 13 = .ok (.getfield 9, 3) := by decide +kernel
theorem dX6_byteAt_16 : decode cX6_byteAt 16 = .ok (.iload_n 1, 1) := by decide +kernel
theorem dX6_byteAt_17 : decode cX6_byteAt 17 = .ok (.iaload, 1) := by decide +kernel
theorem dX6_byteAt_18 : decode cX6_byteAt 18 = .ok (.goto 4, 3) := by decide +kernel
theorem dX6_byteAt_21 : decode cX6_byteAt 21 = .ok (.iconst (-1), 1) := by decide +kernel
theorem dX6_byteAt_22 : decode cX6_byteAt 22 = .ok (.ireturn, 1) := by decide +kernel
def pX6_byteAt (x1 : Int32) (M : Mm) : Option (Int32) :=
if x1 < 0 then
(some (-1))
else
(if (M 29 0) ≤ x1 then
(some (-1))
else
((ald M 30 300 x1).bind fun v1 =>
some v1))
abbrev zX6_byteAt : Zx := (cX6_byteAt, RX6, 2, 0, (some .int))
set_option maxRecDepth 100000 in
set_option maxHeartbeats 4000000 in
theorem tX6_byteAt {l : Launch} {Y : Sx} {M : Mm} {x1 : Int32} {q : Int32} (hY : isA Y) (h : pX6_byteAt x1 M = some q) : Ct l Y yX6_byteAt cX6_byteAt 2 (some .int) 0 [.ref (adr Y 29), .int x1] M (some q) M := by
  refine Ct.of (by decide) rfl (lv := [(0, .ref (adr Y 29)), (1, .int x1)]) rfl ?_
  intro K hkl C
  change Cx K zX6_byteAt Y at C
  subst hkl
  unfold pX6_byteAt at h
  show Wp K zX6_byteAt Y (Qm K Y (some q) M) M 0 [(0, .ref (adr Y 29)), (1, .int x1)] []
  refine w_iload_n C (pc := 0) dX6_byteAt_0 1 rfl ?_
  refine w_iflt C (pc := 1) 21 dX6_byteAt_1 (by decide) (fun c => ?_) (fun c => ?_)
  · have h := it_t h c
    refine w_iconst C (pc := 21) dX6_byteAt_21 (v := (-1)) (by decide) ?_
    exact w_retR C (pc := 22) dX6_byteAt_22 rfl (Option.some.inj h)
  · have h := it_f h c
    refine w_iload_n C (pc := 4) dX6_byteAt_4 1 rfl ?_
    refine w_aload_n C (pc := 5) dX6_byteAt_5 0 rfl ?_
    refine w_getI C (pc := 6) dX6_byteAt_6 f_X6_15 (sA_29 hY) rfl ?_
    refine w_icge C (pc := 9) 21 dX6_byteAt_9 (by decide) (fun c => ?_) (fun c => ?_)
    · have h := it_t h c
      refine w_iconst C (pc := 21) dX6_byteAt_21 (v := (-1)) (by decide) ?_
      exact w_retR C (pc := 22) dX6_byteAt_22 rfl (Option.some.inj h)
    · have h := it_f h c
      refine w_aload_n C (pc := 12) dX6_byteAt_12 0 rfl ?_
      refine w_getR C (pc := 13) dX6_byteAt_13 f_X6_9 (sA_29 hY) rfl ?_
      refine w_iload_n C (pc := 16) dX6_byteAt_16 1 rfl ?_
      obtain ⟨v1, e2, h⟩ := ob h
      refine w_iald C (pc := 17) dX6_byteAt_17 (sA_30 hY) e2 ?_
      refine w_goto C (pc := 18) 22 dX6_byteAt_18 (by decide) ?_
      exact w_retR C (pc := 22) dX6_byteAt_22 rfl (Option.some.inj h)
theorem dX6_hasBlankAt_0 : decode cX6_hasBlankAt 0 = .ok (.aload_n 0, 1) := by decide +kernel
theorem dX6_hasBlankAt_1 : decode cX6_hasBlankAt 1 = .ok (.iload_n 1, 1) := by decide +kernel
theorem dX6_hasBlankAt_2 : decode cX6_hasBlankAt 2 = .ok (.invokevirtual 19, 3) := by decide +kernel
theorem dX6_hasBlankAt_5 : decode cX6_hasBlankAt 5 = .ok (.bipush 32, 2) := by decide +kernel
theorem dX6_hasBlankAt_7 : decode cX6_hasBlankAt 7 = .ok (.if_icmp .eq 13, 3) := by decide +kernel
theorem dX6_hasBlankAt_10 : decode cX6_hasBlankAt 10 = .ok (.aload_n 0, 1) := by decide +kernel
theorem dX6_hasBlankAt_11 : decode cX6_hasBlankAt 11 = .ok (.iload_n 1, 1) := by decide +kernel
theorem dX6_hasBlankAt_12 : decode cX6_hasBlankAt 12 = .ok (.invokevirtual 19, 3) := by decide +kernel
theorem dX6_hasBlankAt_15 : decode cX6_hasBlankAt 15 = .ok (.bipush 10, 2) := by decide +kernel
theorem dX6_hasBlankAt_17 : decode cX6_hasBlankAt 17 = .ok (.if_icmp .ne 7, 3) := by decide +kernel
theorem dX6_hasBlankAt_20 : decode cX6_hasBlankAt 20 = .ok (.iconst 1, 1) := by decide +kernel
theorem dX6_hasBlankAt_21 : decode cX6_hasBlankAt 21 = .ok (.goto 4, 3) := by decide +kernel
theorem dX6_hasBlankAt_24 : decode cX6_hasBlankAt 24 = .ok (.iconst 0, 1) := by decide +kernel
theorem dX6_hasBlankAt_25 : decode cX6_hasBlankAt 25 = .ok (.ireturn, 1) := by decide +kernel
def pX6_hasBlankAt (x1 : Int32) (M : Mm) : Option (Int32) :=
(pX6_byteAt x1 M).bind fun v1 =>
if v1 = 32 then
(some 1)
else
((pX6_byteAt x1 M).bind fun v3 =>
if v3 = 10 then
(some 1)
else
(some 0))
abbrev zX6_hasBlankAt : Zx := (cX6_hasBlankAt, RX6, 2, 1, (some .boolean))
set_option maxRecDepth 100000 in
set_option maxHeartbeats 4000000 in
theorem tX6_hasBlankAt {l : Launch} {Y : Sx} {M : Mm} {x1 : Int32} {q : Int32} (hY : isA Y) (h : pX6_hasBlankAt x1 M = some q) : Ct l Y yX6_hasBlankAt cX6_hasBlankAt 2 (some .boolean) 1 [.ref (adr Y 29), .int x1] M (some q) M := by
  refine Ct.of (by decide) rfl (lv := [(0, .ref (adr Y 29)), (1, .int x1)]) rfl ?_
  intro K hkl C
  change Cx K zX6_hasBlankAt Y at C
  subst hkl
  unfold pX6_hasBlankAt at h
  show Wp K zX6_hasBlankAt Y (Qm K Y (some q) M) M 0 [(0, .ref (adr Y 29)), (1, .int x1)] []
  refine w_aload_n C (pc := 0) dX6_hasBlankAt_0 0 rfl ?_
  refine w_iload_n C (pc := 1) dX6_hasBlankAt_1 1 rfl ?_
  obtain ⟨v1, e2, h⟩ := ob h
  refine w_cVi C (pc := 2) dX6_hasBlankAt_2 my_X6_byteAt mi_X6_byteAt ml_X6_19 (sA_29 hY) rfl rfl rfl [.int x1] rfl rfl (Nat.le_of_ble_eq_true rfl) (tX6_byteAt hY  e2) ?_
  refine w_bipush C (pc := 5) dX6_hasBlankAt_5 (v := 32) (by decide) ?_
  refine w_iceq C (pc := 7) 20 dX6_hasBlankAt_7 (by decide) (fun c => ?_) (fun c => ?_)
  · have h := it_t h c
    refine w_iconst C (pc := 20) dX6_hasBlankAt_20 (v := 1) (by decide) ?_
    refine w_goto C (pc := 21) 25 dX6_hasBlankAt_21 (by decide) ?_
    exact w_retzR C (pc := 25) dX6_hasBlankAt_25 rfl (by decide) (Option.some.inj h)
  · have h := it_f h c
    refine w_aload_n C (pc := 10) dX6_hasBlankAt_10 0 rfl ?_
    refine w_iload_n C (pc := 11) dX6_hasBlankAt_11 1 rfl ?_
    obtain ⟨v3, e4, h⟩ := ob h
    refine w_cVi C (pc := 12) dX6_hasBlankAt_12 my_X6_byteAt mi_X6_byteAt ml_X6_19 (sA_29 hY) rfl rfl rfl [.int x1] rfl rfl (Nat.le_of_ble_eq_true rfl) (tX6_byteAt hY  e4) ?_
    refine w_bipush C (pc := 15) dX6_hasBlankAt_15 (v := 10) (by decide) ?_
    refine w_icne C (pc := 17) 24 dX6_hasBlankAt_17 (by decide) (fun c => ?_) (fun c => ?_)
    · have h := it_t h c
      refine w_iconst C (pc := 20) dX6_hasBlankAt_20 (v := 1) (by decide) ?_
      refine w_goto C (pc := 21) 25 dX6_hasBlankAt_21 (by decide) ?_
      exact w_retzR C (pc := 25) dX6_hasBlankAt_25 rfl (by decide) (Option.some.inj h)
    · have h := it_f h c
      refine w_iconst C (pc := 24) dX6_hasBlankAt_24 (v := 0) (by decide) ?_
      exact w_retzR C (pc := 25) dX6_hasBlankAt_25 rfl (by decide) (Option.some.inj h)
theorem dX6_hasDigitAt_0 : decode cX6_hasDigitAt 0 = .ok (.aload_n 0, 1) := by decide +kernel
theorem dX6_hasDigitAt_1 : decode cX6_hasDigitAt 1 = .ok (.iload_n 1, 1) := by decide +kernel
theorem dX6_hasDigitAt_2 : decode cX6_hasDigitAt 2 = .ok (.invokevirtual 19, 3) := by decide +kernel
theorem dX6_hasDigitAt_5 : decode cX6_hasDigitAt 5 = .ok (.bipush 48, 2) := by decide +kernel
theorem dX6_hasDigitAt_7 : decode cX6_hasDigitAt 7 = .ok (.if_icmp .lt 17, 3) := by decide +kernel
theorem dX6_hasDigitAt_10 : decode cX6_hasDigitAt 10 = .ok (.aload_n 0, 1) := by decide +kernel
theorem dX6_hasDigitAt_11 : decode cX6_hasDigitAt 11 = .ok (.iload_n 1, 1) := by decide +kernel
theorem dX6_hasDigitAt_12 : decode cX6_hasDigitAt 12 = .ok (.invokevirtual 19, 3) := by decide +kernel
theorem dX6_hasDigitAt_15 : decode cX6_hasDigitAt 15 = .ok (.bipush 57, 2) := by decide +kernel
theorem dX6_hasDigitAt_17 : decode cX6_hasDigitAt 17 = .ok (.if_icmp .gt 7, 3) := by decide +kernel
theorem dX6_hasDigitAt_20 : decode cX6_hasDigitAt 20 = .ok (.iconst 1, 1) := by decide +kernel
theorem dX6_hasDigitAt_21 : decode cX6_hasDigitAt 21 = .ok (.goto 4, 3) := by decide +kernel
theorem dX6_hasDigitAt_24 : decode cX6_hasDigitAt 24 = .ok (.iconst 0, 1) := by decide +kernel
theorem dX6_hasDigitAt_25 : decode cX6_hasDigitAt 25 = .ok (.ireturn, 1) := by decide +kernel
def pX6_hasDigitAt (x1 : Int32) (M : Mm) : Option (Int32) :=
(pX6_byteAt x1 M).bind fun v1 =>
if v1 < 48 then
(some 0)
else
((pX6_byteAt x1 M).bind fun v3 =>
if 57 < v3 then
(some 0)
else
(some 1))
abbrev zX6_hasDigitAt : Zx := (cX6_hasDigitAt, RX6, 2, 1, (some .boolean))
set_option maxRecDepth 100000 in
set_option maxHeartbeats 4000000 in
theorem tX6_hasDigitAt {l : Launch} {Y : Sx} {M : Mm} {x1 : Int32} {q : Int32} (hY : isA Y) (h : pX6_hasDigitAt x1 M = some q) : Ct l Y yX6_hasDigitAt cX6_hasDigitAt 2 (some .boolean) 1 [.ref (adr Y 29), .int x1] M (some q) M := by
  refine Ct.of (by decide) rfl (lv := [(0, .ref (adr Y 29)), (1, .int x1)]) rfl ?_
  intro K hkl C
  change Cx K zX6_hasDigitAt Y at C
  subst hkl
  unfold pX6_hasDigitAt at h
  show Wp K zX6_hasDigitAt Y (Qm K Y (some q) M) M 0 [(0, .ref (adr Y 29)), (1, .int x1)] []
  refine w_aload_n C (pc := 0) dX6_hasDigitAt_0 0 rfl ?_
  refine w_iload_n C (pc := 1) dX6_hasDigitAt_1 1 rfl ?_
  obtain ⟨v1, e2, h⟩ := ob h
  refine w_cVi C (pc := 2) dX6_hasDigitAt_2 my_X6_byteAt mi_X6_byteAt ml_X6_19 (sA_29 hY) rfl rfl rfl [.int x1] rfl rfl (Nat.le_of_ble_eq_true rfl) (tX6_byteAt hY  e2) ?_
  refine w_bipush C (pc := 5) dX6_hasDigitAt_5 (v := 48) (by decide) ?_
  refine w_iclt C (pc := 7) 24 dX6_hasDigitAt_7 (by decide) (fun c => ?_) (fun c => ?_)
  · have h := it_t h c
    refine w_iconst C (pc := 24) dX6_hasDigitAt_24 (v := 0) (by decide) ?_
    exact w_retzR C (pc := 25) dX6_hasDigitAt_25 rfl (by decide) (Option.some.inj h)
  · have h := it_f h c
    refine w_aload_n C (pc := 10) dX6_hasDigitAt_10 0 rfl ?_
    refine w_iload_n C (pc := 11) dX6_hasDigitAt_11 1 rfl ?_
    obtain ⟨v3, e4, h⟩ := ob h
    refine w_cVi C (pc := 12) dX6_hasDigitAt_12 my_X6_byteAt mi_X6_byteAt ml_X6_19 (sA_29 hY) rfl rfl rfl [.int x1] rfl rfl (Nat.le_of_ble_eq_true rfl) (tX6_byteAt hY  e4) ?_
    refine w_bipush C (pc := 15) dX6_hasDigitAt_15 (v := 57) (by decide) ?_
    refine w_icgt C (pc := 17) 24 dX6_hasDigitAt_17 (by decide) (fun c => ?_) (fun c => ?_)
    · have h := it_t h c
      refine w_iconst C (pc := 24) dX6_hasDigitAt_24 (v := 0) (by decide) ?_
      exact w_retzR C (pc := 25) dX6_hasDigitAt_25 rfl (by decide) (Option.some.inj h)
    · have h := it_f h c
      refine w_iconst C (pc := 20) dX6_hasDigitAt_20 (v := 1) (by decide) ?_
      refine w_goto C (pc := 21) 25 dX6_hasDigitAt_21 (by decide) ?_
      exact w_retzR C (pc := 25) dX6_hasDigitAt_25 rfl (by decide) (Option.some.inj h)
theorem dX6_hasLetterAt_0 : decode cX6_hasLetterAt 0 = .ok (.aload_n 0, 1) := by decide +kernel
theorem dX6_hasLetterAt_1 : decode cX6_hasLetterAt 1 = .ok (.iload_n 1, 1) := by decide +kernel
theorem dX6_hasLetterAt_2 : decode cX6_hasLetterAt 2 = .ok (.invokevirtual 19, 3) := by decide +kernel
theorem dX6_hasLetterAt_5 : decode cX6_hasLetterAt 5 = .ok (.bipush 97, 2) := by decide +kernel
theorem dX6_hasLetterAt_7 : decode cX6_hasLetterAt 7 = .ok (.if_icmp .lt 17, 3) := by decide +kernel
theorem dX6_hasLetterAt_10 : decode cX6_hasLetterAt 10 = .ok (.aload_n 0, 1) := by decide +kernel
theorem dX6_hasLetterAt_11 : decode cX6_hasLetterAt 11 = .ok (.iload_n 1, 1) := by decide +kernel
theorem dX6_hasLetterAt_12 : decode cX6_hasLetterAt 12 = .ok (.invokevirtual 19, 3) := by decide +kernel
theorem dX6_hasLetterAt_15 : decode cX6_hasLetterAt 15 = .ok (.bipush 122, 2) := by decide +kernel
theorem dX6_hasLetterAt_17 : decode cX6_hasLetterAt 17 = .ok (.if_icmp .gt 7, 3) := by decide +kernel
theorem dX6_hasLetterAt_20 : decode cX6_hasLetterAt 20 = .ok (.iconst 1, 1) := by decide +kernel
theorem dX6_hasLetterAt_21 : decode cX6_hasLetterAt 21 = .ok (.goto 4, 3) := by decide +kernel
theorem dX6_hasLetterAt_24 : decode cX6_hasLetterAt 24 = .ok (.iconst 0, 1) := by decide +kernel
theorem dX6_hasLetterAt_25 : decode cX6_hasLetterAt 25 = .ok (.ireturn, 1) := by decide +kernel
def pX6_hasLetterAt (x1 : Int32) (M : Mm) : Option (Int32) :=
(pX6_byteAt x1 M).bind fun v1 =>
if v1 < 97 then
(some 0)
else
((pX6_byteAt x1 M).bind fun v3 =>
if 122 < v3 then
(some 0)
else
(some 1))
abbrev zX6_hasLetterAt : Zx := (cX6_hasLetterAt, RX6, 2, 1, (some .boolean))
set_option maxRecDepth 100000 in
set_option maxHeartbeats 4000000 in
theorem tX6_hasLetterAt {l : Launch} {Y : Sx} {M : Mm} {x1 : Int32} {q : Int32} (hY : isA Y) (h : pX6_hasLetterAt x1 M = some q) : Ct l Y yX6_hasLetterAt cX6_hasLetterAt 2 (some .boolean) 1 [.ref (adr Y 29), .int x1] M (some q) M := by
  refine Ct.of (by decide) rfl (lv := [(0, .ref (adr Y 29)), (1, .int x1)]) rfl ?_
  intro K hkl C
  change Cx K zX6_hasLetterAt Y at C
  subst hkl
  unfold pX6_hasLetterAt at h
  show Wp K zX6_hasLetterAt Y (Qm K Y (some q) M) M 0 [(0, .ref (adr Y 29)), (1, .int x1)] []
  refine w_aload_n C (pc := 0) dX6_hasLetterAt_0 0 rfl ?_
  refine w_iload_n C (pc := 1) dX6_hasLetterAt_1 1 rfl ?_
  obtain ⟨v1, e2, h⟩ := ob h
  refine w_cVi C (pc := 2) dX6_hasLetterAt_2 my_X6_byteAt mi_X6_byteAt ml_X6_19 (sA_29 hY) rfl rfl rfl [.int x1] rfl rfl (Nat.le_of_ble_eq_true rfl) (tX6_byteAt hY  e2) ?_
  refine w_bipush C (pc := 5) dX6_hasLetterAt_5 (v := 97) (by decide) ?_
  refine w_iclt C (pc := 7) 24 dX6_hasLetterAt_7 (by decide) (fun c => ?_) (fun c => ?_)
  · have h := it_t h c
    refine w_iconst C (pc := 24) dX6_hasLetterAt_24 (v := 0) (by decide) ?_
    exact w_retzR C (pc := 25) dX6_hasLetterAt_25 rfl (by decide) (Option.some.inj h)
  · have h := it_f h c
    refine w_aload_n C (pc := 10) dX6_hasLetterAt_10 0 rfl ?_
    refine w_iload_n C (pc := 11) dX6_hasLetterAt_11 1 rfl ?_
    obtain ⟨v3, e4, h⟩ := ob h
    refine w_cVi C (pc := 12) dX6_hasLetterAt_12 my_X6_byteAt mi_X6_byteAt ml_X6_19 (sA_29 hY) rfl rfl rfl [.int x1] rfl rfl (Nat.le_of_ble_eq_true rfl) (tX6_byteAt hY  e4) ?_
    refine w_bipush C (pc := 15) dX6_hasLetterAt_15 (v := 122) (by decide) ?_
    refine w_icgt C (pc := 17) 24 dX6_hasLetterAt_17 (by decide) (fun c => ?_) (fun c => ?_)
    · have h := it_t h c
      refine w_iconst C (pc := 24) dX6_hasLetterAt_24 (v := 0) (by decide) ?_
      exact w_retzR C (pc := 25) dX6_hasLetterAt_25 rfl (by decide) (Option.some.inj h)
    · have h := it_f h c
      refine w_iconst C (pc := 20) dX6_hasLetterAt_20 (v := 1) (by decide) ?_
      refine w_goto C (pc := 21) 25 dX6_hasLetterAt_21 (by decide) ?_
      exact w_retzR C (pc := 25) dX6_hasLetterAt_25 rfl (by decide) (Option.some.inj h)
