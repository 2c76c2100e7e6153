theorem dX0_air_0 : decode cX0_air 0 = .ok (.aload_n 0, 1) := by decide +kernel
theorem dX0_air_1 : decode cX0_air 1 = .ok (.getfield 40, 3) := by decide +kernel
theorem dX0_air_4 : decode cX0_air 4 = .ok (.bipush 9, 2) := by decide +kernel
theorem dX0_air_6 : decode cX0_air 6 = .ok (.invokevirtual 86, 3) := by decide +kernel
theorem dX0_air_9 : decode cX0_air 9 = .ok (.iconst 1, 1) := by decide +kernel
theorem dX0_air_10 : decode cX0_air 10 = .ok (.if_icmp .ne 12, 3) := by decide +kernel
theorem dX0_air_13 : decode cX0_air 13 = .ok (.aload_n 0, 1) := by decide +kernel
theorem dX0_air_14 : decode cX0_air 14 = .ok (.getfield 37, 3) := by decide +kernel
theorem dX0_air_17 : decode cX0_air 17 = .ok (.iload_n 1, 1) := by decide +kernel
theorem dX0_air_18 : decode cX0_air 18 = .ok (.iaload, 1) := by decide +kernel
theorem dX0_air_19 : decode cX0_air 19 = .ok (.goto 9, 3) := by decide +kernel
theorem dX0_air_22 : decode cX0_air 22 = .ok (.aload_n 0, 1) := by decide +kernel
theorem dX0_air_23 : decode cX0_air 23 = .ok (.getfield 34, 3) := by decide +kernel
theorem dX0_air_26 : decode cX0_air 26 = .ok (.iload_n 1, 1) := by decide +kernel
theorem dX0_air_27 : decode cX0_air 27 = .ok (.iaload, 1) := by decide +kernel
theorem dX0_air_28 : decode cX0_air 28 = .ok (.aload_n 0, 1) := by decide +kernel
theorem dX0_air_29 : decode cX0_air 29 = .ok (.getfield 31, 3) := by decide +kernel
theorem dX0_air_32 : decode cX0_air 32 = .ok (.iload_n 1, 1) := by decide +kernel
theorem dX0_air_33 : decode cX0_air 33 = .ok (.iaload, 1) := by decide +kernel
theorem dX0_air_34 : decode cX0_air 34 = .ok (.isub, 1) := by decide +kernel
theorem dX0_air_35 : decode cX0_air 35 = .ok (.ireturn, 1) := by decide +kernel
def pX0_air (x1 : Int32) (M : Mm) : Option (Int32) :=
(pX3_setting 1 9 M).bind fun v1 =>
if v1 = 1 then
((ald M 16 8 x1).bind fun v3 =>
(ald M 14 8 x1).bind fun v5 =>
some (v3 - v5))
else
((ald M 15 8 x1).bind fun v7 =>
(ald M 14 8 x1).bind fun v9 =>
some (v7 - v9))
abbrev zX0_air : Zx := (cX0_air, RX0, 2, 1, (some .int))
set_option maxRecDepth 100000 in
set_option maxHeartbeats 4000000 in
theorem tX0_air {l : Launch} {Y : Sx} {M : Mm} {x1 : Int32} {q : Int32} (hY : isA Y) (h : pX0_air x1 M = some q) : Ct l Y yX0_air cX0_air 2 (some .int) 1 [.ref (adr Y 7), .int x1] M (some q) M := by
  refine Ct.of (by decide) rfl (lv := [(0, .ref (adr Y 7)), (1, .int x1)]) rfl ?_
  intro K hkl C
  change Cx K zX0_air Y at C
  subst hkl
  unfold pX0_air at h
  show Wp K zX0_air Y (Qm K Y (some q) M) M 0 [(0, .ref (adr Y 7)), (1, .int x1)] []
  refine w_aload_n C (pc := 0) dX0_air_0 0 rfl ?_
  refine w_getR C (pc := 1) dX0_air_1 f_X0_40 (sA_7 hY) rfl ?_
  refine w_bipush C (pc := 4) dX0_air_4 (v := 9) (by decide) ?_
  obtain ⟨v1, e2, h⟩ := ob h
  refine w_cVi C (pc := 6) dX0_air_6 my_X3_setting mi_X3_setting ml_X0_86 (sA_1 hY) rfl rfl rfl [.int 9] rfl rfl (Nat.le_of_ble_eq_true rfl) (tX3_setting (kLand_1 hY) e2) ?_
  refine w_iconst C (pc := 9) dX0_air_9 (v := 1) (by decide) ?_
  refine w_icne C (pc := 10) 22 dX0_air_10 (by decide) (fun c => ?_) (fun c => ?_)
  · have h := it_t h c
    refine w_aload_n C (pc := 13) dX0_air_13 0 rfl ?_
    refine w_getR C (pc := 14) dX0_air_14 f_X0_37 (sA_7 hY) rfl ?_
    refine w_iload_n C (pc := 17) dX0_air_17 1 rfl ?_
    obtain ⟨v3, e4, h⟩ := ob h
    refine w_iald C (pc := 18) dX0_air_18 (sA_16 hY) e4 ?_
    refine w_goto C (pc := 19) 28 dX0_air_19 (by decide) ?_
    refine w_aload_n C (pc := 28) dX0_air_28 0 rfl ?_
    refine w_getR C (pc := 29) dX0_air_29 f_X0_31 (sA_7 hY) rfl ?_
    refine w_iload_n C (pc := 32) dX0_air_32 1 rfl ?_
    obtain ⟨v5, e6, h⟩ := ob h
    refine w_iald C (pc := 33) dX0_air_33 (sA_14 hY) e6 ?_
    refine w_isub C (pc := 34) dX0_air_34 ?_
    exact w_retR C (pc := 35) dX0_air_35 rfl (Option.some.inj h)
  · have h := it_f h c
    refine w_aload_n C (pc := 22) dX0_air_22 0 rfl ?_
    refine w_getR C (pc := 23) dX0_air_23 f_X0_34 (sA_7 hY) rfl ?_
    refine w_iload_n C (pc := 26) dX0_air_26 1 rfl ?_
    obtain ⟨v7, e8, h⟩ := ob h
    refine w_iald C (pc := 27) dX0_air_27 (sA_15 hY) e8 ?_
    refine w_aload_n C (pc := 28) dX0_air_28 0 rfl ?_
    refine w_getR C (pc := 29) dX0_air_29 f_X0_31 (sA_7 hY) rfl ?_
    refine w_iload_n C (pc := 32) dX0_air_32 1 rfl ?_
    obtain ⟨v9, e10, h⟩ := ob h
    refine w_iald C (pc := 33) dX0_air_33 (sA_14 hY) e10 ?_
    refine w_isub C (pc := 34) dX0_air_34 ?_
    exact w_retR C (pc := 35) dX0_air_35 rfl (Option.some.inj h)
theorem dX0_isAhead_0 : decode cX0_isAhead 0 = .ok (.aload_n 0, 1) := by decide +kernel
theorem dX0_isAhead_1 : decode cX0_isAhead 1 = .ok (.getfield 34, 3) := by decide +kernel
theorem dX0_isAhead_4 : decode cX0_isAhead 4 = .ok (.iload_n 1, 1) := by decide +kernel
theorem dX0_isAhead_5 : decode cX0_isAhead 5 = .ok (.iaload, 1) := by decide +kernel
theorem dX0_isAhead_6 : decode cX0_isAhead 6 = .ok (.aload_n 0, 1) := by decide +kernel
theorem dX0_isAhead_7 : decode cX0_isAhead 7 = .ok (.getfield 34, 3) := by decide +kernel
theorem dX0_isAhead_10 : decode cX0_isAhead 10 = .ok (.iload_n 2, 1) := by decide +kernel
theorem dX0_isAhead_11 : decode cX0_isAhead 11 = .ok (.iaload, 1) := by decide +kernel
theorem dX0_isAhead_12 : decode cX0_isAhead 12 = .ok (.if_icmp .eq 24, 3) := by decide +kernel
theorem dX0_isAhead_15 : decode cX0_isAhead 15 = .ok (.aload_n 0, 1) := by decide +kernel
theorem dX0_isAhead_16 : decode cX0_isAhead 16 = .ok (.getfield 34, 3) := by decide +kernel
theorem dX0_isAhead_19 : decode cX0_isAhead 19 = .ok (.iload_n 1, 1) := by decide +kernel
theorem dX0_isAhead_20 : decode cX0_isAhead 20 = .ok (.iaload, 1) := by decide +kernel
theorem dX0_isAhead_21 : decode cX0_isAhead 21 = .ok (.aload_n 0, 1) := by decide +kernel
theorem dX0_isAhead_22 : decode cX0_isAhead 22 = .ok (.getfield 34, 3) := by decide +kernel
theorem dX0_isAhead_25 : decode cX0_isAhead 25 = .ok (.iload_n 2, 1) := by decide +kernel
theorem dX0_isAhead_26 : decode cX0_isAhead 26 = .ok (.iaload, 1) := by decide +kernel
theorem dX0_isAhead_27 : decode cX0_isAhead 27 = .ok (.if_icmp .ge 7, 3) := by decide +kernel
theorem dX0_isAhead_30 : decode cX0_isAhead 30 = .ok (.iconst 1, 1) := by decide +kernel
theorem dX0_isAhead_31 : decode cX0_isAhead 31 = .ok (.goto 4, 3) := by decide +kernel
theorem dX0_isAhead_34 : decode cX0_isAhead 34 = .ok (.iconst 0, 1) := by decide +kernel
theorem dX0_isAhead_35 : decode cX0_isAhead 35 = .ok (.ireturn, 1) := by decide +kernel
theorem dX0_isAhead_36 : decode cX0_isAhead 36 = .ok (.aload_n 0, 1) := by decide +kernel
theorem dX0_isAhead_37 : decode cX0_isAhead 37 = .ok (.getfield 44, 3) := by decide +kernel
theorem dX0_isAhead_40 : decode cX0_isAhead 40 = .ok (.iload_n 1, 1) := by decide +kernel
theorem dX0_isAhead_41 : decode cX0_isAhead 41 = .ok (.iconst 0, 1) := by decide +kernel
theorem dX0_isAhead_42 : decode cX0_isAhead 42 = .ok (.invokevirtual 82, 3) := by decide +kernel
theorem dX0_isAhead_45 : decode cX0_isAhead 45 = .ok (.aload_n 0, 1) := by decide +kernel
theorem dX0_isAhead_46 : decode cX0_isAhead 46 = .ok (.getfield 44, 3) := by decide +kernel
theorem dX0_isAhead_49 : decode cX0_isAhead 49 = .ok (.iload_n 2, 1) := by decide +kernel
theorem dX0_isAhead_50 : decode cX0_isAhead 50 = .ok (.iconst 0, 1) := by decide +kernel
theorem dX0_isAhead_51 : decode cX0_isAhead 51 = .ok (.invokevirtual 82, 3) := by decide +kernel
theorem dX0_isAhead_54 : decode cX0_isAhead 54 = .ok (.if_icmp .ge 7, 3) := by decide +kernel
theorem dX0_isAhead_57 : decode cX0_isAhead 57 = .ok (.iconst 1, 1) := by decide +kernel
theorem dX0_isAhead_58 : decode cX0_isAhead 58 = .ok (.goto 4, 3) := by decide +kernel
theorem dX0_isAhead_61 : decode cX0_isAhead 61 = .ok (.iconst 0, 1) := by decide +kernel
theorem dX0_isAhead_62 : decode cX0_isAhead 62 = .ok (.ireturn, 1) := by decide +kernel
def pX0_isAhead (x1 : Int32) (x2 : Int32) (M : Mm) : Option (Int32) :=
(ald M 15 8 x1).bind fun v1 =>
(ald M 15 8 x2).bind fun v3 =>
if v1 = v3 then
((pX4_part 4 x1 0 M).bind fun v5 =>
(pX4_part 4 x2 0 M).bind fun v7 =>
if v7 ≤ v5 then
(some 0)
else
(some 1))
else
((ald M 15 8 x1).bind fun v9 =>
(ald M 15 8 x2).bind fun v11 =>
if v11 ≤ v9 then
(some 0)
else
(some 1))
abbrev zX0_isAhead : Zx := (cX0_isAhead, RX0, 3, 1, (some .boolean))
set_option maxRecDepth 100000 in
set_option maxHeartbeats 4000000 in
theorem tX0_isAhead {l : Launch} {Y : Sx} {M : Mm} {x1 : Int32} {x2 : Int32} {q : Int32} (hY : isA Y) (h : pX0_isAhead x1 x2 M = some q) : Ct l Y yX0_isAhead cX0_isAhead 3 (some .boolean) 1 [.ref (adr Y 7), .int x1, .int x2] M (some q) M := by
  refine Ct.of (by decide) rfl (lv := [(0, .ref (adr Y 7)), (1, .int x1), (2, .int x2)]) rfl ?_
  intro K hkl C
  change Cx K zX0_isAhead Y at C
  subst hkl
  unfold pX0_isAhead at h
  show Wp K zX0_isAhead Y (Qm K Y (some q) M) M 0 [(0, .ref (adr Y 7)), (1, .int x1), (2, .int x2)] []
  refine w_aload_n C (pc := 0) dX0_isAhead_0 0 rfl ?_
  refine w_getR C (pc := 1) dX0_isAhead_1 f_X0_34 (sA_7 hY) rfl ?_
  refine w_iload_n C (pc := 4) dX0_isAhead_4 1 rfl ?_
  obtain ⟨v1, e2, h⟩ := ob h
  refine w_iald C (pc := 5) dX0_isAhead_5 (sA_15 hY) e2 ?_
  refine w_aload_n C (pc := 6) dX0_isAhead_6 0 rfl ?_
  refine w_getR C (pc := 7) dX0_isAhead_7 f_X0_34 (sA_7 hY) rfl ?_
  refine w_iload_n C (pc := 10) dX0_isAhead_10 2 rfl ?_
  obtain ⟨v3, e4, h⟩ := ob h
  refine w_iald C (pc := 11) dX0_isAhead_11 (sA_15 hY) e4 ?_
  refine w_iceq C (pc := 12) 36 dX0_isAhead_12 (by decide) (fun c => ?_) (fun c => ?_)
  · have h := it_t h c
    refine w_aload_n C (pc := 36) dX0_isAhead_36 0 rfl ?_
    refine w_getR C (pc := 37) dX0_isAhead_37 f_X0_44 (sA_7 hY) rfl ?_
    refine w_iload_n C (pc := 40) dX0_isAhead_40 1 rfl ?_
    refine w_iconst C (pc := 41) dX0_isAhead_41 (v := 0) (by decide) ?_
    obtain ⟨v5, e6, h⟩ := ob h
    refine w_cVi C (pc := 42) dX0_isAhead_42 my_X4_part mi_X4_part ml_X0_82 (sA_4 hY) rfl rfl rfl [.int x1, .int 0] rfl rfl (Nat.le_of_ble_eq_true rfl) (tX4_part (kPlan_4 hY) e6) ?_
    refine w_aload_n C (pc := 45) dX0_isAhead_45 0 rfl ?_
    refine w_getR C (pc := 46) dX0_isAhead_46 f_X0_44 (sA_7 hY) rfl ?_
    refine w_iload_n C (pc := 49) dX0_isAhead_49 2 rfl ?_
    refine w_iconst C (pc := 50) dX0_isAhead_50 (v := 0) (by decide) ?_
    obtain ⟨v7, e8, h⟩ := ob h
    refine w_cVi C (pc := 51) dX0_isAhead_51 my_X4_part mi_X4_part ml_X0_82 (sA_4 hY) rfl rfl rfl [.int x2, .int 0] rfl rfl (Nat.le_of_ble_eq_true rfl) (tX4_part (kPlan_4 hY) e8) ?_
    refine w_icge C (pc := 54) 61 dX0_isAhead_54 (by decide) (fun c => ?_) (fun c => ?_)
    · have h := it_t h c
      refine w_iconst C (pc := 61) dX0_isAhead_61 (v := 0) (by decide) ?_
      exact w_retzR C (pc := 62) dX0_isAhead_62 rfl (by decide) (Option.some.inj h)
    · have h := it_f h c
      refine w_iconst C (pc := 57) dX0_isAhead_57 (v := 1) (by decide) ?_
      refine w_goto C (pc := 58) 62 dX0_isAhead_58 (by decide) ?_
      exact w_retzR C (pc := 62) dX0_isAhead_62 rfl (by decide) (Option.some.inj h)
  · have h := it_f h c
    refine w_aload_n C (pc := 15) dX0_isAhead_15 0 rfl ?_
    refine w_getR C (pc := 16) dX0_isAhead_16 f_X0_34 (sA_7 hY) rfl ?_
    refine w_iload_n C (pc := 19) dX0_isAhead_19 1 rfl ?_
    obtain ⟨v9, e10, h⟩ := ob h
    refine w_iald C (pc := 20) dX0_isAhead_20 (sA_15 hY) e10 ?_
    refine w_aload_n C (pc := 21) dX0_isAhead_21 0 rfl ?_
    refine w_getR C (pc := 22) dX0_isAhead_22 f_X0_34 (sA_7 hY) rfl ?_
    refine w_iload_n C (pc := 25) dX0_isAhead_25 2 rfl ?_
    obtain ⟨v11, e12, h⟩ := ob h
    refine w_iald C (pc := 26) dX0_isAhead_26 (sA_15 hY) e12 ?_
    refine w_icge C (pc := 27) 34 dX0_isAhead_27 (by decide) (fun c => ?_) (fun c => ?_)
    · have h := it_t h c
      refine w_iconst C (pc := 34) dX0_isAhead_34 (v := 0) (by decide) ?_
      exact w_retzR C (pc := 35) dX0_isAhead_35 rfl (by decide) (Option.some.inj h)
    · have h := it_f h c
      refine w_iconst C (pc := 30) dX0_isAhead_30 (v := 1) (by decide) ?_
      refine w_goto C (pc := 31) 35 dX0_isAhead_31 (by decide) ?_
      exact w_retzR C (pc := 35) dX0_isAhead_35 rfl (by decide) (Option.some.inj h)
theorem dX0_nextToCatch_0 : decode cX0_nextToCatch 0 = .ok (.iconst (-1), 1) := by decide +kernel
theorem dX0_nextToCatch_1 : decode cX0_nextToCatch 1 = .ok (.istore_n 2, 1) := by decide +kernel
theorem dX0_nextToCatch_2 : decode cX0_nextToCatch 2 = .ok (.iconst 0, 1) := by decide +kernel
theorem dX0_nextToCatch_3 : decode cX0_nextToCatch 3 = .ok (.istore_n 3, 1) := by decide +kernel
theorem dX0_nextToCatch_4 : decode cX0_nextToCatch 4 = .ok (.iload_n 3, 1) := by decide +kernel
theorem dX0_nextToCatch_5 : decode cX0_nextToCatch 5 = .ok (.aload_n 0, 1) := by decide +kernel
theorem dX0_nextToCatch_6 : decode cX0_nextToCatch 6 = .ok (.getfield 44, 3) := by decide +kernel
theorem dX0_nextToCatch_9 : decode cX0_nextToCatch 9 = .ok (.getfield 77, 3) := by decide +kernel
theorem dX0_nextToCatch_12 : decode cX0_nextToCatch 12 = .ok (.if_icmp .ge 48, 3) := by decide +kernel
theorem dX0_nextToCatch_15 : decode cX0_nextToCatch 15 = .ok (.aload_n 0, 1) := by decide +kernel
theorem dX0_nextToCatch_16 : decode cX0_nextToCatch 16 = .ok (.getfield 44, 3) := by decide +kernel
theorem dX0_nextToCatch_19 : decode cX0_nextToCatch 19 = .ok (.iload_n 3, 1) := by decide +kernel
theorem dX0_nextToCatch_20 : decode cX0_nextToCatch 20 = .ok (.iconst 3, 1) := by decide +kernel
theorem dX0_nextToCatch_21 : decode cX0_nextToCatch 21 = .ok (.invokevirtual 82, 3) := by decide +kernel
theorem dX0_nextToCatch_24 : decode cX0_nextToCatch 24 = .ok (.iload_n 1, 1) := by decide +kernel
theorem dX0_nextToCatch_25 : decode cX0_nextToCatch 25 = .ok (.if_icmp .ne 29, 3) := by decide +kernel
theorem dX0_nextToCatch_28 : decode cX0_nextToCatch 28 = .ok (.aload_n 0, 1) := by decide +kernel
theorem dX0_nextToCatch_29 : decode cX0_nextToCatch 29 = .ok (.getfield 37, 3) := by decide +kernel
theorem dX0_nextToCatch_32 : decode cX0_nextToCatch 32 = .ok (.iload_n 3, 1) := by decide +kernel
theorem dX0_nextToCatch_33 : decode cX0_nextToCatch 33 = .ok (.iaload, 1) := by decide +kernel
theorem dX0_nextToCatch_34 : decode cX0_nextToCatch 34 = .ok (.iconst (-1), 1) := by decide +kernel
theorem dX0_nextToCatch_35 : decode cX0_nextToCatch 35 = .ok (.if_icmp .ne 19, 3) := by decide +kernel
theorem dX0_nextToCatch_38 : decode cX0_nextToCatch 38 = .ok (.iload_n 2, 1) := by decide +kernel
theorem dX0_nextToCatch_39 : decode cX0_nextToCatch 39 = .ok (.iconst (-1), 1) := by decide +kernel
theorem dX0_nextToCatch_40 : decode cX0_nextToCatch 40 = .ok (.if_icmp .eq 12, 3) := by decide +kernel
theorem dX0_nextToCatch_43 : decode cX0_nextToCatch 43 = .ok (.aload_n 0, 1) := by decide +kernel
theorem dX0_nextToCatch_44 : decode cX0_nextToCatch 44 = .ok (.iload_n 3, 1) := by decide +kernel
theorem dX0_nextToCatch_45 : decode cX0_nextToCatch 45 = .ok (.iload_n 2, 1) := by decide +kernel
theorem dX0_nextToCatch_46 : decode cX0_nextToCatch 46 = .ok (.invokevirtual 144, 3) := by decide +kernel
theorem dX0_nextToCatch_49 : decode cX0_nextToCatch 49 = .ok (.ifCond .eq 5, 3) := by decide +kernel
theorem dX0_nextToCatch_52 : decode cX0_nextToCatch 52 = .ok (.iload_n 3, 1) := by decide +kernel
theorem dX0_nextToCatch_53 : decode cX0_nextToCatch 53 = .ok (.istore_n 2, 1) := by decide +kernel
theorem dX0_nextToCatch_54 : decode cX0_nextToCatch 54 = .ok (.iinc 3 1, 3) := by decide +kernel
theorem dX0_nextToCatch_57 : decode cX0_nextToCatch 57 = .ok (.goto (-53), 3) := by decide +kernel
theorem dX0_nextToCatch_60 : decode cX0_nextToCatch 60 = .ok (.iload_n 2, 1) := by decide +kernel
theorem dX0_nextToCatch_61 : decode cX0_nextToCatch 61 = .ok (.ireturn, 1) := by decide +kernel
def pX0_nextToCatch_L4 (x1 : Int32) (M : Mm) (s : Int32 × Int32) : Option ((Int32 × Int32) ⊕ (Int32)) :=
if (M 4 1) ≤ s.2 then
(some (Sum.inr s.1))
else
((pX4_part 4 s.2 3 M).bind fun v1 =>
if v1 = x1 then
((ald M 16 8 s.2).bind fun v3 =>
if v3 = (-1) then
(if s.1 = (-1) then
(bnd (s.2) fun v5 =>
some (Sum.inl (v5, s.2 + 1)))
else
((pX0_isAhead s.2 s.1 M).bind fun v6 =>
if v6 = 0 then
(some (Sum.inl (s.1, s.2 + 1)))
else
(bnd (s.2) fun v8 =>
some (Sum.inl (v8, s.2 + 1)))))
else
(some (Sum.inl (s.1, s.2 + 1))))
else
(some (Sum.inl (s.1, s.2 + 1))))
def pX0_nextToCatch (x1 : Int32) (M : Mm) : Option (Int32) :=
(itr (pX0_nextToCatch_L4 x1 M) fuel ((-1), 0)).bind fun x9 =>
some x9
abbrev zX0_nextToCatch : Zx := (cX0_nextToCatch, RX0, 4, 2, (some .int))
set_option maxRecDepth 100000 in
set_option maxHeartbeats 4000000 in
theorem tX0_nextToCatch {l : Launch} {Y : Sx} {M : Mm} {x1 : Int32} {q : Int32} (hY : isA Y) (h : pX0_nextToCatch x1 M = some q) : Ct l Y yX0_nextToCatch cX0_nextToCatch 4 (some .int) 2 [.ref (adr Y 7), .int x1] M (some q) M := by
  refine Ct.of (by decide) rfl (lv := [(0, .ref (adr Y 7)), (1, .int x1)]) rfl ?_
  intro K hkl C
  change Cx K zX0_nextToCatch Y at C
  subst hkl
  unfold pX0_nextToCatch at h
  show Wp K zX0_nextToCatch Y (Qm K Y (some q) M) M 0 [(0, .ref (adr Y 7)), (1, .int x1)] []
  refine w_iconst C (pc := 0) dX0_nextToCatch_0 (v := (-1)) (by decide) ?_
  refine w_istore_n C (pc := 1) dX0_nextToCatch_1 (lv' := [(0, .ref (adr Y 7)), (1, .int x1), (2, .int (-1))]) rfl rfl rfl ?_
  refine w_iconst C (pc := 2) dX0_nextToCatch_2 (v := 0) (by decide) ?_
  refine w_istore_n C (pc := 3) dX0_nextToCatch_3 (lv' := [(0, .ref (adr Y 7)), (1, .int x1), (2, .int (-1)), (3, .int 0)]) rfl rfl rfl ?_
  obtain ⟨x9, e10, h⟩ := ob h
  refine itr_W (P := fun s11 => Wp K zX0_nextToCatch Y (Qm K Y (some q) M) M 4 [(0, .ref (adr Y 7)), (1, .int x1), (2, .int s11.1), (3, .int s11.2)] []) (R := fun x9 => Wp K zX0_nextToCatch Y (Qm K Y (some q) M) M 60 [(0, .ref (adr Y 7)), (1, .int x1), (2, .int x9)] []) ?_ fuel ((-1), 0) x9 e10 ?_
  · intro s11 r12 h15 ki13 kx14
    unfold pX0_nextToCatch_L4 at h15
    show Wp K zX0_nextToCatch Y (Qm K Y (some q) M) M 4 [(0, .ref (adr Y 7)), (1, .int x1), (2, .int s11.1), (3, .int s11.2)] []
    refine w_iload_n C (pc := 4) dX0_nextToCatch_4 3 rfl ?_
    refine w_aload_n C (pc := 5) dX0_nextToCatch_5 0 rfl ?_
    refine w_getR C (pc := 6) dX0_nextToCatch_6 f_X0_44 (sA_7 hY) rfl ?_
    refine w_getI C (pc := 9) dX0_nextToCatch_9 f_X0_77 (sA_4 hY) rfl ?_
    refine w_icge C (pc := 12) 60 dX0_nextToCatch_12 (by decide) (fun c => ?_) (fun c => ?_)
    · have h15 := it_t h15 c
      obtain rfl := Option.some.inj h15
      refine w_lv [0, 1, 2] rfl ?_
      have k9 := kx14 s11.1 rfl
      try dsimp only at k9
      exact k9
    · have h15 := it_f h15 c
      refine w_aload_n C (pc := 15) dX0_nextToCatch_15 0 rfl ?_
      refine w_getR C (pc := 16) dX0_nextToCatch_16 f_X0_44 (sA_7 hY) rfl ?_
      refine w_iload_n C (pc := 19) dX0_nextToCatch_19 3 rfl ?_
      refine w_iconst C (pc := 20) dX0_nextToCatch_20 (v := 3) (by decide) ?_
      obtain ⟨v16, e17, h15⟩ := ob h15
      refine w_cVi C (pc := 21) dX0_nextToCatch_21 my_X4_part mi_X4_part ml_X0_82 (sA_4 hY) rfl rfl rfl [.int s11.2, .int 3] rfl rfl (Nat.le_of_ble_eq_true rfl) (tX4_part (kPlan_4 hY) e17) ?_
      refine w_iload_n C (pc := 24) dX0_nextToCatch_24 1 rfl ?_
      refine w_icne C (pc := 25) 54 dX0_nextToCatch_25 (by decide) (fun c => ?_) (fun c => ?_)
      · have h15 := it_t h15 c
        refine w_aload_n C (pc := 28) dX0_nextToCatch_28 0 rfl ?_
        refine w_getR C (pc := 29) dX0_nextToCatch_29 f_X0_37 (sA_7 hY) rfl ?_
        refine w_iload_n C (pc := 32) dX0_nextToCatch_32 3 rfl ?_
        obtain ⟨v18, e19, h15⟩ := ob h15
        refine w_iald C (pc := 33) dX0_nextToCatch_33 (sA_16 hY) e19 ?_
        refine w_iconst C (pc := 34) dX0_nextToCatch_34 (v := (-1)) (by decide) ?_
        refine w_icne C (pc := 35) 54 dX0_nextToCatch_35 (by decide) (fun c => ?_) (fun c => ?_)
        · have h15 := it_t h15 c
          refine w_iload_n C (pc := 38) dX0_nextToCatch_38 2 rfl ?_
          refine w_iconst C (pc := 39) dX0_nextToCatch_39 (v := (-1)) (by decide) ?_
          refine w_iceq C (pc := 40) 52 dX0_nextToCatch_40 (by decide) (fun c => ?_) (fun c => ?_)
          · have h15 := it_t h15 c
            refine w_iload_n C (pc := 52) dX0_nextToCatch_52 3 rfl ?_
            refine w_bnd h15 (fun v20 h15 => ?_)
            refine w_istore_n C (pc := 53) dX0_nextToCatch_53 (lv' := [(0, .ref (adr Y 7)), (1, .int x1), (2, .int v20), (3, .int s11.2)]) rfl rfl rfl ?_
            refine w_iinc C (pc := 54) dX0_nextToCatch_54 3 rfl (v := 1) (lv' := [(0, .ref (adr Y 7)), (1, .int x1), (2, .int v20), (3, .int (s11.2 + 1))]) (by decide) rfl rfl rfl ?_
            refine w_goto C (pc := 57) 4 dX0_nextToCatch_57 (by decide) ?_
            obtain rfl := Option.some.inj h15
            have k9 := ki13 (v20, s11.2 + 1) rfl
            try dsimp only at k9
            exact k9
          · have h15 := it_f h15 c
            refine w_aload_n C (pc := 43) dX0_nextToCatch_43 0 rfl ?_
            refine w_iload_n C (pc := 44) dX0_nextToCatch_44 3 rfl ?_
            refine w_iload_n C (pc := 45) dX0_nextToCatch_45 2 rfl ?_
            obtain ⟨v21, e22, h15⟩ := ob h15
            refine w_cVi C (pc := 46) dX0_nextToCatch_46 my_X0_isAhead mi_X0_isAhead ml_X0_144 (sA_7 hY) rfl rfl rfl [.int s11.2, .int s11.1] rfl rfl (Nat.le_of_ble_eq_true rfl) (tX0_isAhead hY  e22) ?_
            refine w_ifeq C (pc := 49) 54 dX0_nextToCatch_49 (by decide) (fun c => ?_) (fun c => ?_)
            · have h15 := it_t h15 c
              refine w_iinc C (pc := 54) dX0_nextToCatch_54 3 rfl (v := 1) (lv' := [(0, .ref (adr Y 7)), (1, .int x1), (2, .int s11.1), (3, .int (s11.2 + 1))]) (by decide) rfl rfl rfl ?_
              refine w_goto C (pc := 57) 4 dX0_nextToCatch_57 (by decide) ?_
              obtain rfl := Option.some.inj h15
              have k9 := ki13 (s11.1, s11.2 + 1) rfl
              try dsimp only at k9
              exact k9
            · have h15 := it_f h15 c
              refine w_iload_n C (pc := 52) dX0_nextToCatch_52 3 rfl ?_
              refine w_bnd h15 (fun v23 h15 => ?_)
              refine w_istore_n C (pc := 53) dX0_nextToCatch_53 (lv' := [(0, .ref (adr Y 7)), (1, .int x1), (2, .int v23), (3, .int s11.2)]) rfl rfl rfl ?_
              refine w_iinc C (pc := 54) dX0_nextToCatch_54 3 rfl (v := 1) (lv' := [(0, .ref (adr Y 7)), (1, .int x1), (2, .int v23), (3, .int (s11.2 + 1))]) (by decide) rfl rfl rfl ?_
              refine w_goto C (pc := 57) 4 dX0_nextToCatch_57 (by decide) ?_
              obtain rfl := Option.some.inj h15
              have k9 := ki13 (v23, s11.2 + 1) rfl
              try dsimp only at k9
              exact k9
        · have h15 := it_f h15 c
          refine w_iinc C (pc := 54) dX0_nextToCatch_54 3 rfl (v := 1) (lv' := [(0, .ref (adr Y 7)), (1, .int x1), (2, .int s11.1), (3, .int (s11.2 + 1))]) (by decide) rfl rfl rfl ?_
          refine w_goto C (pc := 57) 4 dX0_nextToCatch_57 (by decide) ?_
          obtain rfl := Option.some.inj h15
          have k9 := ki13 (s11.1, s11.2 + 1) rfl
          try dsimp only at k9
          exact k9
      · have h15 := it_f h15 c
        refine w_iinc C (pc := 54) dX0_nextToCatch_54 3 rfl (v := 1) (lv' := [(0, .ref (adr Y 7)), (1, .int x1), (2, .int s11.1), (3, .int (s11.2 + 1))]) (by decide) rfl rfl rfl ?_
        refine w_goto C (pc := 57) 4 dX0_nextToCatch_57 (by decide) ?_
        obtain rfl := Option.some.inj h15
        have k9 := ki13 (s11.1, s11.2 + 1) rfl
        try dsimp only at k9
        exact k9
  · refine w_iload_n C (pc := 60) dX0_nextToCatch_60 2 rfl ?_
    exact w_retR C (pc := 61) dX0_nextToCatch_61 rfl (Option.some.inj h)
theorem dX0_catchAll_0 : decode cX0_catchAll 0 = .ok (.iload_n 2, 1) := by decide +kernel
theorem dX0_catchAll_1 : decode cX0_catchAll 1 = .ok (.istore_n 3, 1) := by decide +kernel
theorem dX0_catchAll_2 : decode cX0_catchAll 2 = .ok (.aload_n 0, 1) := by decide +kernel
theorem dX0_catchAll_3 : decode cX0_catchAll 3 = .ok (.getfield 28, 3) := by decide +kernel
theorem dX0_catchAll_6 : decode cX0_catchAll 6 = .ok (.iload_n 1, 1) := by decide +kernel
theorem dX0_catchAll_7 : decode cX0_catchAll 7 = .ok (.iconst 0, 1) := by decide +kernel
theorem dX0_catchAll_8 : decode cX0_catchAll 8 = .ok (.iastore, 1) := by decide +kernel
theorem dX0_catchAll_9 : decode cX0_catchAll 9 = .ok (.iconst 0, 1) := by decide +kernel
theorem dX0_catchAll_10 : decode cX0_catchAll 10 = .ok (.istore 4, 2) := by decide +kernel
theorem dX0_catchAll_12 : decode cX0_catchAll 12 = .ok (.iload 4, 2) := by decide +kernel
theorem dX0_catchAll_14 : decode cX0_catchAll 14 = .ok (.aload_n 0, 1) := by decide +kernel
theorem dX0_catchAll_15 : decode cX0_catchAll 15 = .ok (.getfield 44, 3) := by decide +kernel
theorem dX0_catchAll_18 : decode cX0_catchAll 18 = .ok (.getfield 77, 3) := by decide +kernel
theorem dX0_catchAll_21 : decode cX0_catchAll 21 = .ok (.if_icmp .ge 105, 3) := by decide +kernel
theorem dX0_catchAll_24 : decode cX0_catchAll 24 = .ok (.aload_n 0, 1) := by decide +kernel
theorem dX0_catchAll_25 : decode cX0_catchAll 25 = .ok (.iload_n 1, 1) := by decide +kernel
theorem dX0_catchAll_26 : decode cX0_catchAll 26 = .ok (.invokevirtual 136, 3) := by decide +kernel
theorem dX0_catchAll_29 : decode cX0_catchAll 29 = .ok (.istore 5, 2) := by decide +kernel
theorem dX0_catchAll_31 : decode cX0_catchAll 31 = .ok (.iload 5, 2) := by decide +kernel
theorem dX0_catchAll_33 : decode cX0_catchAll 33 = .ok (.iconst (-1), 1) := by decide +kernel
theorem dX0_catchAll_34 : decode cX0_catchAll 34 = .ok (.if_icmp .ne 5, 3) := by decide +kernel
theorem dX0_catchAll_37 : decode cX0_catchAll 37 = .ok (.iload_n 3, 1) := by decide +kernel
theorem dX0_catchAll_38 : decode cX0_catchAll 38 = .ok (.ireturn, 1) := by decide +kernel
theorem dX0_catchAll_39 : decode cX0_catchAll 39 = .ok (.aload_n 0, 1) := by decide +kernel
theorem dX0_catchAll_40 : decode cX0_catchAll 40 = .ok (.getfield 37, 3) := by decide +kernel
theorem dX0_catchAll_43 : decode cX0_catchAll 43 = .ok (.iload 5, 2) := by decide +kernel
theorem dX0_catchAll_45 : decode cX0_catchAll 45 = .ok (.iload_n 3, 1) := by decide +kernel
theorem dX0_catchAll_46 : decode cX0_catchAll 46 = .ok (.aload_n 0, 1) := by decide +kernel
theorem dX0_catchAll_47 : decode cX0_catchAll 47 = .ok (.getfield 34, 3) := by decide +kernel
theorem dX0_catchAll_50 : decode cX0_catchAll 50 = .ok (.iload 5, 2) := by decide +kernel
theorem dX0_catchAll_52 : decode cX0_catchAll 52 = .ok (.iaload, 1) := by decide +kernel
theorem dX0_catchAll_53 : decode cX0_catchAll 53 = .ok (.invokestatic 139, 3) := by decide +kernel
theorem dX0_catchAll_56 : decode cX0_catchAll 56 = .ok (.iastore, 1) := by decide +kernel
theorem dX0_catchAll_57 : decode cX0_catchAll 57 = .ok (.aload_n 0, 1) := by decide +kernel
theorem dX0_catchAll_58 : decode cX0_catchAll 58 = .ok (.getfield 28, 3) := by decide +kernel
theorem dX0_catchAll_61 : decode cX0_catchAll 61 = .ok (.iload_n 1, 1) := by decide +kernel
theorem dX0_catchAll_62 : decode cX0_catchAll 62 = .ok (.dup2, 1) := by decide +kernel
theorem dX0_catchAll_63 : decode cX0_catchAll 63 = .ok (.iaload, 1) := by decide +kernel
theorem dX0_catchAll_64 : decode cX0_catchAll 64 = .ok (.aload_n 0, 1) := by decide +kernel
theorem dX0_catchAll_65 : decode cX0_catchAll 65 = .ok (.getfield 37, 3) := by decide +kernel
theorem dX0_catchAll_68 : decode cX0_catchAll 68 = .ok (.iload 5, 2) := by decide +kernel
theorem dX0_catchAll_70 : decode cX0_catchAll 70 = .ok (.iaload, 1) := by decide +kernel
theorem dX0_catchAll_71 : decode cX0_catchAll 71 = .ok (.iload_n 3, 1) := by decide +kernel
theorem dX0_catchAll_72 : decode cX0_catchAll 72 = .ok (.isub, 1) := by decide +kernel
theorem dX0_catchAll_73 : decode cX0_catchAll 73 = .ok (.iadd, 1) := by decide +kernel
theorem dX0_catchAll_74 : decode cX0_catchAll 74 = .ok (.iastore, 1) := by decide +kernel
theorem dX0_catchAll_75 : decode cX0_catchAll 75 = .ok (.aload_n 0, 1) := by decide +kernel
theorem dX0_catchAll_76 : decode cX0_catchAll 76 = .ok (.getfield 37, 3) := by decide +kernel
theorem dX0_catchAll_79 : decode cX0_catchAll 79 = .ok (.iload 5, 2) := by decide +kernel
theorem dX0_catchAll_81 : decode cX0_catchAll 81 = .ok (.iaload, 1) := by decide +kernel
theorem dX0_catchAll_82 : decode cX0_catchAll 82 = .ok (.aload_n 0, 1) := by decide +kernel
theorem dX0_catchAll_83 : decode cX0_catchAll 83 = .ok (.getfield 40, 3) := by decide +kernel
theorem dX0_catchAll_86 : decode cX0_catchAll 86 = .ok (.bipush 7, 2) := by decide +kernel
theorem dX0_catchAll_88 : decode cX0_catchAll 88 = .ok (.invokevirtual 86, 3) := by decide +kernel
theorem dX0_catchAll_91 : decode cX0_catchAll 91 = .ok (.iadd, 1) := by decide +kernel
theorem dX0_catchAll_92 : decode cX0_catchAll 92 = .ok (.istore_n 3, 1) := by decide +kernel
theorem dX0_catchAll_93 : decode cX0_catchAll 93 = .ok (.aload_n 0, 1) := by decide +kernel
theorem dX0_catchAll_94 : decode cX0_catchAll 94 = .ok (.getfield 12, 3) := by decide +kernel
theorem dX0_catchAll_97 : decode cX0_catchAll 97 = .ok (.iload_n 3, 1) := by decide +kernel
theorem dX0_catchAll_98 : decode cX0_catchAll 98 = .ok (.iconst 2, 1) := by decide +kernel
theorem dX0_catchAll_99 : decode cX0_catchAll 99 = .ok (.aload_n 0, 1) := by decide +kernel
theorem dX0_catchAll_100 : decode cX0_catchAll 100 = .ok (.getfield 44, 3) := by decide +kernel
theorem dX0_catchAll_103 : decode cX0_catchAll 103 = .ok (.iload_n 1, 1) := by decide +kernel
theorem dX0_catchAll_104 : decode cX0_catchAll 104 = .ok (.invokevirtual 101, 3) := by decide +kernel
theorem dX0_catchAll_107 : decode cX0_catchAll 107 = .ok (.aload_n 0, 1) := by decide +kernel
theorem dX0_catchAll_108 : decode cX0_catchAll 108 = .ok (.getfield 44, 3) := by decide +kernel
theorem dX0_catchAll_111 : decode cX0_catchAll 111 = .ok (.iload 5, 2) := by decide +kernel
theorem dX0_catchAll_113 : decode cX0_catchAll 113 = .ok (.iconst 0, 1) := by decide +kernel
theorem dX0_catchAll_114 : decode cX0_catchAll 114 = .ok (.invokevirtual 82, 3) := by decide +kernel
theorem dX0_catchAll_117 : decode cX0_catchAll 117 = .ok (.invokevirtual 123, 3) := by decide +kernel
theorem dX0_catchAll_120 : decode cX0_catchAll 120 = .ok (.iinc 4 1, 3) := by decide +kernel
theorem dX0_catchAll_123 : decode cX0_catchAll 123 = .ok (.goto (-111), 3) := by decide +kernel
theorem dX0_catchAll_126 : decode cX0_catchAll 126 = .ok (.iload_n 3, 1) := by decide +kernel
theorem dX0_catchAll_127 : decode cX0_catchAll 127 = .ok (.ireturn, 1) := by decide +kernel
def pX0_catchAll_L12 (x1 : Int32) (s : Int32 × Int32 × Mm) : Option ((Int32 × Int32 × Mm) ⊕ ((Int32 × Mm) ⊕ (Int32 × Mm))) :=
if (s.2.2 4 1) ≤ s.2.1 then
(some (Sum.inr (Sum.inl (s.1, s.2.2))))
else
((pX0_nextToCatch x1 s.2.2).bind fun v3 =>
if v3 = (-1) then
(some (Sum.inr (Sum.inr (s.1, s.2.2))))
else
((ald s.2.2 15 8 v3).bind fun v6 =>
(ast s.2.2 16 8 v3 (mmax s.1 v6)).bind fun M8 =>
(ald M8 13 10 x1).bind fun v10 =>
(ald M8 16 8 v3).bind fun v12 =>
(ast M8 13 10 x1 (v10 + (v12 - s.1))).bind fun M14 =>
(ald M14 16 8 v3).bind fun v16 =>
(pX3_setting 1 7 M14).bind fun v18 =>
bnd (v16 + v18) fun v20 =>
(pX4_placeAt 4 x1 M14).bind fun v21 =>
(pX4_part 4 v3 0 M14).bind fun v23 =>
(pX1_note v20 2 v21 v23 M14).bind fun v25 =>
some (Sum.inl (v20, s.2.1 + 1, v25))))
def pX0_catchAll (x1 : Int32) (x2 : Int32) (M : Mm) : Option (Int32 × Mm) :=
(ast M 13 10 x1 0).bind fun M1 =>
(itr (pX0_catchAll_L12 x1) fuel (x2, 0, M1)).bind fun x27 =>
Sum.elim (fun yx27 =>
some (yx27.1, yx27.2)) (fun r => some r) x27
abbrev zX0_catchAll : Zx := (cX0_catchAll, RX0, 6, 3, (some .int))
set_option maxRecDepth 100000 in
set_option maxHeartbeats 4000000 in
theorem tX0_catchAll {l : Launch} {Y : Sx} {M : Mm} {x1 : Int32} {x2 : Int32} {q : Int32 × Mm} (hY : isA Y) (h : pX0_catchAll x1 x2 M = some q) : Ct l Y yX0_catchAll cX0_catchAll 6 (some .int) 3 [.ref (adr Y 7), .int x1, .int x2] M (some q.1) q.2 := by
  refine Ct.of (by decide) rfl (lv := [(0, .ref (adr Y 7)), (1, .int x1), (2, .int x2)]) rfl ?_
  intro K hkl C
  change Cx K zX0_catchAll Y at C
  subst hkl
  unfold pX0_catchAll at h
  show Wp K zX0_catchAll Y (Qm K Y (some q.1) q.2) M 0 [(0, .ref (adr Y 7)), (1, .int x1), (2, .int x2)] []
  refine w_iload_n C (pc := 0) dX0_catchAll_0 2 rfl ?_
  refine w_istore_n C (pc := 1) dX0_catchAll_1 (lv' := [(0, .ref (adr Y 7)), (1, .int x1), (2, .int x2), (3, .int x2)]) rfl rfl rfl ?_
  refine w_aload_n C (pc := 2) dX0_catchAll_2 0 rfl ?_
  refine w_getR C (pc := 3) dX0_catchAll_3 f_X0_28 (sA_7 hY) rfl ?_
  refine w_iload_n C (pc := 6) dX0_catchAll_6 1 rfl ?_
  refine w_iconst C (pc := 7) dX0_catchAll_7 (v := 0) (by decide) ?_
  obtain ⟨M1, e2, h⟩ := ob h
  refine w_iast C (pc := 8) dX0_catchAll_8 (sA_13 hY) e2 ?_
  refine w_iconst C (pc := 9) dX0_catchAll_9 (v := 0) (by decide) ?_
  refine w_istore C (pc := 10) dX0_catchAll_10 (lv' := [(0, .ref (adr Y 7)), (1, .int x1), (2, .int x2), (3, .int x2), (4, .int 0)]) rfl rfl rfl ?_
  obtain ⟨x27, e28, h⟩ := ob h
  refine itr_W (P := fun s29 => Wp K zX0_catchAll Y (Qm K Y (some q.1) q.2) s29.2.2 12 [(0, .ref (adr Y 7)), (1, .int x1), (2, .int x2), (3, .int s29.1), (4, .int s29.2.1)] []) (R := fun x9 => (∀ yx27, x9 = Sum.inl yx27 → Wp K zX0_catchAll Y (Qm K Y (some q.1) q.2) yx27.2 126 [(0, .ref (adr Y 7)), (1, .int x1), (2, .int x2), (3, .int yx27.1)] []) ∧ (∀ v9, x9 = Sum.inr v9 → some v9 = some q)) ?_ fuel (x2, 0, M1) x27 e28 ?_
  · intro s29 r30 h33 ki31 kx32
    unfold pX0_catchAll_L12 at h33
    show Wp K zX0_catchAll Y (Qm K Y (some q.1) q.2) s29.2.2 12 [(0, .ref (adr Y 7)), (1, .int x1), (2, .int x2), (3, .int s29.1), (4, .int s29.2.1)] []
    refine w_iload C (pc := 12) dX0_catchAll_12 4 rfl ?_
    refine w_aload_n C (pc := 14) dX0_catchAll_14 0 rfl ?_
    refine w_getR C (pc := 15) dX0_catchAll_15 f_X0_44 (sA_7 hY) rfl ?_
    refine w_getI C (pc := 18) dX0_catchAll_18 f_X0_77 (sA_4 hY) rfl ?_
    refine w_icge C (pc := 21) 126 dX0_catchAll_21 (by decide) (fun c => ?_) (fun c => ?_)
    · have h33 := it_t h33 c
      obtain rfl := Option.some.inj h33
      refine w_lv [0, 1, 2, 3] rfl ?_
      have k9 := (kx32 (Sum.inl (s29.1, s29.2.2)) rfl).1 (s29.1, s29.2.2) rfl
      try dsimp only at k9
      exact k9
    · have h33 := it_f h33 c
      refine w_aload_n C (pc := 24) dX0_catchAll_24 0 rfl ?_
      refine w_iload_n C (pc := 25) dX0_catchAll_25 1 rfl ?_
      obtain ⟨v34, e35, h33⟩ := ob h33
      refine w_cVi C (pc := 26) dX0_catchAll_26 my_X0_nextToCatch mi_X0_nextToCatch ml_X0_136 (sA_7 hY) rfl rfl rfl [.int x1] rfl rfl (Nat.le_of_ble_eq_true rfl) (tX0_nextToCatch hY  e35) ?_
      refine w_istore C (pc := 29) dX0_catchAll_29 (lv' := [(0, .ref (adr Y 7)), (1, .int x1), (2, .int x2), (3, .int s29.1), (4, .int s29.2.1), (5, .int v34)]) rfl rfl rfl ?_
      refine w_iload C (pc := 31) dX0_catchAll_31 5 rfl ?_
      refine w_iconst C (pc := 33) dX0_catchAll_33 (v := (-1)) (by decide) ?_
      refine w_icne C (pc := 34) 39 dX0_catchAll_34 (by decide) (fun c => ?_) (fun c => ?_)
      · have h33 := it_t h33 c
        refine w_iload_n C (pc := 37) dX0_catchAll_37 3 rfl ?_
        obtain rfl := Option.some.inj h33
        have h36 := (kx32 (Sum.inr (s29.1, s29.2.2)) rfl).2 (s29.1, s29.2.2) rfl
        exact w_ret C (pc := 38) dX0_catchAll_38 rfl (Option.some.inj h36)
      · have h33 := it_f h33 c
        refine w_aload_n C (pc := 39) dX0_catchAll_39 0 rfl ?_
        refine w_getR C (pc := 40) dX0_catchAll_40 f_X0_37 (sA_7 hY) rfl ?_
        refine w_iload C (pc := 43) dX0_catchAll_43 5 rfl ?_
        refine w_iload_n C (pc := 45) dX0_catchAll_45 3 rfl ?_
        refine w_aload_n C (pc := 46) dX0_catchAll_46 0 rfl ?_
        refine w_getR C (pc := 47) dX0_catchAll_47 f_X0_34 (sA_7 hY) rfl ?_
        refine w_iload C (pc := 50) dX0_catchAll_50 5 rfl ?_
        obtain ⟨v37, e38, h33⟩ := ob h33
        refine w_iald C (pc := 52) dX0_catchAll_52 (sA_15 hY) e38 ?_
        refine w_max C (pc := 53) dX0_catchAll_53 mmax_X0_139 rfl (Nat.le_of_ble_eq_true rfl) ?_
        obtain ⟨M39, e40, h33⟩ := ob h33
        refine w_iast C (pc := 56) dX0_catchAll_56 (sA_16 hY) e40 ?_
        refine w_aload_n C (pc := 57) dX0_catchAll_57 0 rfl ?_
        refine w_getR C (pc := 58) dX0_catchAll_58 f_X0_28 (sA_7 hY) rfl ?_
        refine w_iload_n C (pc := 61) dX0_catchAll_61 1 rfl ?_
        refine w_dup2 C (pc := 62) dX0_catchAll_62 rfl rfl ?_
        obtain ⟨v41, e42, h33⟩ := ob h33
        refine w_iald C (pc := 63) dX0_catchAll_63 (sA_13 hY) e42 ?_
        refine w_aload_n C (pc := 64) dX0_catchAll_64 0 rfl ?_
        refine w_getR C (pc := 65) dX0_catchAll_65 f_X0_37 (sA_7 hY) rfl ?_
        refine w_iload C (pc := 68) dX0_catchAll_68 5 rfl ?_
        obtain ⟨v43, e44, h33⟩ := ob h33
        refine w_iald C (pc := 70) dX0_catchAll_70 (sA_16 hY) e44 ?_
        refine w_iload_n C (pc := 71) dX0_catchAll_71 3 rfl ?_
        refine w_isub C (pc := 72) dX0_catchAll_72 ?_
        refine w_iadd C (pc := 73) dX0_catchAll_73 ?_
        obtain ⟨M45, e46, h33⟩ := ob h33
        refine w_iast C (pc := 74) dX0_catchAll_74 (sA_13 hY) e46 ?_
        refine w_aload_n C (pc := 75) dX0_catchAll_75 0 rfl ?_
        refine w_getR C (pc := 76) dX0_catchAll_76 f_X0_37 (sA_7 hY) rfl ?_
        refine w_iload C (pc := 79) dX0_catchAll_79 5 rfl ?_
        obtain ⟨v47, e48, h33⟩ := ob h33
        refine w_iald C (pc := 81) dX0_catchAll_81 (sA_16 hY) e48 ?_
        refine w_aload_n C (pc := 82) dX0_catchAll_82 0 rfl ?_
        refine w_getR C (pc := 83) dX0_catchAll_83 f_X0_40 (sA_7 hY) rfl ?_
        refine w_bipush C (pc := 86) dX0_catchAll_86 (v := 7) (by decide) ?_
        obtain ⟨v49, e50, h33⟩ := ob h33
        refine w_cVi C (pc := 88) dX0_catchAll_88 my_X3_setting mi_X3_setting ml_X0_86 (sA_1 hY) rfl rfl rfl [.int 7] rfl rfl (Nat.le_of_ble_eq_true rfl) (tX3_setting (kLand_1 hY) e50) ?_
        refine w_iadd C (pc := 91) dX0_catchAll_91 ?_
        refine w_bnd h33 (fun v51 h33 => ?_)
        refine w_istore_n C (pc := 92) dX0_catchAll_92 (lv' := [(0, .ref (adr Y 7)), (1, .int x1), (2, .int x2), (3, .int v51), (4, .int s29.2.1), (5, .int v34)]) rfl rfl rfl ?_
        refine w_aload_n C (pc := 93) dX0_catchAll_93 0 rfl ?_
        refine w_getR C (pc := 94) dX0_catchAll_94 f_X0_12 (sA_7 hY) rfl ?_
        refine w_iload_n C (pc := 97) dX0_catchAll_97 3 rfl ?_
        refine w_iconst C (pc := 98) dX0_catchAll_98 (v := 2) (by decide) ?_
        refine w_aload_n C (pc := 99) dX0_catchAll_99 0 rfl ?_
        refine w_getR C (pc := 100) dX0_catchAll_100 f_X0_44 (sA_7 hY) rfl ?_
        refine w_iload_n C (pc := 103) dX0_catchAll_103 1 rfl ?_
        obtain ⟨v52, e53, h33⟩ := ob h33
        refine w_cVi C (pc := 104) dX0_catchAll_104 my_X4_placeAt mi_X4_placeAt ml_X0_101 (sA_4 hY) rfl rfl rfl [.int x1] rfl rfl (Nat.le_of_ble_eq_true rfl) (tX4_placeAt (kPlan_4 hY) e53) ?_
        refine w_aload_n C (pc := 107) dX0_catchAll_107 0 rfl ?_
        refine w_getR C (pc := 108) dX0_catchAll_108 f_X0_44 (sA_7 hY) rfl ?_
        refine w_iload C (pc := 111) dX0_catchAll_111 5 rfl ?_
        refine w_iconst C (pc := 113) dX0_catchAll_113 (v := 0) (by decide) ?_
        obtain ⟨v54, e55, h33⟩ := ob h33
        refine w_cVi C (pc := 114) dX0_catchAll_114 my_X4_part mi_X4_part ml_X0_82 (sA_4 hY) rfl rfl rfl [.int v34, .int 0] rfl rfl (Nat.le_of_ble_eq_true rfl) (tX4_part (kPlan_4 hY) e55) ?_
        obtain ⟨v56, e57, h33⟩ := ob h33
        refine w_cVv C (pc := 117) dX0_catchAll_117 my_X1_note mi_X1_note ml_X0_123 (sA_8 hY) rfl rfl rfl [.int v51, .int 2, .int v52, .int v54] rfl rfl (Nat.le_of_ble_eq_true rfl) (tX1_note hY  e57) ?_
        refine w_iinc C (pc := 120) dX0_catchAll_120 4 rfl (v := 1) (lv' := [(0, .ref (adr Y 7)), (1, .int x1), (2, .int x2), (3, .int v51), (4, .int (s29.2.1 + 1)), (5, .int v34)]) (by decide) rfl rfl rfl ?_
        refine w_goto C (pc := 123) 12 dX0_catchAll_123 (by decide) ?_
        obtain rfl := Option.some.inj h33
        refine w_lv [0, 1, 2, 3, 4] rfl ?_
        have k9 := ki31 (v51, s29.2.1 + 1, v56) rfl
        try dsimp only at k9
        exact k9
  · refine ⟨fun yx27 hy => ?_, fun v9 hv => ?_⟩
    · subst hy
      dsimp only [Sum.elim] at h
      refine w_iload_n C (pc := 126) dX0_catchAll_126 3 rfl ?_
      exact w_ret C (pc := 127) dX0_catchAll_127 rfl (Option.some.inj h)
    · subst hv
      exact h
theorem dX0_launch_0 : decode cX0_launch 0 = .ok (.aload_n 0, 1) := by decide +kernel
theorem dX0_launch_1 : decode cX0_launch 1 = .ok (.getfield 40, 3) := by decide +kernel
theorem dX0_launch_4 : decode cX0_launch 4 = .ok (.iconst 2, 1) := by decide +kernel
theorem dX0_launch_5 : decode cX0_launch 5 = .ok (.invokevirtual 86, 3) := by decide +kernel
theorem dX0_launch_8 : decode cX0_launch 8 = .ok (.istore_n 3, 1) := by decide +kernel
theorem dX0_launch_9 : decode cX0_launch 9 = .ok (.aload_n 0, 1) := by decide +kernel
theorem dX0_launch_10 : decode cX0_launch 10 = .ok (.getfield 40, 3) := by decide +kernel
theorem dX0_launch_13 : decode cX0_launch 13 = .ok (.iconst 3, 1) := by decide +kernel
theorem dX0_launch_14 : decode cX0_launch 14 = .ok (.invokevirtual 86, 3) := by decide +kernel
theorem dX0_launch_17 : decode cX0_launch 17 = .ok (.istore 4, 2) := by decide +kernel
theorem dX0_launch_19 : decode cX0_launch 19 = .ok (.aload_n 0, 1) := by decide +kernel
theorem dX0_launch_20 : decode cX0_launch 20 = .ok (.getfield 44, 3) := by decide +kernel
theorem dX0_launch_23 : decode cX0_launch 23 = .ok (.iload_n 1, 1) := by decide +kernel
theorem dX0_launch_24 : decode cX0_launch 24 = .ok (.iconst 0, 1) := by decide +kernel
theorem dX0_launch_25 : decode cX0_launch 25 = .ok (.invokevirtual 82, 3) := by decide +kernel
theorem dX0_launch_28 : decode cX0_launch 28 = .ok (.istore 5, 2) := by decide +kernel
theorem dX0_launch_30 : decode cX0_launch 30 = .ok (.aload_n 0, 1) := by decide +kernel
theorem dX0_launch_31 : decode cX0_launch 31 = .ok (.getfield 44, 3) := by decide +kernel
theorem dX0_launch_34 : decode cX0_launch 34 = .ok (.iload_n 1, 1) := by decide +kernel
theorem dX0_launch_35 : decode cX0_launch 35 = .ok (.iconst 2, 1) := by decide +kernel
theorem dX0_launch_36 : decode cX0_launch 36 = .ok (.invokevirtual 82, 3) := by decide +kernel
theorem dX0_launch_39 : decode cX0_launch 39 = .ok (.istore 6, 2) := by decide +kernel
theorem dX0_launch_41 : decode cX0_launch 41 = .ok (.aload_n 0, 1) := by decide +kernel
theorem dX0_launch_42 : decode cX0_launch 42 = .ok (.getfield 44, 3) := by decide +kernel
theorem dX0_launch_45 : decode cX0_launch 45 = .ok (.aload_n 0, 1) := by decide +kernel
theorem dX0_launch_46 : decode cX0_launch 46 = .ok (.getfield 44, 3) := by decide +kernel
theorem dX0_launch_49 : decode cX0_launch 49 = .ok (.iload_n 1, 1) := by decide +kernel
theorem dX0_launch_50 : decode cX0_launch 50 = .ok (.iconst 1, 1) := by decide +kernel
theorem dX0_launch_51 : decode cX0_launch 51 = .ok (.invokevirtual 82, 3) := by decide +kernel
theorem dX0_launch_54 : decode cX0_launch 54 = .ok (.invokevirtual 101, 3) := by decide +kernel
theorem dX0_launch_57 : decode cX0_launch 57 = .ok (.istore 7, 2) := by decide +kernel
theorem dX0_launch_59 : decode cX0_launch 59 = .ok (.aload_n 0, 1) := by decide +kernel
theorem dX0_launch_60 : decode cX0_launch 60 = .ok (.getfield 44, 3) := by decide +kernel
theorem dX0_launch_63 : decode cX0_launch 63 = .ok (.aload_n 0, 1) := by decide +kernel
theorem dX0_launch_64 : decode cX0_launch 64 = .ok (.getfield 44, 3) := by decide +kernel
theorem dX0_launch_67 : decode cX0_launch 67 = .ok (.iload_n 1, 1) := by decide +kernel
theorem dX0_launch_68 : decode cX0_launch 68 = .ok (.iconst 3, 1) := by decide +kernel
theorem dX0_launch_69 : decode cX0_launch 69 = .ok (.invokevirtual 82, 3) := by decide +kernel
theorem dX0_launch_72 : decode cX0_launch 72 = .ok (.invokevirtual 101, 3) := by decide +kernel
theorem dX0_launch_75 : decode cX0_launch 75 = .ok (.istore 8, 2) := by decide +kernel
theorem dX0_launch_77 : decode cX0_launch 77 = .ok (.iload_n 2, 1) := by decide +kernel
theorem dX0_launch_78 : decode cX0_launch 78 = .ok (.aload_n 0, 1) := by decide +kernel
theorem dX0_launch_79 : decode cX0_launch 79 = .ok (.getfield 40, 3) := by decide +kernel
theorem dX0_launch_82 : decode cX0_launch 82 = .ok (.iload 7, 2) := by decide +kernel
theorem dX0_launch_84 : decode cX0_launch 84 = .ok (.iload 6, 2) := by decide +kernel
theorem dX0_launch_86 : decode cX0_launch 86 = .ok (.iload_n 3, 1) := by decide +kernel
theorem dX0_launch_87 : decode cX0_launch 87 = .ok (.iload 4, 2) := by decide +kernel
theorem dX0_launch_89 : decode cX0_launch 89 = .ok (.invokevirtual 152, 3) := by decide +kernel
theorem dX0_launch_92 : decode cX0_launch 92 = .ok (.iadd, 1) := by decide +kernel
theorem dX0_launch_93 : decode cX0_launch 93 = .ok (.aload_n 0, 1) := by decide +kernel
theorem dX0_launch_94 : decode cX0_launch 94 = .ok (.getfield 40, 3) := by decide +kernel
theorem dX0_launch_97 : decode cX0_launch 97 = .ok (.iload 6, 2) := by decide +kernel
theorem dX0_launch_99 : decode cX0_launch 99 = .ok (.iconst 3, 1) := by decide +kernel
theorem dX0_launch_100 : decode cX0_launch 100 = .ok (.invokevirtual 127, 3) := by decide +kernel
theorem dX0_launch_103 : decode cX0_launch 103 = .ok (.iadd, 1) := by decide +kernel
theorem dX0_launch_104 : decode cX0_launch 104 = .ok (.istore 9, 2) := by decide +kernel
theorem dX0_launch_106 : decode cX0_launch 106 = .ok (.aload_n 0, 1) := by decide +kernel
theorem dX0_launch_107 : decode cX0_launch 107 = .ok (.getfield 31, 3) := by decide +kernel
theorem dX0_launch_110 : decode cX0_launch 110 = .ok (.iload_n 1, 1) := by decide +kernel
theorem dX0_launch_111 : decode cX0_launch 111 = .ok (.iload_n 2, 1) := by decide +kernel
theorem dX0_launch_112 : decode cX0_launch 112 = .ok (.iastore, 1) := by decide +kernel
theorem dX0_launch_113 : decode cX0_launch 113 = .ok (.aload_n 0, 1) := by decide +kernel
theorem dX0_launch_114 : decode cX0_launch 114 = .ok (.getfield 34, 3) := by decide +kernel
theorem dX0_launch_117 : decode cX0_launch 117 = .ok (.iload_n 1, 1) := by decide +kernel
theorem dX0_launch_118 : decode cX0_launch 118 = .ok (.iload 9, 2) := by decide +kernel
theorem dX0_launch_120 : decode cX0_launch 120 = .ok (.aload_n 0, 1) := by decide +kernel
theorem dX0_launch_121 : decode cX0_launch 121 = .ok (.getfield 40, 3) := by decide +kernel
theorem dX0_launch_124 : decode cX0_launch 124 = .ok (.iload 6, 2) := by decide +kernel
theorem dX0_launch_126 : decode cX0_launch 126 = .ok (.iload 8, 2) := by decide +kernel
theorem dX0_launch_128 : decode cX0_launch 128 = .ok (.iload_n 3, 1) := by decide +kernel
theorem dX0_launch_129 : decode cX0_launch 129 = .ok (.iload 4, 2) := by decide +kernel
theorem dX0_launch_131 : decode cX0_launch 131 = .ok (.invokevirtual 152, 3) := by decide +kernel
theorem dX0_launch_134 : decode cX0_launch 134 = .ok (.iadd, 1) := by decide +kernel
theorem dX0_launch_135 : decode cX0_launch 135 = .ok (.iastore, 1) := by decide +kernel
theorem dX0_launch_136 : decode cX0_launch 136 = .ok (.aload_n 0, 1) := by decide +kernel
theorem dX0_launch_137 : decode cX0_launch 137 = .ok (.getfield 12, 3) := by decide +kernel
theorem dX0_launch_140 : decode cX0_launch 140 = .ok (.iload_n 2, 1) := by decide +kernel
theorem dX0_launch_141 : decode cX0_launch 141 = .ok (.iconst 3, 1) := by decide +kernel
theorem dX0_launch_142 : decode cX0_launch 142 = .ok (.iload 7, 2) := by decide +kernel
theorem dX0_launch_144 : decode cX0_launch 144 = .ok (.iload 5, 2) := by decide +kernel
theorem dX0_launch_146 : decode cX0_launch 146 = .ok (.invokevirtual 123, 3) := by decide +kernel
theorem dX0_launch_149 : decode cX0_launch 149 = .ok (.aload_n 0, 1) := by decide +kernel
theorem dX0_launch_150 : decode cX0_launch 150 = .ok (.getfield 12, 3) := by decide +kernel
theorem dX0_launch_153 : decode cX0_launch 153 = .ok (.iload 9, 2) := by decide +kernel
theorem dX0_launch_155 : decode cX0_launch 155 = .ok (.iconst 4, 1) := by decide +kernel
theorem dX0_launch_156 : decode cX0_launch 156 = .ok (.iload 6, 2) := by decide +kernel
theorem dX0_launch_158 : decode cX0_launch 158 = .ok (.iload 5, 2) := by decide +kernel
theorem dX0_launch_160 : decode cX0_launch 160 = .ok (.invokevirtual 123, 3) := by decide +kernel
theorem dX0_launch_163 : decode cX0_launch 163 = .ok (.return_, 1) := by decide +kernel
def pX0_launch (x1 : Int32) (x2 : Int32) (M : Mm) : Option (Mm) :=
(pX3_setting 1 2 M).bind fun v1 =>
(pX3_setting 1 3 M).bind fun v3 =>
(pX4_part 4 x1 0 M).bind fun v5 =>
(pX4_part 4 x1 2 M).bind fun v7 =>
(pX4_part 4 x1 1 M).bind fun v9 =>
(pX4_placeAt 4 v9 M).bind fun v11 =>
(pX4_part 4 x1 3 M).bind fun v13 =>
(pX4_placeAt 4 v13 M).bind fun v15 =>
(pX3_flight 1 v11 v7 v1 v3 M).bind fun v17 =>
(pX3_fact 1 v7 3 M).bind fun v19 =>
bnd ((x2 + v17) + v19) fun v21 =>
(ast M 14 8 x1 x2).bind fun M22 =>
(pX3_flight 1 v7 v15 v1 v3 M22).bind fun v24 =>
(ast M22 15 8 x1 (v21 + v24)).bind fun M26 =>
(pX1_note x2 3 v11 v5 M26).bind fun v28 =>
(pX1_note v21 4 v7 v5 v28).bind fun v30 =>
some v30
abbrev zX0_launch : Zx := (cX0_launch, RX0, 10, 2, none)
set_option maxRecDepth 100000 in
set_option maxHeartbeats 4000000 in
theorem tX0_launch {l : Launch} {Y : Sx} {M : Mm} {x1 : Int32} {x2 : Int32} {q : Mm} (hY : isA Y) (h : pX0_launch x1 x2 M = some q) : Ct l Y yX0_launch cX0_launch 10 none 2 [.ref (adr Y 7), .int x1, .int x2] M none q := by
  refine Ct.of (by decide) rfl (lv := [(0, .ref (adr Y 7)), (1, .int x1), (2, .int x2)]) rfl ?_
  intro K hkl C
  change Cx K zX0_launch Y at C
  subst hkl
  unfold pX0_launch at h
  show Wp K zX0_launch Y (Qm K Y none q) M 0 [(0, .ref (adr Y 7)), (1, .int x1), (2, .int x2)] []
  refine w_aload_n C (pc := 0) dX0_launch_0 0 rfl ?_
  refine w_getR C (pc := 1) dX0_launch_1 f_X0_40 (sA_7 hY) rfl ?_
  refine w_iconst C (pc := 4) dX0_launch_4 (v := 2) (by decide) ?_
  obtain ⟨v1, e2, h⟩ := ob h
  refine w_cVi C (pc := 5) dX0_launch_5 my_X3_setting mi_X3_setting ml_X0_86 (sA_1 hY) rfl rfl rfl [.int 2] rfl rfl (Nat.le_of_ble_eq_true rfl) (tX3_setting (kLand_1 hY) e2) ?_
  refine w_istore_n C (pc := 8) dX0_launch_8 (lv' := [(0, .ref (adr Y 7)), (1, .int x1), (2, .int x2), (3, .int v1)]) rfl rfl rfl ?_
  refine w_aload_n C (pc := 9) dX0_launch_9 0 rfl ?_
  refine w_getR C (pc := 10) dX0_launch_10 f_X0_40 (sA_7 hY) rfl ?_
  refine w_iconst C (pc := 13) dX0_launch_13 (v := 3) (by decide) ?_
  obtain ⟨v3, e4, h⟩ := ob h
  refine w_cVi C (pc := 14) dX0_launch_14 my_X3_setting mi_X3_setting ml_X0_86 (sA_1 hY) rfl rfl rfl [.int 3] rfl rfl (Nat.le_of_ble_eq_true rfl) (tX3_setting (kLand_1 hY) e4) ?_
  refine w_istore C (pc := 17) dX0_launch_17 (lv' := [(0, .ref (adr Y 7)), (1, .int x1), (2, .int x2), (3, .int v1), (4, .int v3)]) rfl rfl rfl ?_
  refine w_aload_n C (pc := 19) dX0_launch_19 0 rfl ?_
  refine w_getR C (pc := 20) dX0_launch_20 f_X0_44 (sA_7 hY) rfl ?_
  refine w_iload_n C (pc := 23) dX0_launch_23 1 rfl ?_
  refine w_iconst C (pc := 24) dX0_launch_24 (v := 0) (by decide) ?_
  obtain ⟨v5, e6, h⟩ := ob h
  refine w_cVi C (pc := 25) dX0_launch_25 my_X4_part mi_X4_part ml_X0_82 (sA_4 hY) rfl rfl rfl [.int x1, .int 0] rfl rfl (Nat.le_of_ble_eq_true rfl) (tX4_part (kPlan_4 hY) e6) ?_
  refine w_istore C (pc := 28) dX0_launch_28 (lv' := [(0, .ref (adr Y 7)), (1, .int x1), (2, .int x2), (3, .int v1), (4, .int v3), (5, .int v5)]) rfl rfl rfl ?_
  refine w_aload_n C (pc := 30) dX0_launch_30 0 rfl ?_
  refine w_getR C (pc := 31) dX0_launch_31 f_X0_44 (sA_7 hY) rfl ?_
  refine w_iload_n C (pc := 34) dX0_launch_34 1 rfl ?_
  refine w_iconst C (pc := 35) dX0_launch_35 (v := 2) (by decide) ?_
  obtain ⟨v7, e8, h⟩ := ob h
  refine w_cVi C (pc := 36) dX0_launch_36 my_X4_part mi_X4_part ml_X0_82 (sA_4 hY) rfl rfl rfl [.int x1, .int 2] rfl rfl (Nat.le_of_ble_eq_true rfl) (tX4_part (kPlan_4 hY) e8) ?_
  refine w_istore C (pc := 39) dX0_launch_39 (lv' := [(0, .ref (adr Y 7)), (1, .int x1), (2, .int x2), (3, .int v1), (4, .int v3), (5, .int v5), (6, .int v7)]) rfl rfl rfl ?_
  refine w_aload_n C (pc := 41) dX0_launch_41 0 rfl ?_
  refine w_getR C (pc := 42) dX0_launch_42 f_X0_44 (sA_7 hY) rfl ?_
  refine w_aload_n C (pc := 45) dX0_launch_45 0 rfl ?_
  refine w_getR C (pc := 46) dX0_launch_46 f_X0_44 (sA_7 hY) rfl ?_
  refine w_iload_n C (pc := 49) dX0_launch_49 1 rfl ?_
  refine w_iconst C (pc := 50) dX0_launch_50 (v := 1) (by decide) ?_
  obtain ⟨v9, e10, h⟩ := ob h
  refine w_cVi C (pc := 51) dX0_launch_51 my_X4_part mi_X4_part ml_X0_82 (sA_4 hY) rfl rfl rfl [.int x1, .int 1] rfl rfl (Nat.le_of_ble_eq_true rfl) (tX4_part (kPlan_4 hY) e10) ?_
  obtain ⟨v11, e12, h⟩ := ob h
  refine w_cVi C (pc := 54) dX0_launch_54 my_X4_placeAt mi_X4_placeAt ml_X0_101 (sA_4 hY) rfl rfl rfl [.int v9] rfl rfl (Nat.le_of_ble_eq_true rfl) (tX4_placeAt (kPlan_4 hY) e12) ?_
  refine w_istore C (pc := 57) dX0_launch_57 (lv' := [(0, .ref (adr Y 7)), (1, .int x1), (2, .int x2), (3, .int v1), (4, .int v3), (5, .int v5), (6, .int v7), (7, .int v11)]) rfl rfl rfl ?_
  refine w_aload_n C (pc := 59) dX0_launch_59 0 rfl ?_
  refine w_getR C (pc := 60) dX0_launch_60 f_X0_44 (sA_7 hY) rfl ?_
  refine w_aload_n C (pc := 63) dX0_launch_63 0 rfl ?_
  refine w_getR C (pc := 64) dX0_launch_64 f_X0_44 (sA_7 hY) rfl ?_
  refine w_iload_n C (pc := 67) dX0_launch_67 1 rfl ?_
  refine w_iconst C (pc := 68) dX0_launch_68 (v := 3) (by decide) ?_
  obtain ⟨v13, e14, h⟩ := ob h
  refine w_cVi C (pc := 69) dX0_launch_69 my_X4_part mi_X4_part ml_X0_82 (sA_4 hY) rfl rfl rfl [.int x1, .int 3] rfl rfl (Nat.le_of_ble_eq_true rfl) (tX4_part (kPlan_4 hY) e14) ?_
  obtain ⟨v15, e16, h⟩ := ob h
  refine w_cVi C (pc := 72) dX0_launch_72 my_X4_placeAt mi_X4_placeAt ml_X0_101 (sA_4 hY) rfl rfl rfl [.int v13] rfl rfl (Nat.le_of_ble_eq_true rfl) (tX4_placeAt (kPlan_4 hY) e16) ?_
  refine w_istore C (pc := 75) dX0_launch_75 (lv' := [(0, .ref (adr Y 7)), (1, .int x1), (2, .int x2), (3, .int v1), (4, .int v3), (5, .int v5), (6, .int v7), (7, .int v11), (8, .int v15)]) rfl rfl rfl ?_
  refine w_iload_n C (pc := 77) dX0_launch_77 2 rfl ?_
  refine w_aload_n C (pc := 78) dX0_launch_78 0 rfl ?_
  refine w_getR C (pc := 79) dX0_launch_79 f_X0_40 (sA_7 hY) rfl ?_
  refine w_iload C (pc := 82) dX0_launch_82 7 rfl ?_
  refine w_iload C (pc := 84) dX0_launch_84 6 rfl ?_
  refine w_iload_n C (pc := 86) dX0_launch_86 3 rfl ?_
  refine w_iload C (pc := 87) dX0_launch_87 4 rfl ?_
  obtain ⟨v17, e18, h⟩ := ob h
  refine w_cVi C (pc := 89) dX0_launch_89 my_X3_flight mi_X3_flight ml_X0_152 (sA_1 hY) rfl rfl rfl [.int v11, .int v7, .int v1, .int v3] rfl rfl (Nat.le_of_ble_eq_true rfl) (tX3_flight (kLand_1 hY) e18) ?_
  refine w_iadd C (pc := 92) dX0_launch_92 ?_
  refine w_aload_n C (pc := 93) dX0_launch_93 0 rfl ?_
  refine w_getR C (pc := 94) dX0_launch_94 f_X0_40 (sA_7 hY) rfl ?_
  refine w_iload C (pc := 97) dX0_launch_97 6 rfl ?_
  refine w_iconst C (pc := 99) dX0_launch_99 (v := 3) (by decide) ?_
  obtain ⟨v19, e20, h⟩ := ob h
  refine w_cVi C (pc := 100) dX0_launch_100 my_X3_fact mi_X3_fact ml_X0_127 (sA_1 hY) rfl rfl rfl [.int v7, .int 3] rfl rfl (Nat.le_of_ble_eq_true rfl) (tX3_fact (kLand_1 hY) e20) ?_
  refine w_iadd C (pc := 103) dX0_launch_103 ?_
  refine w_bnd h (fun v21 h => ?_)
  refine w_istore C (pc := 104) dX0_launch_104 (lv' := [(0, .ref (adr Y 7)), (1, .int x1), (2, .int x2), (3, .int v1), (4, .int v3), (5, .int v5), (6, .int v7), (7, .int v11), (8, .int v15), (9, .int v21)]) rfl rfl rfl ?_
  refine w_aload_n C (pc := 106) dX0_launch_106 0 rfl ?_
  refine w_getR C (pc := 107) dX0_launch_107 f_X0_31 (sA_7 hY) rfl ?_
  refine w_iload_n C (pc := 110) dX0_launch_110 1 rfl ?_
  refine w_iload_n C (pc := 111) dX0_launch_111 2 rfl ?_
  obtain ⟨M22, e23, h⟩ := ob h
  refine w_iast C (pc := 112) dX0_launch_112 (sA_14 hY) e23 ?_
  refine w_aload_n C (pc := 113) dX0_launch_113 0 rfl ?_
  refine w_getR C (pc := 114) dX0_launch_114 f_X0_34 (sA_7 hY) rfl ?_
  refine w_iload_n C (pc := 117) dX0_launch_117 1 rfl ?_
  refine w_iload C (pc := 118) dX0_launch_118 9 rfl ?_
  refine w_aload_n C (pc := 120) dX0_launch_120 0 rfl ?_
  refine w_getR C (pc := 121) dX0_launch_121 f_X0_40 (sA_7 hY) rfl ?_
  refine w_iload C (pc := 124) dX0_launch_124 6 rfl ?_
  refine w_iload C (pc := 126) dX0_launch_126 8 rfl ?_
  refine w_iload_n C (pc := 128) dX0_launch_128 3 rfl ?_
  refine w_iload C (pc := 129) dX0_launch_129 4 rfl ?_
  obtain ⟨v24, e25, h⟩ := ob h
  refine w_cVi C (pc := 131) dX0_launch_131 my_X3_flight mi_X3_flight ml_X0_152 (sA_1 hY) rfl rfl rfl [.int v7, .int v15, .int v1, .int v3] rfl rfl (Nat.le_of_ble_eq_true rfl) (tX3_flight (kLand_1 hY) e25) ?_
  refine w_iadd C (pc := 134) dX0_launch_134 ?_
  obtain ⟨M26, e27, h⟩ := ob h
  refine w_iast C (pc := 135) dX0_launch_135 (sA_15 hY) e27 ?_
  refine w_aload_n C (pc := 136) dX0_launch_136 0 rfl ?_
  refine w_getR C (pc := 137) dX0_launch_137 f_X0_12 (sA_7 hY) rfl ?_
  refine w_iload_n C (pc := 140) dX0_launch_140 2 rfl ?_
  refine w_iconst C (pc := 141) dX0_launch_141 (v := 3) (by decide) ?_
  refine w_iload C (pc := 142) dX0_launch_142 7 rfl ?_
  refine w_iload C (pc := 144) dX0_launch_144 5 rfl ?_
  obtain ⟨v28, e29, h⟩ := ob h
  refine w_cVv C (pc := 146) dX0_launch_146 my_X1_note mi_X1_note ml_X0_123 (sA_8 hY) rfl rfl rfl [.int x2, .int 3, .int v11, .int v5] rfl rfl (Nat.le_of_ble_eq_true rfl) (tX1_note hY  e29) ?_
  refine w_aload_n C (pc := 149) dX0_launch_149 0 rfl ?_
  refine w_getR C (pc := 150) dX0_launch_150 f_X0_12 (sA_7 hY) rfl ?_
  refine w_iload C (pc := 153) dX0_launch_153 9 rfl ?_
  refine w_iconst C (pc := 155) dX0_launch_155 (v := 4) (by decide) ?_
  refine w_iload C (pc := 156) dX0_launch_156 6 rfl ?_
  refine w_iload C (pc := 158) dX0_launch_158 5 rfl ?_
  obtain ⟨v30, e31, h⟩ := ob h
  refine w_cVv C (pc := 160) dX0_launch_160 my_X1_note mi_X1_note ml_X0_123 (sA_8 hY) rfl rfl rfl [.int v21, .int 4, .int v7, .int v5] rfl rfl (Nat.le_of_ble_eq_true rfl) (tX1_note hY  e31) ?_
  exact w_retV C (pc := 163) dX0_launch_163 rfl (Option.some.inj h)
theorem dX0_launchAll_0 : decode cX0_launchAll 0 = .ok (.iload_n 2, 1) := by decide +kernel
theorem dX0_launchAll_1 : decode cX0_launchAll 1 = .ok (.istore_n 3, 1) := by decide +kernel
theorem dX0_launchAll_2 : decode cX0_launchAll 2 = .ok (.iconst 0, 1) := by decide +kernel
theorem dX0_launchAll_3 : decode cX0_launchAll 3 = .ok (.istore 4, 2) := by decide +kernel
theorem dX0_launchAll_5 : decode cX0_launchAll 5 = .ok (.iload 4, 2) := by decide +kernel
theorem dX0_launchAll_7 : decode cX0_launchAll 7 = .ok (.aload_n 0, 1) := by decide +kernel
theorem dX0_launchAll_8 : decode cX0_launchAll 8 = .ok (.getfield 40, 3) := by decide +kernel
theorem dX0_launchAll_11 : decode cX0_launchAll 11 = .ok (.bipush 8, 2) := by decide +kernel
theorem dX0_launchAll_13 : decode cX0_launchAll 13 = .ok (.invokevirtual 86, 3) := by decide +kernel
theorem dX0_launchAll_16 : decode cX0_launchAll 16 = .ok (.if_icmp .ge 78, 3) := by decide +kernel
theorem dX0_launchAll_19 : decode cX0_launchAll 19 = .ok (.iconst 0, 1) := by decide +kernel
theorem dX0_launchAll_20 : decode cX0_launchAll 20 = .ok (.istore 5, 2) := by decide +kernel
theorem dX0_launchAll_22 : decode cX0_launchAll 22 = .ok (.iload 5, 2) := by decide +kernel
theorem dX0_launchAll_24 : decode cX0_launchAll 24 = .ok (.aload_n 0, 1) := by decide +kernel
theorem dX0_launchAll_25 : decode cX0_launchAll 25 = .ok (.getfield 44, 3) := by decide +kernel
theorem dX0_launchAll_28 : decode cX0_launchAll 28 = .ok (.getfield 77, 3) := by decide +kernel
theorem dX0_launchAll_31 : decode cX0_launchAll 31 = .ok (.if_icmp .ge 57, 3) := by decide +kernel
theorem dX0_launchAll_34 : decode cX0_launchAll 34 = .ok (.aload_n 0, 1) := by decide +kernel
theorem dX0_launchAll_35 : decode cX0_launchAll 35 = .ok (.getfield 44, 3) := by decide +kernel
theorem dX0_launchAll_38 : decode cX0_launchAll 38 = .ok (.iload 5, 2) := by decide +kernel
theorem dX0_launchAll_40 : decode cX0_launchAll 40 = .ok (.iconst 1, 1) := by decide +kernel
theorem dX0_launchAll_41 : decode cX0_launchAll 41 = .ok (.invokevirtual 82, 3) := by decide +kernel
theorem dX0_launchAll_44 : decode cX0_launchAll 44 = .ok (.iload_n 1, 1) := by decide +kernel
theorem dX0_launchAll_45 : decode cX0_launchAll 45 = .ok (.if_icmp .ne 37, 3) := by decide +kernel
theorem dX0_launchAll_48 : decode cX0_launchAll 48 = .ok (.aload_n 0, 1) := by decide +kernel
theorem dX0_launchAll_49 : decode cX0_launchAll 49 = .ok (.getfield 44, 3) := by decide +kernel
theorem dX0_launchAll_52 : decode cX0_launchAll 52 = .ok (.iload 5, 2) := by decide +kernel
theorem dX0_launchAll_54 : decode cX0_launchAll 54 = .ok (.iconst 0, 1) := by decide +kernel
theorem dX0_launchAll_55 : decode cX0_launchAll 55 = .ok (.invokevirtual 82, 3) := by decide +kernel
theorem dX0_launchAll_58 : decode cX0_launchAll 58 = .ok (.iload 4, 2) := by decide +kernel
theorem dX0_launchAll_60 : decode cX0_launchAll 60 = .ok (.if_icmp .ne 22, 3) := by decide +kernel
theorem dX0_launchAll_63 : decode cX0_launchAll 63 = .ok (.iload_n 3, 1) := by decide +kernel
theorem dX0_launchAll_64 : decode cX0_launchAll 64 = .ok (.aload_n 0, 1) := by decide +kernel
theorem dX0_launchAll_65 : decode cX0_launchAll 65 = .ok (.getfield 40, 3) := by decide +kernel
theorem dX0_launchAll_68 : decode cX0_launchAll 68 = .ok (.bipush 6, 2) := by decide +kernel
theorem dX0_launchAll_70 : decode cX0_launchAll 70 = .ok (.invokevirtual 86, 3) := by decide +kernel
theorem dX0_launchAll_73 : decode cX0_launchAll 73 = .ok (.iadd, 1) := by decide +kernel
theorem dX0_launchAll_74 : decode cX0_launchAll 74 = .ok (.istore_n 3, 1) := by decide +kernel
theorem dX0_launchAll_75 : decode cX0_launchAll 75 = .ok (.aload_n 0, 1) := by decide +kernel
theorem dX0_launchAll_76 : decode cX0_launchAll 76 = .ok (.iload 5, 2) := by decide +kernel
theorem dX0_launchAll_78 : decode cX0_launchAll 78 = .ok (.iload_n 3, 1) := by decide +kernel
theorem dX0_launchAll_79 : decode cX0_launchAll 79 = .ok (.invokevirtual 148, 3) := by decide +kernel
theorem dX0_launchAll_82 : decode cX0_launchAll 82 = .ok (.iinc 5 1, 3) := by decide +kernel
theorem dX0_launchAll_85 : decode cX0_launchAll 85 = .ok (.goto (-63), 3) := by decide +kernel
theorem dX0_launchAll_88 : decode cX0_launchAll 88 = .ok (.iinc 4 1, 3) := by decide +kernel
theorem dX0_launchAll_91 : decode cX0_launchAll 91 = .ok (.goto (-86), 3) := by decide +kernel
theorem dX0_launchAll_94 : decode cX0_launchAll 94 = .ok (.iload_n 3, 1) := by decide +kernel
theorem dX0_launchAll_95 : decode cX0_launchAll 95 = .ok (.ireturn, 1) := by decide +kernel
def pX0_launchAll_L22 (x1 : Int32) (x4 : Int32) (s : Int32 × Int32 × Mm) : Option ((Int32 × Int32 × Mm) ⊕ (Int32 × Mm)) :=
if (s.2.2 4 1) ≤ s.2.1 then
(some (Sum.inr (s.1, s.2.2)))
else
((pX4_part 4 s.2.1 1 s.2.2).bind fun v3 =>
if v3 = x1 then
((pX4_part 4 s.2.1 0 s.2.2).bind fun v5 =>
if v5 = x4 then
((pX3_setting 1 6 s.2.2).bind fun v7 =>
bnd (s.1 + v7) fun v9 =>
(pX0_launch s.2.1 v9 s.2.2).bind fun v10 =>
some (Sum.inl (v9, s.2.1 + 1, v10)))
else
(some (Sum.inl (s.1, s.2.1 + 1, s.2.2))))
else
(some (Sum.inl (s.1, s.2.1 + 1, s.2.2))))
def pX0_launchAll_L5 (x1 : Int32) (s : Int32 × Int32 × Mm) : Option ((Int32 × Int32 × Mm) ⊕ (Int32 × Mm)) :=
(pX3_setting 1 8 s.2.2).bind fun v1 =>
if v1 ≤ s.2.1 then
(some (Sum.inr (s.1, s.2.2)))
else
((itr (pX0_launchAll_L22 x1 s.2.1) fuel (s.1, 0, s.2.2)).bind fun x12 =>
some (Sum.inl (x12.1, s.2.1 + 1, x12.2)))
def pX0_launchAll (x1 : Int32) (x2 : Int32) (M : Mm) : Option (Int32 × Mm) :=
(itr (pX0_launchAll_L5 x1) fuel (x2, 0, M)).bind fun x28 =>
some (x28.1, x28.2)
abbrev zX0_launchAll : Zx := (cX0_launchAll, RX0, 6, 3, (some .int))
set_option maxRecDepth 100000 in
set_option maxHeartbeats 4000000 in
theorem tX0_launchAll {l : Launch} {Y : Sx} {M : Mm} {x1 : Int32} {x2 : Int32} {q : Int32 × Mm} (hY : isA Y) (h : pX0_launchAll x1 x2 M = some q) : Ct l Y yX0_launchAll cX0_launchAll 6 (some .int) 3 [.ref (adr Y 7), .int x1, .int x2] M (some q.1) q.2 := by
  refine Ct.of (by decide) rfl (lv := [(0, .ref (adr Y 7)), (1, .int x1), (2, .int x2)]) rfl ?_
  intro K hkl C
  change Cx K zX0_launchAll Y at C
  subst hkl
  unfold pX0_launchAll at h
  show Wp K zX0_launchAll Y (Qm K Y (some q.1) q.2) M 0 [(0, .ref (adr Y 7)), (1, .int x1), (2, .int x2)] []
  refine w_iload_n C (pc := 0) dX0_launchAll_0 2 rfl ?_
  refine w_istore_n C (pc := 1) dX0_launchAll_1 (lv' := [(0, .ref (adr Y 7)), (1, .int x1), (2, .int x2), (3, .int x2)]) rfl rfl rfl ?_
  refine w_iconst C (pc := 2) dX0_launchAll_2 (v := 0) (by decide) ?_
  refine w_istore C (pc := 3) dX0_launchAll_3 (lv' := [(0, .ref (adr Y 7)), (1, .int x1), (2, .int x2), (3, .int x2), (4, .int 0)]) rfl rfl rfl ?_
  obtain ⟨x28, e29, h⟩ := ob h
  refine itr_W (P := fun s30 => Wp K zX0_launchAll Y (Qm K Y (some q.1) q.2) s30.2.2 5 [(0, .ref (adr Y 7)), (1, .int x1), (2, .int x2), (3, .int s30.1), (4, .int s30.2.1)] []) (R := fun x28 => Wp K zX0_launchAll Y (Qm K Y (some q.1) q.2) x28.2 94 [(0, .ref (adr Y 7)), (1, .int x1), (2, .int x2), (3, .int x28.1)] []) ?_ fuel (x2, 0, M) x28 e29 ?_
  · intro s30 r31 h34 ki32 kx33
    unfold pX0_launchAll_L5 at h34
    show Wp K zX0_launchAll Y (Qm K Y (some q.1) q.2) s30.2.2 5 [(0, .ref (adr Y 7)), (1, .int x1), (2, .int x2), (3, .int s30.1), (4, .int s30.2.1)] []
    refine w_iload C (pc := 5) dX0_launchAll_5 4 rfl ?_
    refine w_aload_n C (pc := 7) dX0_launchAll_7 0 rfl ?_
    refine w_getR C (pc := 8) dX0_launchAll_8 f_X0_40 (sA_7 hY) rfl ?_
    refine w_bipush C (pc := 11) dX0_launchAll_11 (v := 8) (by decide) ?_
    obtain ⟨v35, e36, h34⟩ := ob h34
    refine w_cVi C (pc := 13) dX0_launchAll_13 my_X3_setting mi_X3_setting ml_X0_86 (sA_1 hY) rfl rfl rfl [.int 8] rfl rfl (Nat.le_of_ble_eq_true rfl) (tX3_setting (kLand_1 hY) e36) ?_
    refine w_icge C (pc := 16) 94 dX0_launchAll_16 (by decide) (fun c => ?_) (fun c => ?_)
    · have h34 := it_t h34 c
      obtain rfl := Option.some.inj h34
      refine w_lv [0, 1, 2, 3] rfl ?_
      have k9 := kx33 (s30.1, s30.2.2) rfl
      try dsimp only at k9
      exact k9
    · have h34 := it_f h34 c
      refine w_iconst C (pc := 19) dX0_launchAll_19 (v := 0) (by decide) ?_
      refine w_istore C (pc := 20) dX0_launchAll_20 (lv' := [(0, .ref (adr Y 7)), (1, .int x1), (2, .int x2), (3, .int s30.1), (4, .int s30.2.1), (5, .int 0)]) rfl rfl rfl ?_
      obtain ⟨x37, e38, h34⟩ := ob h34
      refine itr_W (P := fun s39 => Wp K zX0_launchAll Y (Qm K Y (some q.1) q.2) s39.2.2 22 [(0, .ref (adr Y 7)), (1, .int x1), (2, .int x2), (3, .int s39.1), (4, .int s30.2.1), (5, .int s39.2.1)] []) (R := fun x37 => Wp K zX0_launchAll Y (Qm K Y (some q.1) q.2) x37.2 88 [(0, .ref (adr Y 7)), (1, .int x1), (2, .int x2), (3, .int x37.1), (4, .int s30.2.1)] []) ?_ fuel (s30.1, 0, s30.2.2) x37 e38 ?_
      · intro s39 r40 h43 ki41 kx42
        unfold pX0_launchAll_L22 at h43
        show Wp K zX0_launchAll Y (Qm K Y (some q.1) q.2) s39.2.2 22 [(0, .ref (adr Y 7)), (1, .int x1), (2, .int x2), (3, .int s39.1), (4, .int s30.2.1), (5, .int s39.2.1)] []
        refine w_iload C (pc := 22) dX0_launchAll_22 5 rfl ?_
        refine w_aload_n C (pc := 24) dX0_launchAll_24 0 rfl ?_
        refine w_getR C (pc := 25) dX0_launchAll_25 f_X0_44 (sA_7 hY) rfl ?_
        refine w_getI C (pc := 28) dX0_launchAll_28 f_X0_77 (sA_4 hY) rfl ?_
        refine w_icge C (pc := 31) 88 dX0_launchAll_31 (by decide) (fun c => ?_) (fun c => ?_)
        · have h43 := it_t h43 c
          obtain rfl := Option.some.inj h43
          refine w_lv [0, 1, 2, 3, 4] rfl ?_
          have k9 := kx42 (s39.1, s39.2.2) rfl
          try dsimp only at k9
          exact k9
        · have h43 := it_f h43 c
          refine w_aload_n C (pc := 34) dX0_launchAll_34 0 rfl ?_
          refine w_getR C (pc := 35) dX0_launchAll_35 f_X0_44 (sA_7 hY) rfl ?_
          refine w_iload C (pc := 38) dX0_launchAll_38 5 rfl ?_
          refine w_iconst C (pc := 40) dX0_launchAll_40 (v := 1) (by decide) ?_
          obtain ⟨v44, e45, h43⟩ := ob h43
          refine w_cVi C (pc := 41) dX0_launchAll_41 my_X4_part mi_X4_part ml_X0_82 (sA_4 hY) rfl rfl rfl [.int s39.2.1, .int 1] rfl rfl (Nat.le_of_ble_eq_true rfl) (tX4_part (kPlan_4 hY) e45) ?_
          refine w_iload_n C (pc := 44) dX0_launchAll_44 1 rfl ?_
          refine w_icne C (pc := 45) 82 dX0_launchAll_45 (by decide) (fun c => ?_) (fun c => ?_)
          · have h43 := it_t h43 c
            refine w_aload_n C (pc := 48) dX0_launchAll_48 0 rfl ?_
            refine w_getR C (pc := 49) dX0_launchAll_49 f_X0_44 (sA_7 hY) rfl ?_
            refine w_iload C (pc := 52) dX0_launchAll_52 5 rfl ?_
            refine w_iconst C (pc := 54) dX0_launchAll_54 (v := 0) (by decide) ?_
            obtain ⟨v46, e47, h43⟩ := ob h43
            refine w_cVi C (pc := 55) dX0_launchAll_55 my_X4_part mi_X4_part ml_X0_82 (sA_4 hY) rfl rfl rfl [.int s39.2.1, .int 0] rfl rfl (Nat.le_of_ble_eq_true rfl) (tX4_part (kPlan_4 hY) e47) ?_
            refine w_iload C (pc := 58) dX0_launchAll_58 4 rfl ?_
            refine w_icne C (pc := 60) 82 dX0_launchAll_60 (by decide) (fun c => ?_) (fun c => ?_)
            · have h43 := it_t h43 c
              refine w_iload_n C (pc := 63) dX0_launchAll_63 3 rfl ?_
              refine w_aload_n C (pc := 64) dX0_launchAll_64 0 rfl ?_
              refine w_getR C (pc := 65) dX0_launchAll_65 f_X0_40 (sA_7 hY) rfl ?_
              refine w_bipush C (pc := 68) dX0_launchAll_68 (v := 6) (by decide) ?_
              obtain ⟨v48, e49, h43⟩ := ob h43
              refine w_cVi C (pc := 70) dX0_launchAll_70 my_X3_setting mi_X3_setting ml_X0_86 (sA_1 hY) rfl rfl rfl [.int 6] rfl rfl (Nat.le_of_ble_eq_true rfl) (tX3_setting (kLand_1 hY) e49) ?_
              refine w_iadd C (pc := 73) dX0_launchAll_73 ?_
              refine w_bnd h43 (fun v50 h43 => ?_)
              refine w_istore_n C (pc := 74) dX0_launchAll_74 (lv' := [(0, .ref (adr Y 7)), (1, .int x1), (2, .int x2), (3, .int v50), (4, .int s30.2.1), (5, .int s39.2.1)]) rfl rfl rfl ?_
              refine w_aload_n C (pc := 75) dX0_launchAll_75 0 rfl ?_
              refine w_iload C (pc := 76) dX0_launchAll_76 5 rfl ?_
              refine w_iload_n C (pc := 78) dX0_launchAll_78 3 rfl ?_
              obtain ⟨v51, e52, h43⟩ := ob h43
              refine w_cVv C (pc := 79) dX0_launchAll_79 my_X0_launch mi_X0_launch ml_X0_148 (sA_7 hY) rfl rfl rfl [.int s39.2.1, .int v50] rfl rfl (Nat.le_of_ble_eq_true rfl) (tX0_launch hY  e52) ?_
              refine w_iinc C (pc := 82) dX0_launchAll_82 5 rfl (v := 1) (lv' := [(0, .ref (adr Y 7)), (1, .int x1), (2, .int x2), (3, .int v50), (4, .int s30.2.1), (5, .int (s39.2.1 + 1))]) (by decide) rfl rfl rfl ?_
              refine w_goto C (pc := 85) 22 dX0_launchAll_85 (by decide) ?_
              obtain rfl := Option.some.inj h43
              have k9 := ki41 (v50, s39.2.1 + 1, v51) rfl
              try dsimp only at k9
              exact k9
            · have h43 := it_f h43 c
              refine w_iinc C (pc := 82) dX0_launchAll_82 5 rfl (v := 1) (lv' := [(0, .ref (adr Y 7)), (1, .int x1), (2, .int x2), (3, .int s39.1), (4, .int s30.2.1), (5, .int (s39.2.1 + 1))]) (by decide) rfl rfl rfl ?_
              refine w_goto C (pc := 85) 22 dX0_launchAll_85 (by decide) ?_
              obtain rfl := Option.some.inj h43
              have k9 := ki41 (s39.1, s39.2.1 + 1, s39.2.2) rfl
              try dsimp only at k9
              exact k9
          · have h43 := it_f h43 c
            refine w_iinc C (pc := 82) dX0_launchAll_82 5 rfl (v := 1) (lv' := [(0, .ref (adr Y 7)), (1, .int x1), (2, .int x2), (3, .int s39.1), (4, .int s30.2.1), (5, .int (s39.2.1 + 1))]) (by decide) rfl rfl rfl ?_
            refine w_goto C (pc := 85) 22 dX0_launchAll_85 (by decide) ?_
            obtain rfl := Option.some.inj h43
            have k9 := ki41 (s39.1, s39.2.1 + 1, s39.2.2) rfl
            try dsimp only at k9
            exact k9
      · refine w_iinc C (pc := 88) dX0_launchAll_88 4 rfl (v := 1) (lv' := [(0, .ref (adr Y 7)), (1, .int x1), (2, .int x2), (3, .int x37.1), (4, .int (s30.2.1 + 1))]) (by decide) rfl rfl rfl ?_
        refine w_goto C (pc := 91) 5 dX0_launchAll_91 (by decide) ?_
        obtain rfl := Option.some.inj h34
        have k9 := ki32 (x37.1, s30.2.1 + 1, x37.2) rfl
        try dsimp only at k9
        exact k9
  · refine w_iload_n C (pc := 94) dX0_launchAll_94 3 rfl ?_
    exact w_ret C (pc := 95) dX0_launchAll_95 rfl (Option.some.inj h)
theorem dX0_drivePlan_0 : decode cX0_drivePlan 0 = .ok (.aload_n 0, 1) := by decide +kernel
theorem dX0_drivePlan_1 : decode cX0_drivePlan 1 = .ok (.getfield 12, 3) := by decide +kernel
theorem dX0_drivePlan_4 : decode cX0_drivePlan 4 = .ok (.invokevirtual 117, 3) := by decide +kernel
theorem dX0_drivePlan_7 : decode cX0_drivePlan 7 = .ok (.iconst 0, 1) := by decide +kernel
theorem dX0_drivePlan_8 : decode cX0_drivePlan 8 = .ok (.istore_n 1, 1) := by decide +kernel
theorem dX0_drivePlan_9 : decode cX0_drivePlan 9 = .ok (.iload_n 1, 1) := by decide +kernel
theorem dX0_drivePlan_10 : decode cX0_drivePlan 10 = .ok (.aload_n 0, 1) := by decide +kernel
theorem dX0_drivePlan_11 : decode cX0_drivePlan 11 = .ok (.getfield 44, 3) := by decide +kernel
theorem dX0_drivePlan_14 : decode cX0_drivePlan 14 = .ok (.getfield 77, 3) := by decide +kernel
theorem dX0_drivePlan_17 : decode cX0_drivePlan 17 = .ok (.if_icmp .ge 16, 3) := by decide +kernel
theorem dX0_drivePlan_20 : decode cX0_drivePlan 20 = .ok (.aload_n 0, 1) := by decide +kernel
theorem dX0_drivePlan_21 : decode cX0_drivePlan 21 = .ok (.getfield 37, 3) := by decide +kernel
theorem dX0_drivePlan_24 : decode cX0_drivePlan 24 = .ok (.iload_n 1, 1) := by decide +kernel
theorem dX0_drivePlan_25 : decode cX0_drivePlan 25 = .ok (.iconst (-1), 1) := by decide +kernel
theorem dX0_drivePlan_26 : decode cX0_drivePlan 26 = .ok (.iastore, 1) := by decide +kernel
theorem dX0_drivePlan_27 : decode cX0_drivePlan 27 = .ok (.iinc 1 1, 3) := by decide +kernel
theorem dX0_drivePlan_30 : decode cX0_drivePlan 30 = .ok (.goto (-21), 3) := by decide +kernel
theorem dX0_drivePlan_33 : decode cX0_drivePlan 33 = .ok (.iconst 0, 1) := by decide +kernel
theorem dX0_drivePlan_34 : decode cX0_drivePlan 34 = .ok (.istore_n 1, 1) := by decide +kernel
theorem dX0_drivePlan_35 : decode cX0_drivePlan 35 = .ok (.iconst 0, 1) := by decide +kernel
theorem dX0_drivePlan_36 : decode cX0_drivePlan 36 = .ok (.istore_n 2, 1) := by decide +kernel
theorem dX0_drivePlan_37 : decode cX0_drivePlan 37 = .ok (.iload_n 2, 1) := by decide +kernel
theorem dX0_drivePlan_38 : decode cX0_drivePlan 38 = .ok (.aload_n 0, 1) := by decide +kernel
theorem dX0_drivePlan_39 : decode cX0_drivePlan 39 = .ok (.getfield 44, 3) := by decide +kernel
theorem dX0_drivePlan_42 : decode cX0_drivePlan 42 = .ok (.invokevirtual 92, 3) := by decide +kernel
theorem dX0_drivePlan_45 : decode cX0_drivePlan 45 = .ok (.if_icmp .ge 116, 3) := by decide +kernel
theorem dX0_drivePlan_48 : decode cX0_drivePlan 48 = .ok (.aload_n 0, 1) := by decide +kernel
theorem dX0_drivePlan_49 : decode cX0_drivePlan 49 = .ok (.getfield 44, 3) := by decide +kernel
theorem dX0_drivePlan_52 : decode cX0_drivePlan 52 = .ok (.iload_n 2, 1) := by decide +kernel
theorem dX0_drivePlan_53 : decode cX0_drivePlan 53 = .ok (.invokevirtual 101, 3) := by decide +kernel
theorem dX0_drivePlan_56 : decode cX0_drivePlan 56 = .ok (.istore_n 3, 1) := by decide +kernel
theorem dX0_drivePlan_57 : decode cX0_drivePlan 57 = .ok (.iload_n 2, 1) := by decide +kernel
theorem dX0_drivePlan_58 : decode cX0_drivePlan 58 = .ok (.ifCond .le 24, 3) := by decide +kernel
theorem dX0_drivePlan_61 : decode cX0_drivePlan 61 = .ok (.iload_n 1, 1) := by decide +kernel
theorem dX0_drivePlan_62 : decode cX0_drivePlan 62 = .ok (.aload_n 0, 1) := by decide +kernel
theorem dX0_drivePlan_63 : decode cX0_drivePlan 63 = .ok (.getfield 40, 3) := by decide +kernel
theorem dX0_drivePlan_66 : decode cX0_drivePlan 66 = .ok (.aload_n 0, 1) := by decide +kernel
theorem dX0_drivePlan_67 : decode cX0_drivePlan 67 = .ok (.getfield 44, 3) := by decide +kernel
theorem dX0_drivePlan_70 : decode cX0_drivePlan 70 = .ok (.iload_n 2, 1) := by decide +kernel
theorem dX0_drivePlan_71 : decode cX0_drivePlan 71 = .ok (.iconst 1, 1) := by decide +kernel
theorem dX0_drivePlan_72 : decode cX0_drivePlan 72 = .ok (.isub, 1) := by decide +kernel
theorem dX0_drivePlan_73 : decode cX0_drivePlan 73 = .ok (.invokevirtual 101, 3) := by decide +kernel
theorem dX0_drivePlan_76 : decode cX0_drivePlan 76 = .ok (.iload_n 3, 1) := by decide +kernel
theorem dX0_drivePlan_77 : decode cX0_drivePlan 77 = .ok (.invokevirtual 120, 3) := by decide +kernel
theorem dX0_drivePlan_80 : decode cX0_drivePlan 80 = .ok (.iadd, 1) := by decide +kernel
theorem dX0_drivePlan_81 : decode cX0_drivePlan 81 = .ok (.istore_n 1, 1) := by decide +kernel
theorem dX0_drivePlan_82 : decode cX0_drivePlan 82 = .ok (.aload_n 0, 1) := by decide +kernel
theorem dX0_drivePlan_83 : decode cX0_drivePlan 83 = .ok (.getfield 18, 3) := by decide +kernel
theorem dX0_drivePlan_86 : decode cX0_drivePlan 86 = .ok (.iload_n 2, 1) := by decide +kernel
theorem dX0_drivePlan_87 : decode cX0_drivePlan 87 = .ok (.iload_n 1, 1) := by decide +kernel
theorem dX0_drivePlan_88 : decode cX0_drivePlan 88 = .ok (.iastore, 1) := by decide +kernel
theorem dX0_drivePlan_89 : decode cX0_drivePlan 89 = .ok (.aload_n 0, 1) := by decide +kernel
theorem dX0_drivePlan_90 : decode cX0_drivePlan 90 = .ok (.getfield 12, 3) := by decide +kernel
theorem dX0_drivePlan_93 : decode cX0_drivePlan 93 = .ok (.iload_n 1, 1) := by decide +kernel
theorem dX0_drivePlan_94 : decode cX0_drivePlan 94 = .ok (.iconst 0, 1) := by decide +kernel
theorem dX0_drivePlan_95 : decode cX0_drivePlan 95 = .ok (.iload_n 3, 1) := by decide +kernel
theorem dX0_drivePlan_96 : decode cX0_drivePlan 96 = .ok (.iconst (-1), 1) := by decide +kernel
theorem dX0_drivePlan_97 : decode cX0_drivePlan 97 = .ok (.invokevirtual 123, 3) := by decide +kernel
theorem dX0_drivePlan_100 : decode cX0_drivePlan 100 = .ok (.iload_n 3, 1) := by decide +kernel
theorem dX0_drivePlan_101 : decode cX0_drivePlan 101 = .ok (.ifCond .eq 26, 3) := by decide +kernel
theorem dX0_drivePlan_104 : decode cX0_drivePlan 104 = .ok (.iload_n 1, 1) := by decide +kernel
theorem dX0_drivePlan_105 : decode cX0_drivePlan 105 = .ok (.aload_n 0, 1) := by decide +kernel
theorem dX0_drivePlan_106 : decode cX0_drivePlan 106 = .ok (.getfield 40, 3) := by decide +kernel
theorem dX0_drivePlan_109 : decode cX0_drivePlan 109 = .ok (.iload_n 3, 1) := by decide +kernel
theorem dX0_drivePlan_110 : decode cX0_drivePlan 110 = .ok (.iconst 2, 1) := by decide +kernel
theorem dX0_drivePlan_111 : decode cX0_drivePlan 111 = .ok (.invokevirtual 127, 3) := by decide +kernel
theorem dX0_drivePlan_114 : decode cX0_drivePlan 114 = .ok (.iadd, 1) := by decide +kernel
theorem dX0_drivePlan_115 : decode cX0_drivePlan 115 = .ok (.istore_n 1, 1) := by decide +kernel
theorem dX0_drivePlan_116 : decode cX0_drivePlan 116 = .ok (.aload_n 0, 1) := by decide +kernel
theorem dX0_drivePlan_117 : decode cX0_drivePlan 117 = .ok (.getfield 12, 3) := by decide +kernel
theorem dX0_drivePlan_120 : decode cX0_drivePlan 120 = .ok (.iload_n 1, 1) := by decide +kernel
theorem dX0_drivePlan_121 : decode cX0_drivePlan 121 = .ok (.iconst 1, 1) := by decide +kernel
theorem dX0_drivePlan_122 : decode cX0_drivePlan 122 = .ok (.iload_n 3, 1) := by decide +kernel
theorem dX0_drivePlan_123 : decode cX0_drivePlan 123 = .ok (.iconst (-1), 1) := by decide +kernel
theorem dX0_drivePlan_124 : decode cX0_drivePlan 124 = .ok (.invokevirtual 123, 3) := by decide +kernel
theorem dX0_drivePlan_127 : decode cX0_drivePlan 127 = .ok (.aload_n 0, 1) := by decide +kernel
theorem dX0_drivePlan_128 : decode cX0_drivePlan 128 = .ok (.iload_n 2, 1) := by decide +kernel
theorem dX0_drivePlan_129 : decode cX0_drivePlan 129 = .ok (.iload_n 1, 1) := by decide +kernel
theorem dX0_drivePlan_130 : decode cX0_drivePlan 130 = .ok (.invokevirtual 130, 3) := by decide +kernel
theorem dX0_drivePlan_133 : decode cX0_drivePlan 133 = .ok (.istore_n 1, 1) := by decide +kernel
theorem dX0_drivePlan_134 : decode cX0_drivePlan 134 = .ok (.aload_n 0, 1) := by decide +kernel
theorem dX0_drivePlan_135 : decode cX0_drivePlan 135 = .ok (.getfield 22, 3) := by decide +kernel
theorem dX0_drivePlan_138 : decode cX0_drivePlan 138 = .ok (.iload_n 2, 1) := by decide +kernel
theorem dX0_drivePlan_139 : decode cX0_drivePlan 139 = .ok (.iload_n 1, 1) := by decide +kernel
theorem dX0_drivePlan_140 : decode cX0_drivePlan 140 = .ok (.iastore, 1) := by decide +kernel
theorem dX0_drivePlan_141 : decode cX0_drivePlan 141 = .ok (.aload_n 0, 1) := by decide +kernel
theorem dX0_drivePlan_142 : decode cX0_drivePlan 142 = .ok (.iload_n 2, 1) := by decide +kernel
theorem dX0_drivePlan_143 : decode cX0_drivePlan 143 = .ok (.iload_n 1, 1) := by decide +kernel
theorem dX0_drivePlan_144 : decode cX0_drivePlan 144 = .ok (.invokevirtual 133, 3) := by decide +kernel
theorem dX0_drivePlan_147 : decode cX0_drivePlan 147 = .ok (.istore_n 1, 1) := by decide +kernel
theorem dX0_drivePlan_148 : decode cX0_drivePlan 148 = .ok (.aload_n 0, 1) := by decide +kernel
theorem dX0_drivePlan_149 : decode cX0_drivePlan 149 = .ok (.getfield 25, 3) := by decide +kernel
theorem dX0_drivePlan_152 : decode cX0_drivePlan 152 = .ok (.iload_n 2, 1) := by decide +kernel
theorem dX0_drivePlan_153 : decode cX0_drivePlan 153 = .ok (.iload_n 1, 1) := by decide +kernel
theorem dX0_drivePlan_154 : decode cX0_drivePlan 154 = .ok (.iastore, 1) := by decide +kernel
theorem dX0_drivePlan_155 : decode cX0_drivePlan 155 = .ok (.iinc 2 1, 3) := by decide +kernel
theorem dX0_drivePlan_158 : decode cX0_drivePlan 158 = .ok (.goto (-121), 3) := by decide +kernel
theorem dX0_drivePlan_161 : decode cX0_drivePlan 161 = .ok (.return_, 1) := by decide +kernel
def pX0_drivePlan_L9 (s : Int32 × Mm) : Option ((Int32 × Mm) ⊕ (Mm)) :=
if (s.2 4 1) ≤ s.1 then
(some (Sum.inr s.2))
else
((ast s.2 16 8 s.1 (-1)).bind fun M3 =>
some (Sum.inl (s.1 + 1, M3)))
def pX0_drivePlan_L37 (s : Int32 × Int32 × Mm) : Option ((Int32 × Int32 × Mm) ⊕ (Mm)) :=
if (pX4_stops 4 s.2.2) ≤ s.2.1 then
(some (Sum.inr s.2.2))
else
((pX4_placeAt 4 s.2.1 s.2.2).bind fun v14 =>
Option.bind (α := Int32) (if s.2.1 ≤ 0 then
(some s.1)
else
((pX4_placeAt 4 (s.2.1 - 1) s.2.2).bind fun v41 =>
(pX3_drive 1 v41 v14 s.2.2).bind fun v43 =>
bnd (s.1 + v43) fun v45 =>
some v45)) fun j16 =>
(ast s.2.2 10 10 s.2.1 j16).bind fun M19 =>
(pX1_note j16 0 v14 (-1) M19).bind fun v21 =>
Option.bind (α := Int32 × Mm) (if v14 = 0 then
(some (j16, v21))
else
((pX3_fact 1 v14 2 v21).bind fun v36 =>
bnd (j16 + v36) fun v38 =>
(pX1_note v38 1 v14 (-1) v21).bind fun v39 =>
some (v38, v39))) fun j23 =>
(pX0_catchAll s.2.1 j23.1 j23.2).bind fun v26 =>
bnd (v26.1) fun v28 =>
(ast v26.2 11 10 s.2.1 v28).bind fun M29 =>
(pX0_launchAll s.2.1 v28 M29).bind fun v31 =>
bnd (v31.1) fun v33 =>
(ast v31.2 12 10 s.2.1 v33).bind fun M34 =>
some (Sum.inl (v33, s.2.1 + 1, M34)))
def pX0_drivePlan (M : Mm) : Option (Mm) :=
bnd (pX1_empty M) fun v1 =>
(itr (pX0_drivePlan_L9) fuel (0, v1)).bind fun x5 =>
(itr (pX0_drivePlan_L37) fuel (0, 0, x5)).bind fun x46 =>
some x46
abbrev zX0_drivePlan : Zx := (cX0_drivePlan, RX0, 4, 4, none)
set_option maxRecDepth 100000 in
set_option maxHeartbeats 4000000 in
theorem tX0_drivePlan {l : Launch} {Y : Sx} {M : Mm} {q : Mm} (hY : isA Y) (h : pX0_drivePlan M = some q) : Ct l Y yX0_drivePlan cX0_drivePlan 4 none 4 [.ref (adr Y 7)] M none q := by
  refine Ct.of (by decide) rfl (lv := [(0, .ref (adr Y 7))]) rfl ?_
  intro K hkl C
  change Cx K zX0_drivePlan Y at C
  subst hkl
  unfold pX0_drivePlan at h
  show Wp K zX0_drivePlan Y (Qm K Y none q) M 0 [(0, .ref (adr Y 7))] []
  refine w_aload_n C (pc := 0) dX0_drivePlan_0 0 rfl ?_
  refine w_getR C (pc := 1) dX0_drivePlan_1 f_X0_12 (sA_7 hY) rfl ?_
  obtain ⟨v1, e2, h⟩ := bn h
  refine w_cVv C (pc := 4) dX0_drivePlan_4 my_X1_empty mi_X1_empty ml_X0_117 (sA_8 hY) rfl rfl rfl [] rfl rfl (Nat.le_of_ble_eq_true rfl) (tX1_empty hY  e2) ?_
  refine w_iconst C (pc := 7) dX0_drivePlan_7 (v := 0) (by decide) ?_
  refine w_istore_n C (pc := 8) dX0_drivePlan_8 (lv' := [(0, .ref (adr Y 7)), (1, .int 0)]) rfl rfl rfl ?_
  obtain ⟨x5, e6, h⟩ := ob h
  refine itr_W (P := fun s7 => Wp K zX0_drivePlan Y (Qm K Y none q) s7.2 9 [(0, .ref (adr Y 7)), (1, .int s7.1)] []) (R := fun x5 => Wp K zX0_drivePlan Y (Qm K Y none q) x5 33 [(0, .ref (adr Y 7))] []) ?_ fuel (0, v1) x5 e6 ?_
  · intro s7 r8 h11 ki9 kx10
    unfold pX0_drivePlan_L9 at h11
    show Wp K zX0_drivePlan Y (Qm K Y none q) s7.2 9 [(0, .ref (adr Y 7)), (1, .int s7.1)] []
    refine w_iload_n C (pc := 9) dX0_drivePlan_9 1 rfl ?_
    refine w_aload_n C (pc := 10) dX0_drivePlan_10 0 rfl ?_
    refine w_getR C (pc := 11) dX0_drivePlan_11 f_X0_44 (sA_7 hY) rfl ?_
    refine w_getI C (pc := 14) dX0_drivePlan_14 f_X0_77 (sA_4 hY) rfl ?_
    refine w_icge C (pc := 17) 33 dX0_drivePlan_17 (by decide) (fun c => ?_) (fun c => ?_)
    · have h11 := it_t h11 c
      obtain rfl := Option.some.inj h11
      refine w_lv [0] rfl ?_
      have k9 := kx10 s7.2 rfl
      try dsimp only at k9
      exact k9
    · have h11 := it_f h11 c
      refine w_aload_n C (pc := 20) dX0_drivePlan_20 0 rfl ?_
      refine w_getR C (pc := 21) dX0_drivePlan_21 f_X0_37 (sA_7 hY) rfl ?_
      refine w_iload_n C (pc := 24) dX0_drivePlan_24 1 rfl ?_
      refine w_iconst C (pc := 25) dX0_drivePlan_25 (v := (-1)) (by decide) ?_
      obtain ⟨M12, e13, h11⟩ := ob h11
      refine w_iast C (pc := 26) dX0_drivePlan_26 (sA_16 hY) e13 ?_
      refine w_iinc C (pc := 27) dX0_drivePlan_27 1 rfl (v := 1) (lv' := [(0, .ref (adr Y 7)), (1, .int (s7.1 + 1))]) (by decide) rfl rfl rfl ?_
      refine w_goto C (pc := 30) 9 dX0_drivePlan_30 (by decide) ?_
      obtain rfl := Option.some.inj h11
      have k9 := ki9 (s7.1 + 1, M12) rfl
      try dsimp only at k9
      exact k9
  · refine w_iconst C (pc := 33) dX0_drivePlan_33 (v := 0) (by decide) ?_
    refine w_istore_n C (pc := 34) dX0_drivePlan_34 (lv' := [(0, .ref (adr Y 7)), (1, .int 0)]) rfl rfl rfl ?_
    refine w_iconst C (pc := 35) dX0_drivePlan_35 (v := 0) (by decide) ?_
    refine w_istore_n C (pc := 36) dX0_drivePlan_36 (lv' := [(0, .ref (adr Y 7)), (1, .int 0), (2, .int 0)]) rfl rfl rfl ?_
    obtain ⟨x46, e47, h⟩ := ob h
    refine itr_W (P := fun s48 => Wp K zX0_drivePlan Y (Qm K Y none q) s48.2.2 37 [(0, .ref (adr Y 7)), (1, .int s48.1), (2, .int s48.2.1)] []) (R := fun x46 => Wp K zX0_drivePlan Y (Qm K Y none q) x46 161 [(0, .ref (adr Y 7))] []) ?_ fuel (0, 0, x5) x46 e47 ?_
    · intro s48 r49 h52 ki50 kx51
      unfold pX0_drivePlan_L37 at h52
      show Wp K zX0_drivePlan Y (Qm K Y none q) s48.2.2 37 [(0, .ref (adr Y 7)), (1, .int s48.1), (2, .int s48.2.1)] []
      refine w_iload_n C (pc := 37) dX0_drivePlan_37 2 rfl ?_
      refine w_aload_n C (pc := 38) dX0_drivePlan_38 0 rfl ?_
      refine w_getR C (pc := 39) dX0_drivePlan_39 f_X0_44 (sA_7 hY) rfl ?_
      refine w_cVi C (pc := 42) dX0_drivePlan_42 my_X4_stops mi_X4_stops ml_X0_92 (sA_4 hY) rfl rfl rfl [] rfl rfl (Nat.le_of_ble_eq_true rfl) (tX4_stops (kPlan_4 hY) rfl) ?_
      refine w_icge C (pc := 45) 161 dX0_drivePlan_45 (by decide) (fun c => ?_) (fun c => ?_)
      · have h52 := it_t h52 c
        obtain rfl := Option.some.inj h52
        refine w_lv [0] rfl ?_
        have k9 := kx51 s48.2.2 rfl
        try dsimp only at k9
        exact k9
      · have h52 := it_f h52 c
        refine w_aload_n C (pc := 48) dX0_drivePlan_48 0 rfl ?_
        refine w_getR C (pc := 49) dX0_drivePlan_49 f_X0_44 (sA_7 hY) rfl ?_
        refine w_iload_n C (pc := 52) dX0_drivePlan_52 2 rfl ?_
        obtain ⟨v53, e54, h52⟩ := ob h52
        refine w_cVi C (pc := 53) dX0_drivePlan_53 my_X4_placeAt mi_X4_placeAt ml_X0_101 (sA_4 hY) rfl rfl rfl [.int s48.2.1] rfl rfl (Nat.le_of_ble_eq_true rfl) (tX4_placeAt (kPlan_4 hY) e54) ?_
        refine w_istore_n C (pc := 56) dX0_drivePlan_56 (lv' := [(0, .ref (adr Y 7)), (1, .int s48.1), (2, .int s48.2.1), (3, .int v53)]) rfl rfl rfl ?_
        refine w_iload_n C (pc := 57) dX0_drivePlan_57 2 rfl ?_
        obtain ⟨j55, e56, h57⟩ := ob h52
        have Jj55 : Wp K zX0_drivePlan Y (Qm K Y none q) s48.2.2 82 [(0, .ref (adr Y 7)), (1, .int j55), (2, .int s48.2.1), (3, .int v53)] [] := by
          refine w_aload_n C (pc := 82) dX0_drivePlan_82 0 rfl ?_
          refine w_getR C (pc := 83) dX0_drivePlan_83 f_X0_18 (sA_7 hY) rfl ?_
          refine w_iload_n C (pc := 86) dX0_drivePlan_86 2 rfl ?_
          refine w_iload_n C (pc := 87) dX0_drivePlan_87 1 rfl ?_
          obtain ⟨M58, e59, h57⟩ := ob h57
          refine w_iast C (pc := 88) dX0_drivePlan_88 (sA_10 hY) e59 ?_
          refine w_aload_n C (pc := 89) dX0_drivePlan_89 0 rfl ?_
          refine w_getR C (pc := 90) dX0_drivePlan_90 f_X0_12 (sA_7 hY) rfl ?_
          refine w_iload_n C (pc := 93) dX0_drivePlan_93 1 rfl ?_
          refine w_iconst C (pc := 94) dX0_drivePlan_94 (v := 0) (by decide) ?_
          refine w_iload_n C (pc := 95) dX0_drivePlan_95 3 rfl ?_
          refine w_iconst C (pc := 96) dX0_drivePlan_96 (v := (-1)) (by decide) ?_
          obtain ⟨v60, e61, h57⟩ := ob h57
          refine w_cVv C (pc := 97) dX0_drivePlan_97 my_X1_note mi_X1_note ml_X0_123 (sA_8 hY) rfl rfl rfl [.int j55, .int 0, .int v53, .int (-1)] rfl rfl (Nat.le_of_ble_eq_true rfl) (tX1_note hY  e61) ?_
          refine w_iload_n C (pc := 100) dX0_drivePlan_100 3 rfl ?_
          obtain ⟨j62, e63, h64⟩ := ob h57
          have Jj62 : Wp K zX0_drivePlan Y (Qm K Y none q) j62.2 127 [(0, .ref (adr Y 7)), (1, .int j62.1), (2, .int s48.2.1), (3, .int v53)] [] := by
            refine w_aload_n C (pc := 127) dX0_drivePlan_127 0 rfl ?_
            refine w_iload_n C (pc := 128) dX0_drivePlan_128 2 rfl ?_
            refine w_iload_n C (pc := 129) dX0_drivePlan_129 1 rfl ?_
            obtain ⟨v65, e66, h64⟩ := ob h64
            refine w_cVi C (pc := 130) dX0_drivePlan_130 my_X0_catchAll mi_X0_catchAll ml_X0_130 (sA_7 hY) rfl rfl rfl [.int s48.2.1, .int j62.1] rfl rfl (Nat.le_of_ble_eq_true rfl) (tX0_catchAll hY  e66) ?_
            refine w_bnd h64 (fun v67 h64 => ?_)
            refine w_istore_n C (pc := 133) dX0_drivePlan_133 (lv' := [(0, .ref (adr Y 7)), (1, .int v67), (2, .int s48.2.1), (3, .int v53)]) rfl rfl rfl ?_
            refine w_aload_n C (pc := 134) dX0_drivePlan_134 0 rfl ?_
            refine w_getR C (pc := 135) dX0_drivePlan_135 f_X0_22 (sA_7 hY) rfl ?_
            refine w_iload_n C (pc := 138) dX0_drivePlan_138 2 rfl ?_
            refine w_iload_n C (pc := 139) dX0_drivePlan_139 1 rfl ?_
            obtain ⟨M68, e69, h64⟩ := ob h64
            refine w_iast C (pc := 140) dX0_drivePlan_140 (sA_11 hY) e69 ?_
            refine w_aload_n C (pc := 141) dX0_drivePlan_141 0 rfl ?_
            refine w_iload_n C (pc := 142) dX0_drivePlan_142 2 rfl ?_
            refine w_iload_n C (pc := 143) dX0_drivePlan_143 1 rfl ?_
            obtain ⟨v70, e71, h64⟩ := ob h64
            refine w_cVi C (pc := 144) dX0_drivePlan_144 my_X0_launchAll mi_X0_launchAll ml_X0_133 (sA_7 hY) rfl rfl rfl [.int s48.2.1, .int v67] rfl rfl (Nat.le_of_ble_eq_true rfl) (tX0_launchAll hY  e71) ?_
            refine w_bnd h64 (fun v72 h64 => ?_)
            refine w_istore_n C (pc := 147) dX0_drivePlan_147 (lv' := [(0, .ref (adr Y 7)), (1, .int v72), (2, .int s48.2.1), (3, .int v53)]) rfl rfl rfl ?_
            refine w_aload_n C (pc := 148) dX0_drivePlan_148 0 rfl ?_
            refine w_getR C (pc := 149) dX0_drivePlan_149 f_X0_25 (sA_7 hY) rfl ?_
            refine w_iload_n C (pc := 152) dX0_drivePlan_152 2 rfl ?_
            refine w_iload_n C (pc := 153) dX0_drivePlan_153 1 rfl ?_
            obtain ⟨M73, e74, h64⟩ := ob h64
            refine w_iast C (pc := 154) dX0_drivePlan_154 (sA_12 hY) e74 ?_
            refine w_iinc C (pc := 155) dX0_drivePlan_155 2 rfl (v := 1) (lv' := [(0, .ref (adr Y 7)), (1, .int v72), (2, .int (s48.2.1 + 1)), (3, .int v53)]) (by decide) rfl rfl rfl ?_
            refine w_goto C (pc := 158) 37 dX0_drivePlan_158 (by decide) ?_
            obtain rfl := Option.some.inj h64
            refine w_lv [0, 1, 2] rfl ?_
            have k9 := ki50 (v72, s48.2.1 + 1, M73) rfl
            try dsimp only at k9
            exact k9
          refine w_ifeq C (pc := 101) 127 dX0_drivePlan_101 (by decide) (fun c => ?_) (fun c => ?_)
          · have e63 := it_t e63 c
            obtain rfl := Option.some.inj e63
            try dsimp only at Jj62
            exact Jj62
          · have e63 := it_f e63 c
            refine w_iload_n C (pc := 104) dX0_drivePlan_104 1 rfl ?_
            refine w_aload_n C (pc := 105) dX0_drivePlan_105 0 rfl ?_
            refine w_getR C (pc := 106) dX0_drivePlan_106 f_X0_40 (sA_7 hY) rfl ?_
            refine w_iload_n C (pc := 109) dX0_drivePlan_109 3 rfl ?_
            refine w_iconst C (pc := 110) dX0_drivePlan_110 (v := 2) (by decide) ?_
            obtain ⟨v75, e76, e63⟩ := ob e63
            refine w_cVi C (pc := 111) dX0_drivePlan_111 my_X3_fact mi_X3_fact ml_X0_127 (sA_1 hY) rfl rfl rfl [.int v53, .int 2] rfl rfl (Nat.le_of_ble_eq_true rfl) (tX3_fact (kLand_1 hY) e76) ?_
            refine w_iadd C (pc := 114) dX0_drivePlan_114 ?_
            refine w_bnd e63 (fun v77 e63 => ?_)
            refine w_istore_n C (pc := 115) dX0_drivePlan_115 (lv' := [(0, .ref (adr Y 7)), (1, .int v77), (2, .int s48.2.1), (3, .int v53)]) rfl rfl rfl ?_
            refine w_aload_n C (pc := 116) dX0_drivePlan_116 0 rfl ?_
            refine w_getR C (pc := 117) dX0_drivePlan_117 f_X0_12 (sA_7 hY) rfl ?_
            refine w_iload_n C (pc := 120) dX0_drivePlan_120 1 rfl ?_
            refine w_iconst C (pc := 121) dX0_drivePlan_121 (v := 1) (by decide) ?_
            refine w_iload_n C (pc := 122) dX0_drivePlan_122 3 rfl ?_
            refine w_iconst C (pc := 123) dX0_drivePlan_123 (v := (-1)) (by decide) ?_
            obtain ⟨v78, e79, e63⟩ := ob e63
            refine w_cVv C (pc := 124) dX0_drivePlan_124 my_X1_note mi_X1_note ml_X0_123 (sA_8 hY) rfl rfl rfl [.int v77, .int 1, .int v53, .int (-1)] rfl rfl (Nat.le_of_ble_eq_true rfl) (tX1_note hY  e79) ?_
            obtain rfl := Option.some.inj e63
            try dsimp only at Jj62
            exact Jj62
        refine w_ifle C (pc := 58) 82 dX0_drivePlan_58 (by decide) (fun c => ?_) (fun c => ?_)
        · have e56 := it_t e56 c
          obtain rfl := Option.some.inj e56
          exact Jj55
        · have e56 := it_f e56 c
          refine w_iload_n C (pc := 61) dX0_drivePlan_61 1 rfl ?_
          refine w_aload_n C (pc := 62) dX0_drivePlan_62 0 rfl ?_
          refine w_getR C (pc := 63) dX0_drivePlan_63 f_X0_40 (sA_7 hY) rfl ?_
          refine w_aload_n C (pc := 66) dX0_drivePlan_66 0 rfl ?_
          refine w_getR C (pc := 67) dX0_drivePlan_67 f_X0_44 (sA_7 hY) rfl ?_
          refine w_iload_n C (pc := 70) dX0_drivePlan_70 2 rfl ?_
          refine w_iconst C (pc := 71) dX0_drivePlan_71 (v := 1) (by decide) ?_
          refine w_isub C (pc := 72) dX0_drivePlan_72 ?_
          obtain ⟨v80, e81, e56⟩ := ob e56
          refine w_cVi C (pc := 73) dX0_drivePlan_73 my_X4_placeAt mi_X4_placeAt ml_X0_101 (sA_4 hY) rfl rfl rfl [.int (s48.2.1 - 1)] rfl rfl (Nat.le_of_ble_eq_true rfl) (tX4_placeAt (kPlan_4 hY) e81) ?_
          refine w_iload_n C (pc := 76) dX0_drivePlan_76 3 rfl ?_
          obtain ⟨v82, e83, e56⟩ := ob e56
          refine w_cVi C (pc := 77) dX0_drivePlan_77 my_X3_drive mi_X3_drive ml_X0_120 (sA_1 hY) rfl rfl rfl [.int v80, .int v53] rfl rfl (Nat.le_of_ble_eq_true rfl) (tX3_drive (kLand_1 hY) e83) ?_
          refine w_iadd C (pc := 80) dX0_drivePlan_80 ?_
          refine w_bnd e56 (fun v84 e56 => ?_)
          refine w_istore_n C (pc := 81) dX0_drivePlan_81 (lv' := [(0, .ref (adr Y 7)), (1, .int v84), (2, .int s48.2.1), (3, .int v53)]) rfl rfl rfl ?_
          obtain rfl := Option.some.inj e56
          exact Jj55
    · exact w_retV C (pc := 161) dX0_drivePlan_161 rfl (Option.some.inj h)
theorem dX0_drivenTo_0 : decode cX0_drivenTo 0 = .ok (.iload_n 1, 1) := by decide +kernel
theorem dX0_drivenTo_1 : decode cX0_drivenTo 1 = .ok (.ifCond .le 21, 3) := by decide +kernel
theorem dX0_drivenTo_4 : decode cX0_drivenTo 4 = .ok (.aload_n 0, 1) := by decide +kernel
theorem dX0_drivenTo_5 : decode cX0_drivenTo 5 = .ok (.getfield 18, 3) := by decide +kernel
theorem dX0_drivenTo_8 : decode cX0_drivenTo 8 = .ok (.iload_n 1, 1) := by decide +kernel
theorem dX0_drivenTo_9 : decode cX0_drivenTo 9 = .ok (.iaload, 1) := by decide +kernel
theorem dX0_drivenTo_10 : decode cX0_drivenTo 10 = .ok (.aload_n 0, 1) := by decide +kernel
theorem dX0_drivenTo_11 : decode cX0_drivenTo 11 = .ok (.getfield 25, 3) := by decide +kernel
theorem dX0_drivenTo_14 : decode cX0_drivenTo 14 = .ok (.iload_n 1, 1) := by decide +kernel
theorem dX0_drivenTo_15 : decode cX0_drivenTo 15 = .ok (.iconst 1, 1) := by decide +kernel
theorem dX0_drivenTo_16 : decode cX0_drivenTo 16 = .ok (.isub, 1) := by decide +kernel
theorem dX0_drivenTo_17 : decode cX0_drivenTo 17 = .ok (.iaload, 1) := by decide +kernel
theorem dX0_drivenTo_18 : decode cX0_drivenTo 18 = .ok (.isub, 1) := by decide +kernel
theorem dX0_drivenTo_19 : decode cX0_drivenTo 19 = .ok (.goto 4, 3) := by decide +kernel
theorem dX0_drivenTo_22 : decode cX0_drivenTo 22 = .ok (.iconst 0, 1) := by decide +kernel
theorem dX0_drivenTo_23 : decode cX0_drivenTo 23 = .ok (.ireturn, 1) := by decide +kernel
def pX0_drivenTo (x1 : Int32) (M : Mm) : Option (Int32) :=
if x1 ≤ 0 then
(some 0)
else
((ald M 10 10 x1).bind fun v1 =>
(ald M 12 10 (x1 - 1)).bind fun v3 =>
some (v1 - v3))
abbrev zX0_drivenTo : Zx := (cX0_drivenTo, RX0, 2, 0, (some .int))
set_option maxRecDepth 100000 in
set_option maxHeartbeats 4000000 in
theorem tX0_drivenTo {l : Launch} {Y : Sx} {M : Mm} {x1 : Int32} {q : Int32} (hY : isA Y) (h : pX0_drivenTo x1 M = some q) : Ct l Y yX0_drivenTo cX0_drivenTo 2 (some .int) 0 [.ref (adr Y 7), .int x1] M (some q) M := by
  refine Ct.of (by decide) rfl (lv := [(0, .ref (adr Y 7)), (1, .int x1)]) rfl ?_
  intro K hkl C
  change Cx K zX0_drivenTo Y at C
  subst hkl
  unfold pX0_drivenTo at h
  show Wp K zX0_drivenTo Y (Qm K Y (some q) M) M 0 [(0, .ref (adr Y 7)), (1, .int x1)] []
  refine w_iload_n C (pc := 0) dX0_drivenTo_0 1 rfl ?_
  refine w_ifle C (pc := 1) 22 dX0_drivenTo_1 (by decide) (fun c => ?_) (fun c => ?_)
  · have h := it_t h c
    refine w_iconst C (pc := 22) dX0_drivenTo_22 (v := 0) (by decide) ?_
    exact w_retR C (pc := 23) dX0_drivenTo_23 rfl (Option.some.inj h)
  · have h := it_f h c
    refine w_aload_n C (pc := 4) dX0_drivenTo_4 0 rfl ?_
    refine w_getR C (pc := 5) dX0_drivenTo_5 f_X0_18 (sA_7 hY) rfl ?_
    refine w_iload_n C (pc := 8) dX0_drivenTo_8 1 rfl ?_
    obtain ⟨v1, e2, h⟩ := ob h
    refine w_iald C (pc := 9) dX0_drivenTo_9 (sA_10 hY) e2 ?_
    refine w_aload_n C (pc := 10) dX0_drivenTo_10 0 rfl ?_
    refine w_getR C (pc := 11) dX0_drivenTo_11 f_X0_25 (sA_7 hY) rfl ?_
    refine w_iload_n C (pc := 14) dX0_drivenTo_14 1 rfl ?_
    refine w_iconst C (pc := 15) dX0_drivenTo_15 (v := 1) (by decide) ?_
    refine w_isub C (pc := 16) dX0_drivenTo_16 ?_
    obtain ⟨v3, e4, h⟩ := ob h
    refine w_iald C (pc := 17) dX0_drivenTo_17 (sA_12 hY) e4 ?_
    refine w_isub C (pc := 18) dX0_drivenTo_18 ?_
    refine w_goto C (pc := 19) 23 dX0_drivenTo_19 (by decide) ?_
    exact w_retR C (pc := 23) dX0_drivenTo_23 rfl (Option.some.inj h)
theorem dX0_flownBy_0 : decode cX0_flownBy 0 = .ok (.aload_n 0, 1) := by decide +kernel
theorem dX0_flownBy_1 : decode cX0_flownBy 1 = .ok (.getfield 34, 3) := by decide +kernel
theorem dX0_flownBy_4 : decode cX0_flownBy 4 = .ok (.iload_n 1, 1) := by decide +kernel
theorem dX0_flownBy_5 : decode cX0_flownBy 5 = .ok (.iaload, 1) := by decide +kernel
theorem dX0_flownBy_6 : decode cX0_flownBy 6 = .ok (.aload_n 0, 1) := by decide +kernel
theorem dX0_flownBy_7 : decode cX0_flownBy 7 = .ok (.getfield 31, 3) := by decide +kernel
theorem dX0_flownBy_10 : decode cX0_flownBy 10 = .ok (.iload_n 1, 1) := by decide +kernel
theorem dX0_flownBy_11 : decode cX0_flownBy 11 = .ok (.iaload, 1) := by decide +kernel
theorem dX0_flownBy_12 : decode cX0_flownBy 12 = .ok (.isub, 1) := by decide +kernel
theorem dX0_flownBy_13 : decode cX0_flownBy 13 = .ok (.aload_n 0, 1) := by decide +kernel
theorem dX0_flownBy_14 : decode cX0_flownBy 14 = .ok (.getfield 40, 3) := by decide +kernel
theorem dX0_flownBy_17 : decode cX0_flownBy 17 = .ok (.aload_n 0, 1) := by decide +kernel
theorem dX0_flownBy_18 : decode cX0_flownBy 18 = .ok (.getfield 44, 3) := by decide +kernel
theorem dX0_flownBy_21 : decode cX0_flownBy 21 = .ok (.iload_n 1, 1) := by decide +kernel
theorem dX0_flownBy_22 : decode cX0_flownBy 22 = .ok (.iconst 2, 1) := by decide +kernel
theorem dX0_flownBy_23 : decode cX0_flownBy 23 = .ok (.invokevirtual 82, 3) := by decide +kernel
theorem dX0_flownBy_26 : decode cX0_flownBy 26 = .ok (.iconst 3, 1) := by decide +kernel
theorem dX0_flownBy_27 : decode cX0_flownBy 27 = .ok (.invokevirtual 127, 3) := by decide +kernel
theorem dX0_flownBy_30 : decode cX0_flownBy 30 = .ok (.isub, 1) := by decide +kernel
theorem dX0_flownBy_31 : decode cX0_flownBy 31 = .ok (.ireturn, 1) := by decide +kernel
def pX0_flownBy (x1 : Int32) (M : Mm) : Option (Int32) :=
(ald M 15 8 x1).bind fun v1 =>
(ald M 14 8 x1).bind fun v3 =>
(pX4_part 4 x1 2 M).bind fun v5 =>
(pX3_fact 1 v5 3 M).bind fun v7 =>
some ((v1 - v3) - v7)
abbrev zX0_flownBy : Zx := (cX0_flownBy, RX0, 2, 1, (some .int))
set_option maxRecDepth 100000 in
set_option maxHeartbeats 4000000 in
theorem tX0_flownBy {l : Launch} {Y : Sx} {M : Mm} {x1 : Int32} {q : Int32} (hY : isA Y) (h : pX0_flownBy x1 M = some q) : Ct l Y yX0_flownBy cX0_flownBy 2 (some .int) 1 [.ref (adr Y 7), .int x1] M (some q) M := by
  refine Ct.of (by decide) rfl (lv := [(0, .ref (adr Y 7)), (1, .int x1)]) rfl ?_
  intro K hkl C
  change Cx K zX0_flownBy Y at C
  subst hkl
  unfold pX0_flownBy at h
  show Wp K zX0_flownBy Y (Qm K Y (some q) M) M 0 [(0, .ref (adr Y 7)), (1, .int x1)] []
  refine w_aload_n C (pc := 0) dX0_flownBy_0 0 rfl ?_
  refine w_getR C (pc := 1) dX0_flownBy_1 f_X0_34 (sA_7 hY) rfl ?_
  refine w_iload_n C (pc := 4) dX0_flownBy_4 1 rfl ?_
  obtain ⟨v1, e2, h⟩ := ob h
  refine w_iald C (pc := 5) dX0_flownBy_5 (sA_15 hY) e2 ?_
  refine w_aload_n C (pc := 6) dX0_flownBy_6 0 rfl ?_
  refine w_getR C (pc := 7) dX0_flownBy_7 f_X0_31 (sA_7 hY) rfl ?_
  refine w_iload_n C (pc := 10) dX0_flownBy_10 1 rfl ?_
  obtain ⟨v3, e4, h⟩ := ob h
  refine w_iald C (pc := 11) dX0_flownBy_11 (sA_14 hY) e4 ?_
  refine w_isub C (pc := 12) dX0_flownBy_12 ?_
  refine w_aload_n C (pc := 13) dX0_flownBy_13 0 rfl ?_
  refine w_getR C (pc := 14) dX0_flownBy_14 f_X0_40 (sA_7 hY) rfl ?_
  refine w_aload_n C (pc := 17) dX0_flownBy_17 0 rfl ?_
  refine w_getR C (pc := 18) dX0_flownBy_18 f_X0_44 (sA_7 hY) rfl ?_
  refine w_iload_n C (pc := 21) dX0_flownBy_21 1 rfl ?_
  refine w_iconst C (pc := 22) dX0_flownBy_22 (v := 2) (by decide) ?_
  obtain ⟨v5, e6, h⟩ := ob h
  refine w_cVi C (pc := 23) dX0_flownBy_23 my_X4_part mi_X4_part ml_X0_82 (sA_4 hY) rfl rfl rfl [.int x1, .int 2] rfl rfl (Nat.le_of_ble_eq_true rfl) (tX4_part (kPlan_4 hY) e6) ?_
  refine w_iconst C (pc := 26) dX0_flownBy_26 (v := 3) (by decide) ?_
  obtain ⟨v7, e8, h⟩ := ob h
  refine w_cVi C (pc := 27) dX0_flownBy_27 my_X3_fact mi_X3_fact ml_X0_127 (sA_1 hY) rfl rfl rfl [.int v5, .int 3] rfl rfl (Nat.le_of_ble_eq_true rfl) (tX3_fact (kLand_1 hY) e8) ?_
  refine w_isub C (pc := 30) dX0_flownBy_30 ?_
  exact w_retR C (pc := 31) dX0_flownBy_31 rfl (Option.some.inj h)
theorem dX0_told_0 : decode cX0_told 0 = .ok (.iload_n 0, 1) := by decide +kernel
theorem dX0_told_1 : decode cX0_told 1 = .ok (.bipush 16, 2) := by decide +kernel
theorem dX0_told_3 : decode cX0_told 3 = .ok (.iload_n 1, 1) := by decide +kernel
theorem dX0_told_4 : decode cX0_told 4 = .ok (.imul, 1) := by decide +kernel
theorem dX0_told_5 : decode cX0_told 5 = .ok (.iadd, 1) := by decide +kernel
theorem dX0_told_6 : decode cX0_told 6 = .ok (.ireturn, 1) := by decide +kernel
def pX0_told (x0 : Int32) (x1 : Int32) : Int32 :=
x0 + (16 * x1)
abbrev zX0_told : Zx := (cX0_told, RX0, 2, 0, (some .int))
set_option maxRecDepth 100000 in
set_option maxHeartbeats 4000000 in
theorem tX0_told {l : Launch} {Y : Sx} {M : Mm} {x0 : Int32} {x1 : Int32} {q : Int32} (h : pX0_told x0 x1 = q) : Ct l Y yX0_told cX0_told 2 (some .int) 0 [.int x0, .int x1] M (some q) M := by
  refine Ct.of (by decide) rfl (lv := [(0, .int x0), (1, .int x1)]) rfl ?_
  intro K hkl C
  change Cx K zX0_told Y at C
  subst hkl
  unfold pX0_told at h
  show Wp K zX0_told Y (Qm K Y (some q) M) M 0 [(0, .int x0), (1, .int x1)] []
  refine w_iload_n C (pc := 0) dX0_told_0 0 rfl ?_
  refine w_bipush C (pc := 1) dX0_told_1 (v := 16) (by decide) ?_
  refine w_iload_n C (pc := 3) dX0_told_3 1 rfl ?_
  refine w_imul C (pc := 4) dX0_told_4 ?_
  refine w_iadd C (pc := 5) dX0_told_5 ?_
  exact w_retR C (pc := 6) dX0_told_6 rfl h
theorem dX0_impossibleSortie_0 : decode cX0_impossibleSortie 0 = .ok (.iconst 0, 1) := by decide +kernel
theorem dX0_impossibleSortie_1 : decode cX0_impossibleSortie 1 = .ok (.istore_n 1, 1) := by decide +kernel
theorem dX0_impossibleSortie_2 : decode cX0_impossibleSortie 2 = .ok (.iload_n 1, 1) := by decide +kernel
theorem dX0_impossibleSortie_3 : decode cX0_impossibleSortie 3 = .ok (.aload_n 0, 1) := by decide +kernel
theorem dX0_impossibleSortie_4 : decode cX0_impossibleSortie 4 = .ok (.getfield 44, 3) := by decide +kernel
theorem dX0_impossibleSortie_7 : decode cX0_impossibleSortie 7 = .ok (.getfield 77, 3) := by decide +kernel
theorem dX0_impossibleSortie_10 : decode cX0_impossibleSortie 10 = .ok (.if_icmp .ge 72, 3) := by decide +kernel
theorem dX0_impossibleSortie_13 : decode cX0_impossibleSortie 13 = .ok (.aload_n 0, 1) := by decide +kernel
theorem dX0_impossibleSortie_14 : decode cX0_impossibleSortie 14 = .ok (.getfield 44, 3) := by decide +kernel
theorem dX0_impossibleSortie_17 : decode cX0_impossibleSortie 17 = .ok (.iload_n 1, 1) := by decide +kernel
theorem dX0_impossibleSortie_18 : decode cX0_impossibleSortie 18 = .ok (.iconst 1, 1) := by decide +kernel
theorem dX0_impossibleSortie_19 : decode cX0_impossibleSortie 19 = .ok (.invokevirtual 82, 3) := by decide +kernel
theorem dX0_impossibleSortie_22 : decode cX0_impossibleSortie 22 = .ok (.istore_n 2, 1) := by decide +kernel
theorem dX0_impossibleSortie_23 : decode cX0_impossibleSortie 23 = .ok (.aload_n 0, 1) := by decide +kernel
theorem dX0_impossibleSortie_24 : decode cX0_impossibleSortie 24 = .ok (.getfield 44, 3) := by decide +kernel
theorem dX0_impossibleSortie_27 : decode cX0_impossibleSortie 27 = .ok (.iload_n 1, 1) := by decide +kernel
theorem dX0_impossibleSortie_28 : decode cX0_impossibleSortie 28 = .ok (.iconst 3, 1) := by decide +kernel
theorem dX0_impossibleSortie_29 : decode cX0_impossibleSortie 29 = .ok (.invokevirtual 82, 3) := by decide +kernel
theorem dX0_impossibleSortie_32 : decode cX0_impossibleSortie 32 = .ok (.istore_n 3, 1) := by decide +kernel
theorem dX0_impossibleSortie_33 : decode cX0_impossibleSortie 33 = .ok (.aload_n 0, 1) := by decide +kernel
theorem dX0_impossibleSortie_34 : decode cX0_impossibleSortie 34 = .ok (.getfield 44, 3) := by decide +kernel
theorem dX0_impossibleSortie_37 : decode cX0_impossibleSortie 37 = .ok (.iload_n 1, 1) := by decide +kernel
theorem dX0_impossibleSortie_38 : decode cX0_impossibleSortie 38 = .ok (.iconst 0, 1) := by decide +kernel
theorem dX0_impossibleSortie_39 : decode cX0_impossibleSortie 39 = .ok (.invokevirtual 82, 3) := by decide +kernel
theorem dX0_impossibleSortie_42 : decode cX0_impossibleSortie 42 = .ok (.aload_n 0, 1) := by decide +kernel
theorem dX0_impossibleSortie_43 : decode cX0_impossibleSortie 43 = .ok (.getfield 40, 3) := by decide +kernel
theorem dX0_impossibleSortie_46 : decode cX0_impossibleSortie 46 = .ok (.bipush 8, 2) := by decide +kernel
theorem dX0_impossibleSortie_48 : decode cX0_impossibleSortie 48 = .ok (.invokevirtual 86, 3) := by decide +kernel
theorem dX0_impossibleSortie_51 : decode cX0_impossibleSortie 51 = .ok (.if_icmp .ge 19, 3) := by decide +kernel
theorem dX0_impossibleSortie_54 : decode cX0_impossibleSortie 54 = .ok (.iload_n 3, 1) := by decide +kernel
theorem dX0_impossibleSortie_55 : decode cX0_impossibleSortie 55 = .ok (.aload_n 0, 1) := by decide +kernel
theorem dX0_impossibleSortie_56 : decode cX0_impossibleSortie 56 = .ok (.getfield 44, 3) := by decide +kernel
theorem dX0_impossibleSortie_59 : decode cX0_impossibleSortie 59 = .ok (.invokevirtual 92, 3) := by decide +kernel
theorem dX0_impossibleSortie_62 : decode cX0_impossibleSortie 62 = .ok (.if_icmp .ge 8, 3) := by decide +kernel
theorem dX0_impossibleSortie_65 : decode cX0_impossibleSortie 65 = .ok (.iload_n 3, 1) := by decide +kernel
theorem dX0_impossibleSortie_66 : decode cX0_impossibleSortie 66 = .ok (.iload_n 2, 1) := by decide +kernel
theorem dX0_impossibleSortie_67 : decode cX0_impossibleSortie 67 = .ok (.if_icmp .gt 9, 3) := by decide +kernel
theorem dX0_impossibleSortie_70 : decode cX0_impossibleSortie 70 = .ok (.iconst 1, 1) := by decide +kernel
theorem dX0_impossibleSortie_71 : decode cX0_impossibleSortie 71 = .ok (.iload_n 1, 1) := by decide +kernel
theorem dX0_impossibleSortie_72 : decode cX0_impossibleSortie 72 = .ok (.invokestatic 95, 3) := by decide +kernel
theorem dX0_impossibleSortie_75 : decode cX0_impossibleSortie 75 = .ok (.ireturn, 1) := by decide +kernel
theorem dX0_impossibleSortie_76 : decode cX0_impossibleSortie 76 = .ok (.iinc 1 1, 3) := by decide +kernel
theorem dX0_impossibleSortie_79 : decode cX0_impossibleSortie 79 = .ok (.goto (-77), 3) := by decide +kernel
theorem dX0_impossibleSortie_82 : decode cX0_impossibleSortie 82 = .ok (.iconst 0, 1) := by decide +kernel
theorem dX0_impossibleSortie_83 : decode cX0_impossibleSortie 83 = .ok (.ireturn, 1) := by decide +kernel
def pX0_impossibleSortie_L2 (M : Mm) (s : Int32) : Option ((Int32) ⊕ ((Unit) ⊕ (Int32))) :=
if (M 4 1) ≤ s then
(some (Sum.inr (Sum.inl ())))
else
((pX4_part 4 s 1 M).bind fun v1 =>
(pX4_part 4 s 3 M).bind fun v3 =>
(pX4_part 4 s 0 M).bind fun v5 =>
(pX3_setting 1 8 M).bind fun v7 =>
if v7 ≤ v5 then
(some (Sum.inr (Sum.inr (pX0_told 1 s))))
else
(if (pX4_stops 4 M) ≤ v3 then
(some (Sum.inr (Sum.inr (pX0_told 1 s))))
else
(if v1 < v3 then
(some (Sum.inl (s + 1)))
else
(some (Sum.inr (Sum.inr (pX0_told 1 s)))))))
def pX0_impossibleSortie (M : Mm) : Option (Int32) :=
(itr (pX0_impossibleSortie_L2 M) fuel 0).bind fun x12 =>
Sum.elim (fun yx12 =>
some 0) (fun r => some r) x12
abbrev zX0_impossibleSortie : Zx := (cX0_impossibleSortie, RX0, 4, 1, (some .int))
set_option maxRecDepth 100000 in
set_option maxHeartbeats 4000000 in
theorem tX0_impossibleSortie {l : Launch} {Y : Sx} {M : Mm} {q : Int32} (hY : isA Y) (h : pX0_impossibleSortie M = some q) : Ct l Y yX0_impossibleSortie cX0_impossibleSortie 4 (some .int) 1 [.ref (adr Y 7)] M (some q) M := by
  refine Ct.of (by decide) rfl (lv := [(0, .ref (adr Y 7))]) rfl ?_
  intro K hkl C
  change Cx K zX0_impossibleSortie Y at C
  subst hkl
  unfold pX0_impossibleSortie at h
  show Wp K zX0_impossibleSortie Y (Qm K Y (some q) M) M 0 [(0, .ref (adr Y 7))] []
  refine w_iconst C (pc := 0) dX0_impossibleSortie_0 (v := 0) (by decide) ?_
  refine w_istore_n C (pc := 1) dX0_impossibleSortie_1 (lv' := [(0, .ref (adr Y 7)), (1, .int 0)]) rfl rfl rfl ?_
  obtain ⟨x12, e13, h⟩ := ob h
  refine itr_W (P := fun s14 => Wp K zX0_impossibleSortie Y (Qm K Y (some q) M) M 2 [(0, .ref (adr Y 7)), (1, .int s14)] []) (R := fun x9 => (∀ yx12, x9 = Sum.inl yx12 → Wp K zX0_impossibleSortie Y (Qm K Y (some q) M) M 82 [(0, .ref (adr Y 7))] []) ∧ (∀ v9, x9 = Sum.inr v9 → some v9 = some q)) ?_ fuel 0 x12 e13 ?_
  · intro s14 r15 h18 ki16 kx17
    unfold pX0_impossibleSortie_L2 at h18
    show Wp K zX0_impossibleSortie Y (Qm K Y (some q) M) M 2 [(0, .ref (adr Y 7)), (1, .int s14)] []
    refine w_iload_n C (pc := 2) dX0_impossibleSortie_2 1 rfl ?_
    refine w_aload_n C (pc := 3) dX0_impossibleSortie_3 0 rfl ?_
    refine w_getR C (pc := 4) dX0_impossibleSortie_4 f_X0_44 (sA_7 hY) rfl ?_
    refine w_getI C (pc := 7) dX0_impossibleSortie_7 f_X0_77 (sA_4 hY) rfl ?_
    refine w_icge C (pc := 10) 82 dX0_impossibleSortie_10 (by decide) (fun c => ?_) (fun c => ?_)
    · have h18 := it_t h18 c
      obtain rfl := Option.some.inj h18
      refine w_lv [0] rfl ?_
      have k9 := (kx17 (Sum.inl ()) rfl).1 () rfl
      try dsimp only at k9
      exact k9
    · have h18 := it_f h18 c
      refine w_aload_n C (pc := 13) dX0_impossibleSortie_13 0 rfl ?_
      refine w_getR C (pc := 14) dX0_impossibleSortie_14 f_X0_44 (sA_7 hY) rfl ?_
      refine w_iload_n C (pc := 17) dX0_impossibleSortie_17 1 rfl ?_
      refine w_iconst C (pc := 18) dX0_impossibleSortie_18 (v := 1) (by decide) ?_
      obtain ⟨v19, e20, h18⟩ := ob h18
      refine w_cVi C (pc := 19) dX0_impossibleSortie_19 my_X4_part mi_X4_part ml_X0_82 (sA_4 hY) rfl rfl rfl [.int s14, .int 1] rfl rfl (Nat.le_of_ble_eq_true rfl) (tX4_part (kPlan_4 hY) e20) ?_
      refine w_istore_n C (pc := 22) dX0_impossibleSortie_22 (lv' := [(0, .ref (adr Y 7)), (1, .int s14), (2, .int v19)]) rfl rfl rfl ?_
      refine w_aload_n C (pc := 23) dX0_impossibleSortie_23 0 rfl ?_
      refine w_getR C (pc := 24) dX0_impossibleSortie_24 f_X0_44 (sA_7 hY) rfl ?_
      refine w_iload_n C (pc := 27) dX0_impossibleSortie_27 1 rfl ?_
      refine w_iconst C (pc := 28) dX0_impossibleSortie_28 (v := 3) (by decide) ?_
      obtain ⟨v21, e22, h18⟩ := ob h18
      refine w_cVi C (pc := 29) dX0_impossibleSortie_29 my_X4_part mi_X4_part ml_X0_82 (sA_4 hY) rfl rfl rfl [.int s14, .int 3] rfl rfl (Nat.le_of_ble_eq_true rfl) (tX4_part (kPlan_4 hY) e22) ?_
      refine w_istore_n C (pc := 32) dX0_impossibleSortie_32 (lv' := [(0, .ref (adr Y 7)), (1, .int s14), (2, .int v19), (3, .int v21)]) rfl rfl rfl ?_
      refine w_aload_n C (pc := 33) dX0_impossibleSortie_33 0 rfl ?_
      refine w_getR C (pc := 34) dX0_impossibleSortie_34 f_X0_44 (sA_7 hY) rfl ?_
      refine w_iload_n C (pc := 37) dX0_impossibleSortie_37 1 rfl ?_
      refine w_iconst C (pc := 38) dX0_impossibleSortie_38 (v := 0) (by decide) ?_
      obtain ⟨v23, e24, h18⟩ := ob h18
      refine w_cVi C (pc := 39) dX0_impossibleSortie_39 my_X4_part mi_X4_part ml_X0_82 (sA_4 hY) rfl rfl rfl [.int s14, .int 0] rfl rfl (Nat.le_of_ble_eq_true rfl) (tX4_part (kPlan_4 hY) e24) ?_
      refine w_aload_n C (pc := 42) dX0_impossibleSortie_42 0 rfl ?_
      refine w_getR C (pc := 43) dX0_impossibleSortie_43 f_X0_40 (sA_7 hY) rfl ?_
      refine w_bipush C (pc := 46) dX0_impossibleSortie_46 (v := 8) (by decide) ?_
      obtain ⟨v25, e26, h18⟩ := ob h18
      refine w_cVi C (pc := 48) dX0_impossibleSortie_48 my_X3_setting mi_X3_setting ml_X0_86 (sA_1 hY) rfl rfl rfl [.int 8] rfl rfl (Nat.le_of_ble_eq_true rfl) (tX3_setting (kLand_1 hY) e26) ?_
      refine w_icge C (pc := 51) 70 dX0_impossibleSortie_51 (by decide) (fun c => ?_) (fun c => ?_)
      · have h18 := it_t h18 c
        refine w_iconst C (pc := 70) dX0_impossibleSortie_70 (v := 1) (by decide) ?_
        refine w_iload_n C (pc := 71) dX0_impossibleSortie_71 1 rfl ?_
        refine w_cSi C (pc := 72) dX0_impossibleSortie_72 my_X0_told ms_X0_told ml_X0_95 rfl rfl [.int 1, .int s14] rfl rfl (Nat.le_of_ble_eq_true rfl) (tX0_told  rfl) ?_
        obtain rfl := Option.some.inj h18
        have h27 := (kx17 (Sum.inr (pX0_told 1 s14)) rfl).2 (pX0_told 1 s14) rfl
        exact w_retR C (pc := 75) dX0_impossibleSortie_75 rfl (Option.some.inj h27)
      · have h18 := it_f h18 c
        refine w_iload_n C (pc := 54) dX0_impossibleSortie_54 3 rfl ?_
        refine w_aload_n C (pc := 55) dX0_impossibleSortie_55 0 rfl ?_
        refine w_getR C (pc := 56) dX0_impossibleSortie_56 f_X0_44 (sA_7 hY) rfl ?_
        refine w_cVi C (pc := 59) dX0_impossibleSortie_59 my_X4_stops mi_X4_stops ml_X0_92 (sA_4 hY) rfl rfl rfl [] rfl rfl (Nat.le_of_ble_eq_true rfl) (tX4_stops (kPlan_4 hY) rfl) ?_
        refine w_icge C (pc := 62) 70 dX0_impossibleSortie_62 (by decide) (fun c => ?_) (fun c => ?_)
        · have h18 := it_t h18 c
          refine w_iconst C (pc := 70) dX0_impossibleSortie_70 (v := 1) (by decide) ?_
          refine w_iload_n C (pc := 71) dX0_impossibleSortie_71 1 rfl ?_
          refine w_cSi C (pc := 72) dX0_impossibleSortie_72 my_X0_told ms_X0_told ml_X0_95 rfl rfl [.int 1, .int s14] rfl rfl (Nat.le_of_ble_eq_true rfl) (tX0_told  rfl) ?_
          obtain rfl := Option.some.inj h18
          have h28 := (kx17 (Sum.inr (pX0_told 1 s14)) rfl).2 (pX0_told 1 s14) rfl
          exact w_retR C (pc := 75) dX0_impossibleSortie_75 rfl (Option.some.inj h28)
        · have h18 := it_f h18 c
          refine w_iload_n C (pc := 65) dX0_impossibleSortie_65 3 rfl ?_
          refine w_iload_n C (pc := 66) dX0_impossibleSortie_66 2 rfl ?_
          refine w_icgt C (pc := 67) 76 dX0_impossibleSortie_67 (by decide) (fun c => ?_) (fun c => ?_)
          · have h18 := it_t h18 c
            refine w_iinc C (pc := 76) dX0_impossibleSortie_76 1 rfl (v := 1) (lv' := [(0, .ref (adr Y 7)), (1, .int (s14 + 1)), (2, .int v19), (3, .int v21)]) (by decide) rfl rfl rfl ?_
            refine w_goto C (pc := 79) 2 dX0_impossibleSortie_79 (by decide) ?_
            obtain rfl := Option.some.inj h18
            refine w_lv [0, 1] rfl ?_
            have k9 := ki16 (s14 + 1) rfl
            try dsimp only at k9
            exact k9
          · have h18 := it_f h18 c
            refine w_iconst C (pc := 70) dX0_impossibleSortie_70 (v := 1) (by decide) ?_
            refine w_iload_n C (pc := 71) dX0_impossibleSortie_71 1 rfl ?_
            refine w_cSi C (pc := 72) dX0_impossibleSortie_72 my_X0_told ms_X0_told ml_X0_95 rfl rfl [.int 1, .int s14] rfl rfl (Nat.le_of_ble_eq_true rfl) (tX0_told  rfl) ?_
            obtain rfl := Option.some.inj h18
            have h29 := (kx17 (Sum.inr (pX0_told 1 s14)) rfl).2 (pX0_told 1 s14) rfl
            exact w_retR C (pc := 75) dX0_impossibleSortie_75 rfl (Option.some.inj h29)
  · refine ⟨fun yx12 hy => ?_, fun v9 hv => ?_⟩
    · subst hy
      dsimp only [Sum.elim] at h
      refine w_iconst C (pc := 82) dX0_impossibleSortie_82 (v := 0) (by decide) ?_
      exact w_retR C (pc := 83) dX0_impossibleSortie_83 rfl (Option.some.inj h)
    · subst hv
      exact h
theorem dX0_lastReady_0 : decode cX0_lastReady 0 = .ok (.aload_n 0, 1) := by decide +kernel
theorem dX0_lastReady_1 : decode cX0_lastReady 1 = .ok (.getfield 22, 3) := by decide +kernel
theorem dX0_lastReady_4 : decode cX0_lastReady 4 = .ok (.aload_n 0, 1) := by decide +kernel
theorem dX0_lastReady_5 : decode cX0_lastReady 5 = .ok (.getfield 44, 3) := by decide +kernel
theorem dX0_lastReady_8 : decode cX0_lastReady 8 = .ok (.getfield 98, 3) := by decide +kernel
theorem dX0_lastReady_11 : decode cX0_lastReady 11 = .ok (.iconst 1, 1) := by decide +kernel
theorem dX0_lastReady_12 : decode cX0_lastReady 12 = .ok (.iadd, 1) := by decide +kernel
theorem dX0_lastReady_13 : decode cX0_lastReady 13 = .ok (.iaload, 1) := by decide +kernel
theorem dX0_lastReady_14 : decode cX0_lastReady 14 = .ok (.ireturn, 1) := by decide +kernel
def pX0_lastReady (M : Mm) : Option (Int32) :=
(ald M 11 10 ((M 4 0) + 1)).bind fun v1 =>
some v1
abbrev zX0_lastReady : Zx := (cX0_lastReady, RX0, 1, 0, (some .int))
set_option maxRecDepth 100000 in
set_option maxHeartbeats 4000000 in
theorem tX0_lastReady {l : Launch} {Y : Sx} {M : Mm} {q : Int32} (hY : isA Y) (h : pX0_lastReady M = some q) : Ct l Y yX0_lastReady cX0_lastReady 1 (some .int) 0 [.ref (adr Y 7)] M (some q) M := by
  refine Ct.of (by decide) rfl (lv := [(0, .ref (adr Y 7))]) rfl ?_
  intro K hkl C
  change Cx K zX0_lastReady Y at C
  subst hkl
  unfold pX0_lastReady at h
  show Wp K zX0_lastReady Y (Qm K Y (some q) M) M 0 [(0, .ref (adr Y 7))] []
  refine w_aload_n C (pc := 0) dX0_lastReady_0 0 rfl ?_
  refine w_getR C (pc := 1) dX0_lastReady_1 f_X0_22 (sA_7 hY) rfl ?_
  refine w_aload_n C (pc := 4) dX0_lastReady_4 0 rfl ?_
  refine w_getR C (pc := 5) dX0_lastReady_5 f_X0_44 (sA_7 hY) rfl ?_
  refine w_getI C (pc := 8) dX0_lastReady_8 f_X0_98 (sA_4 hY) rfl ?_
  refine w_iconst C (pc := 11) dX0_lastReady_11 (v := 1) (by decide) ?_
  refine w_iadd C (pc := 12) dX0_lastReady_12 ?_
  obtain ⟨v1, e2, h⟩ := ob h
  refine w_iald C (pc := 13) dX0_lastReady_13 (sA_11 hY) e2 ?_
  exact w_retR C (pc := 14) dX0_lastReady_14 rfl (Option.some.inj h)
theorem dX0_timesServed_0 : decode cX0_timesServed 0 = .ok (.iconst 0, 1) := by decide +kernel
theorem dX0_timesServed_1 : decode cX0_timesServed 1 = .ok (.istore_n 2, 1) := by decide +kernel
theorem dX0_timesServed_2 : decode cX0_timesServed 2 = .ok (.iconst 1, 1) := by decide +kernel
theorem dX0_timesServed_3 : decode cX0_timesServed 3 = .ok (.istore_n 3, 1) := by decide +kernel
theorem dX0_timesServed_4 : decode cX0_timesServed 4 = .ok (.iload_n 3, 1) := by decide +kernel
theorem dX0_timesServed_5 : decode cX0_timesServed 5 = .ok (.aload_n 0, 1) := by decide +kernel
theorem dX0_timesServed_6 : decode cX0_timesServed 6 = .ok (.getfield 44, 3) := by decide +kernel
theorem dX0_timesServed_9 : decode cX0_timesServed 9 = .ok (.getfield 98, 3) := by decide +kernel
theorem dX0_timesServed_12 : decode cX0_timesServed 12 = .ok (.if_icmp .gt 24, 3) := by decide +kernel
theorem dX0_timesServed_15 : decode cX0_timesServed 15 = .ok (.aload_n 0, 1) := by decide +kernel
theorem dX0_timesServed_16 : decode cX0_timesServed 16 = .ok (.getfield 44, 3) := by decide +kernel
theorem dX0_timesServed_19 : decode cX0_timesServed 19 = .ok (.iload_n 3, 1) := by decide +kernel
theorem dX0_timesServed_20 : decode cX0_timesServed 20 = .ok (.invokevirtual 101, 3) := by decide +kernel
theorem dX0_timesServed_23 : decode cX0_timesServed 23 = .ok (.iload_n 1, 1) := by decide +kernel
theorem dX0_timesServed_24 : decode cX0_timesServed 24 = .ok (.if_icmp .ne 6, 3) := by decide +kernel
theorem dX0_timesServed_27 : decode cX0_timesServed 27 = .ok (.iinc 2 1, 3) := by decide +kernel
theorem dX0_timesServed_30 : decode cX0_timesServed 30 = .ok (.iinc 3 1, 3) := by decide +kernel
theorem dX0_timesServed_33 : decode cX0_timesServed 33 = .ok (.goto (-29), 3) := by decide +kernel
theorem dX0_timesServed_36 : decode cX0_timesServed 36 = .ok (.iconst 0, 1) := by decide +kernel
theorem dX0_timesServed_37 : decode cX0_timesServed 37 = .ok (.istore_n 3, 1) := by decide +kernel
theorem dX0_timesServed_38 : decode cX0_timesServed 38 = .ok (.iload_n 3, 1) := by decide +kernel
theorem dX0_timesServed_39 : decode cX0_timesServed 39 = .ok (.aload_n 0, 1) := by decide +kernel
theorem dX0_timesServed_40 : decode cX0_timesServed 40 = .ok (.getfield 44, 3) := by decide +kernel
theorem dX0_timesServed_43 : decode cX0_timesServed 43 = .ok (.getfield 77, 3) := by decide +kernel
theorem dX0_timesServed_46 : decode cX0_timesServed 46 = .ok (.if_icmp .ge 25, 3) := by decide +kernel
theorem dX0_timesServed_49 : decode cX0_timesServed 49 = .ok (.aload_n 0, 1) := by decide +kernel
theorem dX0_timesServed_50 : decode cX0_timesServed 50 = .ok (.getfield 44, 3) := by decide +kernel
theorem dX0_timesServed_53 : decode cX0_timesServed 53 = .ok (.iload_n 3, 1) := by decide +kernel
theorem dX0_timesServed_54 : decode cX0_timesServed 54 = .ok (.iconst 2, 1) := by decide +kernel
theorem dX0_timesServed_55 : decode cX0_timesServed 55 = .ok (.invokevirtual 82, 3) := by decide +kernel
theorem dX0_timesServed_58 : decode cX0_timesServed 58 = .ok (.iload_n 1, 1) := by decide +kernel
theorem dX0_timesServed_59 : decode cX0_timesServed 59 = .ok (.if_icmp .ne 6, 3) := by decide +kernel
theorem dX0_timesServed_62 : decode cX0_timesServed 62 = .ok (.iinc 2 1, 3) := by decide +kernel
theorem dX0_timesServed_65 : decode cX0_timesServed 65 = .ok (.iinc 3 1, 3) := by decide +kernel
theorem dX0_timesServed_68 : decode cX0_timesServed 68 = .ok (.goto (-30), 3) := by decide +kernel
theorem dX0_timesServed_71 : decode cX0_timesServed 71 = .ok (.iload_n 2, 1) := by decide +kernel
theorem dX0_timesServed_72 : decode cX0_timesServed 72 = .ok (.ireturn, 1) := by decide +kernel
def pX0_timesServed_L4 (x1 : Int32) (M : Mm) (s : Int32 × Int32) : Option ((Int32 × Int32) ⊕ (Int32)) :=
if (M 4 0) < s.2 then
(some (Sum.inr s.1))
else
((pX4_placeAt 4 s.2 M).bind fun v1 =>
if v1 = x1 then
(some (Sum.inl (s.1 + 1, s.2 + 1)))
else
(some (Sum.inl (s.1, s.2 + 1))))
def pX0_timesServed_L38 (x1 : Int32) (M : Mm) (s : Int32 × Int32) : Option ((Int32 × Int32) ⊕ (Int32)) :=
if (M 4 1) ≤ s.2 then
(some (Sum.inr s.1))
else
((pX4_part 4 s.2 2 M).bind fun v12 =>
if v12 = x1 then
(some (Sum.inl (s.1 + 1, s.2 + 1)))
else
(some (Sum.inl (s.1, s.2 + 1))))
def pX0_timesServed (x1 : Int32) (M : Mm) : Option (Int32) :=
(itr (pX0_timesServed_L4 x1 M) fuel (0, 1)).bind fun x3 =>
(itr (pX0_timesServed_L38 x1 M) fuel (x3, 0)).bind fun x14 =>
some x14
abbrev zX0_timesServed : Zx := (cX0_timesServed, RX0, 4, 1, (some .int))
set_option maxRecDepth 100000 in
set_option maxHeartbeats 4000000 in
theorem tX0_timesServed {l : Launch} {Y : Sx} {M : Mm} {x1 : Int32} {q : Int32} (hY : isA Y) (h : pX0_timesServed x1 M = some q) : Ct l Y yX0_timesServed cX0_timesServed 4 (some .int) 1 [.ref (adr Y 7), .int x1] M (some q) M := by
  refine Ct.of (by decide) rfl (lv := [(0, .ref (adr Y 7)), (1, .int x1)]) rfl ?_
  intro K hkl C
  change Cx K zX0_timesServed Y at C
  subst hkl
  unfold pX0_timesServed at h
  show Wp K zX0_timesServed Y (Qm K Y (some q) M) M 0 [(0, .ref (adr Y 7)), (1, .int x1)] []
  refine w_iconst C (pc := 0) dX0_timesServed_0 (v := 0) (by decide) ?_
  refine w_istore_n C (pc := 1) dX0_timesServed_1 (lv' := [(0, .ref (adr Y 7)), (1, .int x1), (2, .int 0)]) rfl rfl rfl ?_
  refine w_iconst C (pc := 2) dX0_timesServed_2 (v := 1) (by decide) ?_
  refine w_istore_n C (pc := 3) dX0_timesServed_3 (lv' := [(0, .ref (adr Y 7)), (1, .int x1), (2, .int 0), (3, .int 1)]) rfl rfl rfl ?_
  obtain ⟨x3, e4, h⟩ := ob h
  refine itr_W (P := fun s5 => Wp K zX0_timesServed Y (Qm K Y (some q) M) M 4 [(0, .ref (adr Y 7)), (1, .int x1), (2, .int s5.1), (3, .int s5.2)] []) (R := fun x3 => Wp K zX0_timesServed Y (Qm K Y (some q) M) M 36 [(0, .ref (adr Y 7)), (1, .int x1), (2, .int x3)] []) ?_ fuel (0, 1) x3 e4 ?_
  · intro s5 r6 h9 ki7 kx8
    unfold pX0_timesServed_L4 at h9
    show Wp K zX0_timesServed Y (Qm K Y (some q) M) M 4 [(0, .ref (adr Y 7)), (1, .int x1), (2, .int s5.1), (3, .int s5.2)] []
    refine w_iload_n C (pc := 4) dX0_timesServed_4 3 rfl ?_
    refine w_aload_n C (pc := 5) dX0_timesServed_5 0 rfl ?_
    refine w_getR C (pc := 6) dX0_timesServed_6 f_X0_44 (sA_7 hY) rfl ?_
    refine w_getI C (pc := 9) dX0_timesServed_9 f_X0_98 (sA_4 hY) rfl ?_
    refine w_icgt C (pc := 12) 36 dX0_timesServed_12 (by decide) (fun c => ?_) (fun c => ?_)
    · have h9 := it_t h9 c
      obtain rfl := Option.some.inj h9
      refine w_lv [0, 1, 2] rfl ?_
      have k9 := kx8 s5.1 rfl
      try dsimp only at k9
      exact k9
    · have h9 := it_f h9 c
      refine w_aload_n C (pc := 15) dX0_timesServed_15 0 rfl ?_
      refine w_getR C (pc := 16) dX0_timesServed_16 f_X0_44 (sA_7 hY) rfl ?_
      refine w_iload_n C (pc := 19) dX0_timesServed_19 3 rfl ?_
      obtain ⟨v10, e11, h9⟩ := ob h9
      refine w_cVi C (pc := 20) dX0_timesServed_20 my_X4_placeAt mi_X4_placeAt ml_X0_101 (sA_4 hY) rfl rfl rfl [.int s5.2] rfl rfl (Nat.le_of_ble_eq_true rfl) (tX4_placeAt (kPlan_4 hY) e11) ?_
      refine w_iload_n C (pc := 23) dX0_timesServed_23 1 rfl ?_
      refine w_icne C (pc := 24) 30 dX0_timesServed_24 (by decide) (fun c => ?_) (fun c => ?_)
      · have h9 := it_t h9 c
        refine w_iinc C (pc := 27) dX0_timesServed_27 2 rfl (v := 1) (lv' := [(0, .ref (adr Y 7)), (1, .int x1), (2, .int (s5.1 + 1)), (3, .int s5.2)]) (by decide) rfl rfl rfl ?_
        refine w_iinc C (pc := 30) dX0_timesServed_30 3 rfl (v := 1) (lv' := [(0, .ref (adr Y 7)), (1, .int x1), (2, .int (s5.1 + 1)), (3, .int (s5.2 + 1))]) (by decide) rfl rfl rfl ?_
        refine w_goto C (pc := 33) 4 dX0_timesServed_33 (by decide) ?_
        obtain rfl := Option.some.inj h9
        have k9 := ki7 (s5.1 + 1, s5.2 + 1) rfl
        try dsimp only at k9
        exact k9
      · have h9 := it_f h9 c
        refine w_iinc C (pc := 30) dX0_timesServed_30 3 rfl (v := 1) (lv' := [(0, .ref (adr Y 7)), (1, .int x1), (2, .int s5.1), (3, .int (s5.2 + 1))]) (by decide) rfl rfl rfl ?_
        refine w_goto C (pc := 33) 4 dX0_timesServed_33 (by decide) ?_
        obtain rfl := Option.some.inj h9
        have k9 := ki7 (s5.1, s5.2 + 1) rfl
        try dsimp only at k9
        exact k9
  · refine w_iconst C (pc := 36) dX0_timesServed_36 (v := 0) (by decide) ?_
    refine w_istore_n C (pc := 37) dX0_timesServed_37 (lv' := [(0, .ref (adr Y 7)), (1, .int x1), (2, .int x3), (3, .int 0)]) rfl rfl rfl ?_
    obtain ⟨x14, e15, h⟩ := ob h
    refine itr_W (P := fun s16 => Wp K zX0_timesServed Y (Qm K Y (some q) M) M 38 [(0, .ref (adr Y 7)), (1, .int x1), (2, .int s16.1), (3, .int s16.2)] []) (R := fun x14 => Wp K zX0_timesServed Y (Qm K Y (some q) M) M 71 [(0, .ref (adr Y 7)), (1, .int x1), (2, .int x14)] []) ?_ fuel (x3, 0) x14 e15 ?_
    · intro s16 r17 h20 ki18 kx19
      unfold pX0_timesServed_L38 at h20
      show Wp K zX0_timesServed Y (Qm K Y (some q) M) M 38 [(0, .ref (adr Y 7)), (1, .int x1), (2, .int s16.1), (3, .int s16.2)] []
      refine w_iload_n C (pc := 38) dX0_timesServed_38 3 rfl ?_
      refine w_aload_n C (pc := 39) dX0_timesServed_39 0 rfl ?_
      refine w_getR C (pc := 40) dX0_timesServed_40 f_X0_44 (sA_7 hY) rfl ?_
      refine w_getI C (pc := 43) dX0_timesServed_43 f_X0_77 (sA_4 hY) rfl ?_
      refine w_icge C (pc := 46) 71 dX0_timesServed_46 (by decide) (fun c => ?_) (fun c => ?_)
      · have h20 := it_t h20 c
        obtain rfl := Option.some.inj h20
        refine w_lv [0, 1, 2] rfl ?_
        have k9 := kx19 s16.1 rfl
        try dsimp only at k9
        exact k9
      · have h20 := it_f h20 c
        refine w_aload_n C (pc := 49) dX0_timesServed_49 0 rfl ?_
        refine w_getR C (pc := 50) dX0_timesServed_50 f_X0_44 (sA_7 hY) rfl ?_
        refine w_iload_n C (pc := 53) dX0_timesServed_53 3 rfl ?_
        refine w_iconst C (pc := 54) dX0_timesServed_54 (v := 2) (by decide) ?_
        obtain ⟨v21, e22, h20⟩ := ob h20
        refine w_cVi C (pc := 55) dX0_timesServed_55 my_X4_part mi_X4_part ml_X0_82 (sA_4 hY) rfl rfl rfl [.int s16.2, .int 2] rfl rfl (Nat.le_of_ble_eq_true rfl) (tX4_part (kPlan_4 hY) e22) ?_
        refine w_iload_n C (pc := 58) dX0_timesServed_58 1 rfl ?_
        refine w_icne C (pc := 59) 65 dX0_timesServed_59 (by decide) (fun c => ?_) (fun c => ?_)
        · have h20 := it_t h20 c
          refine w_iinc C (pc := 62) dX0_timesServed_62 2 rfl (v := 1) (lv' := [(0, .ref (adr Y 7)), (1, .int x1), (2, .int (s16.1 + 1)), (3, .int s16.2)]) (by decide) rfl rfl rfl ?_
          refine w_iinc C (pc := 65) dX0_timesServed_65 3 rfl (v := 1) (lv' := [(0, .ref (adr Y 7)), (1, .int x1), (2, .int (s16.1 + 1)), (3, .int (s16.2 + 1))]) (by decide) rfl rfl rfl ?_
          refine w_goto C (pc := 68) 38 dX0_timesServed_68 (by decide) ?_
          obtain rfl := Option.some.inj h20
          have k9 := ki18 (s16.1 + 1, s16.2 + 1) rfl
          try dsimp only at k9
          exact k9
        · have h20 := it_f h20 c
          refine w_iinc C (pc := 65) dX0_timesServed_65 3 rfl (v := 1) (lv' := [(0, .ref (adr Y 7)), (1, .int x1), (2, .int s16.1), (3, .int (s16.2 + 1))]) (by decide) rfl rfl rfl ?_
          refine w_goto C (pc := 68) 38 dX0_timesServed_68 (by decide) ?_
          obtain rfl := Option.some.inj h20
          have k9 := ki18 (s16.1, s16.2 + 1) rfl
          try dsimp only at k9
          exact k9
    · refine w_iload_n C (pc := 71) dX0_timesServed_71 2 rfl ?_
      exact w_retR C (pc := 72) dX0_timesServed_72 rfl (Option.some.inj h)
theorem dX0_servedTooOften_0 : decode cX0_servedTooOften 0 = .ok (.iconst 1, 1) := by decide +kernel
theorem dX0_servedTooOften_1 : decode cX0_servedTooOften 1 = .ok (.istore_n 1, 1) := by decide +kernel
theorem dX0_servedTooOften_2 : decode cX0_servedTooOften 2 = .ok (.iload_n 1, 1) := by decide +kernel
theorem dX0_servedTooOften_3 : decode cX0_servedTooOften 3 = .ok (.aload_n 0, 1) := by decide +kernel
theorem dX0_servedTooOften_4 : decode cX0_servedTooOften 4 = .ok (.getfield 40, 3) := by decide +kernel
theorem dX0_servedTooOften_7 : decode cX0_servedTooOften 7 = .ok (.getfield 104, 3) := by decide +kernel
theorem dX0_servedTooOften_10 : decode cX0_servedTooOften 10 = .ok (.if_icmp .gt 24, 3) := by decide +kernel
theorem dX0_servedTooOften_13 : decode cX0_servedTooOften 13 = .ok (.aload_n 0, 1) := by decide +kernel
theorem dX0_servedTooOften_14 : decode cX0_servedTooOften 14 = .ok (.iload_n 1, 1) := by decide +kernel
theorem dX0_servedTooOften_15 : decode cX0_servedTooOften 15 = .ok (.invokevirtual 107, 3) := by decide +kernel
theorem dX0_servedTooOften_18 : decode cX0_servedTooOften 18 = .ok (.iconst 1, 1) := by decide +kernel
theorem dX0_servedTooOften_19 : decode cX0_servedTooOften 19 = .ok (.if_icmp .le 9, 3) := by decide +kernel
theorem dX0_servedTooOften_22 : decode cX0_servedTooOften 22 = .ok (.iconst 2, 1) := by decide +kernel
theorem dX0_servedTooOften_23 : decode cX0_servedTooOften 23 = .ok (.iload_n 1, 1) := by decide +kernel
theorem dX0_servedTooOften_24 : decode cX0_servedTooOften 24 = .ok (.invokestatic 95, 3) := by decide +kernel
theorem dX0_servedTooOften_27 : decode cX0_servedTooOften 27 = .ok (.ireturn, 1) := by decide +kernel
theorem dX0_servedTooOften_28 : decode cX0_servedTooOften 28 = .ok (.iinc 1 1, 3) := by decide +kernel
theorem dX0_servedTooOften_31 : decode cX0_servedTooOften 31 = .ok (.goto (-29), 3) := by decide +kernel
theorem dX0_servedTooOften_34 : decode cX0_servedTooOften 34 = .ok (.iconst 0, 1) := by decide +kernel
theorem dX0_servedTooOften_35 : decode cX0_servedTooOften 35 = .ok (.ireturn, 1) := by decide +kernel
def pX0_servedTooOften_L2 (M : Mm) (s : Int32) : Option ((Int32) ⊕ ((Unit) ⊕ (Int32))) :=
if (M 1 0) < s then
(some (Sum.inr (Sum.inl ())))
else
((pX0_timesServed s M).bind fun v1 =>
if v1 ≤ 1 then
(some (Sum.inl (s + 1)))
else
(some (Sum.inr (Sum.inr (pX0_told 2 s)))))
def pX0_servedTooOften (M : Mm) : Option (Int32) :=
(itr (pX0_servedTooOften_L2 M) fuel 1).bind fun x4 =>
Sum.elim (fun yx4 =>
some 0) (fun r => some r) x4
abbrev zX0_servedTooOften : Zx := (cX0_servedTooOften, RX0, 2, 2, (some .int))
set_option maxRecDepth 100000 in
set_option maxHeartbeats 4000000 in
theorem tX0_servedTooOften {l : Launch} {Y : Sx} {M : Mm} {q : Int32} (hY : isA Y) (h : pX0_servedTooOften M = some q) : Ct l Y yX0_servedTooOften cX0_servedTooOften 2 (some .int) 2 [.ref (adr Y 7)] M (some q) M := by
  refine Ct.of (by decide) rfl (lv := [(0, .ref (adr Y 7))]) rfl ?_
  intro K hkl C
  change Cx K zX0_servedTooOften Y at C
  subst hkl
  unfold pX0_servedTooOften at h
  show Wp K zX0_servedTooOften Y (Qm K Y (some q) M) M 0 [(0, .ref (adr Y 7))] []
  refine w_iconst C (pc := 0) dX0_servedTooOften_0 (v := 1) (by decide) ?_
  refine w_istore_n C (pc := 1) dX0_servedTooOften_1 (lv' := [(0, .ref (adr Y 7)), (1, .int 1)]) rfl rfl rfl ?_
  obtain ⟨x4, e5, h⟩ := ob h
  refine itr_W (P := fun s6 => Wp K zX0_servedTooOften Y (Qm K Y (some q) M) M 2 [(0, .ref (adr Y 7)), (1, .int s6)] []) (R := fun x9 => (∀ yx4, x9 = Sum.inl yx4 → Wp K zX0_servedTooOften Y (Qm K Y (some q) M) M 34 [(0, .ref (adr Y 7))] []) ∧ (∀ v9, x9 = Sum.inr v9 → some v9 = some q)) ?_ fuel 1 x4 e5 ?_
  · intro s6 r7 h10 ki8 kx9
    unfold pX0_servedTooOften_L2 at h10
    show Wp K zX0_servedTooOften Y (Qm K Y (some q) M) M 2 [(0, .ref (adr Y 7)), (1, .int s6)] []
    refine w_iload_n C (pc := 2) dX0_servedTooOften_2 1 rfl ?_
    refine w_aload_n C (pc := 3) dX0_servedTooOften_3 0 rfl ?_
    refine w_getR C (pc := 4) dX0_servedTooOften_4 f_X0_40 (sA_7 hY) rfl ?_
    refine w_getI C (pc := 7) dX0_servedTooOften_7 f_X0_104 (sA_1 hY) rfl ?_
    refine w_icgt C (pc := 10) 34 dX0_servedTooOften_10 (by decide) (fun c => ?_) (fun c => ?_)
    · have h10 := it_t h10 c
      obtain rfl := Option.some.inj h10
      refine w_lv [0] rfl ?_
      have k9 := (kx9 (Sum.inl ()) rfl).1 () rfl
      try dsimp only at k9
      exact k9
    · have h10 := it_f h10 c
      refine w_aload_n C (pc := 13) dX0_servedTooOften_13 0 rfl ?_
      refine w_iload_n C (pc := 14) dX0_servedTooOften_14 1 rfl ?_
      obtain ⟨v11, e12, h10⟩ := ob h10
      refine w_cVi C (pc := 15) dX0_servedTooOften_15 my_X0_timesServed mi_X0_timesServed ml_X0_107 (sA_7 hY) rfl rfl rfl [.int s6] rfl rfl (Nat.le_of_ble_eq_true rfl) (tX0_timesServed hY  e12) ?_
      refine w_iconst C (pc := 18) dX0_servedTooOften_18 (v := 1) (by decide) ?_
      refine w_icle C (pc := 19) 28 dX0_servedTooOften_19 (by decide) (fun c => ?_) (fun c => ?_)
      · have h10 := it_t h10 c
        refine w_iinc C (pc := 28) dX0_servedTooOften_28 1 rfl (v := 1) (lv' := [(0, .ref (adr Y 7)), (1, .int (s6 + 1))]) (by decide) rfl rfl rfl ?_
        refine w_goto C (pc := 31) 2 dX0_servedTooOften_31 (by decide) ?_
        obtain rfl := Option.some.inj h10
        have k9 := ki8 (s6 + 1) rfl
        try dsimp only at k9
        exact k9
      · have h10 := it_f h10 c
        refine w_iconst C (pc := 22) dX0_servedTooOften_22 (v := 2) (by decide) ?_
        refine w_iload_n C (pc := 23) dX0_servedTooOften_23 1 rfl ?_
        refine w_cSi C (pc := 24) dX0_servedTooOften_24 my_X0_told ms_X0_told ml_X0_95 rfl rfl [.int 2, .int s6] rfl rfl (Nat.le_of_ble_eq_true rfl) (tX0_told  rfl) ?_
        obtain rfl := Option.some.inj h10
        have h13 := (kx9 (Sum.inr (pX0_told 2 s6)) rfl).2 (pX0_told 2 s6) rfl
        exact w_retR C (pc := 27) dX0_servedTooOften_27 rfl (Option.some.inj h13)
  · refine ⟨fun yx4 hy => ?_, fun v9 hv => ?_⟩
    · subst hy
      dsimp only [Sum.elim] at h
      refine w_iconst C (pc := 34) dX0_servedTooOften_34 (v := 0) (by decide) ?_
      exact w_retR C (pc := 35) dX0_servedTooOften_35 rfl (Option.some.inj h)
    · subst hv
      exact h
theorem dX0_servedByNobody_0 : decode cX0_servedByNobody 0 = .ok (.iconst 1, 1) := by decide +kernel
theorem dX0_servedByNobody_1 : decode cX0_servedByNobody 1 = .ok (.istore_n 1, 1) := by decide +kernel
theorem dX0_servedByNobody_2 : decode cX0_servedByNobody 2 = .ok (.iload_n 1, 1) := by decide +kernel
theorem dX0_servedByNobody_3 : decode cX0_servedByNobody 3 = .ok (.aload_n 0, 1) := by decide +kernel
theorem dX0_servedByNobody_4 : decode cX0_servedByNobody 4 = .ok (.getfield 40, 3) := by decide +kernel
theorem dX0_servedByNobody_7 : decode cX0_servedByNobody 7 = .ok (.getfield 104, 3) := by decide +kernel
theorem dX0_servedByNobody_10 : decode cX0_servedByNobody 10 = .ok (.if_icmp .gt 23, 3) := by decide +kernel
theorem dX0_servedByNobody_13 : decode cX0_servedByNobody 13 = .ok (.aload_n 0, 1) := by decide +kernel
theorem dX0_servedByNobody_14 : decode cX0_servedByNobody 14 = .ok (.iload_n 1, 1) := by decide +kernel
theorem dX0_servedByNobody_15 : decode cX0_servedByNobody 15 = .ok (.invokevirtual 107, 3) := by decide +kernel
theorem dX0_servedByNobody_18 : decode cX0_servedByNobody 18 = .ok (.ifCond .ne 9, 3) := by decide +kernel
theorem dX0_servedByNobody_21 : decode cX0_servedByNobody 21 = .ok (.iconst 3, 1) := by decide +kernel
theorem dX0_servedByNobody_22 : decode cX0_servedByNobody 22 = .ok (.iload_n 1, 1) := by decide +kernel
theorem dX0_servedByNobody_23 : decode cX0_servedByNobody 23 = .ok (.invokestatic 95, 3) := by decide +kernel
theorem dX0_servedByNobody_26 : decode cX0_servedByNobody 26 = .ok (.ireturn, 1) := by decide +kernel
theorem dX0_servedByNobody_27 : decode cX0_servedByNobody 27 = .ok (.iinc 1 1, 3) := by decide +kernel
theorem dX0_servedByNobody_30 : decode cX0_servedByNobody 30 = .ok (.goto (-28), 3) := by decide +kernel
theorem dX0_servedByNobody_33 : decode cX0_servedByNobody 33 = .ok (.iconst 0, 1) := by decide +kernel
theorem dX0_servedByNobody_34 : decode cX0_servedByNobody 34 = .ok (.ireturn, 1) := by decide +kernel
def pX0_servedByNobody_L2 (M : Mm) (s : Int32) : Option ((Int32) ⊕ ((Unit) ⊕ (Int32))) :=
if (M 1 0) < s then
(some (Sum.inr (Sum.inl ())))
else
((pX0_timesServed s M).bind fun v1 =>
if v1 = 0 then
(some (Sum.inr (Sum.inr (pX0_told 3 s))))
else
(some (Sum.inl (s + 1))))
def pX0_servedByNobody (M : Mm) : Option (Int32) :=
(itr (pX0_servedByNobody_L2 M) fuel 1).bind fun x4 =>
Sum.elim (fun yx4 =>
some 0) (fun r => some r) x4
abbrev zX0_servedByNobody : Zx := (cX0_servedByNobody, RX0, 2, 2, (some .int))
set_option maxRecDepth 100000 in
set_option maxHeartbeats 4000000 in
theorem tX0_servedByNobody {l : Launch} {Y : Sx} {M : Mm} {q : Int32} (hY : isA Y) (h : pX0_servedByNobody M = some q) : Ct l Y yX0_servedByNobody cX0_servedByNobody 2 (some .int) 2 [.ref (adr Y 7)] M (some q) M := by
  refine Ct.of (by decide) rfl (lv := [(0, .ref (adr Y 7))]) rfl ?_
  intro K hkl C
  change Cx K zX0_servedByNobody Y at C
  subst hkl
  unfold pX0_servedByNobody at h
  show Wp K zX0_servedByNobody Y (Qm K Y (some q) M) M 0 [(0, .ref (adr Y 7))] []
  refine w_iconst C (pc := 0) dX0_servedByNobody_0 (v := 1) (by decide) ?_
  refine w_istore_n C (pc := 1) dX0_servedByNobody_1 (lv' := [(0, .ref (adr Y 7)), (1, .int 1)]) rfl rfl rfl ?_
  obtain ⟨x4, e5, h⟩ := ob h
  refine itr_W (P := fun s6 => Wp K zX0_servedByNobody Y (Qm K Y (some q) M) M 2 [(0, .ref (adr Y 7)), (1, .int s6)] []) (R := fun x9 => (∀ yx4, x9 = Sum.inl yx4 → Wp K zX0_servedByNobody Y (Qm K Y (some q) M) M 33 [(0, .ref (adr Y 7))] []) ∧ (∀ v9, x9 = Sum.inr v9 → some v9 = some q)) ?_ fuel 1 x4 e5 ?_
  · intro s6 r7 h10 ki8 kx9
    unfold pX0_servedByNobody_L2 at h10
    show Wp K zX0_servedByNobody Y (Qm K Y (some q) M) M 2 [(0, .ref (adr Y 7)), (1, .int s6)] []
    refine w_iload_n C (pc := 2) dX0_servedByNobody_2 1 rfl ?_
    refine w_aload_n C (pc := 3) dX0_servedByNobody_3 0 rfl ?_
    refine w_getR C (pc := 4) dX0_servedByNobody_4 f_X0_40 (sA_7 hY) rfl ?_
    refine w_getI C (pc := 7) dX0_servedByNobody_7 f_X0_104 (sA_1 hY) rfl ?_
    refine w_icgt C (pc := 10) 33 dX0_servedByNobody_10 (by decide) (fun c => ?_) (fun c => ?_)
    · have h10 := it_t h10 c
      obtain rfl := Option.some.inj h10
      refine w_lv [0] rfl ?_
      have k9 := (kx9 (Sum.inl ()) rfl).1 () rfl
      try dsimp only at k9
      exact k9
    · have h10 := it_f h10 c
      refine w_aload_n C (pc := 13) dX0_servedByNobody_13 0 rfl ?_
      refine w_iload_n C (pc := 14) dX0_servedByNobody_14 1 rfl ?_
      obtain ⟨v11, e12, h10⟩ := ob h10
      refine w_cVi C (pc := 15) dX0_servedByNobody_15 my_X0_timesServed mi_X0_timesServed ml_X0_107 (sA_7 hY) rfl rfl rfl [.int s6] rfl rfl (Nat.le_of_ble_eq_true rfl) (tX0_timesServed hY  e12) ?_
      refine w_ifne C (pc := 18) 27 dX0_servedByNobody_18 (by decide) (fun c => ?_) (fun c => ?_)
      · have h10 := it_t h10 c
        refine w_iconst C (pc := 21) dX0_servedByNobody_21 (v := 3) (by decide) ?_
        refine w_iload_n C (pc := 22) dX0_servedByNobody_22 1 rfl ?_
        refine w_cSi C (pc := 23) dX0_servedByNobody_23 my_X0_told ms_X0_told ml_X0_95 rfl rfl [.int 3, .int s6] rfl rfl (Nat.le_of_ble_eq_true rfl) (tX0_told  rfl) ?_
        obtain rfl := Option.some.inj h10
        have h13 := (kx9 (Sum.inr (pX0_told 3 s6)) rfl).2 (pX0_told 3 s6) rfl
        exact w_retR C (pc := 26) dX0_servedByNobody_26 rfl (Option.some.inj h13)
      · have h10 := it_f h10 c
        refine w_iinc C (pc := 27) dX0_servedByNobody_27 1 rfl (v := 1) (lv' := [(0, .ref (adr Y 7)), (1, .int (s6 + 1))]) (by decide) rfl rfl rfl ?_
        refine w_goto C (pc := 30) 2 dX0_servedByNobody_30 (by decide) ?_
        obtain rfl := Option.some.inj h10
        have k9 := ki8 (s6 + 1) rfl
        try dsimp only at k9
        exact k9
  · refine ⟨fun yx4 hy => ?_, fun v9 hv => ?_⟩
    · subst hy
      dsimp only [Sum.elim] at h
      refine w_iconst C (pc := 33) dX0_servedByNobody_33 (v := 0) (by decide) ?_
      exact w_retR C (pc := 34) dX0_servedByNobody_34 rfl (Option.some.inj h)
    · subst hv
      exact h
theorem dX0_tooHeavy_0 : decode cX0_tooHeavy 0 = .ok (.iconst 0, 1) := by decide +kernel
theorem dX0_tooHeavy_1 : decode cX0_tooHeavy 1 = .ok (.istore_n 1, 1) := by decide +kernel
theorem dX0_tooHeavy_2 : decode cX0_tooHeavy 2 = .ok (.iload_n 1, 1) := by decide +kernel
theorem dX0_tooHeavy_3 : decode cX0_tooHeavy 3 = .ok (.aload_n 0, 1) := by decide +kernel
theorem dX0_tooHeavy_4 : decode cX0_tooHeavy 4 = .ok (.getfield 44, 3) := by decide +kernel
theorem dX0_tooHeavy_7 : decode cX0_tooHeavy 7 = .ok (.getfield 77, 3) := by decide +kernel
theorem dX0_tooHeavy_10 : decode cX0_tooHeavy 10 = .ok (.if_icmp .ge 34, 3) := by decide +kernel
theorem dX0_tooHeavy_13 : decode cX0_tooHeavy 13 = .ok (.aload_n 0, 1) := by decide +kernel
theorem dX0_tooHeavy_14 : decode cX0_tooHeavy 14 = .ok (.getfield 40, 3) := by decide +kernel
theorem dX0_tooHeavy_17 : decode cX0_tooHeavy 17 = .ok (.aload_n 0, 1) := by decide +kernel
theorem dX0_tooHeavy_18 : decode cX0_tooHeavy 18 = .ok (.getfield 44, 3) := by decide +kernel
theorem dX0_tooHeavy_21 : decode cX0_tooHeavy 21 = .ok (.iload_n 1, 1) := by decide +kernel
theorem dX0_tooHeavy_22 : decode cX0_tooHeavy 22 = .ok (.iconst 2, 1) := by decide +kernel
theorem dX0_tooHeavy_23 : decode cX0_tooHeavy 23 = .ok (.invokevirtual 82, 3) := by decide +kernel
theorem dX0_tooHeavy_26 : decode cX0_tooHeavy 26 = .ok (.invokevirtual 110, 3) := by decide +kernel
theorem dX0_tooHeavy_29 : decode cX0_tooHeavy 29 = .ok (.ifCond .ne 9, 3) := by decide +kernel
theorem dX0_tooHeavy_32 : decode cX0_tooHeavy 32 = .ok (.iconst 4, 1) := by decide +kernel
theorem dX0_tooHeavy_33 : decode cX0_tooHeavy 33 = .ok (.iload_n 1, 1) := by decide +kernel
theorem dX0_tooHeavy_34 : decode cX0_tooHeavy 34 = .ok (.invokestatic 95, 3) := by decide +kernel
theorem dX0_tooHeavy_37 : decode cX0_tooHeavy 37 = .ok (.ireturn, 1) := by decide +kernel
theorem dX0_tooHeavy_38 : decode cX0_tooHeavy 38 = .ok (.iinc 1 1, 3) := by decide +kernel
theorem dX0_tooHeavy_41 : decode cX0_tooHeavy 41 = .ok (.goto (-39), 3) := by decide +kernel
theorem dX0_tooHeavy_44 : decode cX0_tooHeavy 44 = .ok (.iconst 0, 1) := by decide +kernel
theorem dX0_tooHeavy_45 : decode cX0_tooHeavy 45 = .ok (.ireturn, 1) := by decide +kernel
def pX0_tooHeavy_L2 (M : Mm) (s : Int32) : Option ((Int32) ⊕ ((Unit) ⊕ (Int32))) :=
if (M 4 1) ≤ s then
(some (Sum.inr (Sum.inl ())))
else
((pX4_part 4 s 2 M).bind fun v1 =>
(pX3_isLight 1 v1 M).bind fun v3 =>
if v3 = 0 then
(some (Sum.inr (Sum.inr (pX0_told 4 s))))
else
(some (Sum.inl (s + 1))))
def pX0_tooHeavy (M : Mm) : Option (Int32) :=
(itr (pX0_tooHeavy_L2 M) fuel 0).bind fun x6 =>
Sum.elim (fun yx6 =>
some 0) (fun r => some r) x6
abbrev zX0_tooHeavy : Zx := (cX0_tooHeavy, RX0, 2, 2, (some .int))
set_option maxRecDepth 100000 in
set_option maxHeartbeats 4000000 in
theorem tX0_tooHeavy {l : Launch} {Y : Sx} {M : Mm} {q : Int32} (hY : isA Y) (h : pX0_tooHeavy M = some q) : Ct l Y yX0_tooHeavy cX0_tooHeavy 2 (some .int) 2 [.ref (adr Y 7)] M (some q) M := by
  refine Ct.of (by decide) rfl (lv := [(0, .ref (adr Y 7))]) rfl ?_
  intro K hkl C
  change Cx K zX0_tooHeavy Y at C
  subst hkl
  unfold pX0_tooHeavy at h
  show Wp K zX0_tooHeavy Y (Qm K Y (some q) M) M 0 [(0, .ref (adr Y 7))] []
  refine w_iconst C (pc := 0) dX0_tooHeavy_0 (v := 0) (by decide) ?_
  refine w_istore_n C (pc := 1) dX0_tooHeavy_1 (lv' := [(0, .ref (adr Y 7)), (1, .int 0)]) rfl rfl rfl ?_
  obtain ⟨x6, e7, h⟩ := ob h
  refine itr_W (P := fun s8 => Wp K zX0_tooHeavy Y (Qm K Y (some q) M) M 2 [(0, .ref (adr Y 7)), (1, .int s8)] []) (R := fun x9 => (∀ yx6, x9 = Sum.inl yx6 → Wp K zX0_tooHeavy Y (Qm K Y (some q) M) M 44 [(0, .ref (adr Y 7))] []) ∧ (∀ v9, x9 = Sum.inr v9 → some v9 = some q)) ?_ fuel 0 x6 e7 ?_
  · intro s8 r9 h12 ki10 kx11
    unfold pX0_tooHeavy_L2 at h12
    show Wp K zX0_tooHeavy Y (Qm K Y (some q) M) M 2 [(0, .ref (adr Y 7)), (1, .int s8)] []
    refine w_iload_n C (pc := 2) dX0_tooHeavy_2 1 rfl ?_
    refine w_aload_n C (pc := 3) dX0_tooHeavy_3 0 rfl ?_
    refine w_getR C (pc := 4) dX0_tooHeavy_4 f_X0_44 (sA_7 hY) rfl ?_
    refine w_getI C (pc := 7) dX0_tooHeavy_7 f_X0_77 (sA_4 hY) rfl ?_
    refine w_icge C (pc := 10) 44 dX0_tooHeavy_10 (by decide) (fun c => ?_) (fun c => ?_)
    · have h12 := it_t h12 c
      obtain rfl := Option.some.inj h12
      refine w_lv [0] rfl ?_
      have k9 := (kx11 (Sum.inl ()) rfl).1 () rfl
      try dsimp only at k9
      exact k9
    · have h12 := it_f h12 c
      refine w_aload_n C (pc := 13) dX0_tooHeavy_13 0 rfl ?_
      refine w_getR C (pc := 14) dX0_tooHeavy_14 f_X0_40 (sA_7 hY) rfl ?_
      refine w_aload_n C (pc := 17) dX0_tooHeavy_17 0 rfl ?_
      refine w_getR C (pc := 18) dX0_tooHeavy_18 f_X0_44 (sA_7 hY) rfl ?_
      refine w_iload_n C (pc := 21) dX0_tooHeavy_21 1 rfl ?_
      refine w_iconst C (pc := 22) dX0_tooHeavy_22 (v := 2) (by decide) ?_
      obtain ⟨v13, e14, h12⟩ := ob h12
      refine w_cVi C (pc := 23) dX0_tooHeavy_23 my_X4_part mi_X4_part ml_X0_82 (sA_4 hY) rfl rfl rfl [.int s8, .int 2] rfl rfl (Nat.le_of_ble_eq_true rfl) (tX4_part (kPlan_4 hY) e14) ?_
      obtain ⟨v15, e16, h12⟩ := ob h12
      refine w_cVi C (pc := 26) dX0_tooHeavy_26 my_X3_isLight mi_X3_isLight ml_X0_110 (sA_1 hY) rfl rfl rfl [.int v13] rfl rfl (Nat.le_of_ble_eq_true rfl) (tX3_isLight (kLand_1 hY) e16) ?_
      refine w_ifne C (pc := 29) 38 dX0_tooHeavy_29 (by decide) (fun c => ?_) (fun c => ?_)
      · have h12 := it_t h12 c
        refine w_iconst C (pc := 32) dX0_tooHeavy_32 (v := 4) (by decide) ?_
        refine w_iload_n C (pc := 33) dX0_tooHeavy_33 1 rfl ?_
        refine w_cSi C (pc := 34) dX0_tooHeavy_34 my_X0_told ms_X0_told ml_X0_95 rfl rfl [.int 4, .int s8] rfl rfl (Nat.le_of_ble_eq_true rfl) (tX0_told  rfl) ?_
        obtain rfl := Option.some.inj h12
        have h17 := (kx11 (Sum.inr (pX0_told 4 s8)) rfl).2 (pX0_told 4 s8) rfl
        exact w_retR C (pc := 37) dX0_tooHeavy_37 rfl (Option.some.inj h17)
      · have h12 := it_f h12 c
        refine w_iinc C (pc := 38) dX0_tooHeavy_38 1 rfl (v := 1) (lv' := [(0, .ref (adr Y 7)), (1, .int (s8 + 1))]) (by decide) rfl rfl rfl ?_
        refine w_goto C (pc := 41) 2 dX0_tooHeavy_41 (by decide) ?_
        obtain rfl := Option.some.inj h12
        have k9 := ki10 (s8 + 1) rfl
        try dsimp only at k9
        exact k9
  · refine ⟨fun yx6 hy => ?_, fun v9 hv => ?_⟩
    · subst hy
      dsimp only [Sum.elim] at h
      refine w_iconst C (pc := 44) dX0_tooHeavy_44 (v := 0) (by decide) ?_
      exact w_retR C (pc := 45) dX0_tooHeavy_45 rfl (Option.some.inj h)
    · subst hv
      exact h
theorem dX0_overlapping_0 : decode cX0_overlapping 0 = .ok (.iconst 0, 1) := by decide +kernel
theorem dX0_overlapping_1 : decode cX0_overlapping 1 = .ok (.istore_n 1, 1) := by decide +kernel
theorem dX0_overlapping_2 : decode cX0_overlapping 2 = .ok (.iload_n 1, 1) := by decide +kernel
theorem dX0_overlapping_3 : decode cX0_overlapping 3 = .ok (.aload_n 0, 1) := by decide +kernel
theorem dX0_overlapping_4 : decode cX0_overlapping 4 = .ok (.getfield 44, 3) := by decide +kernel
theorem dX0_overlapping_7 : decode cX0_overlapping 7 = .ok (.getfield 77, 3) := by decide +kernel
theorem dX0_overlapping_10 : decode cX0_overlapping 10 = .ok (.if_icmp .ge 91, 3) := by decide +kernel
theorem dX0_overlapping_13 : decode cX0_overlapping 13 = .ok (.iconst 0, 1) := by decide +kernel
theorem dX0_overlapping_14 : decode cX0_overlapping 14 = .ok (.istore_n 2, 1) := by decide +kernel
theorem dX0_overlapping_15 : decode cX0_overlapping 15 = .ok (.iload_n 2, 1) := by decide +kernel
theorem dX0_overlapping_16 : decode cX0_overlapping 16 = .ok (.iload_n 1, 1) := by decide +kernel
theorem dX0_overlapping_17 : decode cX0_overlapping 17 = .ok (.if_icmp .ge 78, 3) := by decide +kernel
theorem dX0_overlapping_20 : decode cX0_overlapping 20 = .ok (.aload_n 0, 1) := by decide +kernel
theorem dX0_overlapping_21 : decode cX0_overlapping 21 = .ok (.getfield 44, 3) := by decide +kernel
theorem dX0_overlapping_24 : decode cX0_overlapping 24 = .ok (.iload_n 1, 1) := by decide +kernel
theorem dX0_overlapping_25 : decode cX0_overlapping 25 = .ok (.iconst 0, 1) := by decide +kernel
theorem dX0_overlapping_26 : decode cX0_overlapping 26 = .ok (.invokevirtual 82, 3) := by decide +kernel
theorem dX0_overlapping_29 : decode cX0_overlapping 29 = .ok (.aload_n 0, 1) := by decide +kernel
theorem dX0_overlapping_30 : decode cX0_overlapping 30 = .ok (.getfield 44, 3) := by decide +kernel
theorem dX0_overlapping_33 : decode cX0_overlapping 33 = .ok (.iload_n 2, 1) := by decide +kernel
theorem dX0_overlapping_34 : decode cX0_overlapping 34 = .ok (.iconst 0, 1) := by decide +kernel
theorem dX0_overlapping_35 : decode cX0_overlapping 35 = .ok (.invokevirtual 82, 3) := by decide +kernel
theorem dX0_overlapping_38 : decode cX0_overlapping 38 = .ok (.if_icmp .ne 51, 3) := by decide +kernel
theorem dX0_overlapping_41 : decode cX0_overlapping 41 = .ok (.aload_n 0, 1) := by decide +kernel
theorem dX0_overlapping_42 : decode cX0_overlapping 42 = .ok (.getfield 44, 3) := by decide +kernel
theorem dX0_overlapping_45 : decode cX0_overlapping 45 = .ok (.iload_n 1, 1) := by decide +kernel
theorem dX0_overlapping_46 : decode cX0_overlapping 46 = .ok (.iconst 1, 1) := by decide +kernel
theorem dX0_overlapping_47 : decode cX0_overlapping 47 = .ok (.invokevirtual 82, 3) := by decide +kernel
theorem dX0_overlapping_50 : decode cX0_overlapping 50 = .ok (.aload_n 0, 1) := by decide +kernel
theorem dX0_overlapping_51 : decode cX0_overlapping 51 = .ok (.getfield 44, 3) := by decide +kernel
theorem dX0_overlapping_54 : decode cX0_overlapping 54 = .ok (.iload_n 2, 1) := by decide +kernel
theorem dX0_overlapping_55 : decode cX0_overlapping 55 = .ok (.iconst 3, 1) := by decide +kernel
theorem dX0_overlapping_56 : decode cX0_overlapping 56 = .ok (.invokevirtual 82, 3) := by decide +kernel
theorem dX0_overlapping_59 : decode cX0_overlapping 59 = .ok (.if_icmp .ge 30, 3) := by decide +kernel
theorem dX0_overlapping_62 : decode cX0_overlapping 62 = .ok (.aload_n 0, 1) := by decide +kernel
theorem dX0_overlapping_63 : decode cX0_overlapping 63 = .ok (.getfield 44, 3) := by decide +kernel
theorem dX0_overlapping_66 : decode cX0_overlapping 66 = .ok (.iload_n 1, 1) := by decide +kernel
theorem dX0_overlapping_67 : decode cX0_overlapping 67 = .ok (.iconst 3, 1) := by decide +kernel
theorem dX0_overlapping_68 : decode cX0_overlapping 68 = .ok (.invokevirtual 82, 3) := by decide +kernel
theorem dX0_overlapping_71 : decode cX0_overlapping 71 = .ok (.aload_n 0, 1) := by decide +kernel
theorem dX0_overlapping_72 : decode cX0_overlapping 72 = .ok (.getfield 44, 3) := by decide +kernel
theorem dX0_overlapping_75 : decode cX0_overlapping 75 = .ok (.iload_n 2, 1) := by decide +kernel
theorem dX0_overlapping_76 : decode cX0_overlapping 76 = .ok (.iconst 1, 1) := by decide +kernel
theorem dX0_overlapping_77 : decode cX0_overlapping 77 = .ok (.invokevirtual 82, 3) := by decide +kernel
theorem dX0_overlapping_80 : decode cX0_overlapping 80 = .ok (.if_icmp .le 9, 3) := by decide +kernel
theorem dX0_overlapping_83 : decode cX0_overlapping 83 = .ok (.iconst 5, 1) := by decide +kernel
theorem dX0_overlapping_84 : decode cX0_overlapping 84 = .ok (.iload_n 1, 1) := by decide +kernel
theorem dX0_overlapping_85 : decode cX0_overlapping 85 = .ok (.invokestatic 95, 3) := by decide +kernel
theorem dX0_overlapping_88 : decode cX0_overlapping 88 = .ok (.ireturn, 1) := by decide +kernel
theorem dX0_overlapping_89 : decode cX0_overlapping 89 = .ok (.iinc 2 1, 3) := by decide +kernel
theorem dX0_overlapping_92 : decode cX0_overlapping 92 = .ok (.goto (-77), 3) := by decide +kernel
theorem dX0_overlapping_95 : decode cX0_overlapping 95 = .ok (.iinc 1 1, 3) := by decide +kernel
theorem dX0_overlapping_98 : decode cX0_overlapping 98 = .ok (.goto (-96), 3) := by decide +kernel
theorem dX0_overlapping_101 : decode cX0_overlapping 101 = .ok (.iconst 0, 1) := by decide +kernel
theorem dX0_overlapping_102 : decode cX0_overlapping 102 = .ok (.ireturn, 1) := by decide +kernel
def pX0_overlapping_L15 (x1 : Int32) (M : Mm) (s : Int32) : Option ((Int32) ⊕ ((Unit) ⊕ (Int32))) :=
if x1 ≤ s then
(some (Sum.inr (Sum.inl ())))
else
((pX4_part 4 x1 0 M).bind fun v1 =>
(pX4_part 4 s 0 M).bind fun v3 =>
if v1 = v3 then
((pX4_part 4 x1 1 M).bind fun v5 =>
(pX4_part 4 s 3 M).bind fun v7 =>
if v7 ≤ v5 then
(some (Sum.inl (s + 1)))
else
((pX4_part 4 x1 3 M).bind fun v9 =>
(pX4_part 4 s 1 M).bind fun v11 =>
if v9 ≤ v11 then
(some (Sum.inl (s + 1)))
else
(some (Sum.inr (Sum.inr (pX0_told 5 x1))))))
else
(some (Sum.inl (s + 1))))
def pX0_overlapping_L2 (M : Mm) (s : Int32) : Option ((Int32) ⊕ ((Unit) ⊕ (Int32))) :=
if (M 4 1) ≤ s then
(some (Sum.inr (Sum.inl ())))
else
((itr (pX0_overlapping_L15 s M) fuel 0).bind fun x15 =>
Sum.elim (fun yx15 =>
some (Sum.inl (s + 1))) (fun r => some (Sum.inr (Sum.inr r))) x15)
def pX0_overlapping (M : Mm) : Option (Int32) :=
(itr (pX0_overlapping_L2 M) fuel 0).bind fun x36 =>
Sum.elim (fun yx36 =>
some 0) (fun r => some r) x36
abbrev zX0_overlapping : Zx := (cX0_overlapping, RX0, 3, 1, (some .int))
set_option maxRecDepth 100000 in
set_option maxHeartbeats 4000000 in
theorem tX0_overlapping {l : Launch} {Y : Sx} {M : Mm} {q : Int32} (hY : isA Y) (h : pX0_overlapping M = some q) : Ct l Y yX0_overlapping cX0_overlapping 3 (some .int) 1 [.ref (adr Y 7)] M (some q) M := by
  refine Ct.of (by decide) rfl (lv := [(0, .ref (adr Y 7))]) rfl ?_
  intro K hkl C
  change Cx K zX0_overlapping Y at C
  subst hkl
  unfold pX0_overlapping at h
  show Wp K zX0_overlapping Y (Qm K Y (some q) M) M 0 [(0, .ref (adr Y 7))] []
  refine w_iconst C (pc := 0) dX0_overlapping_0 (v := 0) (by decide) ?_
  refine w_istore_n C (pc := 1) dX0_overlapping_1 (lv' := [(0, .ref (adr Y 7)), (1, .int 0)]) rfl rfl rfl ?_
  obtain ⟨x36, e37, h⟩ := ob h
  refine itr_W (P := fun s38 => Wp K zX0_overlapping Y (Qm K Y (some q) M) M 2 [(0, .ref (adr Y 7)), (1, .int s38)] []) (R := fun x9 => (∀ yx36, x9 = Sum.inl yx36 → Wp K zX0_overlapping Y (Qm K Y (some q) M) M 101 [(0, .ref (adr Y 7))] []) ∧ (∀ v9, x9 = Sum.inr v9 → some v9 = some q)) ?_ fuel 0 x36 e37 ?_
  · intro s38 r39 h42 ki40 kx41
    unfold pX0_overlapping_L2 at h42
    show Wp K zX0_overlapping Y (Qm K Y (some q) M) M 2 [(0, .ref (adr Y 7)), (1, .int s38)] []
    refine w_iload_n C (pc := 2) dX0_overlapping_2 1 rfl ?_
    refine w_aload_n C (pc := 3) dX0_overlapping_3 0 rfl ?_
    refine w_getR C (pc := 4) dX0_overlapping_4 f_X0_44 (sA_7 hY) rfl ?_
    refine w_getI C (pc := 7) dX0_overlapping_7 f_X0_77 (sA_4 hY) rfl ?_
    refine w_icge C (pc := 10) 101 dX0_overlapping_10 (by decide) (fun c => ?_) (fun c => ?_)
    · have h42 := it_t h42 c
      obtain rfl := Option.some.inj h42
      refine w_lv [0] rfl ?_
      have k9 := (kx41 (Sum.inl ()) rfl).1 () rfl
      try dsimp only at k9
      exact k9
    · have h42 := it_f h42 c
      refine w_iconst C (pc := 13) dX0_overlapping_13 (v := 0) (by decide) ?_
      refine w_istore_n C (pc := 14) dX0_overlapping_14 (lv' := [(0, .ref (adr Y 7)), (1, .int s38), (2, .int 0)]) rfl rfl rfl ?_
      obtain ⟨x43, e44, h42⟩ := ob h42
      refine itr_W (P := fun s45 => Wp K zX0_overlapping Y (Qm K Y (some q) M) M 15 [(0, .ref (adr Y 7)), (1, .int s38), (2, .int s45)] []) (R := fun x9 => (∀ yx43, x9 = Sum.inl yx43 → Wp K zX0_overlapping Y (Qm K Y (some q) M) M 95 [(0, .ref (adr Y 7)), (1, .int s38)] []) ∧ (∀ v9, x9 = Sum.inr v9 → some (Sum.inr (Sum.inr v9)) = some r39)) ?_ fuel 0 x43 e44 ?_
      · intro s45 r46 h49 ki47 kx48
        unfold pX0_overlapping_L15 at h49
        show Wp K zX0_overlapping Y (Qm K Y (some q) M) M 15 [(0, .ref (adr Y 7)), (1, .int s38), (2, .int s45)] []
        refine w_iload_n C (pc := 15) dX0_overlapping_15 2 rfl ?_
        refine w_iload_n C (pc := 16) dX0_overlapping_16 1 rfl ?_
        refine w_icge C (pc := 17) 95 dX0_overlapping_17 (by decide) (fun c => ?_) (fun c => ?_)
        · have h49 := it_t h49 c
          obtain rfl := Option.some.inj h49
          refine w_lv [0, 1] rfl ?_
          have k9 := (kx48 (Sum.inl ()) rfl).1 () rfl
          try dsimp only at k9
          exact k9
        · have h49 := it_f h49 c
          refine w_aload_n C (pc := 20) dX0_overlapping_20 0 rfl ?_
          refine w_getR C (pc := 21) dX0_overlapping_21 f_X0_44 (sA_7 hY) rfl ?_
          refine w_iload_n C (pc := 24) dX0_overlapping_24 1 rfl ?_
          refine w_iconst C (pc := 25) dX0_overlapping_25 (v := 0) (by decide) ?_
          obtain ⟨v50, e51, h49⟩ := ob h49
          refine w_cVi C (pc := 26) dX0_overlapping_26 my_X4_part mi_X4_part ml_X0_82 (sA_4 hY) rfl rfl rfl [.int s38, .int 0] rfl rfl (Nat.le_of_ble_eq_true rfl) (tX4_part (kPlan_4 hY) e51) ?_
          refine w_aload_n C (pc := 29) dX0_overlapping_29 0 rfl ?_
          refine w_getR C (pc := 30) dX0_overlapping_30 f_X0_44 (sA_7 hY) rfl ?_
          refine w_iload_n C (pc := 33) dX0_overlapping_33 2 rfl ?_
          refine w_iconst C (pc := 34) dX0_overlapping_34 (v := 0) (by decide) ?_
          obtain ⟨v52, e53, h49⟩ := ob h49
          refine w_cVi C (pc := 35) dX0_overlapping_35 my_X4_part mi_X4_part ml_X0_82 (sA_4 hY) rfl rfl rfl [.int s45, .int 0] rfl rfl (Nat.le_of_ble_eq_true rfl) (tX4_part (kPlan_4 hY) e53) ?_
          refine w_icne C (pc := 38) 89 dX0_overlapping_38 (by decide) (fun c => ?_) (fun c => ?_)
          · have h49 := it_t h49 c
            refine w_aload_n C (pc := 41) dX0_overlapping_41 0 rfl ?_
            refine w_getR C (pc := 42) dX0_overlapping_42 f_X0_44 (sA_7 hY) rfl ?_
            refine w_iload_n C (pc := 45) dX0_overlapping_45 1 rfl ?_
            refine w_iconst C (pc := 46) dX0_overlapping_46 (v := 1) (by decide) ?_
            obtain ⟨v54, e55, h49⟩ := ob h49
            refine w_cVi C (pc := 47) dX0_overlapping_47 my_X4_part mi_X4_part ml_X0_82 (sA_4 hY) rfl rfl rfl [.int s38, .int 1] rfl rfl (Nat.le_of_ble_eq_true rfl) (tX4_part (kPlan_4 hY) e55) ?_
            refine w_aload_n C (pc := 50) dX0_overlapping_50 0 rfl ?_
            refine w_getR C (pc := 51) dX0_overlapping_51 f_X0_44 (sA_7 hY) rfl ?_
            refine w_iload_n C (pc := 54) dX0_overlapping_54 2 rfl ?_
            refine w_iconst C (pc := 55) dX0_overlapping_55 (v := 3) (by decide) ?_
            obtain ⟨v56, e57, h49⟩ := ob h49
            refine w_cVi C (pc := 56) dX0_overlapping_56 my_X4_part mi_X4_part ml_X0_82 (sA_4 hY) rfl rfl rfl [.int s45, .int 3] rfl rfl (Nat.le_of_ble_eq_true rfl) (tX4_part (kPlan_4 hY) e57) ?_
            refine w_icge C (pc := 59) 89 dX0_overlapping_59 (by decide) (fun c => ?_) (fun c => ?_)
            · have h49 := it_t h49 c
              refine w_iinc C (pc := 89) dX0_overlapping_89 2 rfl (v := 1) (lv' := [(0, .ref (adr Y 7)), (1, .int s38), (2, .int (s45 + 1))]) (by decide) rfl rfl rfl ?_
              refine w_goto C (pc := 92) 15 dX0_overlapping_92 (by decide) ?_
              obtain rfl := Option.some.inj h49
              have k9 := ki47 (s45 + 1) rfl
              try dsimp only at k9
              exact k9
            · have h49 := it_f h49 c
              refine w_aload_n C (pc := 62) dX0_overlapping_62 0 rfl ?_
              refine w_getR C (pc := 63) dX0_overlapping_63 f_X0_44 (sA_7 hY) rfl ?_
              refine w_iload_n C (pc := 66) dX0_overlapping_66 1 rfl ?_
              refine w_iconst C (pc := 67) dX0_overlapping_67 (v := 3) (by decide) ?_
              obtain ⟨v58, e59, h49⟩ := ob h49
              refine w_cVi C (pc := 68) dX0_overlapping_68 my_X4_part mi_X4_part ml_X0_82 (sA_4 hY) rfl rfl rfl [.int s38, .int 3] rfl rfl (Nat.le_of_ble_eq_true rfl) (tX4_part (kPlan_4 hY) e59) ?_
              refine w_aload_n C (pc := 71) dX0_overlapping_71 0 rfl ?_
              refine w_getR C (pc := 72) dX0_overlapping_72 f_X0_44 (sA_7 hY) rfl ?_
              refine w_iload_n C (pc := 75) dX0_overlapping_75 2 rfl ?_
              refine w_iconst C (pc := 76) dX0_overlapping_76 (v := 1) (by decide) ?_
              obtain ⟨v60, e61, h49⟩ := ob h49
              refine w_cVi C (pc := 77) dX0_overlapping_77 my_X4_part mi_X4_part ml_X0_82 (sA_4 hY) rfl rfl rfl [.int s45, .int 1] rfl rfl (Nat.le_of_ble_eq_true rfl) (tX4_part (kPlan_4 hY) e61) ?_
              refine w_icle C (pc := 80) 89 dX0_overlapping_80 (by decide) (fun c => ?_) (fun c => ?_)
              · have h49 := it_t h49 c
                refine w_iinc C (pc := 89) dX0_overlapping_89 2 rfl (v := 1) (lv' := [(0, .ref (adr Y 7)), (1, .int s38), (2, .int (s45 + 1))]) (by decide) rfl rfl rfl ?_
                refine w_goto C (pc := 92) 15 dX0_overlapping_92 (by decide) ?_
                obtain rfl := Option.some.inj h49
                have k9 := ki47 (s45 + 1) rfl
                try dsimp only at k9
                exact k9
              · have h49 := it_f h49 c
                refine w_iconst C (pc := 83) dX0_overlapping_83 (v := 5) (by decide) ?_
                refine w_iload_n C (pc := 84) dX0_overlapping_84 1 rfl ?_
                refine w_cSi C (pc := 85) dX0_overlapping_85 my_X0_told ms_X0_told ml_X0_95 rfl rfl [.int 5, .int s38] rfl rfl (Nat.le_of_ble_eq_true rfl) (tX0_told  rfl) ?_
                obtain rfl := Option.some.inj h49
                have h62 := (kx48 (Sum.inr (pX0_told 5 s38)) rfl).2 (pX0_told 5 s38) rfl
                obtain rfl := Option.some.inj h62
                have h63 := (kx41 (Sum.inr (pX0_told 5 s38)) rfl).2 (pX0_told 5 s38) rfl
                exact w_retR C (pc := 88) dX0_overlapping_88 rfl (Option.some.inj h63)
          · have h49 := it_f h49 c
            refine w_iinc C (pc := 89) dX0_overlapping_89 2 rfl (v := 1) (lv' := [(0, .ref (adr Y 7)), (1, .int s38), (2, .int (s45 + 1))]) (by decide) rfl rfl rfl ?_
            refine w_goto C (pc := 92) 15 dX0_overlapping_92 (by decide) ?_
            obtain rfl := Option.some.inj h49
            have k9 := ki47 (s45 + 1) rfl
            try dsimp only at k9
            exact k9
      · refine ⟨fun yx43 hy => ?_, fun v9 hv => ?_⟩
        · subst hy
          dsimp only [Sum.elim] at h42
          refine w_iinc C (pc := 95) dX0_overlapping_95 1 rfl (v := 1) (lv' := [(0, .ref (adr Y 7)), (1, .int (s38 + 1))]) (by decide) rfl rfl rfl ?_
          refine w_goto C (pc := 98) 2 dX0_overlapping_98 (by decide) ?_
          obtain rfl := Option.some.inj h42
          have k9 := ki40 (s38 + 1) rfl
          try dsimp only at k9
          exact k9
        · subst hv
          exact h42
  · refine ⟨fun yx36 hy => ?_, fun v9 hv => ?_⟩
    · subst hy
      dsimp only [Sum.elim] at h
      refine w_iconst C (pc := 101) dX0_overlapping_101 (v := 0) (by decide) ?_
      exact w_retR C (pc := 102) dX0_overlapping_102 rfl (Option.some.inj h)
    · subst hv
      exact h
theorem dX0_wrongWithoutTimes_0 : decode cX0_wrongWithoutTimes 0 = .ok (.aload_n 0, 1) := by decide +kernel
theorem dX0_wrongWithoutTimes_1 : decode cX0_wrongWithoutTimes 1 = .ok (.invokevirtual 62, 3) := by decide +kernel
theorem dX0_wrongWithoutTimes_4 : decode cX0_wrongWithoutTimes 4 = .ok (.istore_n 1, 1) := by decide +kernel
theorem dX0_wrongWithoutTimes_5 : decode cX0_wrongWithoutTimes 5 = .ok (.iload_n 1, 1) := by decide +kernel
theorem dX0_wrongWithoutTimes_6 : decode cX0_wrongWithoutTimes 6 = .ok (.ifCond .ne 8, 3) := by decide +kernel
theorem dX0_wrongWithoutTimes_9 : decode cX0_wrongWithoutTimes 9 = .ok (.aload_n 0, 1) := by decide +kernel
theorem dX0_wrongWithoutTimes_10 : decode cX0_wrongWithoutTimes 10 = .ok (.invokevirtual 65, 3) := by decide +kernel
theorem dX0_wrongWithoutTimes_13 : decode cX0_wrongWithoutTimes 13 = .ok (.istore_n 1, 1) := by decide +kernel
theorem dX0_wrongWithoutTimes_14 : decode cX0_wrongWithoutTimes 14 = .ok (.iload_n 1, 1) := by decide +kernel
theorem dX0_wrongWithoutTimes_15 : decode cX0_wrongWithoutTimes 15 = .ok (.ifCond .ne 8, 3) := by decide +kernel
theorem dX0_wrongWithoutTimes_18 : decode cX0_wrongWithoutTimes 18 = .ok (.aload_n 0, 1) := by decide +kernel
theorem dX0_wrongWithoutTimes_19 : decode cX0_wrongWithoutTimes 19 = .ok (.invokevirtual 68, 3) := by decide +kernel
theorem dX0_wrongWithoutTimes_22 : decode cX0_wrongWithoutTimes 22 = .ok (.istore_n 1, 1) := by decide +kernel
theorem dX0_wrongWithoutTimes_23 : decode cX0_wrongWithoutTimes 23 = .ok (.iload_n 1, 1) := by decide +kernel
theorem dX0_wrongWithoutTimes_24 : decode cX0_wrongWithoutTimes 24 = .ok (.ifCond .ne 8, 3) := by decide +kernel
theorem dX0_wrongWithoutTimes_27 : decode cX0_wrongWithoutTimes 27 = .ok (.aload_n 0, 1) := by decide +kernel
theorem dX0_wrongWithoutTimes_28 : decode cX0_wrongWithoutTimes 28 = .ok (.invokevirtual 71, 3) := by decide +kernel
theorem dX0_wrongWithoutTimes_31 : decode cX0_wrongWithoutTimes 31 = .ok (.istore_n 1, 1) := by decide +kernel
theorem dX0_wrongWithoutTimes_32 : decode cX0_wrongWithoutTimes 32 = .ok (.iload_n 1, 1) := by decide +kernel
theorem dX0_wrongWithoutTimes_33 : decode cX0_wrongWithoutTimes 33 = .ok (.ifCond .ne 10, 3) := by decide +kernel
theorem dX0_wrongWithoutTimes_36 : decode cX0_wrongWithoutTimes 36 = .ok (.aload_n 0, 1) := by decide +kernel
theorem dX0_wrongWithoutTimes_37 : decode cX0_wrongWithoutTimes 37 = .ok (.invokevirtual 74, 3) := by decide +kernel
theorem dX0_wrongWithoutTimes_40 : decode cX0_wrongWithoutTimes 40 = .ok (.goto 4, 3) := by decide +kernel
theorem dX0_wrongWithoutTimes_43 : decode cX0_wrongWithoutTimes 43 = .ok (.iload_n 1, 1) := by decide +kernel
theorem dX0_wrongWithoutTimes_44 : decode cX0_wrongWithoutTimes 44 = .ok (.ireturn, 1) := by decide +kernel
def pX0_wrongWithoutTimes (M : Mm) : Option (Int32) :=
(pX0_impossibleSortie M).bind fun v1 =>
Option.bind (α := Int32) (if v1 = 0 then
((pX0_servedTooOften M).bind fun v18 =>
some v18)
else
(some v1)) fun j3 =>
Option.bind (α := Int32) (if j3 = 0 then
((pX0_servedByNobody M).bind fun v16 =>
some v16)
else
(some j3)) fun j6 =>
Option.bind (α := Int32) (if j6 = 0 then
((pX0_tooHeavy M).bind fun v14 =>
some v14)
else
(some j6)) fun j9 =>
if j9 = 0 then
((pX0_overlapping M).bind fun v12 =>
some v12)
else
(some j9)
abbrev zX0_wrongWithoutTimes : Zx := (cX0_wrongWithoutTimes, RX0, 2, 3, (some .int))
set_option maxRecDepth 100000 in
set_option maxHeartbeats 4000000 in
theorem tX0_wrongWithoutTimes {l : Launch} {Y : Sx} {M : Mm} {q : Int32} (hY : isA Y) (h : pX0_wrongWithoutTimes M = some q) : Ct l Y yX0_wrongWithoutTimes cX0_wrongWithoutTimes 2 (some .int) 3 [.ref (adr Y 7)] M (some q) M := by
  refine Ct.of (by decide) rfl (lv := [(0, .ref (adr Y 7))]) rfl ?_
  intro K hkl C
  change Cx K zX0_wrongWithoutTimes Y at C
  subst hkl
  unfold pX0_wrongWithoutTimes at h
  show Wp K zX0_wrongWithoutTimes Y (Qm K Y (some q) M) M 0 [(0, .ref (adr Y 7))] []
  refine w_aload_n C (pc := 0) dX0_wrongWithoutTimes_0 0 rfl ?_
  obtain ⟨v1, e2, h⟩ := ob h
  refine w_cVi C (pc := 1) dX0_wrongWithoutTimes_1 my_X0_impossibleSortie mi_X0_impossibleSortie ml_X0_62 (sA_7 hY) rfl rfl rfl [] rfl rfl (Nat.le_of_ble_eq_true rfl) (tX0_impossibleSortie hY  e2) ?_
  refine w_istore_n C (pc := 4) dX0_wrongWithoutTimes_4 (lv' := [(0, .ref (adr Y 7)), (1, .int v1)]) rfl rfl rfl ?_
  refine w_iload_n C (pc := 5) dX0_wrongWithoutTimes_5 1 rfl ?_
  obtain ⟨j3, e4, h5⟩ := ob h
  have Jj3 : Wp K zX0_wrongWithoutTimes Y (Qm K Y (some q) M) M 14 [(0, .ref (adr Y 7)), (1, .int j3)] [] := by
    refine w_iload_n C (pc := 14) dX0_wrongWithoutTimes_14 1 rfl ?_
    obtain ⟨j6, e7, h8⟩ := ob h5
    have Jj6 : Wp K zX0_wrongWithoutTimes Y (Qm K Y (some q) M) M 23 [(0, .ref (adr Y 7)), (1, .int j6)] [] := by
      refine w_iload_n C (pc := 23) dX0_wrongWithoutTimes_23 1 rfl ?_
      obtain ⟨j9, e10, h11⟩ := ob h8
      have Jj9 : Wp K zX0_wrongWithoutTimes Y (Qm K Y (some q) M) M 32 [(0, .ref (adr Y 7)), (1, .int j9)] [] := by
        refine w_iload_n C (pc := 32) dX0_wrongWithoutTimes_32 1 rfl ?_
        refine w_ifne C (pc := 33) 43 dX0_wrongWithoutTimes_33 (by decide) (fun c => ?_) (fun c => ?_)
        · have h11 := it_t h11 c
          refine w_aload_n C (pc := 36) dX0_wrongWithoutTimes_36 0 rfl ?_
          obtain ⟨v12, e13, h11⟩ := ob h11
          refine w_cVi C (pc := 37) dX0_wrongWithoutTimes_37 my_X0_overlapping mi_X0_overlapping ml_X0_74 (sA_7 hY) rfl rfl rfl [] rfl rfl (Nat.le_of_ble_eq_true rfl) (tX0_overlapping hY  e13) ?_
          refine w_goto C (pc := 40) 44 dX0_wrongWithoutTimes_40 (by decide) ?_
          exact w_retR C (pc := 44) dX0_wrongWithoutTimes_44 rfl (Option.some.inj h11)
        · have h11 := it_f h11 c
          refine w_iload_n C (pc := 43) dX0_wrongWithoutTimes_43 1 rfl ?_
          exact w_retR C (pc := 44) dX0_wrongWithoutTimes_44 rfl (Option.some.inj h11)
      refine w_ifne C (pc := 24) 32 dX0_wrongWithoutTimes_24 (by decide) (fun c => ?_) (fun c => ?_)
      · have e10 := it_t e10 c
        refine w_aload_n C (pc := 27) dX0_wrongWithoutTimes_27 0 rfl ?_
        obtain ⟨v14, e15, e10⟩ := ob e10
        refine w_cVi C (pc := 28) dX0_wrongWithoutTimes_28 my_X0_tooHeavy mi_X0_tooHeavy ml_X0_71 (sA_7 hY) rfl rfl rfl [] rfl rfl (Nat.le_of_ble_eq_true rfl) (tX0_tooHeavy hY  e15) ?_
        refine w_istore_n C (pc := 31) dX0_wrongWithoutTimes_31 (lv' := [(0, .ref (adr Y 7)), (1, .int v14)]) rfl rfl rfl ?_
        obtain rfl := Option.some.inj e10
        exact Jj9
      · have e10 := it_f e10 c
        obtain rfl := Option.some.inj e10
        exact Jj9
    refine w_ifne C (pc := 15) 23 dX0_wrongWithoutTimes_15 (by decide) (fun c => ?_) (fun c => ?_)
    · have e7 := it_t e7 c
      refine w_aload_n C (pc := 18) dX0_wrongWithoutTimes_18 0 rfl ?_
      obtain ⟨v16, e17, e7⟩ := ob e7
      refine w_cVi C (pc := 19) dX0_wrongWithoutTimes_19 my_X0_servedByNobody mi_X0_servedByNobody ml_X0_68 (sA_7 hY) rfl rfl rfl [] rfl rfl (Nat.le_of_ble_eq_true rfl) (tX0_servedByNobody hY  e17) ?_
      refine w_istore_n C (pc := 22) dX0_wrongWithoutTimes_22 (lv' := [(0, .ref (adr Y 7)), (1, .int v16)]) rfl rfl rfl ?_
      obtain rfl := Option.some.inj e7
      exact Jj6
    · have e7 := it_f e7 c
      obtain rfl := Option.some.inj e7
      exact Jj6
  refine w_ifne C (pc := 6) 14 dX0_wrongWithoutTimes_6 (by decide) (fun c => ?_) (fun c => ?_)
  · have e4 := it_t e4 c
    refine w_aload_n C (pc := 9) dX0_wrongWithoutTimes_9 0 rfl ?_
    obtain ⟨v18, e19, e4⟩ := ob e4
    refine w_cVi C (pc := 10) dX0_wrongWithoutTimes_10 my_X0_servedTooOften mi_X0_servedTooOften ml_X0_65 (sA_7 hY) rfl rfl rfl [] rfl rfl (Nat.le_of_ble_eq_true rfl) (tX0_servedTooOften hY  e19) ?_
    refine w_istore_n C (pc := 13) dX0_wrongWithoutTimes_13 (lv' := [(0, .ref (adr Y 7)), (1, .int v18)]) rfl rfl rfl ?_
    obtain rfl := Option.some.inj e4
    exact Jj3
  · have e4 := it_f e4 c
    obtain rfl := Option.some.inj e4
    exact Jj3
theorem dX0_tooLongInAir_0 : decode cX0_tooLongInAir 0 = .ok (.iconst 0, 1) := by decide +kernel
theorem dX0_tooLongInAir_1 : decode cX0_tooLongInAir 1 = .ok (.istore_n 1, 1) := by decide +kernel
theorem dX0_tooLongInAir_2 : decode cX0_tooLongInAir 2 = .ok (.iload_n 1, 1) := by decide +kernel
theorem dX0_tooLongInAir_3 : decode cX0_tooLongInAir 3 = .ok (.aload_n 0, 1) := by decide +kernel
theorem dX0_tooLongInAir_4 : decode cX0_tooLongInAir 4 = .ok (.getfield 44, 3) := by decide +kernel
theorem dX0_tooLongInAir_7 : decode cX0_tooLongInAir 7 = .ok (.getfield 77, 3) := by decide +kernel
theorem dX0_tooLongInAir_10 : decode cX0_tooLongInAir 10 = .ok (.if_icmp .ge 32, 3) := by decide +kernel
theorem dX0_tooLongInAir_13 : decode cX0_tooLongInAir 13 = .ok (.aload_n 0, 1) := by decide +kernel
theorem dX0_tooLongInAir_14 : decode cX0_tooLongInAir 14 = .ok (.iload_n 1, 1) := by decide +kernel
theorem dX0_tooLongInAir_15 : decode cX0_tooLongInAir 15 = .ok (.invokevirtual 114, 3) := by decide +kernel
theorem dX0_tooLongInAir_18 : decode cX0_tooLongInAir 18 = .ok (.aload_n 0, 1) := by decide +kernel
theorem dX0_tooLongInAir_19 : decode cX0_tooLongInAir 19 = .ok (.getfield 40, 3) := by decide +kernel
theorem dX0_tooLongInAir_22 : decode cX0_tooLongInAir 22 = .ok (.iconst 5, 1) := by decide +kernel
theorem dX0_tooLongInAir_23 : decode cX0_tooLongInAir 23 = .ok (.invokevirtual 86, 3) := by decide +kernel
theorem dX0_tooLongInAir_26 : decode cX0_tooLongInAir 26 = .ok (.if_icmp .le 10, 3) := by decide +kernel
theorem dX0_tooLongInAir_29 : decode cX0_tooLongInAir 29 = .ok (.bipush 6, 2) := by decide +kernel
theorem dX0_tooLongInAir_31 : decode cX0_tooLongInAir 31 = .ok (.iload_n 1, 1) := by decide +kernel
theorem dX0_tooLongInAir_32 : decode cX0_tooLongInAir 32 = .ok (.invokestatic 95, 3) := by decide +kernel
theorem dX0_tooLongInAir_35 : decode cX0_tooLongInAir 35 = .ok (.ireturn, 1) := by decide +kernel
theorem dX0_tooLongInAir_36 : decode cX0_tooLongInAir 36 = .ok (.iinc 1 1, 3) := by decide +kernel
theorem dX0_tooLongInAir_39 : decode cX0_tooLongInAir 39 = .ok (.goto (-37), 3) := by decide +kernel
theorem dX0_tooLongInAir_42 : decode cX0_tooLongInAir 42 = .ok (.iconst 0, 1) := by decide +kernel
theorem dX0_tooLongInAir_43 : decode cX0_tooLongInAir 43 = .ok (.ireturn, 1) := by decide +kernel
def pX0_tooLongInAir_L2 (M : Mm) (s : Int32) : Option ((Int32) ⊕ ((Unit) ⊕ (Int32))) :=
if (M 4 1) ≤ s then
(some (Sum.inr (Sum.inl ())))
else
((pX0_air s M).bind fun v1 =>
(pX3_setting 1 5 M).bind fun v3 =>
if v1 ≤ v3 then
(some (Sum.inl (s + 1)))
else
(some (Sum.inr (Sum.inr (pX0_told 6 s)))))
def pX0_tooLongInAir (M : Mm) : Option (Int32) :=
(itr (pX0_tooLongInAir_L2 M) fuel 0).bind fun x6 =>
Sum.elim (fun yx6 =>
some 0) (fun r => some r) x6
abbrev zX0_tooLongInAir : Zx := (cX0_tooLongInAir, RX0, 2, 2, (some .int))
set_option maxRecDepth 100000 in
set_option maxHeartbeats 4000000 in
theorem tX0_tooLongInAir {l : Launch} {Y : Sx} {M : Mm} {q : Int32} (hY : isA Y) (h : pX0_tooLongInAir M = some q) : Ct l Y yX0_tooLongInAir cX0_tooLongInAir 2 (some .int) 2 [.ref (adr Y 7)] M (some q) M := by
  refine Ct.of (by decide) rfl (lv := [(0, .ref (adr Y 7))]) rfl ?_
  intro K hkl C
  change Cx K zX0_tooLongInAir Y at C
  subst hkl
  unfold pX0_tooLongInAir at h
  show Wp K zX0_tooLongInAir Y (Qm K Y (some q) M) M 0 [(0, .ref (adr Y 7))] []
  refine w_iconst C (pc := 0) dX0_tooLongInAir_0 (v := 0) (by decide) ?_
  refine w_istore_n C (pc := 1) dX0_tooLongInAir_1 (lv' := [(0, .ref (adr Y 7)), (1, .int 0)]) rfl rfl rfl ?_
  obtain ⟨x6, e7, h⟩ := ob h
  refine itr_W (P := fun s8 => Wp K zX0_tooLongInAir Y (Qm K Y (some q) M) M 2 [(0, .ref (adr Y 7)), (1, .int s8)] []) (R := fun x9 => (∀ yx6, x9 = Sum.inl yx6 → Wp K zX0_tooLongInAir Y (Qm K Y (some q) M) M 42 [(0, .ref (adr Y 7))] []) ∧ (∀ v9, x9 = Sum.inr v9 → some v9 = some q)) ?_ fuel 0 x6 e7 ?_
  · intro s8 r9 h12 ki10 kx11
    unfold pX0_tooLongInAir_L2 at h12
    show Wp K zX0_tooLongInAir Y (Qm K Y (some q) M) M 2 [(0, .ref (adr Y 7)), (1, .int s8)] []
    refine w_iload_n C (pc := 2) dX0_tooLongInAir_2 1 rfl ?_
    refine w_aload_n C (pc := 3) dX0_tooLongInAir_3 0 rfl ?_
    refine w_getR C (pc := 4) dX0_tooLongInAir_4 f_X0_44 (sA_7 hY) rfl ?_
    refine w_getI C (pc := 7) dX0_tooLongInAir_7 f_X0_77 (sA_4 hY) rfl ?_
    refine w_icge C (pc := 10) 42 dX0_tooLongInAir_10 (by decide) (fun c => ?_) (fun c => ?_)
    · have h12 := it_t h12 c
      obtain rfl := Option.some.inj h12
      refine w_lv [0] rfl ?_
      have k9 := (kx11 (Sum.inl ()) rfl).1 () rfl
      try dsimp only at k9
      exact k9
    · have h12 := it_f h12 c
      refine w_aload_n C (pc := 13) dX0_tooLongInAir_13 0 rfl ?_
      refine w_iload_n C (pc := 14) dX0_tooLongInAir_14 1 rfl ?_
      obtain ⟨v13, e14, h12⟩ := ob h12
      refine w_cVi C (pc := 15) dX0_tooLongInAir_15 my_X0_air mi_X0_air ml_X0_114 (sA_7 hY) rfl rfl rfl [.int s8] rfl rfl (Nat.le_of_ble_eq_true rfl) (tX0_air hY  e14) ?_
      refine w_aload_n C (pc := 18) dX0_tooLongInAir_18 0 rfl ?_
      refine w_getR C (pc := 19) dX0_tooLongInAir_19 f_X0_40 (sA_7 hY) rfl ?_
      refine w_iconst C (pc := 22) dX0_tooLongInAir_22 (v := 5) (by decide) ?_
      obtain ⟨v15, e16, h12⟩ := ob h12
      refine w_cVi C (pc := 23) dX0_tooLongInAir_23 my_X3_setting mi_X3_setting ml_X0_86 (sA_1 hY) rfl rfl rfl [.int 5] rfl rfl (Nat.le_of_ble_eq_true rfl) (tX3_setting (kLand_1 hY) e16) ?_
      refine w_icle C (pc := 26) 36 dX0_tooLongInAir_26 (by decide) (fun c => ?_) (fun c => ?_)
      · have h12 := it_t h12 c
        refine w_iinc C (pc := 36) dX0_tooLongInAir_36 1 rfl (v := 1) (lv' := [(0, .ref (adr Y 7)), (1, .int (s8 + 1))]) (by decide) rfl rfl rfl ?_
        refine w_goto C (pc := 39) 2 dX0_tooLongInAir_39 (by decide) ?_
        obtain rfl := Option.some.inj h12
        have k9 := ki10 (s8 + 1) rfl
        try dsimp only at k9
        exact k9
      · have h12 := it_f h12 c
        refine w_bipush C (pc := 29) dX0_tooLongInAir_29 (v := 6) (by decide) ?_
        refine w_iload_n C (pc := 31) dX0_tooLongInAir_31 1 rfl ?_
        refine w_cSi C (pc := 32) dX0_tooLongInAir_32 my_X0_told ms_X0_told ml_X0_95 rfl rfl [.int 6, .int s8] rfl rfl (Nat.le_of_ble_eq_true rfl) (tX0_told  rfl) ?_
        obtain rfl := Option.some.inj h12
        have h17 := (kx11 (Sum.inr (pX0_told 6 s8)) rfl).2 (pX0_told 6 s8) rfl
        exact w_retR C (pc := 35) dX0_tooLongInAir_35 rfl (Option.some.inj h17)
  · refine ⟨fun yx6 hy => ?_, fun v9 hv => ?_⟩
    · subst hy
      dsimp only [Sum.elim] at h
      refine w_iconst C (pc := 42) dX0_tooLongInAir_42 (v := 0) (by decide) ?_
      exact w_retR C (pc := 43) dX0_tooLongInAir_43 rfl (Option.some.inj h)
    · subst hv
      exact h
theorem dX0_look_0 : decode cX0_look 0 = .ok (.aload_n 0, 1) := by decide +kernel
theorem dX0_look_1 : decode cX0_look 1 = .ok (.aload_n 0, 1) := by decide +kernel
theorem dX0_look_2 : decode cX0_look 2 = .ok (.invokevirtual 48, 3) := by decide +kernel
theorem dX0_look_5 : decode cX0_look 5 = .ok (.putfield 52, 3) := by decide +kernel
theorem dX0_look_8 : decode cX0_look 8 = .ok (.aload_n 0, 1) := by decide +kernel
theorem dX0_look_9 : decode cX0_look 9 = .ok (.getfield 52, 3) := by decide +kernel
theorem dX0_look_12 : decode cX0_look 12 = .ok (.ifCond .eq 5, 3) := by decide +kernel
theorem dX0_look_15 : decode cX0_look 15 = .ok (.iconst 0, 1) := by decide +kernel
theorem dX0_look_16 : decode cX0_look 16 = .ok (.ireturn, 1) := by decide +kernel
theorem dX0_look_17 : decode cX0_look 17 = .ok (.aload_n 0, 1) := by decide +kernel
theorem dX0_look_18 : decode cX0_look 18 = .ok (.invokevirtual 56, 3) := by decide +kernel
theorem dX0_look_21 : decode cX0_look 21 = .ok (.aload_n 0, 1) := by decide +kernel
theorem dX0_look_22 : decode cX0_look 22 = .ok (.aload_n 0, 1) := by decide +kernel
theorem dX0_look_23 : decode cX0_look 23 = .ok (.invokevirtual 59, 3) := by decide +kernel
theorem dX0_look_26 : decode cX0_look 26 = .ok (.putfield 52, 3) := by decide +kernel
theorem dX0_look_29 : decode cX0_look 29 = .ok (.iconst 1, 1) := by decide +kernel
theorem dX0_look_30 : decode cX0_look 30 = .ok (.ireturn, 1) := by decide +kernel
def pX0_look (M : Mm) : Option (Int32 × Mm) :=
(pX0_wrongWithoutTimes M).bind fun v1 =>
bnd (mset M 7 3 v1) fun M3 =>
if (M3 7 3) = 0 then
((pX0_drivePlan M3).bind fun v5 =>
(pX0_tooLongInAir v5).bind fun v7 =>
bnd (mset v5 7 3 v7) fun M9 =>
some (1, M9))
else
(some (0, M3))
abbrev zX0_look : Zx := (cX0_look, RX0, 1, 5, (some .boolean))
set_option maxRecDepth 100000 in
set_option maxHeartbeats 4000000 in
theorem tX0_look {l : Launch} {Y : Sx} {M : Mm} {q : Int32 × Mm} (hY : isA Y) (h : pX0_look M = some q) : Ct l Y yX0_look cX0_look 1 (some .boolean) 5 [.ref (adr Y 7)] M (some q.1) q.2 := by
  refine Ct.of (by decide) rfl (lv := [(0, .ref (adr Y 7))]) rfl ?_
  intro K hkl C
  change Cx K zX0_look Y at C
  subst hkl
  unfold pX0_look at h
  show Wp K zX0_look Y (Qm K Y (some q.1) q.2) M 0 [(0, .ref (adr Y 7))] []
  refine w_aload_n C (pc := 0) dX0_look_0 0 rfl ?_
  refine w_aload_n C (pc := 1) dX0_look_1 0 rfl ?_
  obtain ⟨v1, e2, h⟩ := ob h
  refine w_cVi C (pc := 2) dX0_look_2 my_X0_wrongWithoutTimes mi_X0_wrongWithoutTimes ml_X0_48 (sA_7 hY) rfl rfl rfl [] rfl rfl (Nat.le_of_ble_eq_true rfl) (tX0_wrongWithoutTimes hY  e2) ?_
  obtain ⟨M3, e4, h⟩ := bn h
  refine w_putI C (pc := 5) dX0_look_5 fp_X0_52 (sA_7 hY) rfl ?_
  rw [e4]
  refine w_aload_n C (pc := 8) dX0_look_8 0 rfl ?_
  refine w_getI C (pc := 9) dX0_look_9 f_X0_52 (sA_7 hY) rfl ?_
  refine w_ifeq C (pc := 12) 17 dX0_look_12 (by decide) (fun c => ?_) (fun c => ?_)
  · have h := it_t h c
    refine w_aload_n C (pc := 17) dX0_look_17 0 rfl ?_
    obtain ⟨v5, e6, h⟩ := ob h
    refine w_cVv C (pc := 18) dX0_look_18 my_X0_drivePlan mi_X0_drivePlan ml_X0_56 (sA_7 hY) rfl rfl rfl [] rfl rfl (Nat.le_of_ble_eq_true rfl) (tX0_drivePlan hY  e6) ?_
    refine w_aload_n C (pc := 21) dX0_look_21 0 rfl ?_
    refine w_aload_n C (pc := 22) dX0_look_22 0 rfl ?_
    obtain ⟨v7, e8, h⟩ := ob h
    refine w_cVi C (pc := 23) dX0_look_23 my_X0_tooLongInAir mi_X0_tooLongInAir ml_X0_59 (sA_7 hY) rfl rfl rfl [] rfl rfl (Nat.le_of_ble_eq_true rfl) (tX0_tooLongInAir hY  e8) ?_
    obtain ⟨M9, e10, h⟩ := bn h
    refine w_putI C (pc := 26) dX0_look_26 fp_X0_52 (sA_7 hY) rfl ?_
    rw [e10]
    refine w_iconst C (pc := 29) dX0_look_29 (v := 1) (by decide) ?_
    exact w_retz C (pc := 30) dX0_look_30 rfl (by decide) (Option.some.inj h)
  · have h := it_f h c
    refine w_iconst C (pc := 15) dX0_look_15 (v := 0) (by decide) ?_
    exact w_retz C (pc := 16) dX0_look_16 rfl (by decide) (Option.some.inj h)
theorem dX0_ofSortie_0 : decode cX0_ofSortie 0 = .ok (.iload_n 2, 1) := by decide +kernel
theorem dX0_ofSortie_1 : decode cX0_ofSortie 1 = .ok (.tableswitch 65 0 3 #[31, 38, 45, 51], 31) := by decide +kernel
theorem dX0_ofSortie_32 : decode cX0_ofSortie 32 = .ok (.aload_n 0, 1) := by decide +kernel
theorem dX0_ofSortie_33 : decode cX0_ofSortie 33 = .ok (.getfield 31, 3) := by decide +kernel
theorem dX0_ofSortie_36 : decode cX0_ofSortie 36 = .ok (.iload_n 1, 1) := by decide +kernel
theorem dX0_ofSortie_37 : decode cX0_ofSortie 37 = .ok (.iaload, 1) := by decide +kernel
theorem dX0_ofSortie_38 : decode cX0_ofSortie 38 = .ok (.ireturn, 1) := by decide +kernel
theorem dX0_ofSortie_39 : decode cX0_ofSortie 39 = .ok (.aload_n 0, 1) := by decide +kernel
theorem dX0_ofSortie_40 : decode cX0_ofSortie 40 = .ok (.getfield 34, 3) := by decide +kernel
theorem dX0_ofSortie_43 : decode cX0_ofSortie 43 = .ok (.iload_n 1, 1) := by decide +kernel
theorem dX0_ofSortie_44 : decode cX0_ofSortie 44 = .ok (.iaload, 1) := by decide +kernel
theorem dX0_ofSortie_45 : decode cX0_ofSortie 45 = .ok (.ireturn, 1) := by decide +kernel
theorem dX0_ofSortie_46 : decode cX0_ofSortie 46 = .ok (.aload_n 0, 1) := by decide +kernel
theorem dX0_ofSortie_47 : decode cX0_ofSortie 47 = .ok (.iload_n 1, 1) := by decide +kernel
theorem dX0_ofSortie_48 : decode cX0_ofSortie 48 = .ok (.invokevirtual 114, 3) := by decide +kernel
theorem dX0_ofSortie_51 : decode cX0_ofSortie 51 = .ok (.ireturn, 1) := by decide +kernel
theorem dX0_ofSortie_52 : decode cX0_ofSortie 52 = .ok (.aload_n 0, 1) := by decide +kernel
theorem dX0_ofSortie_53 : decode cX0_ofSortie 53 = .ok (.getfield 37, 3) := by decide +kernel
theorem dX0_ofSortie_56 : decode cX0_ofSortie 56 = .ok (.iload_n 1, 1) := by decide +kernel
theorem dX0_ofSortie_57 : decode cX0_ofSortie 57 = .ok (.iaload, 1) := by decide +kernel
theorem dX0_ofSortie_58 : decode cX0_ofSortie 58 = .ok (.aload_n 0, 1) := by decide +kernel
theorem dX0_ofSortie_59 : decode cX0_ofSortie 59 = .ok (.getfield 34, 3) := by decide +kernel
theorem dX0_ofSortie_62 : decode cX0_ofSortie 62 = .ok (.iload_n 1, 1) := by decide +kernel
theorem dX0_ofSortie_63 : decode cX0_ofSortie 63 = .ok (.iaload, 1) := by decide +kernel
theorem dX0_ofSortie_64 : decode cX0_ofSortie 64 = .ok (.isub, 1) := by decide +kernel
theorem dX0_ofSortie_65 : decode cX0_ofSortie 65 = .ok (.ireturn, 1) := by decide +kernel
theorem dX0_ofSortie_66 : decode cX0_ofSortie 66 = .ok (.iconst (-1), 1) := by decide +kernel
theorem dX0_ofSortie_67 : decode cX0_ofSortie 67 = .ok (.ireturn, 1) := by decide +kernel
def pX0_ofSortie (x1 : Int32) (x2 : Int32) (M : Mm) : Option (Int32) :=
if x2 = 0 then
((ald M 14 8 x1).bind fun v1 =>
some v1)
else
(if x2 = 1 then
((ald M 15 8 x1).bind fun v3 =>
some v3)
else
(if x2 = 2 then
((pX0_air x1 M).bind fun v5 =>
some v5)
else
(if x2 = 3 then
((ald M 16 8 x1).bind fun v7 =>
(ald M 15 8 x1).bind fun v9 =>
some (v7 - v9))
else
(some (-1)))))
abbrev zX0_ofSortie : Zx := (cX0_ofSortie, RX0, 3, 2, (some .int))
set_option maxRecDepth 100000 in
set_option maxHeartbeats 4000000 in
theorem tX0_ofSortie {l : Launch} {Y : Sx} {M : Mm} {x1 : Int32} {x2 : Int32} {q : Int32} (hY : isA Y) (h : pX0_ofSortie x1 x2 M = some q) : Ct l Y yX0_ofSortie cX0_ofSortie 3 (some .int) 2 [.ref (adr Y 7), .int x1, .int x2] M (some q) M := by
  refine Ct.of (by decide) rfl (lv := [(0, .ref (adr Y 7)), (1, .int x1), (2, .int x2)]) rfl ?_
  intro K hkl C
  change Cx K zX0_ofSortie Y at C
  subst hkl
  unfold pX0_ofSortie at h
  show Wp K zX0_ofSortie Y (Qm K Y (some q) M) M 0 [(0, .ref (adr Y 7)), (1, .int x1), (2, .int x2)] []
  refine w_iload_n C (pc := 0) dX0_ofSortie_0 2 rfl ?_
  by_cases c1_0 : x2 = 0
  · have h := it_t h c1_0
    refine w_swIn C (pc := 1) (v := 0) 32 dX0_ofSortie_1 c1_0 (by decide) (by decide) rfl (by decide) ?_
    refine w_aload_n C (pc := 32) dX0_ofSortie_32 0 rfl ?_
    refine w_getR C (pc := 33) dX0_ofSortie_33 f_X0_31 (sA_7 hY) rfl ?_
    refine w_iload_n C (pc := 36) dX0_ofSortie_36 1 rfl ?_
    obtain ⟨v1, e2, h⟩ := ob h
    refine w_iald C (pc := 37) dX0_ofSortie_37 (sA_14 hY) e2 ?_
    exact w_retR C (pc := 38) dX0_ofSortie_38 rfl (Option.some.inj h)
  have h := it_f h c1_0
  by_cases c1_1 : x2 = 1
  · have h := it_t h c1_1
    refine w_swIn C (pc := 1) (v := 1) 39 dX0_ofSortie_1 c1_1 (by decide) (by decide) rfl (by decide) ?_
    refine w_aload_n C (pc := 39) dX0_ofSortie_39 0 rfl ?_
    refine w_getR C (pc := 40) dX0_ofSortie_40 f_X0_34 (sA_7 hY) rfl ?_
    refine w_iload_n C (pc := 43) dX0_ofSortie_43 1 rfl ?_
    obtain ⟨v3, e4, h⟩ := ob h
    refine w_iald C (pc := 44) dX0_ofSortie_44 (sA_15 hY) e4 ?_
    exact w_retR C (pc := 45) dX0_ofSortie_45 rfl (Option.some.inj h)
  have h := it_f h c1_1
  by_cases c1_2 : x2 = 2
  · have h := it_t h c1_2
    refine w_swIn C (pc := 1) (v := 2) 46 dX0_ofSortie_1 c1_2 (by decide) (by decide) rfl (by decide) ?_
    refine w_aload_n C (pc := 46) dX0_ofSortie_46 0 rfl ?_
    refine w_iload_n C (pc := 47) dX0_ofSortie_47 1 rfl ?_
    obtain ⟨v5, e6, h⟩ := ob h
    refine w_cVi C (pc := 48) dX0_ofSortie_48 my_X0_air mi_X0_air ml_X0_114 (sA_7 hY) rfl rfl rfl [.int x1] rfl rfl (Nat.le_of_ble_eq_true rfl) (tX0_air hY  e6) ?_
    exact w_retR C (pc := 51) dX0_ofSortie_51 rfl (Option.some.inj h)
  have h := it_f h c1_2
  by_cases c1_3 : x2 = 3
  · have h := it_t h c1_3
    refine w_swIn C (pc := 1) (v := 3) 52 dX0_ofSortie_1 c1_3 (by decide) (by decide) rfl (by decide) ?_
    refine w_aload_n C (pc := 52) dX0_ofSortie_52 0 rfl ?_
    refine w_getR C (pc := 53) dX0_ofSortie_53 f_X0_37 (sA_7 hY) rfl ?_
    refine w_iload_n C (pc := 56) dX0_ofSortie_56 1 rfl ?_
    obtain ⟨v7, e8, h⟩ := ob h
    refine w_iald C (pc := 57) dX0_ofSortie_57 (sA_16 hY) e8 ?_
    refine w_aload_n C (pc := 58) dX0_ofSortie_58 0 rfl ?_
    refine w_getR C (pc := 59) dX0_ofSortie_59 f_X0_34 (sA_7 hY) rfl ?_
    refine w_iload_n C (pc := 62) dX0_ofSortie_62 1 rfl ?_
    obtain ⟨v9, e10, h⟩ := ob h
    refine w_iald C (pc := 63) dX0_ofSortie_63 (sA_15 hY) e10 ?_
    refine w_isub C (pc := 64) dX0_ofSortie_64 ?_
    exact w_retR C (pc := 65) dX0_ofSortie_65 rfl (Option.some.inj h)
  have h := it_f h c1_3
  refine w_swOut C (pc := 1) 66 dX0_ofSortie_1 (by have q0 := lv_neT c1_0 (a := 0) rfl; have q1 := lv_neT c1_1 (a := 1) rfl; have q2 := lv_neT c1_2 (a := 2) rfl; have q3 := lv_neT c1_3 (a := 3) rfl; omega) (by decide) ?_
  refine w_iconst C (pc := 66) dX0_ofSortie_66 (v := (-1)) (by decide) ?_
  exact w_retR C (pc := 67) dX0_ofSortie_67 rfl (Option.some.inj h)
theorem dX0_ofStop_0 : decode cX0_ofStop 0 = .ok (.iload_n 2, 1) := by decide +kernel
theorem dX0_ofStop_1 : decode cX0_ofStop 1 = .ok (.tableswitch 72 0 4 #[35, 44, 51, 58, 65], 35) := by decide +kernel
theorem dX0_ofStop_36 : decode cX0_ofStop 36 = .ok (.aload_n 0, 1) := by decide +kernel
theorem dX0_ofStop_37 : decode cX0_ofStop 37 = .ok (.getfield 44, 3) := by decide +kernel
theorem dX0_ofStop_40 : decode cX0_ofStop 40 = .ok (.iload_n 1, 1) := by decide +kernel
theorem dX0_ofStop_41 : decode cX0_ofStop 41 = .ok (.invokevirtual 101, 3) := by decide +kernel
theorem dX0_ofStop_44 : decode cX0_ofStop 44 = .ok (.ireturn, 1) := by decide +kernel
theorem dX0_ofStop_45 : decode cX0_ofStop 45 = .ok (.aload_n 0, 1) := by decide +kernel
theorem dX0_ofStop_46 : decode cX0_ofStop 46 = .ok (.getfield 18, 3) := by decide +kernel
theorem dX0_ofStop_49 : decode cX0_ofStop 49 = .ok (.iload_n 1, 1) := by decide +kernel
theorem dX0_ofStop_50 : decode cX0_ofStop 50 = .ok (.iaload, 1) := by decide +kernel
theorem dX0_ofStop_51 : decode cX0_ofStop 51 = .ok (.ireturn, 1) := by decide +kernel
theorem dX0_ofStop_52 : decode cX0_ofStop 52 = .ok (.aload_n 0, 1) := by decide +kernel
theorem dX0_ofStop_53 : decode cX0_ofStop 53 = .ok (.getfield 22, 3) := by decide +kernel
theorem dX0_ofStop_56 : decode cX0_ofStop 56 = .ok (.iload_n 1, 1) := by decide +kernel
theorem dX0_ofStop_57 : decode cX0_ofStop 57 = .ok (.iaload, 1) := by decide +kernel
theorem dX0_ofStop_58 : decode cX0_ofStop 58 = .ok (.ireturn, 1) := by decide +kernel
theorem dX0_ofStop_59 : decode cX0_ofStop 59 = .ok (.aload_n 0, 1) := by decide +kernel
theorem dX0_ofStop_60 : decode cX0_ofStop 60 = .ok (.getfield 25, 3) := by decide +kernel
theorem dX0_ofStop_63 : decode cX0_ofStop 63 = .ok (.iload_n 1, 1) := by decide +kernel
theorem dX0_ofStop_64 : decode cX0_ofStop 64 = .ok (.iaload, 1) := by decide +kernel
theorem dX0_ofStop_65 : decode cX0_ofStop 65 = .ok (.ireturn, 1) := by decide +kernel
theorem dX0_ofStop_66 : decode cX0_ofStop 66 = .ok (.aload_n 0, 1) := by decide +kernel
theorem dX0_ofStop_67 : decode cX0_ofStop 67 = .ok (.getfield 28, 3) := by decide +kernel
theorem dX0_ofStop_70 : decode cX0_ofStop 70 = .ok (.iload_n 1, 1) := by decide +kernel
theorem dX0_ofStop_71 : decode cX0_ofStop 71 = .ok (.iaload, 1) := by decide +kernel
theorem dX0_ofStop_72 : decode cX0_ofStop 72 = .ok (.ireturn, 1) := by decide +kernel
theorem dX0_ofStop_73 : decode cX0_ofStop 73 = .ok (.iconst (-1), 1) := by decide +kernel
theorem dX0_ofStop_74 : decode cX0_ofStop 74 = .ok (.ireturn, 1) := by decide +kernel
def pX0_ofStop (x1 : Int32) (x2 : Int32) (M : Mm) : Option (Int32) :=
if x2 = 0 then
((pX4_placeAt 4 x1 M).bind fun v1 =>
some v1)
else
(if x2 = 1 then
((ald M 10 10 x1).bind fun v3 =>
some v3)
else
(if x2 = 2 then
((ald M 11 10 x1).bind fun v5 =>
some v5)
else
(if x2 = 3 then
((ald M 12 10 x1).bind fun v7 =>
some v7)
else
(if x2 = 4 then
((ald M 13 10 x1).bind fun v9 =>
some v9)
else
(some (-1))))))
abbrev zX0_ofStop : Zx := (cX0_ofStop, RX0, 3, 1, (some .int))
set_option maxRecDepth 100000 in
set_option maxHeartbeats 4000000 in
theorem tX0_ofStop {l : Launch} {Y : Sx} {M : Mm} {x1 : Int32} {x2 : Int32} {q : Int32} (hY : isA Y) (h : pX0_ofStop x1 x2 M = some q) : Ct l Y yX0_ofStop cX0_ofStop 3 (some .int) 1 [.ref (adr Y 7), .int x1, .int x2] M (some q) M := by
  refine Ct.of (by decide) rfl (lv := [(0, .ref (adr Y 7)), (1, .int x1), (2, .int x2)]) rfl ?_
  intro K hkl C
  change Cx K zX0_ofStop Y at C
  subst hkl
  unfold pX0_ofStop at h
  show Wp K zX0_ofStop Y (Qm K Y (some q) M) M 0 [(0, .ref (adr Y 7)), (1, .int x1), (2, .int x2)] []
  refine w_iload_n C (pc := 0) dX0_ofStop_0 2 rfl ?_
  by_cases c1_0 : x2 = 0
  · have h := it_t h c1_0
    refine w_swIn C (pc := 1) (v := 0) 36 dX0_ofStop_1 c1_0 (by decide) (by decide) rfl (by decide) ?_
    refine w_aload_n C (pc := 36) dX0_ofStop_36 0 rfl ?_
    refine w_getR C (pc := 37) dX0_ofStop_37 f_X0_44 (sA_7 hY) rfl ?_
    refine w_iload_n C (pc := 40) dX0_ofStop_40 1 rfl ?_
    obtain ⟨v1, e2, h⟩ := ob h
    refine w_cVi C (pc := 41) dX0_ofStop_41 my_X4_placeAt mi_X4_placeAt ml_X0_101 (sA_4 hY) rfl rfl rfl [.int x1] rfl rfl (Nat.le_of_ble_eq_true rfl) (tX4_placeAt (kPlan_4 hY) e2) ?_
    exact w_retR C (pc := 44) dX0_ofStop_44 rfl (Option.some.inj h)
  have h := it_f h c1_0
  by_cases c1_1 : x2 = 1
  · have h := it_t h c1_1
    refine w_swIn C (pc := 1) (v := 1) 45 dX0_ofStop_1 c1_1 (by decide) (by decide) rfl (by decide) ?_
    refine w_aload_n C (pc := 45) dX0_ofStop_45 0 rfl ?_
    refine w_getR C (pc := 46) dX0_ofStop_46 f_X0_18 (sA_7 hY) rfl ?_
    refine w_iload_n C (pc := 49) dX0_ofStop_49 1 rfl ?_
    obtain ⟨v3, e4, h⟩ := ob h
    refine w_iald C (pc := 50) dX0_ofStop_50 (sA_10 hY) e4 ?_
    exact w_retR C (pc := 51) dX0_ofStop_51 rfl (Option.some.inj h)
  have h := it_f h c1_1
  by_cases c1_2 : x2 = 2
  · have h := it_t h c1_2
    refine w_swIn C (pc := 1) (v := 2) 52 dX0_ofStop_1 c1_2 (by decide) (by decide) rfl (by decide) ?_
    refine w_aload_n C (pc := 52) dX0_ofStop_52 0 rfl ?_
    refine w_getR C (pc := 53) dX0_ofStop_53 f_X0_22 (sA_7 hY) rfl ?_
    refine w_iload_n C (pc := 56) dX0_ofStop_56 1 rfl ?_
    obtain ⟨v5, e6, h⟩ := ob h
    refine w_iald C (pc := 57) dX0_ofStop_57 (sA_11 hY) e6 ?_
    exact w_retR C (pc := 58) dX0_ofStop_58 rfl (Option.some.inj h)
  have h := it_f h c1_2
  by_cases c1_3 : x2 = 3
  · have h := it_t h c1_3
    refine w_swIn C (pc := 1) (v := 3) 59 dX0_ofStop_1 c1_3 (by decide) (by decide) rfl (by decide) ?_
    refine w_aload_n C (pc := 59) dX0_ofStop_59 0 rfl ?_
    refine w_getR C (pc := 60) dX0_ofStop_60 f_X0_25 (sA_7 hY) rfl ?_
    refine w_iload_n C (pc := 63) dX0_ofStop_63 1 rfl ?_
    obtain ⟨v7, e8, h⟩ := ob h
    refine w_iald C (pc := 64) dX0_ofStop_64 (sA_12 hY) e8 ?_
    exact w_retR C (pc := 65) dX0_ofStop_65 rfl (Option.some.inj h)
  have h := it_f h c1_3
  by_cases c1_4 : x2 = 4
  · have h := it_t h c1_4
    refine w_swIn C (pc := 1) (v := 4) 66 dX0_ofStop_1 c1_4 (by decide) (by decide) rfl (by decide) ?_
    refine w_aload_n C (pc := 66) dX0_ofStop_66 0 rfl ?_
    refine w_getR C (pc := 67) dX0_ofStop_67 f_X0_28 (sA_7 hY) rfl ?_
    refine w_iload_n C (pc := 70) dX0_ofStop_70 1 rfl ?_
    obtain ⟨v9, e10, h⟩ := ob h
    refine w_iald C (pc := 71) dX0_ofStop_71 (sA_13 hY) e10 ?_
    exact w_retR C (pc := 72) dX0_ofStop_72 rfl (Option.some.inj h)
  have h := it_f h c1_4
  refine w_swOut C (pc := 1) 73 dX0_ofStop_1 (by have q0 := lv_neT c1_0 (a := 0) rfl; have q1 := lv_neT c1_1 (a := 1) rfl; have q2 := lv_neT c1_2 (a := 2) rfl; have q3 := lv_neT c1_3 (a := 3) rfl; have q4 := lv_neT c1_4 (a := 4) rfl; omega) (by decide) ?_
  refine w_iconst C (pc := 73) dX0_ofStop_73 (v := (-1)) (by decide) ?_
  exact w_retR C (pc := 74) dX0_ofStop_74 rfl (Option.some.inj h)
theorem dX0_total_0 : decode cX0_total 0 = .ok (.iload_n 1, 1) := by decide +kernel
theorem dX0_total_1 : decode cX0_total 1 = .ok (.ifCond .lt 8, 3) := by decide +kernel
theorem dX0_total_4 : decode cX0_total 4 = .ok (.iload_n 1, 1) := by decide +kernel
theorem dX0_total_5 : decode cX0_total 5 = .ok (.iconst 3, 1) := by decide +kernel
theorem dX0_total_6 : decode cX0_total 6 = .ok (.if_icmp .le 5, 3) := by decide +kernel
theorem dX0_total_9 : decode cX0_total 9 = .ok (.iconst (-1), 1) := by decide +kernel
theorem dX0_total_10 : decode cX0_total 10 = .ok (.ireturn, 1) := by decide +kernel
theorem dX0_total_11 : decode cX0_total 11 = .ok (.iconst 0, 1) := by decide +kernel
theorem dX0_total_12 : decode cX0_total 12 = .ok (.istore_n 2, 1) := by decide +kernel
theorem dX0_total_13 : decode cX0_total 13 = .ok (.iload_n 1, 1) := by decide +kernel
theorem dX0_total_14 : decode cX0_total 14 = .ok (.iconst 1, 1) := by decide +kernel
theorem dX0_total_15 : decode cX0_total 15 = .ok (.if_icmp .gt 46, 3) := by decide +kernel
theorem dX0_total_18 : decode cX0_total 18 = .ok (.iconst 0, 1) := by decide +kernel
theorem dX0_total_19 : decode cX0_total 19 = .ok (.istore_n 3, 1) := by decide +kernel
theorem dX0_total_20 : decode cX0_total 20 = .ok (.iload_n 3, 1) := by decide +kernel
theorem dX0_total_21 : decode cX0_total 21 = .ok (.aload_n 0, 1) := by decide +kernel
theorem dX0_total_22 : decode cX0_total 22 = .ok (.getfield 44, 3) := by decide +kernel
theorem dX0_total_25 : decode cX0_total 25 = .ok (.invokevirtual 92, 3) := by decide +kernel
theorem dX0_total_28 : decode cX0_total 28 = .ok (.if_icmp .ge 30, 3) := by decide +kernel
theorem dX0_total_31 : decode cX0_total 31 = .ok (.iload_n 2, 1) := by decide +kernel
theorem dX0_total_32 : decode cX0_total 32 = .ok (.iload_n 1, 1) := by decide +kernel
theorem dX0_total_33 : decode cX0_total 33 = .ok (.ifCond .ne 12, 3) := by decide +kernel
theorem dX0_total_36 : decode cX0_total 36 = .ok (.aload_n 0, 1) := by decide +kernel
theorem dX0_total_37 : decode cX0_total 37 = .ok (.getfield 28, 3) := by decide +kernel
theorem dX0_total_40 : decode cX0_total 40 = .ok (.iload_n 3, 1) := by decide +kernel
theorem dX0_total_41 : decode cX0_total 41 = .ok (.iaload, 1) := by decide +kernel
theorem dX0_total_42 : decode cX0_total 42 = .ok (.goto 8, 3) := by decide +kernel
theorem dX0_total_45 : decode cX0_total 45 = .ok (.aload_n 0, 1) := by decide +kernel
theorem dX0_total_46 : decode cX0_total 46 = .ok (.iload_n 3, 1) := by decide +kernel
theorem dX0_total_47 : decode cX0_total 47 = .ok (.invokevirtual 156, 3) := by decide +kernel
theorem dX0_total_50 : decode cX0_total 50 = .ok (.iadd, 1) := by decide +kernel
theorem dX0_total_51 : decode cX0_total 51 = .ok (.istore_n 2, 1) := by decide +kernel
theorem dX0_total_52 : decode cX0_total 52 = .ok (.iinc 3 1, 3) := by decide +kernel
theorem dX0_total_55 : decode cX0_total 55 = .ok (.goto (-35), 3) := by decide +kernel
theorem dX0_total_58 : decode cX0_total 58 = .ok (.goto 51, 3) := by decide +kernel
theorem dX0_total_61 : decode cX0_total 61 = .ok (.iconst 0, 1) := by decide +kernel
theorem dX0_total_62 : decode cX0_total 62 = .ok (.istore_n 3, 1) := by decide +kernel
theorem dX0_total_63 : decode cX0_total 63 = .ok (.iload_n 3, 1) := by decide +kernel
theorem dX0_total_64 : decode cX0_total 64 = .ok (.aload_n 0, 1) := by decide +kernel
theorem dX0_total_65 : decode cX0_total 65 = .ok (.getfield 44, 3) := by decide +kernel
theorem dX0_total_68 : decode cX0_total 68 = .ok (.getfield 77, 3) := by decide +kernel
theorem dX0_total_71 : decode cX0_total 71 = .ok (.if_icmp .ge 38, 3) := by decide +kernel
theorem dX0_total_74 : decode cX0_total 74 = .ok (.iload_n 2, 1) := by decide +kernel
theorem dX0_total_75 : decode cX0_total 75 = .ok (.iload_n 1, 1) := by decide +kernel
theorem dX0_total_76 : decode cX0_total 76 = .ok (.iconst 2, 1) := by decide +kernel
theorem dX0_total_77 : decode cX0_total 77 = .ok (.if_icmp .ne 11, 3) := by decide +kernel
theorem dX0_total_80 : decode cX0_total 80 = .ok (.aload_n 0, 1) := by decide +kernel
theorem dX0_total_81 : decode cX0_total 81 = .ok (.iload_n 3, 1) := by decide +kernel
theorem dX0_total_82 : decode cX0_total 82 = .ok (.invokevirtual 159, 3) := by decide +kernel
theorem dX0_total_85 : decode cX0_total 85 = .ok (.goto 16, 3) := by decide +kernel
theorem dX0_total_88 : decode cX0_total 88 = .ok (.aload_n 0, 1) := by decide +kernel
theorem dX0_total_89 : decode cX0_total 89 = .ok (.getfield 37, 3) := by decide +kernel
theorem dX0_total_92 : decode cX0_total 92 = .ok (.iload_n 3, 1) := by decide +kernel
theorem dX0_total_93 : decode cX0_total 93 = .ok (.iaload, 1) := by decide +kernel
theorem dX0_total_94 : decode cX0_total 94 = .ok (.aload_n 0, 1) := by decide +kernel
theorem dX0_total_95 : decode cX0_total 95 = .ok (.getfield 34, 3) := by decide +kernel
theorem dX0_total_98 : decode cX0_total 98 = .ok (.iload_n 3, 1) := by decide +kernel
theorem dX0_total_99 : decode cX0_total 99 = .ok (.iaload, 1) := by decide +kernel
theorem dX0_total_100 : decode cX0_total 100 = .ok (.isub, 1) := by decide +kernel
theorem dX0_total_101 : decode cX0_total 101 = .ok (.iadd, 1) := by decide +kernel
theorem dX0_total_102 : decode cX0_total 102 = .ok (.istore_n 2, 1) := by decide +kernel
theorem dX0_total_103 : decode cX0_total 103 = .ok (.iinc 3 1, 3) := by decide +kernel
theorem dX0_total_106 : decode cX0_total 106 = .ok (.goto (-43), 3) := by decide +kernel
theorem dX0_total_109 : decode cX0_total 109 = .ok (.iload_n 2, 1) := by decide +kernel
theorem dX0_total_110 : decode cX0_total 110 = .ok (.ireturn, 1) := by decide +kernel
def pX0_total_L63 (x1 : Int32) (M : Mm) (s : Int32 × Int32) : Option ((Int32 × Int32) ⊕ (Int32)) :=
if (M 4 1) ≤ s.2 then
(some (Sum.inr s.1))
else
(if x1 = 2 then
((pX0_flownBy s.2 M).bind fun v1 =>
bnd (s.1 + v1) fun v3 =>
some (Sum.inl (v3, s.2 + 1)))
else
((ald M 16 8 s.2).bind fun v4 =>
(ald M 15 8 s.2).bind fun v6 =>
bnd (s.1 + (v4 - v6)) fun v8 =>
some (Sum.inl (v8, s.2 + 1))))
def pX0_total_L20 (x1 : Int32) (M : Mm) (s : Int32 × Int32) : Option ((Int32 × Int32) ⊕ (Int32)) :=
if (pX4_stops 4 M) ≤ s.2 then
(some (Sum.inr s.1))
else
(if x1 = 0 then
((ald M 13 10 s.2).bind fun v24 =>
bnd (s.1 + v24) fun v26 =>
some (Sum.inl (v26, s.2 + 1)))
else
((pX0_drivenTo s.2 M).bind fun v27 =>
bnd (s.1 + v27) fun v29 =>
some (Sum.inl (v29, s.2 + 1))))
def pX0_total (x1 : Int32) (M : Mm) : Option (Int32) :=
if x1 < 0 then
(some (-1))
else
(if x1 ≤ 3 then
(if 1 < x1 then
((itr (pX0_total_L63 x1 M) fuel (0, 0)).bind fun x9 =>
some x9)
else
((itr (pX0_total_L20 x1 M) fuel (0, 0)).bind fun x30 =>
some x30))
else
(some (-1)))
abbrev zX0_total : Zx := (cX0_total, RX0, 4, 2, (some .int))
set_option maxRecDepth 100000 in
set_option maxHeartbeats 4000000 in
theorem tX0_total {l : Launch} {Y : Sx} {M : Mm} {x1 : Int32} {q : Int32} (hY : isA Y) (h : pX0_total x1 M = some q) : Ct l Y yX0_total cX0_total 4 (some .int) 2 [.ref (adr Y 7), .int x1] M (some q) M := by
  refine Ct.of (by decide) rfl (lv := [(0, .ref (adr Y 7)), (1, .int x1)]) rfl ?_
  intro K hkl C
  change Cx K zX0_total Y at C
  subst hkl
  unfold pX0_total at h
  show Wp K zX0_total Y (Qm K Y (some q) M) M 0 [(0, .ref (adr Y 7)), (1, .int x1)] []
  refine w_iload_n C (pc := 0) dX0_total_0 1 rfl ?_
  refine w_iflt C (pc := 1) 9 dX0_total_1 (by decide) (fun c => ?_) (fun c => ?_)
  · have h := it_t h c
    refine w_iconst C (pc := 9) dX0_total_9 (v := (-1)) (by decide) ?_
    exact w_retR C (pc := 10) dX0_total_10 rfl (Option.some.inj h)
  · have h := it_f h c
    refine w_iload_n C (pc := 4) dX0_total_4 1 rfl ?_
    refine w_iconst C (pc := 5) dX0_total_5 (v := 3) (by decide) ?_
    refine w_icle C (pc := 6) 11 dX0_total_6 (by decide) (fun c => ?_) (fun c => ?_)
    · have h := it_t h c
      refine w_iconst C (pc := 11) dX0_total_11 (v := 0) (by decide) ?_
      refine w_istore_n C (pc := 12) dX0_total_12 (lv' := [(0, .ref (adr Y 7)), (1, .int x1), (2, .int 0)]) rfl rfl rfl ?_
      refine w_iload_n C (pc := 13) dX0_total_13 1 rfl ?_
      refine w_iconst C (pc := 14) dX0_total_14 (v := 1) (by decide) ?_
      refine w_icgt C (pc := 15) 61 dX0_total_15 (by decide) (fun c => ?_) (fun c => ?_)
      · have h := it_t h c
        refine w_iconst C (pc := 61) dX0_total_61 (v := 0) (by decide) ?_
        refine w_istore_n C (pc := 62) dX0_total_62 (lv' := [(0, .ref (adr Y 7)), (1, .int x1), (2, .int 0), (3, .int 0)]) rfl rfl rfl ?_
        obtain ⟨x9, e10, h⟩ := ob h
        refine itr_W (P := fun s11 => Wp K zX0_total Y (Qm K Y (some q) M) M 63 [(0, .ref (adr Y 7)), (1, .int x1), (2, .int s11.1), (3, .int s11.2)] []) (R := fun x9 => Wp K zX0_total Y (Qm K Y (some q) M) M 109 [(0, .ref (adr Y 7)), (1, .int x1), (2, .int x9)] []) ?_ fuel (0, 0) x9 e10 ?_
        · intro s11 r12 h15 ki13 kx14
          unfold pX0_total_L63 at h15
          show Wp K zX0_total Y (Qm K Y (some q) M) M 63 [(0, .ref (adr Y 7)), (1, .int x1), (2, .int s11.1), (3, .int s11.2)] []
          refine w_iload_n C (pc := 63) dX0_total_63 3 rfl ?_
          refine w_aload_n C (pc := 64) dX0_total_64 0 rfl ?_
          refine w_getR C (pc := 65) dX0_total_65 f_X0_44 (sA_7 hY) rfl ?_
          refine w_getI C (pc := 68) dX0_total_68 f_X0_77 (sA_4 hY) rfl ?_
          refine w_icge C (pc := 71) 109 dX0_total_71 (by decide) (fun c => ?_) (fun c => ?_)
          · have h15 := it_t h15 c
            obtain rfl := Option.some.inj h15
            refine w_lv [0, 1, 2] rfl ?_
            have k9 := kx14 s11.1 rfl
            try dsimp only at k9
            exact k9
          · have h15 := it_f h15 c
            refine w_iload_n C (pc := 74) dX0_total_74 2 rfl ?_
            refine w_iload_n C (pc := 75) dX0_total_75 1 rfl ?_
            refine w_iconst C (pc := 76) dX0_total_76 (v := 2) (by decide) ?_
            refine w_icne C (pc := 77) 88 dX0_total_77 (by decide) (fun c => ?_) (fun c => ?_)
            · have h15 := it_t h15 c
              refine w_aload_n C (pc := 80) dX0_total_80 0 rfl ?_
              refine w_iload_n C (pc := 81) dX0_total_81 3 rfl ?_
              obtain ⟨v16, e17, h15⟩ := ob h15
              refine w_cVi C (pc := 82) dX0_total_82 my_X0_flownBy mi_X0_flownBy ml_X0_159 (sA_7 hY) rfl rfl rfl [.int s11.2] rfl rfl (Nat.le_of_ble_eq_true rfl) (tX0_flownBy hY  e17) ?_
              refine w_goto C (pc := 85) 101 dX0_total_85 (by decide) ?_
              refine w_iadd C (pc := 101) dX0_total_101 ?_
              refine w_bnd h15 (fun v18 h15 => ?_)
              refine w_istore_n C (pc := 102) dX0_total_102 (lv' := [(0, .ref (adr Y 7)), (1, .int x1), (2, .int v18), (3, .int s11.2)]) rfl rfl rfl ?_
              refine w_iinc C (pc := 103) dX0_total_103 3 rfl (v := 1) (lv' := [(0, .ref (adr Y 7)), (1, .int x1), (2, .int v18), (3, .int (s11.2 + 1))]) (by decide) rfl rfl rfl ?_
              refine w_goto C (pc := 106) 63 dX0_total_106 (by decide) ?_
              obtain rfl := Option.some.inj h15
              have k9 := ki13 (v18, s11.2 + 1) rfl
              try dsimp only at k9
              exact k9
            · have h15 := it_f h15 c
              refine w_aload_n C (pc := 88) dX0_total_88 0 rfl ?_
              refine w_getR C (pc := 89) dX0_total_89 f_X0_37 (sA_7 hY) rfl ?_
              refine w_iload_n C (pc := 92) dX0_total_92 3 rfl ?_
              obtain ⟨v19, e20, h15⟩ := ob h15
              refine w_iald C (pc := 93) dX0_total_93 (sA_16 hY) e20 ?_
              refine w_aload_n C (pc := 94) dX0_total_94 0 rfl ?_
              refine w_getR C (pc := 95) dX0_total_95 f_X0_34 (sA_7 hY) rfl ?_
              refine w_iload_n C (pc := 98) dX0_total_98 3 rfl ?_
              obtain ⟨v21, e22, h15⟩ := ob h15
              refine w_iald C (pc := 99) dX0_total_99 (sA_15 hY) e22 ?_
              refine w_isub C (pc := 100) dX0_total_100 ?_
              refine w_iadd C (pc := 101) dX0_total_101 ?_
              refine w_bnd h15 (fun v23 h15 => ?_)
              refine w_istore_n C (pc := 102) dX0_total_102 (lv' := [(0, .ref (adr Y 7)), (1, .int x1), (2, .int v23), (3, .int s11.2)]) rfl rfl rfl ?_
              refine w_iinc C (pc := 103) dX0_total_103 3 rfl (v := 1) (lv' := [(0, .ref (adr Y 7)), (1, .int x1), (2, .int v23), (3, .int (s11.2 + 1))]) (by decide) rfl rfl rfl ?_
              refine w_goto C (pc := 106) 63 dX0_total_106 (by decide) ?_
              obtain rfl := Option.some.inj h15
              have k9 := ki13 (v23, s11.2 + 1) rfl
              try dsimp only at k9
              exact k9
        · refine w_iload_n C (pc := 109) dX0_total_109 2 rfl ?_
          exact w_retR C (pc := 110) dX0_total_110 rfl (Option.some.inj h)
      · have h := it_f h c
        refine w_iconst C (pc := 18) dX0_total_18 (v := 0) (by decide) ?_
        refine w_istore_n C (pc := 19) dX0_total_19 (lv' := [(0, .ref (adr Y 7)), (1, .int x1), (2, .int 0), (3, .int 0)]) rfl rfl rfl ?_
        obtain ⟨x30, e31, h⟩ := ob h
        refine itr_W (P := fun s32 => Wp K zX0_total Y (Qm K Y (some q) M) M 20 [(0, .ref (adr Y 7)), (1, .int x1), (2, .int s32.1), (3, .int s32.2)] []) (R := fun x30 => Wp K zX0_total Y (Qm K Y (some q) M) M 58 [(0, .ref (adr Y 7)), (1, .int x1), (2, .int x30)] []) ?_ fuel (0, 0) x30 e31 ?_
        · intro s32 r33 h36 ki34 kx35
          unfold pX0_total_L20 at h36
          show Wp K zX0_total Y (Qm K Y (some q) M) M 20 [(0, .ref (adr Y 7)), (1, .int x1), (2, .int s32.1), (3, .int s32.2)] []
          refine w_iload_n C (pc := 20) dX0_total_20 3 rfl ?_
          refine w_aload_n C (pc := 21) dX0_total_21 0 rfl ?_
          refine w_getR C (pc := 22) dX0_total_22 f_X0_44 (sA_7 hY) rfl ?_
          refine w_cVi C (pc := 25) dX0_total_25 my_X4_stops mi_X4_stops ml_X0_92 (sA_4 hY) rfl rfl rfl [] rfl rfl (Nat.le_of_ble_eq_true rfl) (tX4_stops (kPlan_4 hY) rfl) ?_
          refine w_icge C (pc := 28) 58 dX0_total_28 (by decide) (fun c => ?_) (fun c => ?_)
          · have h36 := it_t h36 c
            obtain rfl := Option.some.inj h36
            refine w_lv [0, 1, 2] rfl ?_
            have k9 := kx35 s32.1 rfl
            try dsimp only at k9
            exact k9
          · have h36 := it_f h36 c
            refine w_iload_n C (pc := 31) dX0_total_31 2 rfl ?_
            refine w_iload_n C (pc := 32) dX0_total_32 1 rfl ?_
            refine w_ifne C (pc := 33) 45 dX0_total_33 (by decide) (fun c => ?_) (fun c => ?_)
            · have h36 := it_t h36 c
              refine w_aload_n C (pc := 36) dX0_total_36 0 rfl ?_
              refine w_getR C (pc := 37) dX0_total_37 f_X0_28 (sA_7 hY) rfl ?_
              refine w_iload_n C (pc := 40) dX0_total_40 3 rfl ?_
              obtain ⟨v37, e38, h36⟩ := ob h36
              refine w_iald C (pc := 41) dX0_total_41 (sA_13 hY) e38 ?_
              refine w_goto C (pc := 42) 50 dX0_total_42 (by decide) ?_
              refine w_iadd C (pc := 50) dX0_total_50 ?_
              refine w_bnd h36 (fun v39 h36 => ?_)
              refine w_istore_n C (pc := 51) dX0_total_51 (lv' := [(0, .ref (adr Y 7)), (1, .int x1), (2, .int v39), (3, .int s32.2)]) rfl rfl rfl ?_
              refine w_iinc C (pc := 52) dX0_total_52 3 rfl (v := 1) (lv' := [(0, .ref (adr Y 7)), (1, .int x1), (2, .int v39), (3, .int (s32.2 + 1))]) (by decide) rfl rfl rfl ?_
              refine w_goto C (pc := 55) 20 dX0_total_55 (by decide) ?_
              obtain rfl := Option.some.inj h36
              have k9 := ki34 (v39, s32.2 + 1) rfl
              try dsimp only at k9
              exact k9
            · have h36 := it_f h36 c
              refine w_aload_n C (pc := 45) dX0_total_45 0 rfl ?_
              refine w_iload_n C (pc := 46) dX0_total_46 3 rfl ?_
              obtain ⟨v40, e41, h36⟩ := ob h36
              refine w_cVi C (pc := 47) dX0_total_47 my_X0_drivenTo mi_X0_drivenTo ml_X0_156 (sA_7 hY) rfl rfl rfl [.int s32.2] rfl rfl (Nat.le_of_ble_eq_true rfl) (tX0_drivenTo hY  e41) ?_
              refine w_iadd C (pc := 50) dX0_total_50 ?_
              refine w_bnd h36 (fun v42 h36 => ?_)
              refine w_istore_n C (pc := 51) dX0_total_51 (lv' := [(0, .ref (adr Y 7)), (1, .int x1), (2, .int v42), (3, .int s32.2)]) rfl rfl rfl ?_
              refine w_iinc C (pc := 52) dX0_total_52 3 rfl (v := 1) (lv' := [(0, .ref (adr Y 7)), (1, .int x1), (2, .int v42), (3, .int (s32.2 + 1))]) (by decide) rfl rfl rfl ?_
              refine w_goto C (pc := 55) 20 dX0_total_55 (by decide) ?_
              obtain rfl := Option.some.inj h36
              have k9 := ki34 (v42, s32.2 + 1) rfl
              try dsimp only at k9
              exact k9
        · refine w_goto C (pc := 58) 109 dX0_total_58 (by decide) ?_
          refine w_iload_n C (pc := 109) dX0_total_109 2 rfl ?_
          exact w_retR C (pc := 110) dX0_total_110 rfl (Option.some.inj h)
    · have h := it_f h c
      refine w_iconst C (pc := 9) dX0_total_9 (v := (-1)) (by decide) ?_
      exact w_retR C (pc := 10) dX0_total_10 rfl (Option.some.inj h)
