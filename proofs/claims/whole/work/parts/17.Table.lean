theorem dX5_leg_0 : decode cX5_leg 0 = .ok (.aload_n 0, 1) := by decide +kernel
theorem dX5_leg_1 : decode cX5_leg 1 = .ok (.getfield 9, 3) := by decide +kernel
theorem dX5_leg_4 : decode cX5_leg 4 = .ok (.aload_n 0, 1) := by decide +kernel
theorem dX5_leg_5 : decode cX5_leg 5 = .ok (.getfield 25, 3) := by decide +kernel
theorem dX5_leg_8 : decode cX5_leg 8 = .ok (.iload_n 1, 1) := by decide +kernel
theorem dX5_leg_9 : decode cX5_leg 9 = .ok (.iaload, 1) := by decide +kernel
theorem dX5_leg_10 : decode cX5_leg 10 = .ok (.bipush 9, 2) := by decide +kernel
theorem dX5_leg_12 : decode cX5_leg 12 = .ok (.imul, 1) := by decide +kernel
theorem dX5_leg_13 : decode cX5_leg 13 = .ok (.aload_n 0, 1) := by decide +kernel
theorem dX5_leg_14 : decode cX5_leg 14 = .ok (.getfield 25, 3) := by decide +kernel
theorem dX5_leg_17 : decode cX5_leg 17 = .ok (.iload_n 2, 1) := by decide +kernel
theorem dX5_leg_18 : decode cX5_leg 18 = .ok (.iaload, 1) := by decide +kernel
theorem dX5_leg_19 : decode cX5_leg 19 = .ok (.iadd, 1) := by decide +kernel
theorem dX5_leg_20 : decode cX5_leg 20 = .ok (.iaload, 1) := by decide +kernel
theorem dX5_leg_21 : decode cX5_leg 21 = .ok (.ireturn, 1) := by decide +kernel
def pX5_leg (x1 : Int32) (x2 : Int32) (M : Mm) : Option (Int32) :=
(ald M 22 10 x1).bind fun v1 =>
(ald M 22 10 x2).bind fun v3 =>
(ald M 18 81 ((v1 * 9) + v3)).bind fun v5 =>
some v5
abbrev zX5_leg : Zx := (cX5_leg, RX5, 3, 0, (some .int))
set_option maxRecDepth 100000 in
set_option maxHeartbeats 4000000 in
theorem tX5_leg {l : Launch} {Y : Sx} {M : Mm} {x1 : Int32} {x2 : Int32} {q : Int32} (hY : isA Y) (h : pX5_leg x1 x2 M = some q) : Ct l Y yX5_leg cX5_leg 3 (some .int) 0 [.ref (adr Y 17), .int x1, .int x2] M (some q) M := by
  refine Ct.of (by decide) rfl (lv := [(0, .ref (adr Y 17)), (1, .int x1), (2, .int x2)]) rfl ?_
  intro K hkl C
  change Cx K zX5_leg Y at C
  subst hkl
  unfold pX5_leg at h
  show Wp K zX5_leg Y (Qm K Y (some q) M) M 0 [(0, .ref (adr Y 17)), (1, .int x1), (2, .int x2)] []
  refine w_aload_n C (pc := 0) dX5_leg_0 0 rfl ?_
  refine w_getR C (pc := 1) dX5_leg_1 f_X5_9 (sA_17 hY) rfl ?_
  refine w_aload_n C (pc := 4) dX5_leg_4 0 rfl ?_
  refine w_getR C (pc := 5) dX5_leg_5 f_X5_25 (sA_17 hY) rfl ?_
  refine w_iload_n C (pc := 8) dX5_leg_8 1 rfl ?_
  obtain ⟨v1, e2, h⟩ := ob h
  refine w_iald C (pc := 9) dX5_leg_9 (sA_22 hY) e2 ?_
  refine w_bipush C (pc := 10) dX5_leg_10 (v := 9) (by decide) ?_
  refine w_imul C (pc := 12) dX5_leg_12 ?_
  refine w_aload_n C (pc := 13) dX5_leg_13 0 rfl ?_
  refine w_getR C (pc := 14) dX5_leg_14 f_X5_25 (sA_17 hY) rfl ?_
  refine w_iload_n C (pc := 17) dX5_leg_17 2 rfl ?_
  obtain ⟨v3, e4, h⟩ := ob h
  refine w_iald C (pc := 18) dX5_leg_18 (sA_22 hY) e4 ?_
  refine w_iadd C (pc := 19) dX5_leg_19 ?_
  obtain ⟨v5, e6, h⟩ := ob h
  refine w_iald C (pc := 20) dX5_leg_20 (sA_18 hY) e6 ?_
  exact w_retR C (pc := 21) dX5_leg_21 rfl (Option.some.inj h)
theorem dX5_beginWithVan_0 : decode cX5_beginWithVan 0 = .ok (.aload_n 0, 1) := by decide +kernel
theorem dX5_beginWithVan_1 : decode cX5_beginWithVan 1 = .ok (.iload_n 1, 1) := by decide +kernel
theorem dX5_beginWithVan_2 : decode cX5_beginWithVan 2 = .ok (.iconst 1, 1) := by decide +kernel
theorem dX5_beginWithVan_3 : decode cX5_beginWithVan 3 = .ok (.isub, 1) := by decide +kernel
theorem dX5_beginWithVan_4 : decode cX5_beginWithVan 4 = .ok (.iload_n 1, 1) := by decide +kernel
theorem dX5_beginWithVan_5 : decode cX5_beginWithVan 5 = .ok (.invokevirtual 113, 3) := by decide +kernel
theorem dX5_beginWithVan_8 : decode cX5_beginWithVan 8 = .ok (.istore_n 2, 1) := by decide +kernel
theorem dX5_beginWithVan_9 : decode cX5_beginWithVan 9 = .ok (.aload_n 0, 1) := by decide +kernel
theorem dX5_beginWithVan_10 : decode cX5_beginWithVan 10 = .ok (.getfield 28, 3) := by decide +kernel
theorem dX5_beginWithVan_13 : decode cX5_beginWithVan 13 = .ok (.iload_n 1, 1) := by decide +kernel
theorem dX5_beginWithVan_14 : decode cX5_beginWithVan 14 = .ok (.aload_n 0, 1) := by decide +kernel
theorem dX5_beginWithVan_15 : decode cX5_beginWithVan 15 = .ok (.getfield 28, 3) := by decide +kernel
theorem dX5_beginWithVan_18 : decode cX5_beginWithVan 18 = .ok (.iload_n 1, 1) := by decide +kernel
theorem dX5_beginWithVan_19 : decode cX5_beginWithVan 19 = .ok (.iconst 1, 1) := by decide +kernel
theorem dX5_beginWithVan_20 : decode cX5_beginWithVan 20 = .ok (.isub, 1) := by decide +kernel
theorem dX5_beginWithVan_21 : decode cX5_beginWithVan 21 = .ok (.iaload, 1) := by decide +kernel
theorem dX5_beginWithVan_22 : decode cX5_beginWithVan 22 = .ok (.iload_n 2, 1) := by decide +kernel
theorem dX5_beginWithVan_23 : decode cX5_beginWithVan 23 = .ok (.iadd, 1) := by decide +kernel
theorem dX5_beginWithVan_24 : decode cX5_beginWithVan 24 = .ok (.iastore, 1) := by decide +kernel
theorem dX5_beginWithVan_25 : decode cX5_beginWithVan 25 = .ok (.aload_n 0, 1) := by decide +kernel
theorem dX5_beginWithVan_26 : decode cX5_beginWithVan 26 = .ok (.getfield 31, 3) := by decide +kernel
theorem dX5_beginWithVan_29 : decode cX5_beginWithVan 29 = .ok (.iload_n 1, 1) := by decide +kernel
theorem dX5_beginWithVan_30 : decode cX5_beginWithVan 30 = .ok (.aload_n 0, 1) := by decide +kernel
theorem dX5_beginWithVan_31 : decode cX5_beginWithVan 31 = .ok (.getfield 31, 3) := by decide +kernel
theorem dX5_beginWithVan_34 : decode cX5_beginWithVan 34 = .ok (.iload_n 1, 1) := by decide +kernel
theorem dX5_beginWithVan_35 : decode cX5_beginWithVan 35 = .ok (.iconst 1, 1) := by decide +kernel
theorem dX5_beginWithVan_36 : decode cX5_beginWithVan 36 = .ok (.isub, 1) := by decide +kernel
theorem dX5_beginWithVan_37 : decode cX5_beginWithVan 37 = .ok (.iaload, 1) := by decide +kernel
theorem dX5_beginWithVan_38 : decode cX5_beginWithVan 38 = .ok (.iload_n 2, 1) := by decide +kernel
theorem dX5_beginWithVan_39 : decode cX5_beginWithVan 39 = .ok (.iadd, 1) := by decide +kernel
theorem dX5_beginWithVan_40 : decode cX5_beginWithVan 40 = .ok (.iastore, 1) := by decide +kernel
theorem dX5_beginWithVan_41 : decode cX5_beginWithVan 41 = .ok (.aload_n 0, 1) := by decide +kernel
theorem dX5_beginWithVan_42 : decode cX5_beginWithVan 42 = .ok (.getfield 34, 3) := by decide +kernel
theorem dX5_beginWithVan_45 : decode cX5_beginWithVan 45 = .ok (.iload_n 1, 1) := by decide +kernel
theorem dX5_beginWithVan_46 : decode cX5_beginWithVan 46 = .ok (.aload_n 0, 1) := by decide +kernel
theorem dX5_beginWithVan_47 : decode cX5_beginWithVan 47 = .ok (.getfield 34, 3) := by decide +kernel
theorem dX5_beginWithVan_50 : decode cX5_beginWithVan 50 = .ok (.iload_n 1, 1) := by decide +kernel
theorem dX5_beginWithVan_51 : decode cX5_beginWithVan 51 = .ok (.iconst 1, 1) := by decide +kernel
theorem dX5_beginWithVan_52 : decode cX5_beginWithVan 52 = .ok (.isub, 1) := by decide +kernel
theorem dX5_beginWithVan_53 : decode cX5_beginWithVan 53 = .ok (.iaload, 1) := by decide +kernel
theorem dX5_beginWithVan_54 : decode cX5_beginWithVan 54 = .ok (.iastore, 1) := by decide +kernel
theorem dX5_beginWithVan_55 : decode cX5_beginWithVan 55 = .ok (.aload_n 0, 1) := by decide +kernel
theorem dX5_beginWithVan_56 : decode cX5_beginWithVan 56 = .ok (.getfield 37, 3) := by decide +kernel
theorem dX5_beginWithVan_59 : decode cX5_beginWithVan 59 = .ok (.iload_n 1, 1) := by decide +kernel
theorem dX5_beginWithVan_60 : decode cX5_beginWithVan 60 = .ok (.iload_n 1, 1) := by decide +kernel
theorem dX5_beginWithVan_61 : decode cX5_beginWithVan 61 = .ok (.iconst 1, 1) := by decide +kernel
theorem dX5_beginWithVan_62 : decode cX5_beginWithVan 62 = .ok (.isub, 1) := by decide +kernel
theorem dX5_beginWithVan_63 : decode cX5_beginWithVan 63 = .ok (.iastore, 1) := by decide +kernel
theorem dX5_beginWithVan_64 : decode cX5_beginWithVan 64 = .ok (.aload_n 0, 1) := by decide +kernel
theorem dX5_beginWithVan_65 : decode cX5_beginWithVan 65 = .ok (.getfield 40, 3) := by decide +kernel
theorem dX5_beginWithVan_68 : decode cX5_beginWithVan 68 = .ok (.iload_n 1, 1) := by decide +kernel
theorem dX5_beginWithVan_69 : decode cX5_beginWithVan 69 = .ok (.iconst 0, 1) := by decide +kernel
theorem dX5_beginWithVan_70 : decode cX5_beginWithVan 70 = .ok (.iastore, 1) := by decide +kernel
theorem dX5_beginWithVan_71 : decode cX5_beginWithVan 71 = .ok (.return_, 1) := by decide +kernel
def pX5_beginWithVan (x1 : Int32) (M : Mm) : Option (Mm) :=
(pX5_leg (x1 - 1) x1 M).bind fun v1 =>
(ald M 23 10 (x1 - 1)).bind fun v3 =>
(ast M 23 10 x1 (v3 + v1)).bind fun M5 =>
(ald M5 24 10 (x1 - 1)).bind fun v7 =>
(ast M5 24 10 x1 (v7 + v1)).bind fun M9 =>
(ald M9 25 10 (x1 - 1)).bind fun v11 =>
(ast M9 25 10 x1 v11).bind fun M13 =>
(ast M13 26 10 x1 (x1 - 1)).bind fun M15 =>
(ast M15 27 10 x1 0).bind fun M17 =>
some M17
abbrev zX5_beginWithVan : Zx := (cX5_beginWithVan, RX5, 3, 1, none)
set_option maxRecDepth 100000 in
set_option maxHeartbeats 4000000 in
theorem tX5_beginWithVan {l : Launch} {Y : Sx} {M : Mm} {x1 : Int32} {q : Mm} (hY : isA Y) (h : pX5_beginWithVan x1 M = some q) : Ct l Y yX5_beginWithVan cX5_beginWithVan 3 none 1 [.ref (adr Y 17), .int x1] M none q := by
  refine Ct.of (by decide) rfl (lv := [(0, .ref (adr Y 17)), (1, .int x1)]) rfl ?_
  intro K hkl C
  change Cx K zX5_beginWithVan Y at C
  subst hkl
  unfold pX5_beginWithVan at h
  show Wp K zX5_beginWithVan Y (Qm K Y none q) M 0 [(0, .ref (adr Y 17)), (1, .int x1)] []
  refine w_aload_n C (pc := 0) dX5_beginWithVan_0 0 rfl ?_
  refine w_iload_n C (pc := 1) dX5_beginWithVan_1 1 rfl ?_
  refine w_iconst C (pc := 2) dX5_beginWithVan_2 (v := 1) (by decide) ?_
  refine w_isub C (pc := 3) dX5_beginWithVan_3 ?_
  refine w_iload_n C (pc := 4) dX5_beginWithVan_4 1 rfl ?_
  obtain ⟨v1, e2, h⟩ := ob h
  refine w_cVi C (pc := 5) dX5_beginWithVan_5 my_X5_leg mi_X5_leg ml_X5_113 (sA_17 hY) rfl rfl rfl [.int (x1 - 1), .int x1] rfl rfl (Nat.le_of_ble_eq_true rfl) (tX5_leg hY  e2) ?_
  refine w_istore_n C (pc := 8) dX5_beginWithVan_8 (lv' := [(0, .ref (adr Y 17)), (1, .int x1), (2, .int v1)]) rfl rfl rfl ?_
  refine w_aload_n C (pc := 9) dX5_beginWithVan_9 0 rfl ?_
  refine w_getR C (pc := 10) dX5_beginWithVan_10 f_X5_28 (sA_17 hY) rfl ?_
  refine w_iload_n C (pc := 13) dX5_beginWithVan_13 1 rfl ?_
  refine w_aload_n C (pc := 14) dX5_beginWithVan_14 0 rfl ?_
  refine w_getR C (pc := 15) dX5_beginWithVan_15 f_X5_28 (sA_17 hY) rfl ?_
  refine w_iload_n C (pc := 18) dX5_beginWithVan_18 1 rfl ?_
  refine w_iconst C (pc := 19) dX5_beginWithVan_19 (v := 1) (by decide) ?_
  refine w_isub C (pc := 20) dX5_beginWithVan_20 ?_
  obtain ⟨v3, e4, h⟩ := ob h
  refine w_iald C (pc := 21) dX5_beginWithVan_21 (sA_23 hY) e4 ?_
  refine w_iload_n C (pc := 22) dX5_beginWithVan_22 2 rfl ?_
  refine w_iadd C (pc := 23) dX5_beginWithVan_23 ?_
  obtain ⟨M5, e6, h⟩ := ob h
  refine w_iast C (pc := 24) dX5_beginWithVan_24 (sA_23 hY) e6 ?_
  refine w_aload_n C (pc := 25) dX5_beginWithVan_25 0 rfl ?_
  refine w_getR C (pc := 26) dX5_beginWithVan_26 f_X5_31 (sA_17 hY) rfl ?_
  refine w_iload_n C (pc := 29) dX5_beginWithVan_29 1 rfl ?_
  refine w_aload_n C (pc := 30) dX5_beginWithVan_30 0 rfl ?_
  refine w_getR C (pc := 31) dX5_beginWithVan_31 f_X5_31 (sA_17 hY) rfl ?_
  refine w_iload_n C (pc := 34) dX5_beginWithVan_34 1 rfl ?_
  refine w_iconst C (pc := 35) dX5_beginWithVan_35 (v := 1) (by decide) ?_
  refine w_isub C (pc := 36) dX5_beginWithVan_36 ?_
  obtain ⟨v7, e8, h⟩ := ob h
  refine w_iald C (pc := 37) dX5_beginWithVan_37 (sA_24 hY) e8 ?_
  refine w_iload_n C (pc := 38) dX5_beginWithVan_38 2 rfl ?_
  refine w_iadd C (pc := 39) dX5_beginWithVan_39 ?_
  obtain ⟨M9, e10, h⟩ := ob h
  refine w_iast C (pc := 40) dX5_beginWithVan_40 (sA_24 hY) e10 ?_
  refine w_aload_n C (pc := 41) dX5_beginWithVan_41 0 rfl ?_
  refine w_getR C (pc := 42) dX5_beginWithVan_42 f_X5_34 (sA_17 hY) rfl ?_
  refine w_iload_n C (pc := 45) dX5_beginWithVan_45 1 rfl ?_
  refine w_aload_n C (pc := 46) dX5_beginWithVan_46 0 rfl ?_
  refine w_getR C (pc := 47) dX5_beginWithVan_47 f_X5_34 (sA_17 hY) rfl ?_
  refine w_iload_n C (pc := 50) dX5_beginWithVan_50 1 rfl ?_
  refine w_iconst C (pc := 51) dX5_beginWithVan_51 (v := 1) (by decide) ?_
  refine w_isub C (pc := 52) dX5_beginWithVan_52 ?_
  obtain ⟨v11, e12, h⟩ := ob h
  refine w_iald C (pc := 53) dX5_beginWithVan_53 (sA_25 hY) e12 ?_
  obtain ⟨M13, e14, h⟩ := ob h
  refine w_iast C (pc := 54) dX5_beginWithVan_54 (sA_25 hY) e14 ?_
  refine w_aload_n C (pc := 55) dX5_beginWithVan_55 0 rfl ?_
  refine w_getR C (pc := 56) dX5_beginWithVan_56 f_X5_37 (sA_17 hY) rfl ?_
  refine w_iload_n C (pc := 59) dX5_beginWithVan_59 1 rfl ?_
  refine w_iload_n C (pc := 60) dX5_beginWithVan_60 1 rfl ?_
  refine w_iconst C (pc := 61) dX5_beginWithVan_61 (v := 1) (by decide) ?_
  refine w_isub C (pc := 62) dX5_beginWithVan_62 ?_
  obtain ⟨M15, e16, h⟩ := ob h
  refine w_iast C (pc := 63) dX5_beginWithVan_63 (sA_26 hY) e16 ?_
  refine w_aload_n C (pc := 64) dX5_beginWithVan_64 0 rfl ?_
  refine w_getR C (pc := 65) dX5_beginWithVan_65 f_X5_40 (sA_17 hY) rfl ?_
  refine w_iload_n C (pc := 68) dX5_beginWithVan_68 1 rfl ?_
  refine w_iconst C (pc := 69) dX5_beginWithVan_69 (v := 0) (by decide) ?_
  obtain ⟨M17, e18, h⟩ := ob h
  refine w_iast C (pc := 70) dX5_beginWithVan_70 (sA_27 hY) e18 ?_
  exact w_retV C (pc := 71) dX5_beginWithVan_71 rfl (Option.some.inj h)
theorem dX5_bit_0 : decode cX5_bit 0 = .ok (.iconst 1, 1) := by decide +kernel
theorem dX5_bit_1 : decode cX5_bit 1 = .ok (.iload_n 1, 1) := by decide +kernel
theorem dX5_bit_2 : decode cX5_bit 2 = .ok (.iload_n 0, 1) := by decide +kernel
theorem dX5_bit_3 : decode cX5_bit 3 = .ok (.isub, 1) := by decide +kernel
theorem dX5_bit_4 : decode cX5_bit 4 = .ok (.iconst 1, 1) := by decide +kernel
theorem dX5_bit_5 : decode cX5_bit 5 = .ok (.isub, 1) := by decide +kernel
theorem dX5_bit_6 : decode cX5_bit 6 = .ok (.ishl, 1) := by decide +kernel
theorem dX5_bit_7 : decode cX5_bit 7 = .ok (.ireturn, 1) := by decide +kernel
def pX5_bit (x0 : Int32) (x1 : Int32) : Int32 :=
1 <<< (((x1 - x0) - 1) &&& 31)
abbrev zX5_bit : Zx := (cX5_bit, RX5, 2, 0, (some .int))
set_option maxRecDepth 100000 in
set_option maxHeartbeats 4000000 in
theorem tX5_bit {l : Launch} {Y : Sx} {M : Mm} {x0 : Int32} {x1 : Int32} {q : Int32} (h : pX5_bit x0 x1 = q) : Ct l Y yX5_bit cX5_bit 2 (some .int) 0 [.int x0, .int x1] M (some q) M := by
  refine Ct.of (by decide) rfl (lv := [(0, .int x0), (1, .int x1)]) rfl ?_
  intro K hkl C
  change Cx K zX5_bit Y at C
  subst hkl
  unfold pX5_bit at h
  show Wp K zX5_bit Y (Qm K Y (some q) M) M 0 [(0, .int x0), (1, .int x1)] []
  refine w_iconst C (pc := 0) dX5_bit_0 (v := 1) (by decide) ?_
  refine w_iload_n C (pc := 1) dX5_bit_1 1 rfl ?_
  refine w_iload_n C (pc := 2) dX5_bit_2 0 rfl ?_
  refine w_isub C (pc := 3) dX5_bit_3 ?_
  refine w_iconst C (pc := 4) dX5_bit_4 (v := 1) (by decide) ?_
  refine w_isub C (pc := 5) dX5_bit_5 ?_
  refine w_ishl C (pc := 6) dX5_bit_6 ?_
  exact w_retR C (pc := 7) dX5_bit_7 rfl h
theorem dX5_soonest_0 : decode cX5_soonest 0 = .ok (.aload_n 0, 1) := by decide +kernel
theorem dX5_soonest_1 : decode cX5_soonest 1 = .ok (.getfield 31, 3) := by decide +kernel
theorem dX5_soonest_4 : decode cX5_soonest 4 = .ok (.iload_n 1, 1) := by decide +kernel
theorem dX5_soonest_5 : decode cX5_soonest 5 = .ok (.iaload, 1) := by decide +kernel
theorem dX5_soonest_6 : decode cX5_soonest 6 = .ok (.aload_n 0, 1) := by decide +kernel
theorem dX5_soonest_7 : decode cX5_soonest 7 = .ok (.getfield 70, 3) := by decide +kernel
theorem dX5_soonest_10 : decode cX5_soonest 10 = .ok (.iadd, 1) := by decide +kernel
theorem dX5_soonest_11 : decode cX5_soonest 11 = .ok (.aload_n 0, 1) := by decide +kernel
theorem dX5_soonest_12 : decode cX5_soonest 12 = .ok (.iload_n 1, 1) := by decide +kernel
theorem dX5_soonest_13 : decode cX5_soonest 13 = .ok (.iload_n 2, 1) := by decide +kernel
theorem dX5_soonest_14 : decode cX5_soonest 14 = .ok (.invokevirtual 113, 3) := by decide +kernel
theorem dX5_soonest_17 : decode cX5_soonest 17 = .ok (.iadd, 1) := by decide +kernel
theorem dX5_soonest_18 : decode cX5_soonest 18 = .ok (.aload_n 0, 1) := by decide +kernel
theorem dX5_soonest_19 : decode cX5_soonest 19 = .ok (.getfield 73, 3) := by decide +kernel
theorem dX5_soonest_22 : decode cX5_soonest 22 = .ok (.iadd, 1) := by decide +kernel
theorem dX5_soonest_23 : decode cX5_soonest 23 = .ok (.ireturn, 1) := by decide +kernel
def pX5_soonest (x1 : Int32) (x2 : Int32) (M : Mm) : Option (Int32) :=
(ald M 24 10 x1).bind fun v1 =>
(pX5_leg x1 x2 M).bind fun v3 =>
some (((v1 + (M 17 2)) + v3) + (M 17 3))
abbrev zX5_soonest : Zx := (cX5_soonest, RX5, 3, 1, (some .int))
set_option maxRecDepth 100000 in
set_option maxHeartbeats 4000000 in
theorem tX5_soonest {l : Launch} {Y : Sx} {M : Mm} {x1 : Int32} {x2 : Int32} {q : Int32} (hY : isA Y) (h : pX5_soonest x1 x2 M = some q) : Ct l Y yX5_soonest cX5_soonest 3 (some .int) 1 [.ref (adr Y 17), .int x1, .int x2] M (some q) M := by
  refine Ct.of (by decide) rfl (lv := [(0, .ref (adr Y 17)), (1, .int x1), (2, .int x2)]) rfl ?_
  intro K hkl C
  change Cx K zX5_soonest Y at C
  subst hkl
  unfold pX5_soonest at h
  show Wp K zX5_soonest Y (Qm K Y (some q) M) M 0 [(0, .ref (adr Y 17)), (1, .int x1), (2, .int x2)] []
  refine w_aload_n C (pc := 0) dX5_soonest_0 0 rfl ?_
  refine w_getR C (pc := 1) dX5_soonest_1 f_X5_31 (sA_17 hY) rfl ?_
  refine w_iload_n C (pc := 4) dX5_soonest_4 1 rfl ?_
  obtain ⟨v1, e2, h⟩ := ob h
  refine w_iald C (pc := 5) dX5_soonest_5 (sA_24 hY) e2 ?_
  refine w_aload_n C (pc := 6) dX5_soonest_6 0 rfl ?_
  refine w_getI C (pc := 7) dX5_soonest_7 f_X5_70 (sA_17 hY) rfl ?_
  refine w_iadd C (pc := 10) dX5_soonest_10 ?_
  refine w_aload_n C (pc := 11) dX5_soonest_11 0 rfl ?_
  refine w_iload_n C (pc := 12) dX5_soonest_12 1 rfl ?_
  refine w_iload_n C (pc := 13) dX5_soonest_13 2 rfl ?_
  obtain ⟨v3, e4, h⟩ := ob h
  refine w_cVi C (pc := 14) dX5_soonest_14 my_X5_leg mi_X5_leg ml_X5_113 (sA_17 hY) rfl rfl rfl [.int x1, .int x2] rfl rfl (Nat.le_of_ble_eq_true rfl) (tX5_leg hY  e4) ?_
  refine w_iadd C (pc := 17) dX5_soonest_17 ?_
  refine w_aload_n C (pc := 18) dX5_soonest_18 0 rfl ?_
  refine w_getI C (pc := 19) dX5_soonest_19 f_X5_73 (sA_17 hY) rfl ?_
  refine w_iadd C (pc := 22) dX5_soonest_22 ?_
  exact w_retR C (pc := 23) dX5_soonest_23 rfl (Option.some.inj h)
theorem dX5_spared_0 : decode cX5_spared 0 = .ok (.aload_n 0, 1) := by decide +kernel
theorem dX5_spared_1 : decode cX5_spared 1 = .ok (.getfield 9, 3) := by decide +kernel
theorem dX5_spared_4 : decode cX5_spared 4 = .ok (.aload_n 0, 1) := by decide +kernel
theorem dX5_spared_5 : decode cX5_spared 5 = .ok (.getfield 25, 3) := by decide +kernel
theorem dX5_spared_8 : decode cX5_spared 8 = .ok (.iload_n 1, 1) := by decide +kernel
theorem dX5_spared_9 : decode cX5_spared 9 = .ok (.iconst 1, 1) := by decide +kernel
theorem dX5_spared_10 : decode cX5_spared 10 = .ok (.isub, 1) := by decide +kernel
theorem dX5_spared_11 : decode cX5_spared 11 = .ok (.iaload, 1) := by decide +kernel
theorem dX5_spared_12 : decode cX5_spared 12 = .ok (.bipush 9, 2) := by decide +kernel
theorem dX5_spared_14 : decode cX5_spared 14 = .ok (.imul, 1) := by decide +kernel
theorem dX5_spared_15 : decode cX5_spared 15 = .ok (.aload_n 0, 1) := by decide +kernel
theorem dX5_spared_16 : decode cX5_spared 16 = .ok (.getfield 25, 3) := by decide +kernel
theorem dX5_spared_19 : decode cX5_spared 19 = .ok (.iload_n 2, 1) := by decide +kernel
theorem dX5_spared_20 : decode cX5_spared 20 = .ok (.iconst 1, 1) := by decide +kernel
theorem dX5_spared_21 : decode cX5_spared 21 = .ok (.iadd, 1) := by decide +kernel
theorem dX5_spared_22 : decode cX5_spared 22 = .ok (.iaload, 1) := by decide +kernel
theorem dX5_spared_23 : decode cX5_spared 23 = .ok (.iadd, 1) := by decide +kernel
theorem dX5_spared_24 : decode cX5_spared 24 = .ok (.iaload, 1) := by decide +kernel
theorem dX5_spared_25 : decode cX5_spared 25 = .ok (.istore_n 3, 1) := by decide +kernel
theorem dX5_spared_26 : decode cX5_spared 26 = .ok (.aload_n 0, 1) := by decide +kernel
theorem dX5_spared_27 : decode cX5_spared 27 = .ok (.getfield 28, 3) := by decide +kernel
theorem dX5_spared_30 : decode cX5_spared 30 = .ok (.iload_n 2, 1) := by decide +kernel
theorem dX5_spared_31 : decode cX5_spared 31 = .ok (.iconst 1, 1) := by decide +kernel
theorem dX5_spared_32 : decode cX5_spared 32 = .ok (.iadd, 1) := by decide +kernel
theorem dX5_spared_33 : decode cX5_spared 33 = .ok (.iaload, 1) := by decide +kernel
theorem dX5_spared_34 : decode cX5_spared 34 = .ok (.aload_n 0, 1) := by decide +kernel
theorem dX5_spared_35 : decode cX5_spared 35 = .ok (.getfield 28, 3) := by decide +kernel
theorem dX5_spared_38 : decode cX5_spared 38 = .ok (.iload_n 1, 1) := by decide +kernel
theorem dX5_spared_39 : decode cX5_spared 39 = .ok (.iconst 1, 1) := by decide +kernel
theorem dX5_spared_40 : decode cX5_spared 40 = .ok (.isub, 1) := by decide +kernel
theorem dX5_spared_41 : decode cX5_spared 41 = .ok (.iaload, 1) := by decide +kernel
theorem dX5_spared_42 : decode cX5_spared 42 = .ok (.isub, 1) := by decide +kernel
theorem dX5_spared_43 : decode cX5_spared 43 = .ok (.iload_n 3, 1) := by decide +kernel
theorem dX5_spared_44 : decode cX5_spared 44 = .ok (.isub, 1) := by decide +kernel
theorem dX5_spared_45 : decode cX5_spared 45 = .ok (.ireturn, 1) := by decide +kernel
def pX5_spared (x1 : Int32) (x2 : Int32) (M : Mm) : Option (Int32) :=
(ald M 22 10 (x1 - 1)).bind fun v1 =>
(ald M 22 10 (x2 + 1)).bind fun v3 =>
(ald M 18 81 ((v1 * 9) + v3)).bind fun v5 =>
(ald M 23 10 (x2 + 1)).bind fun v7 =>
(ald M 23 10 (x1 - 1)).bind fun v9 =>
some ((v7 - v9) - v5)
abbrev zX5_spared : Zx := (cX5_spared, RX5, 4, 0, (some .int))
set_option maxRecDepth 100000 in
set_option maxHeartbeats 4000000 in
theorem tX5_spared {l : Launch} {Y : Sx} {M : Mm} {x1 : Int32} {x2 : Int32} {q : Int32} (hY : isA Y) (h : pX5_spared x1 x2 M = some q) : Ct l Y yX5_spared cX5_spared 4 (some .int) 0 [.ref (adr Y 17), .int x1, .int x2] M (some q) M := by
  refine Ct.of (by decide) rfl (lv := [(0, .ref (adr Y 17)), (1, .int x1), (2, .int x2)]) rfl ?_
  intro K hkl C
  change Cx K zX5_spared Y at C
  subst hkl
  unfold pX5_spared at h
  show Wp K zX5_spared Y (Qm K Y (some q) M) M 0 [(0, .ref (adr Y 17)), (1, .int x1), (2, .int x2)] []
  refine w_aload_n C (pc := 0) dX5_spared_0 0 rfl ?_
  refine w_getR C (pc := 1) dX5_spared_1 f_X5_9 (sA_17 hY) rfl ?_
  refine w_aload_n C (pc := 4) dX5_spared_4 0 rfl ?_
  refine w_getR C (pc := 5) dX5_spared_5 f_X5_25 (sA_17 hY) rfl ?_
  refine w_iload_n C (pc := 8) dX5_spared_8 1 rfl ?_
  refine w_iconst C (pc := 9) dX5_spared_9 (v := 1) (by decide) ?_
  refine w_isub C (pc := 10) dX5_spared_10 ?_
  obtain ⟨v1, e2, h⟩ := ob h
  refine w_iald C (pc := 11) dX5_spared_11 (sA_22 hY) e2 ?_
  refine w_bipush C (pc := 12) dX5_spared_12 (v := 9) (by decide) ?_
  refine w_imul C (pc := 14) dX5_spared_14 ?_
  refine w_aload_n C (pc := 15) dX5_spared_15 0 rfl ?_
  refine w_getR C (pc := 16) dX5_spared_16 f_X5_25 (sA_17 hY) rfl ?_
  refine w_iload_n C (pc := 19) dX5_spared_19 2 rfl ?_
  refine w_iconst C (pc := 20) dX5_spared_20 (v := 1) (by decide) ?_
  refine w_iadd C (pc := 21) dX5_spared_21 ?_
  obtain ⟨v3, e4, h⟩ := ob h
  refine w_iald C (pc := 22) dX5_spared_22 (sA_22 hY) e4 ?_
  refine w_iadd C (pc := 23) dX5_spared_23 ?_
  obtain ⟨v5, e6, h⟩ := ob h
  refine w_iald C (pc := 24) dX5_spared_24 (sA_18 hY) e6 ?_
  refine w_istore_n C (pc := 25) dX5_spared_25 (lv' := [(0, .ref (adr Y 17)), (1, .int x1), (2, .int x2), (3, .int v5)]) rfl rfl rfl ?_
  refine w_aload_n C (pc := 26) dX5_spared_26 0 rfl ?_
  refine w_getR C (pc := 27) dX5_spared_27 f_X5_28 (sA_17 hY) rfl ?_
  refine w_iload_n C (pc := 30) dX5_spared_30 2 rfl ?_
  refine w_iconst C (pc := 31) dX5_spared_31 (v := 1) (by decide) ?_
  refine w_iadd C (pc := 32) dX5_spared_32 ?_
  obtain ⟨v7, e8, h⟩ := ob h
  refine w_iald C (pc := 33) dX5_spared_33 (sA_23 hY) e8 ?_
  refine w_aload_n C (pc := 34) dX5_spared_34 0 rfl ?_
  refine w_getR C (pc := 35) dX5_spared_35 f_X5_28 (sA_17 hY) rfl ?_
  refine w_iload_n C (pc := 38) dX5_spared_38 1 rfl ?_
  refine w_iconst C (pc := 39) dX5_spared_39 (v := 1) (by decide) ?_
  refine w_isub C (pc := 40) dX5_spared_40 ?_
  obtain ⟨v9, e10, h⟩ := ob h
  refine w_iald C (pc := 41) dX5_spared_41 (sA_23 hY) e10 ?_
  refine w_isub C (pc := 42) dX5_spared_42 ?_
  refine w_iload_n C (pc := 43) dX5_spared_43 3 rfl ?_
  refine w_isub C (pc := 44) dX5_spared_44 ?_
  exact w_retR C (pc := 45) dX5_spared_45 rfl (Option.some.inj h)
theorem dX5_trip_0 : decode cX5_trip 0 = .ok (.aload_n 0, 1) := by decide +kernel
theorem dX5_trip_1 : decode cX5_trip 1 = .ok (.getfield 25, 3) := by decide +kernel
theorem dX5_trip_4 : decode cX5_trip 4 = .ok (.iload_n 2, 1) := by decide +kernel
theorem dX5_trip_5 : decode cX5_trip 5 = .ok (.iaload, 1) := by decide +kernel
theorem dX5_trip_6 : decode cX5_trip 6 = .ok (.istore 4, 2) := by decide +kernel
theorem dX5_trip_8 : decode cX5_trip 8 = .ok (.aload_n 0, 1) := by decide +kernel
theorem dX5_trip_9 : decode cX5_trip 9 = .ok (.getfield 15, 3) := by decide +kernel
theorem dX5_trip_12 : decode cX5_trip 12 = .ok (.aload_n 0, 1) := by decide +kernel
theorem dX5_trip_13 : decode cX5_trip 13 = .ok (.getfield 25, 3) := by decide +kernel
theorem dX5_trip_16 : decode cX5_trip 16 = .ok (.iload_n 1, 1) := by decide +kernel
theorem dX5_trip_17 : decode cX5_trip 17 = .ok (.iaload, 1) := by decide +kernel
theorem dX5_trip_18 : decode cX5_trip 18 = .ok (.bipush 9, 2) := by decide +kernel
theorem dX5_trip_20 : decode cX5_trip 20 = .ok (.imul, 1) := by decide +kernel
theorem dX5_trip_21 : decode cX5_trip 21 = .ok (.iload 4, 2) := by decide +kernel
theorem dX5_trip_23 : decode cX5_trip 23 = .ok (.iadd, 1) := by decide +kernel
theorem dX5_trip_24 : decode cX5_trip 24 = .ok (.iaload, 1) := by decide +kernel
theorem dX5_trip_25 : decode cX5_trip 25 = .ok (.aload_n 0, 1) := by decide +kernel
theorem dX5_trip_26 : decode cX5_trip 26 = .ok (.getfield 18, 3) := by decide +kernel
theorem dX5_trip_29 : decode cX5_trip 29 = .ok (.iload 4, 2) := by decide +kernel
theorem dX5_trip_31 : decode cX5_trip 31 = .ok (.iaload, 1) := by decide +kernel
theorem dX5_trip_32 : decode cX5_trip 32 = .ok (.iadd, 1) := by decide +kernel
theorem dX5_trip_33 : decode cX5_trip 33 = .ok (.aload_n 0, 1) := by decide +kernel
theorem dX5_trip_34 : decode cX5_trip 34 = .ok (.getfield 15, 3) := by decide +kernel
theorem dX5_trip_37 : decode cX5_trip 37 = .ok (.iload 4, 2) := by decide +kernel
theorem dX5_trip_39 : decode cX5_trip 39 = .ok (.bipush 9, 2) := by decide +kernel
theorem dX5_trip_41 : decode cX5_trip 41 = .ok (.imul, 1) := by decide +kernel
theorem dX5_trip_42 : decode cX5_trip 42 = .ok (.aload_n 0, 1) := by decide +kernel
theorem dX5_trip_43 : decode cX5_trip 43 = .ok (.getfield 25, 3) := by decide +kernel
theorem dX5_trip_46 : decode cX5_trip 46 = .ok (.iload_n 3, 1) := by decide +kernel
theorem dX5_trip_47 : decode cX5_trip 47 = .ok (.iaload, 1) := by decide +kernel
theorem dX5_trip_48 : decode cX5_trip 48 = .ok (.iadd, 1) := by decide +kernel
theorem dX5_trip_49 : decode cX5_trip 49 = .ok (.iaload, 1) := by decide +kernel
theorem dX5_trip_50 : decode cX5_trip 50 = .ok (.iadd, 1) := by decide +kernel
theorem dX5_trip_51 : decode cX5_trip 51 = .ok (.ireturn, 1) := by decide +kernel
def pX5_trip (x1 : Int32) (x2 : Int32) (x3 : Int32) (M : Mm) : Option (Int32) :=
(ald M 22 10 x2).bind fun v1 =>
(ald M 22 10 x1).bind fun v3 =>
(ald M 19 81 ((v3 * 9) + v1)).bind fun v5 =>
(ald M 20 9 v1).bind fun v7 =>
(ald M 22 10 x3).bind fun v9 =>
(ald M 19 81 ((v1 * 9) + v9)).bind fun v11 =>
some ((v5 + v7) + v11)
abbrev zX5_trip : Zx := (cX5_trip, RX5, 5, 0, (some .int))
set_option maxRecDepth 100000 in
set_option maxHeartbeats 4000000 in
theorem tX5_trip {l : Launch} {Y : Sx} {M : Mm} {x1 : Int32} {x2 : Int32} {x3 : Int32} {q : Int32} (hY : isA Y) (h : pX5_trip x1 x2 x3 M = some q) : Ct l Y yX5_trip cX5_trip 5 (some .int) 0 [.ref (adr Y 17), .int x1, .int x2, .int x3] M (some q) M := by
  refine Ct.of (by decide) rfl (lv := [(0, .ref (adr Y 17)), (1, .int x1), (2, .int x2), (3, .int x3)]) rfl ?_
  intro K hkl C
  change Cx K zX5_trip Y at C
  subst hkl
  unfold pX5_trip at h
  show Wp K zX5_trip Y (Qm K Y (some q) M) M 0 [(0, .ref (adr Y 17)), (1, .int x1), (2, .int x2), (3, .int x3)] []
  refine w_aload_n C (pc := 0) dX5_trip_0 0 rfl ?_
  refine w_getR C (pc := 1) dX5_trip_1 f_X5_25 (sA_17 hY) rfl ?_
  refine w_iload_n C (pc := 4) dX5_trip_4 2 rfl ?_
  obtain ⟨v1, e2, h⟩ := ob h
  refine w_iald C (pc := 5) dX5_trip_5 (sA_22 hY) e2 ?_
  refine w_istore C (pc := 6) dX5_trip_6 (lv' := [(0, .ref (adr Y 17)), (1, .int x1), (2, .int x2), (3, .int x3), (4, .int v1)]) rfl rfl rfl ?_
  refine w_aload_n C (pc := 8) dX5_trip_8 0 rfl ?_
  refine w_getR C (pc := 9) dX5_trip_9 f_X5_15 (sA_17 hY) rfl ?_
  refine w_aload_n C (pc := 12) dX5_trip_12 0 rfl ?_
  refine w_getR C (pc := 13) dX5_trip_13 f_X5_25 (sA_17 hY) rfl ?_
  refine w_iload_n C (pc := 16) dX5_trip_16 1 rfl ?_
  obtain ⟨v3, e4, h⟩ := ob h
  refine w_iald C (pc := 17) dX5_trip_17 (sA_22 hY) e4 ?_
  refine w_bipush C (pc := 18) dX5_trip_18 (v := 9) (by decide) ?_
  refine w_imul C (pc := 20) dX5_trip_20 ?_
  refine w_iload C (pc := 21) dX5_trip_21 4 rfl ?_
  refine w_iadd C (pc := 23) dX5_trip_23 ?_
  obtain ⟨v5, e6, h⟩ := ob h
  refine w_iald C (pc := 24) dX5_trip_24 (sA_19 hY) e6 ?_
  refine w_aload_n C (pc := 25) dX5_trip_25 0 rfl ?_
  refine w_getR C (pc := 26) dX5_trip_26 f_X5_18 (sA_17 hY) rfl ?_
  refine w_iload C (pc := 29) dX5_trip_29 4 rfl ?_
  obtain ⟨v7, e8, h⟩ := ob h
  refine w_iald C (pc := 31) dX5_trip_31 (sA_20 hY) e8 ?_
  refine w_iadd C (pc := 32) dX5_trip_32 ?_
  refine w_aload_n C (pc := 33) dX5_trip_33 0 rfl ?_
  refine w_getR C (pc := 34) dX5_trip_34 f_X5_15 (sA_17 hY) rfl ?_
  refine w_iload C (pc := 37) dX5_trip_37 4 rfl ?_
  refine w_bipush C (pc := 39) dX5_trip_39 (v := 9) (by decide) ?_
  refine w_imul C (pc := 41) dX5_trip_41 ?_
  refine w_aload_n C (pc := 42) dX5_trip_42 0 rfl ?_
  refine w_getR C (pc := 43) dX5_trip_43 f_X5_25 (sA_17 hY) rfl ?_
  refine w_iload_n C (pc := 46) dX5_trip_46 3 rfl ?_
  obtain ⟨v9, e10, h⟩ := ob h
  refine w_iald C (pc := 47) dX5_trip_47 (sA_22 hY) e10 ?_
  refine w_iadd C (pc := 48) dX5_trip_48 ?_
  obtain ⟨v11, e12, h⟩ := ob h
  refine w_iald C (pc := 49) dX5_trip_49 (sA_19 hY) e12 ?_
  refine w_iadd C (pc := 50) dX5_trip_50 ?_
  exact w_retR C (pc := 51) dX5_trip_51 rfl (Option.some.inj h)
theorem dX5_lasts_0 : decode cX5_lasts 0 = .ok (.aload_n 0, 1) := by decide +kernel
theorem dX5_lasts_1 : decode cX5_lasts 1 = .ok (.getfield 79, 3) := by decide +kernel
theorem dX5_lasts_4 : decode cX5_lasts 4 = .ok (.ifCond .eq 7, 3) := by decide +kernel
theorem dX5_lasts_7 : decode cX5_lasts 7 = .ok (.iload_n 3, 1) := by decide +kernel
theorem dX5_lasts_8 : decode cX5_lasts 8 = .ok (.goto 4, 3) := by decide +kernel
theorem dX5_lasts_11 : decode cX5_lasts 11 = .ok (.iload_n 2, 1) := by decide +kernel
theorem dX5_lasts_12 : decode cX5_lasts 12 = .ok (.iload_n 1, 1) := by decide +kernel
theorem dX5_lasts_13 : decode cX5_lasts 13 = .ok (.isub, 1) := by decide +kernel
theorem dX5_lasts_14 : decode cX5_lasts 14 = .ok (.aload_n 0, 1) := by decide +kernel
theorem dX5_lasts_15 : decode cX5_lasts 15 = .ok (.getfield 76, 3) := by decide +kernel
theorem dX5_lasts_18 : decode cX5_lasts 18 = .ok (.if_icmp .gt 7, 3) := by decide +kernel
theorem dX5_lasts_21 : decode cX5_lasts 21 = .ok (.iconst 1, 1) := by decide +kernel
theorem dX5_lasts_22 : decode cX5_lasts 22 = .ok (.goto 4, 3) := by decide +kernel
theorem dX5_lasts_25 : decode cX5_lasts 25 = .ok (.iconst 0, 1) := by decide +kernel
theorem dX5_lasts_26 : decode cX5_lasts 26 = .ok (.ireturn, 1) := by decide +kernel
def pX5_lasts (x1 : Int32) (x2 : Int32) (x3 : Int32) (M : Mm) : Int32 :=
if (M 17 5) = 0 then
(if (M 17 4) < (x2 - x1) then
(0)
else
(1))
else
(if (M 17 4) < (x3 - x1) then
(0)
else
(1))
abbrev zX5_lasts : Zx := (cX5_lasts, RX5, 4, 0, (some .boolean))
set_option maxRecDepth 100000 in
set_option maxHeartbeats 4000000 in
theorem tX5_lasts {l : Launch} {Y : Sx} {M : Mm} {x1 : Int32} {x2 : Int32} {x3 : Int32} {q : Int32} (hY : isA Y) (h : pX5_lasts x1 x2 x3 M = q) : Ct l Y yX5_lasts cX5_lasts 4 (some .boolean) 0 [.ref (adr Y 17), .int x1, .int x2, .int x3] M (some q) M := by
  refine Ct.of (by decide) rfl (lv := [(0, .ref (adr Y 17)), (1, .int x1), (2, .int x2), (3, .int x3)]) rfl ?_
  intro K hkl C
  change Cx K zX5_lasts Y at C
  subst hkl
  unfold pX5_lasts at h
  show Wp K zX5_lasts Y (Qm K Y (some q) M) M 0 [(0, .ref (adr Y 17)), (1, .int x1), (2, .int x2), (3, .int x3)] []
  refine w_aload_n C (pc := 0) dX5_lasts_0 0 rfl ?_
  refine w_getI C (pc := 1) dX5_lasts_1 f_X5_79 (sA_17 hY) rfl ?_
  refine w_ifeq C (pc := 4) 11 dX5_lasts_4 (by decide) (fun c => ?_) (fun c => ?_)
  · have h := it_t h c
    refine w_iload_n C (pc := 11) dX5_lasts_11 2 rfl ?_
    refine w_iload_n C (pc := 12) dX5_lasts_12 1 rfl ?_
    refine w_isub C (pc := 13) dX5_lasts_13 ?_
    refine w_aload_n C (pc := 14) dX5_lasts_14 0 rfl ?_
    refine w_getI C (pc := 15) dX5_lasts_15 f_X5_76 (sA_17 hY) rfl ?_
    refine w_icgt C (pc := 18) 25 dX5_lasts_18 (by decide) (fun c => ?_) (fun c => ?_)
    · have h := it_t h c
      refine w_iconst C (pc := 25) dX5_lasts_25 (v := 0) (by decide) ?_
      exact w_retzR C (pc := 26) dX5_lasts_26 rfl (by decide) h
    · have h := it_f h c
      refine w_iconst C (pc := 21) dX5_lasts_21 (v := 1) (by decide) ?_
      refine w_goto C (pc := 22) 26 dX5_lasts_22 (by decide) ?_
      exact w_retzR C (pc := 26) dX5_lasts_26 rfl (by decide) h
  · have h := it_f h c
    refine w_iload_n C (pc := 7) dX5_lasts_7 3 rfl ?_
    refine w_goto C (pc := 8) 12 dX5_lasts_8 (by decide) ?_
    refine w_iload_n C (pc := 12) dX5_lasts_12 1 rfl ?_
    refine w_isub C (pc := 13) dX5_lasts_13 ?_
    refine w_aload_n C (pc := 14) dX5_lasts_14 0 rfl ?_
    refine w_getI C (pc := 15) dX5_lasts_15 f_X5_76 (sA_17 hY) rfl ?_
    refine w_icgt C (pc := 18) 25 dX5_lasts_18 (by decide) (fun c => ?_) (fun c => ?_)
    · have h := it_t h c
      refine w_iconst C (pc := 25) dX5_lasts_25 (v := 0) (by decide) ?_
      exact w_retzR C (pc := 26) dX5_lasts_26 rfl (by decide) h
    · have h := it_f h c
      refine w_iconst C (pc := 21) dX5_lasts_21 (v := 1) (by decide) ?_
      refine w_goto C (pc := 22) 26 dX5_lasts_22 (by decide) ?_
      exact w_retzR C (pc := 26) dX5_lasts_26 rfl (by decide) h
theorem dX5_offer_0 : decode cX5_offer 0 = .ok (.aload_n 0, 1) := by decide +kernel
theorem dX5_offer_1 : decode cX5_offer 1 = .ok (.getfield 31, 3) := by decide +kernel
theorem dX5_offer_4 : decode cX5_offer 4 = .ok (.iload_n 1, 1) := by decide +kernel
theorem dX5_offer_5 : decode cX5_offer 5 = .ok (.iaload, 1) := by decide +kernel
theorem dX5_offer_6 : decode cX5_offer 6 = .ok (.iload 4, 2) := by decide +kernel
theorem dX5_offer_8 : decode cX5_offer 8 = .ok (.iadd, 1) := by decide +kernel
theorem dX5_offer_9 : decode cX5_offer 9 = .ok (.istore 5, 2) := by decide +kernel
theorem dX5_offer_11 : decode cX5_offer 11 = .ok (.aload_n 0, 1) := by decide +kernel
theorem dX5_offer_12 : decode cX5_offer 12 = .ok (.getfield 34, 3) := by decide +kernel
theorem dX5_offer_15 : decode cX5_offer 15 = .ok (.iload_n 1, 1) := by decide +kernel
theorem dX5_offer_16 : decode cX5_offer 16 = .ok (.iaload, 1) := by decide +kernel
theorem dX5_offer_17 : decode cX5_offer 17 = .ok (.iload_n 3, 1) := by decide +kernel
theorem dX5_offer_18 : decode cX5_offer 18 = .ok (.invokestatic 141, 3) := by decide +kernel
theorem dX5_offer_21 : decode cX5_offer 21 = .ok (.iadd, 1) := by decide +kernel
theorem dX5_offer_22 : decode cX5_offer 22 = .ok (.istore 6, 2) := by decide +kernel
theorem dX5_offer_24 : decode cX5_offer 24 = .ok (.iload 5, 2) := by decide +kernel
theorem dX5_offer_26 : decode cX5_offer 26 = .ok (.aload_n 0, 1) := by decide +kernel
theorem dX5_offer_27 : decode cX5_offer 27 = .ok (.getfield 31, 3) := by decide +kernel
theorem dX5_offer_30 : decode cX5_offer 30 = .ok (.iload_n 2, 1) := by decide +kernel
theorem dX5_offer_31 : decode cX5_offer 31 = .ok (.iaload, 1) := by decide +kernel
theorem dX5_offer_32 : decode cX5_offer 32 = .ok (.if_icmp .lt 25, 3) := by decide +kernel
theorem dX5_offer_35 : decode cX5_offer 35 = .ok (.iload 5, 2) := by decide +kernel
theorem dX5_offer_37 : decode cX5_offer 37 = .ok (.aload_n 0, 1) := by decide +kernel
theorem dX5_offer_38 : decode cX5_offer 38 = .ok (.getfield 31, 3) := by decide +kernel
theorem dX5_offer_41 : decode cX5_offer 41 = .ok (.iload_n 2, 1) := by decide +kernel
theorem dX5_offer_42 : decode cX5_offer 42 = .ok (.iaload, 1) := by decide +kernel
theorem dX5_offer_43 : decode cX5_offer 43 = .ok (.if_icmp .ne 44, 3) := by decide +kernel
theorem dX5_offer_46 : decode cX5_offer 46 = .ok (.iload 6, 2) := by decide +kernel
theorem dX5_offer_48 : decode cX5_offer 48 = .ok (.aload_n 0, 1) := by decide +kernel
theorem dX5_offer_49 : decode cX5_offer 49 = .ok (.getfield 34, 3) := by decide +kernel
theorem dX5_offer_52 : decode cX5_offer 52 = .ok (.iload_n 2, 1) := by decide +kernel
theorem dX5_offer_53 : decode cX5_offer 53 = .ok (.iaload, 1) := by decide +kernel
theorem dX5_offer_54 : decode cX5_offer 54 = .ok (.if_icmp .ge 33, 3) := by decide +kernel
theorem dX5_offer_57 : decode cX5_offer 57 = .ok (.aload_n 0, 1) := by decide +kernel
theorem dX5_offer_58 : decode cX5_offer 58 = .ok (.getfield 31, 3) := by decide +kernel
theorem dX5_offer_61 : decode cX5_offer 61 = .ok (.iload_n 2, 1) := by decide +kernel
theorem dX5_offer_62 : decode cX5_offer 62 = .ok (.iload 5, 2) := by decide +kernel
theorem dX5_offer_64 : decode cX5_offer 64 = .ok (.iastore, 1) := by decide +kernel
theorem dX5_offer_65 : decode cX5_offer 65 = .ok (.aload_n 0, 1) := by decide +kernel
theorem dX5_offer_66 : decode cX5_offer 66 = .ok (.getfield 34, 3) := by decide +kernel
theorem dX5_offer_69 : decode cX5_offer 69 = .ok (.iload_n 2, 1) := by decide +kernel
theorem dX5_offer_70 : decode cX5_offer 70 = .ok (.iload 6, 2) := by decide +kernel
theorem dX5_offer_72 : decode cX5_offer 72 = .ok (.iastore, 1) := by decide +kernel
theorem dX5_offer_73 : decode cX5_offer 73 = .ok (.aload_n 0, 1) := by decide +kernel
theorem dX5_offer_74 : decode cX5_offer 74 = .ok (.getfield 37, 3) := by decide +kernel
theorem dX5_offer_77 : decode cX5_offer 77 = .ok (.iload_n 2, 1) := by decide +kernel
theorem dX5_offer_78 : decode cX5_offer 78 = .ok (.iload_n 1, 1) := by decide +kernel
theorem dX5_offer_79 : decode cX5_offer 79 = .ok (.iastore, 1) := by decide +kernel
theorem dX5_offer_80 : decode cX5_offer 80 = .ok (.aload_n 0, 1) := by decide +kernel
theorem dX5_offer_81 : decode cX5_offer 81 = .ok (.getfield 40, 3) := by decide +kernel
theorem dX5_offer_84 : decode cX5_offer 84 = .ok (.iload_n 2, 1) := by decide +kernel
theorem dX5_offer_85 : decode cX5_offer 85 = .ok (.iload_n 3, 1) := by decide +kernel
theorem dX5_offer_86 : decode cX5_offer 86 = .ok (.iastore, 1) := by decide +kernel
theorem dX5_offer_87 : decode cX5_offer 87 = .ok (.return_, 1) := by decide +kernel
def pX5_offer (x1 : Int32) (x2 : Int32) (x3 : Int32) (x4 : Int32) (M : Mm) : Option (Mm) :=
(ald M 24 10 x1).bind fun v1 =>
bnd (v1 + x4) fun v3 =>
(ald M 25 10 x1).bind fun v4 =>
bnd (v4 + (pJ6_bitCount_0f7a4 x3)) fun v6 =>
(ald M 24 10 x2).bind fun v7 =>
Option.bind (α := (Unit) ⊕ (Mm)) (if v3 < v7 then
(some (Sum.inl ()))
else
((ald M 24 10 x2).bind fun v20 =>
if v3 = v20 then
((ald M 25 10 x2).bind fun v22 =>
if v22 ≤ v6 then
(some (Sum.inr M))
else
(some (Sum.inl ())))
else
(some (Sum.inr M)))) fun j9 =>
Sum.elim (fun yj9 =>
(ast M 24 10 x2 v3).bind fun M12 =>
(ast M12 25 10 x2 v6).bind fun M14 =>
(ast M14 26 10 x2 x1).bind fun M16 =>
(ast M16 27 10 x2 x3).bind fun M18 =>
some M18) (fun r => some r) j9
abbrev zX5_offer : Zx := (cX5_offer, RX5, 7, 1, none)
set_option maxRecDepth 100000 in
set_option maxHeartbeats 4000000 in
theorem tX5_offer {l : Launch} {Y : Sx} {M : Mm} {x1 : Int32} {x2 : Int32} {x3 : Int32} {x4 : Int32} {q : Mm} (hY : isA Y) (h : pX5_offer x1 x2 x3 x4 M = some q) : Ct l Y yX5_offer cX5_offer 7 none 1 [.ref (adr Y 17), .int x1, .int x2, .int x3, .int x4] M none q := by
  refine Ct.of (by decide) rfl (lv := [(0, .ref (adr Y 17)), (1, .int x1), (2, .int x2), (3, .int x3), (4, .int x4)]) rfl ?_
  intro K hkl C
  change Cx K zX5_offer Y at C
  subst hkl
  unfold pX5_offer at h
  show Wp K zX5_offer Y (Qm K Y none q) M 0 [(0, .ref (adr Y 17)), (1, .int x1), (2, .int x2), (3, .int x3), (4, .int x4)] []
  refine w_aload_n C (pc := 0) dX5_offer_0 0 rfl ?_
  refine w_getR C (pc := 1) dX5_offer_1 f_X5_31 (sA_17 hY) rfl ?_
  refine w_iload_n C (pc := 4) dX5_offer_4 1 rfl ?_
  obtain ⟨v1, e2, h⟩ := ob h
  refine w_iald C (pc := 5) dX5_offer_5 (sA_24 hY) e2 ?_
  refine w_iload C (pc := 6) dX5_offer_6 4 rfl ?_
  refine w_iadd C (pc := 8) dX5_offer_8 ?_
  refine w_bnd h (fun v3 h => ?_)
  refine w_istore C (pc := 9) dX5_offer_9 (lv' := [(0, .ref (adr Y 17)), (1, .int x1), (2, .int x2), (3, .int x3), (4, .int x4), (5, .int v3)]) rfl rfl rfl ?_
  refine w_aload_n C (pc := 11) dX5_offer_11 0 rfl ?_
  refine w_getR C (pc := 12) dX5_offer_12 f_X5_34 (sA_17 hY) rfl ?_
  refine w_iload_n C (pc := 15) dX5_offer_15 1 rfl ?_
  obtain ⟨v4, e5, h⟩ := ob h
  refine w_iald C (pc := 16) dX5_offer_16 (sA_25 hY) e5 ?_
  refine w_iload_n C (pc := 17) dX5_offer_17 3 rfl ?_
  refine w_cSi C (pc := 18) dX5_offer_18 my_J6_bitCount_0f7a4 ms_J6_bitCount_0f7a4 ml_X5_141 rfl rfl [.int x3] rfl rfl (Nat.le_of_ble_eq_true rfl) (tJ6_bitCount_0f7a4  rfl) ?_
  refine w_iadd C (pc := 21) dX5_offer_21 ?_
  refine w_bnd h (fun v6 h => ?_)
  refine w_istore C (pc := 22) dX5_offer_22 (lv' := [(0, .ref (adr Y 17)), (1, .int x1), (2, .int x2), (3, .int x3), (4, .int x4), (5, .int v3), (6, .int v6)]) rfl rfl rfl ?_
  refine w_iload C (pc := 24) dX5_offer_24 5 rfl ?_
  refine w_aload_n C (pc := 26) dX5_offer_26 0 rfl ?_
  refine w_getR C (pc := 27) dX5_offer_27 f_X5_31 (sA_17 hY) rfl ?_
  refine w_iload_n C (pc := 30) dX5_offer_30 2 rfl ?_
  obtain ⟨v7, e8, h⟩ := ob h
  refine w_iald C (pc := 31) dX5_offer_31 (sA_24 hY) e8 ?_
  obtain ⟨j9, e10, h11⟩ := ob h
  have Jj9 : ∀ yj9, j9 = Sum.inl yj9 → Wp K zX5_offer Y (Qm K Y none q) M 57 [(0, .ref (adr Y 17)), (1, .int x1), (2, .int x2), (3, .int x3), (4, .int x4), (5, .int v3), (6, .int v6)] [] := by
    intro yj9 hj
    subst hj
    dsimp only [Sum.elim] at h11
    refine w_aload_n C (pc := 57) dX5_offer_57 0 rfl ?_
    refine w_getR C (pc := 58) dX5_offer_58 f_X5_31 (sA_17 hY) rfl ?_
    refine w_iload_n C (pc := 61) dX5_offer_61 2 rfl ?_
    refine w_iload C (pc := 62) dX5_offer_62 5 rfl ?_
    obtain ⟨M12, e13, h11⟩ := ob h11
    refine w_iast C (pc := 64) dX5_offer_64 (sA_24 hY) e13 ?_
    refine w_aload_n C (pc := 65) dX5_offer_65 0 rfl ?_
    refine w_getR C (pc := 66) dX5_offer_66 f_X5_34 (sA_17 hY) rfl ?_
    refine w_iload_n C (pc := 69) dX5_offer_69 2 rfl ?_
    refine w_iload C (pc := 70) dX5_offer_70 6 rfl ?_
    obtain ⟨M14, e15, h11⟩ := ob h11
    refine w_iast C (pc := 72) dX5_offer_72 (sA_25 hY) e15 ?_
    refine w_aload_n C (pc := 73) dX5_offer_73 0 rfl ?_
    refine w_getR C (pc := 74) dX5_offer_74 f_X5_37 (sA_17 hY) rfl ?_
    refine w_iload_n C (pc := 77) dX5_offer_77 2 rfl ?_
    refine w_iload_n C (pc := 78) dX5_offer_78 1 rfl ?_
    obtain ⟨M16, e17, h11⟩ := ob h11
    refine w_iast C (pc := 79) dX5_offer_79 (sA_26 hY) e17 ?_
    refine w_aload_n C (pc := 80) dX5_offer_80 0 rfl ?_
    refine w_getR C (pc := 81) dX5_offer_81 f_X5_40 (sA_17 hY) rfl ?_
    refine w_iload_n C (pc := 84) dX5_offer_84 2 rfl ?_
    refine w_iload_n C (pc := 85) dX5_offer_85 3 rfl ?_
    obtain ⟨M18, e19, h11⟩ := ob h11
    refine w_iast C (pc := 86) dX5_offer_86 (sA_27 hY) e19 ?_
    exact w_retV C (pc := 87) dX5_offer_87 rfl (Option.some.inj h11)
  refine w_iclt C (pc := 32) 57 dX5_offer_32 (by decide) (fun c => ?_) (fun c => ?_)
  · have e10 := it_t e10 c
    obtain rfl := Option.some.inj e10
    have k9 := Jj9 () rfl
    try dsimp only at k9
    exact k9
  · have e10 := it_f e10 c
    refine w_iload C (pc := 35) dX5_offer_35 5 rfl ?_
    refine w_aload_n C (pc := 37) dX5_offer_37 0 rfl ?_
    refine w_getR C (pc := 38) dX5_offer_38 f_X5_31 (sA_17 hY) rfl ?_
    refine w_iload_n C (pc := 41) dX5_offer_41 2 rfl ?_
    obtain ⟨v20, e21, e10⟩ := ob e10
    refine w_iald C (pc := 42) dX5_offer_42 (sA_24 hY) e21 ?_
    refine w_icne C (pc := 43) 87 dX5_offer_43 (by decide) (fun c => ?_) (fun c => ?_)
    · have e10 := it_t e10 c
      refine w_iload C (pc := 46) dX5_offer_46 6 rfl ?_
      refine w_aload_n C (pc := 48) dX5_offer_48 0 rfl ?_
      refine w_getR C (pc := 49) dX5_offer_49 f_X5_34 (sA_17 hY) rfl ?_
      refine w_iload_n C (pc := 52) dX5_offer_52 2 rfl ?_
      obtain ⟨v22, e23, e10⟩ := ob e10
      refine w_iald C (pc := 53) dX5_offer_53 (sA_25 hY) e23 ?_
      refine w_icge C (pc := 54) 87 dX5_offer_54 (by decide) (fun c => ?_) (fun c => ?_)
      · have e10 := it_t e10 c
        obtain rfl := Option.some.inj e10
        have h24 : some M = some q := h11
        exact w_retV C (pc := 87) dX5_offer_87 rfl (Option.some.inj h24)
      · have e10 := it_f e10 c
        obtain rfl := Option.some.inj e10
        have k9 := Jj9 () rfl
        try dsimp only at k9
        exact k9
    · have e10 := it_f e10 c
      obtain rfl := Option.some.inj e10
      have h25 : some M = some q := h11
      exact w_retV C (pc := 87) dX5_offer_87 rfl (Option.some.inj h25)
theorem dX5_offerOne_0 : decode cX5_offerOne 0 = .ok (.aload_n 0, 1) := by decide +kernel
theorem dX5_offerOne_1 : decode cX5_offerOne 1 = .ok (.getfield 70, 3) := by decide +kernel
theorem dX5_offerOne_4 : decode cX5_offerOne 4 = .ok (.aload_n 0, 1) := by decide +kernel
theorem dX5_offerOne_5 : decode cX5_offerOne 5 = .ok (.getfield 28, 3) := by decide +kernel
theorem dX5_offerOne_8 : decode cX5_offerOne 8 = .ok (.iload_n 2, 1) := by decide +kernel
theorem dX5_offerOne_9 : decode cX5_offerOne 9 = .ok (.iaload, 1) := by decide +kernel
theorem dX5_offerOne_10 : decode cX5_offerOne 10 = .ok (.iadd, 1) := by decide +kernel
theorem dX5_offerOne_11 : decode cX5_offerOne 11 = .ok (.aload_n 0, 1) := by decide +kernel
theorem dX5_offerOne_12 : decode cX5_offerOne 12 = .ok (.getfield 28, 3) := by decide +kernel
theorem dX5_offerOne_15 : decode cX5_offerOne 15 = .ok (.iload_n 1, 1) := by decide +kernel
theorem dX5_offerOne_16 : decode cX5_offerOne 16 = .ok (.iaload, 1) := by decide +kernel
theorem dX5_offerOne_17 : decode cX5_offerOne 17 = .ok (.isub, 1) := by decide +kernel
theorem dX5_offerOne_18 : decode cX5_offerOne 18 = .ok (.aload_n 0, 1) := by decide +kernel
theorem dX5_offerOne_19 : decode cX5_offerOne 19 = .ok (.iload_n 3, 1) := by decide +kernel
theorem dX5_offerOne_20 : decode cX5_offerOne 20 = .ok (.iload_n 3, 1) := by decide +kernel
theorem dX5_offerOne_21 : decode cX5_offerOne 21 = .ok (.invokevirtual 124, 3) := by decide +kernel
theorem dX5_offerOne_24 : decode cX5_offerOne 24 = .ok (.isub, 1) := by decide +kernel
theorem dX5_offerOne_25 : decode cX5_offerOne 25 = .ok (.istore 4, 2) := by decide +kernel
theorem dX5_offerOne_27 : decode cX5_offerOne 27 = .ok (.aload_n 0, 1) := by decide +kernel
theorem dX5_offerOne_28 : decode cX5_offerOne 28 = .ok (.getfield 31, 3) := by decide +kernel
theorem dX5_offerOne_31 : decode cX5_offerOne 31 = .ok (.iload_n 1, 1) := by decide +kernel
theorem dX5_offerOne_32 : decode cX5_offerOne 32 = .ok (.iaload, 1) := by decide +kernel
theorem dX5_offerOne_33 : decode cX5_offerOne 33 = .ok (.iload 4, 2) := by decide +kernel
theorem dX5_offerOne_35 : decode cX5_offerOne 35 = .ok (.iadd, 1) := by decide +kernel
theorem dX5_offerOne_36 : decode cX5_offerOne 36 = .ok (.aload_n 0, 1) := by decide +kernel
theorem dX5_offerOne_37 : decode cX5_offerOne 37 = .ok (.getfield 73, 3) := by decide +kernel
theorem dX5_offerOne_40 : decode cX5_offerOne 40 = .ok (.iadd, 1) := by decide +kernel
theorem dX5_offerOne_41 : decode cX5_offerOne 41 = .ok (.aload_n 0, 1) := by decide +kernel
theorem dX5_offerOne_42 : decode cX5_offerOne 42 = .ok (.getfield 31, 3) := by decide +kernel
theorem dX5_offerOne_45 : decode cX5_offerOne 45 = .ok (.iload_n 2, 1) := by decide +kernel
theorem dX5_offerOne_46 : decode cX5_offerOne 46 = .ok (.iaload, 1) := by decide +kernel
theorem dX5_offerOne_47 : decode cX5_offerOne 47 = .ok (.if_icmp .le 4, 3) := by decide +kernel
theorem dX5_offerOne_50 : decode cX5_offerOne 50 = .ok (.return_, 1) := by decide +kernel
theorem dX5_offerOne_51 : decode cX5_offerOne 51 = .ok (.aload_n 0, 1) := by decide +kernel
theorem dX5_offerOne_52 : decode cX5_offerOne 52 = .ok (.getfield 70, 3) := by decide +kernel
theorem dX5_offerOne_55 : decode cX5_offerOne 55 = .ok (.aload_n 0, 1) := by decide +kernel
theorem dX5_offerOne_56 : decode cX5_offerOne 56 = .ok (.iload_n 1, 1) := by decide +kernel
theorem dX5_offerOne_57 : decode cX5_offerOne 57 = .ok (.iload_n 3, 1) := by decide +kernel
theorem dX5_offerOne_58 : decode cX5_offerOne 58 = .ok (.iload_n 2, 1) := by decide +kernel
theorem dX5_offerOne_59 : decode cX5_offerOne 59 = .ok (.invokevirtual 127, 3) := by decide +kernel
theorem dX5_offerOne_62 : decode cX5_offerOne 62 = .ok (.iadd, 1) := by decide +kernel
theorem dX5_offerOne_63 : decode cX5_offerOne 63 = .ok (.istore 5, 2) := by decide +kernel
theorem dX5_offerOne_65 : decode cX5_offerOne 65 = .ok (.iload 4, 2) := by decide +kernel
theorem dX5_offerOne_67 : decode cX5_offerOne 67 = .ok (.iload 5, 2) := by decide +kernel
theorem dX5_offerOne_69 : decode cX5_offerOne 69 = .ok (.invokestatic 97, 3) := by decide +kernel
theorem dX5_offerOne_72 : decode cX5_offerOne 72 = .ok (.istore 6, 2) := by decide +kernel
theorem dX5_offerOne_74 : decode cX5_offerOne 74 = .ok (.aload_n 0, 1) := by decide +kernel
theorem dX5_offerOne_75 : decode cX5_offerOne 75 = .ok (.aload_n 0, 1) := by decide +kernel
theorem dX5_offerOne_76 : decode cX5_offerOne 76 = .ok (.getfield 70, 3) := by decide +kernel
theorem dX5_offerOne_79 : decode cX5_offerOne 79 = .ok (.iload 5, 2) := by decide +kernel
theorem dX5_offerOne_81 : decode cX5_offerOne 81 = .ok (.iload 6, 2) := by decide +kernel
theorem dX5_offerOne_83 : decode cX5_offerOne 83 = .ok (.invokevirtual 131, 3) := by decide +kernel
theorem dX5_offerOne_86 : decode cX5_offerOne 86 = .ok (.ifCond .eq 21, 3) := by decide +kernel
theorem dX5_offerOne_89 : decode cX5_offerOne 89 = .ok (.aload_n 0, 1) := by decide +kernel
theorem dX5_offerOne_90 : decode cX5_offerOne 90 = .ok (.iload_n 1, 1) := by decide +kernel
theorem dX5_offerOne_91 : decode cX5_offerOne 91 = .ok (.iload_n 2, 1) := by decide +kernel
theorem dX5_offerOne_92 : decode cX5_offerOne 92 = .ok (.iload_n 1, 1) := by decide +kernel
theorem dX5_offerOne_93 : decode cX5_offerOne 93 = .ok (.iload_n 3, 1) := by decide +kernel
theorem dX5_offerOne_94 : decode cX5_offerOne 94 = .ok (.invokestatic 135, 3) := by decide +kernel
theorem dX5_offerOne_97 : decode cX5_offerOne 97 = .ok (.iload 6, 2) := by decide +kernel
theorem dX5_offerOne_99 : decode cX5_offerOne 99 = .ok (.aload_n 0, 1) := by decide +kernel
theorem dX5_offerOne_100 : decode cX5_offerOne 100 = .ok (.getfield 73, 3) := by decide +kernel
theorem dX5_offerOne_103 : decode cX5_offerOne 103 = .ok (.iadd, 1) := by decide +kernel
theorem dX5_offerOne_104 : decode cX5_offerOne 104 = .ok (.invokevirtual 138, 3) := by decide +kernel
theorem dX5_offerOne_107 : decode cX5_offerOne 107 = .ok (.return_, 1) := by decide +kernel
def pX5_offerOne (x1 : Int32) (x2 : Int32) (x3 : Int32) (M : Mm) : Option (Mm) :=
(ald M 23 10 x2).bind fun v1 =>
(ald M 23 10 x1).bind fun v3 =>
(pX5_spared x3 x3 M).bind fun v5 =>
bnd ((((M 17 2) + v1) - v3) - v5) fun v7 =>
(ald M 24 10 x1).bind fun v8 =>
(ald M 24 10 x2).bind fun v10 =>
if ((v8 + v7) + (M 17 3)) ≤ v10 then
((pX5_trip x1 x3 x2 M).bind fun v12 =>
bnd ((M 17 2) + v12) fun v14 =>
bnd (mmax v7 v14) fun v15 =>
if (pX5_lasts (M 17 2) v14 v15 M) = 0 then
(some M)
else
((pX5_offer x1 x2 (pX5_bit x1 x3) (v15 + (M 17 3)) M).bind fun v16 =>
some v16))
else
(some M)
abbrev zX5_offerOne : Zx := (cX5_offerOne, RX5, 7, 2, none)
set_option maxRecDepth 100000 in
set_option maxHeartbeats 4000000 in
theorem tX5_offerOne {l : Launch} {Y : Sx} {M : Mm} {x1 : Int32} {x2 : Int32} {x3 : Int32} {q : Mm} (hY : isA Y) (h : pX5_offerOne x1 x2 x3 M = some q) : Ct l Y yX5_offerOne cX5_offerOne 7 none 2 [.ref (adr Y 17), .int x1, .int x2, .int x3] M none q := by
  refine Ct.of (by decide) rfl (lv := [(0, .ref (adr Y 17)), (1, .int x1), (2, .int x2), (3, .int x3)]) rfl ?_
  intro K hkl C
  change Cx K zX5_offerOne Y at C
  subst hkl
  unfold pX5_offerOne at h
  show Wp K zX5_offerOne Y (Qm K Y none q) M 0 [(0, .ref (adr Y 17)), (1, .int x1), (2, .int x2), (3, .int x3)] []
  refine w_aload_n C (pc := 0) dX5_offerOne_0 0 rfl ?_
  refine w_getI C (pc := 1) dX5_offerOne_1 f_X5_70 (sA_17 hY) rfl ?_
  refine w_aload_n C (pc := 4) dX5_offerOne_4 0 rfl ?_
  refine w_getR C (pc := 5) dX5_offerOne_5 f_X5_28 (sA_17 hY) rfl ?_
  refine w_iload_n C (pc := 8) dX5_offerOne_8 2 rfl ?_
  obtain ⟨v1, e2, h⟩ := ob h
  refine w_iald C (pc := 9) dX5_offerOne_9 (sA_23 hY) e2 ?_
  refine w_iadd C (pc := 10) dX5_offerOne_10 ?_
  refine w_aload_n C (pc := 11) dX5_offerOne_11 0 rfl ?_
  refine w_getR C (pc := 12) dX5_offerOne_12 f_X5_28 (sA_17 hY) rfl ?_
  refine w_iload_n C (pc := 15) dX5_offerOne_15 1 rfl ?_
  obtain ⟨v3, e4, h⟩ := ob h
  refine w_iald C (pc := 16) dX5_offerOne_16 (sA_23 hY) e4 ?_
  refine w_isub C (pc := 17) dX5_offerOne_17 ?_
  refine w_aload_n C (pc := 18) dX5_offerOne_18 0 rfl ?_
  refine w_iload_n C (pc := 19) dX5_offerOne_19 3 rfl ?_
  refine w_iload_n C (pc := 20) dX5_offerOne_20 3 rfl ?_
  obtain ⟨v5, e6, h⟩ := ob h
  refine w_cVi C (pc := 21) dX5_offerOne_21 my_X5_spared mi_X5_spared ml_X5_124 (sA_17 hY) rfl rfl rfl [.int x3, .int x3] rfl rfl (Nat.le_of_ble_eq_true rfl) (tX5_spared hY  e6) ?_
  refine w_isub C (pc := 24) dX5_offerOne_24 ?_
  refine w_bnd h (fun v7 h => ?_)
  refine w_istore C (pc := 25) dX5_offerOne_25 (lv' := [(0, .ref (adr Y 17)), (1, .int x1), (2, .int x2), (3, .int x3), (4, .int v7)]) rfl rfl rfl ?_
  refine w_aload_n C (pc := 27) dX5_offerOne_27 0 rfl ?_
  refine w_getR C (pc := 28) dX5_offerOne_28 f_X5_31 (sA_17 hY) rfl ?_
  refine w_iload_n C (pc := 31) dX5_offerOne_31 1 rfl ?_
  obtain ⟨v8, e9, h⟩ := ob h
  refine w_iald C (pc := 32) dX5_offerOne_32 (sA_24 hY) e9 ?_
  refine w_iload C (pc := 33) dX5_offerOne_33 4 rfl ?_
  refine w_iadd C (pc := 35) dX5_offerOne_35 ?_
  refine w_aload_n C (pc := 36) dX5_offerOne_36 0 rfl ?_
  refine w_getI C (pc := 37) dX5_offerOne_37 f_X5_73 (sA_17 hY) rfl ?_
  refine w_iadd C (pc := 40) dX5_offerOne_40 ?_
  refine w_aload_n C (pc := 41) dX5_offerOne_41 0 rfl ?_
  refine w_getR C (pc := 42) dX5_offerOne_42 f_X5_31 (sA_17 hY) rfl ?_
  refine w_iload_n C (pc := 45) dX5_offerOne_45 2 rfl ?_
  obtain ⟨v10, e11, h⟩ := ob h
  refine w_iald C (pc := 46) dX5_offerOne_46 (sA_24 hY) e11 ?_
  refine w_icle C (pc := 47) 51 dX5_offerOne_47 (by decide) (fun c => ?_) (fun c => ?_)
  · have h := it_t h c
    refine w_aload_n C (pc := 51) dX5_offerOne_51 0 rfl ?_
    refine w_getI C (pc := 52) dX5_offerOne_52 f_X5_70 (sA_17 hY) rfl ?_
    refine w_aload_n C (pc := 55) dX5_offerOne_55 0 rfl ?_
    refine w_iload_n C (pc := 56) dX5_offerOne_56 1 rfl ?_
    refine w_iload_n C (pc := 57) dX5_offerOne_57 3 rfl ?_
    refine w_iload_n C (pc := 58) dX5_offerOne_58 2 rfl ?_
    obtain ⟨v12, e13, h⟩ := ob h
    refine w_cVi C (pc := 59) dX5_offerOne_59 my_X5_trip mi_X5_trip ml_X5_127 (sA_17 hY) rfl rfl rfl [.int x1, .int x3, .int x2] rfl rfl (Nat.le_of_ble_eq_true rfl) (tX5_trip hY  e13) ?_
    refine w_iadd C (pc := 62) dX5_offerOne_62 ?_
    refine w_bnd h (fun v14 h => ?_)
    refine w_istore C (pc := 63) dX5_offerOne_63 (lv' := [(0, .ref (adr Y 17)), (1, .int x1), (2, .int x2), (3, .int x3), (4, .int v7), (5, .int v14)]) rfl rfl rfl ?_
    refine w_iload C (pc := 65) dX5_offerOne_65 4 rfl ?_
    refine w_iload C (pc := 67) dX5_offerOne_67 5 rfl ?_
    refine w_max C (pc := 69) dX5_offerOne_69 mmax_X5_97 rfl (Nat.le_of_ble_eq_true rfl) ?_
    refine w_bnd h (fun v15 h => ?_)
    refine w_istore C (pc := 72) dX5_offerOne_72 (lv' := [(0, .ref (adr Y 17)), (1, .int x1), (2, .int x2), (3, .int x3), (4, .int v7), (5, .int v14), (6, .int v15)]) rfl rfl rfl ?_
    refine w_aload_n C (pc := 74) dX5_offerOne_74 0 rfl ?_
    refine w_aload_n C (pc := 75) dX5_offerOne_75 0 rfl ?_
    refine w_getI C (pc := 76) dX5_offerOne_76 f_X5_70 (sA_17 hY) rfl ?_
    refine w_iload C (pc := 79) dX5_offerOne_79 5 rfl ?_
    refine w_iload C (pc := 81) dX5_offerOne_81 6 rfl ?_
    refine w_cVi C (pc := 83) dX5_offerOne_83 my_X5_lasts mi_X5_lasts ml_X5_131 (sA_17 hY) rfl rfl rfl [.int (M 17 2), .int v14, .int v15] rfl rfl (Nat.le_of_ble_eq_true rfl) (tX5_lasts hY  rfl) ?_
    refine w_ifeq C (pc := 86) 107 dX5_offerOne_86 (by decide) (fun c => ?_) (fun c => ?_)
    · have h := it_t h c
      exact w_retV C (pc := 107) dX5_offerOne_107 rfl (Option.some.inj h)
    · have h := it_f h c
      refine w_aload_n C (pc := 89) dX5_offerOne_89 0 rfl ?_
      refine w_iload_n C (pc := 90) dX5_offerOne_90 1 rfl ?_
      refine w_iload_n C (pc := 91) dX5_offerOne_91 2 rfl ?_
      refine w_iload_n C (pc := 92) dX5_offerOne_92 1 rfl ?_
      refine w_iload_n C (pc := 93) dX5_offerOne_93 3 rfl ?_
      refine w_cSi C (pc := 94) dX5_offerOne_94 my_X5_bit ms_X5_bit ml_X5_135 rfl rfl [.int x1, .int x3] rfl rfl (Nat.le_of_ble_eq_true rfl) (tX5_bit  rfl) ?_
      refine w_iload C (pc := 97) dX5_offerOne_97 6 rfl ?_
      refine w_aload_n C (pc := 99) dX5_offerOne_99 0 rfl ?_
      refine w_getI C (pc := 100) dX5_offerOne_100 f_X5_73 (sA_17 hY) rfl ?_
      refine w_iadd C (pc := 103) dX5_offerOne_103 ?_
      obtain ⟨v16, e17, h⟩ := ob h
      refine w_cVv C (pc := 104) dX5_offerOne_104 my_X5_offer mi_X5_offer ml_X5_138 (sA_17 hY) rfl rfl rfl [.int x1, .int x2, .int (pX5_bit x1 x3), .int (v15 + (M 17 3))] rfl rfl (Nat.le_of_ble_eq_true rfl) (tX5_offer hY  e17) ?_
      exact w_retV C (pc := 107) dX5_offerOne_107 rfl (Option.some.inj h)
  · have h := it_f h c
    exact w_retV C (pc := 50) dX5_offerOne_50 rfl (Option.some.inj h)
theorem dX5_offerTwo_0 : decode cX5_offerTwo 0 = .ok (.iload 4, 2) := by decide +kernel
theorem dX5_offerTwo_2 : decode cX5_offerTwo 2 = .ok (.iload_n 3, 1) := by decide +kernel
theorem dX5_offerTwo_3 : decode cX5_offerTwo 3 = .ok (.iconst 1, 1) := by decide +kernel
theorem dX5_offerTwo_4 : decode cX5_offerTwo 4 = .ok (.iadd, 1) := by decide +kernel
theorem dX5_offerTwo_5 : decode cX5_offerTwo 5 = .ok (.if_icmp .ne 13, 3) := by decide +kernel
theorem dX5_offerTwo_8 : decode cX5_offerTwo 8 = .ok (.aload_n 0, 1) := by decide +kernel
theorem dX5_offerTwo_9 : decode cX5_offerTwo 9 = .ok (.iload_n 3, 1) := by decide +kernel
theorem dX5_offerTwo_10 : decode cX5_offerTwo 10 = .ok (.iload 4, 2) := by decide +kernel
theorem dX5_offerTwo_12 : decode cX5_offerTwo 12 = .ok (.invokevirtual 124, 3) := by decide +kernel
theorem dX5_offerTwo_15 : decode cX5_offerTwo 15 = .ok (.goto 18, 3) := by decide +kernel
theorem dX5_offerTwo_18 : decode cX5_offerTwo 18 = .ok (.aload_n 0, 1) := by decide +kernel
theorem dX5_offerTwo_19 : decode cX5_offerTwo 19 = .ok (.iload_n 3, 1) := by decide +kernel
theorem dX5_offerTwo_20 : decode cX5_offerTwo 20 = .ok (.iload_n 3, 1) := by decide +kernel
theorem dX5_offerTwo_21 : decode cX5_offerTwo 21 = .ok (.invokevirtual 124, 3) := by decide +kernel
theorem dX5_offerTwo_24 : decode cX5_offerTwo 24 = .ok (.aload_n 0, 1) := by decide +kernel
theorem dX5_offerTwo_25 : decode cX5_offerTwo 25 = .ok (.iload 4, 2) := by decide +kernel
theorem dX5_offerTwo_27 : decode cX5_offerTwo 27 = .ok (.iload 4, 2) := by decide +kernel
theorem dX5_offerTwo_29 : decode cX5_offerTwo 29 = .ok (.invokevirtual 124, 3) := by decide +kernel
theorem dX5_offerTwo_32 : decode cX5_offerTwo 32 = .ok (.iadd, 1) := by decide +kernel
theorem dX5_offerTwo_33 : decode cX5_offerTwo 33 = .ok (.istore 5, 2) := by decide +kernel
theorem dX5_offerTwo_35 : decode cX5_offerTwo 35 = .ok (.iconst 2, 1) := by decide +kernel
theorem dX5_offerTwo_36 : decode cX5_offerTwo 36 = .ok (.aload_n 0, 1) := by decide +kernel
theorem dX5_offerTwo_37 : decode cX5_offerTwo 37 = .ok (.getfield 70, 3) := by decide +kernel
theorem dX5_offerTwo_40 : decode cX5_offerTwo 40 = .ok (.imul, 1) := by decide +kernel
theorem dX5_offerTwo_41 : decode cX5_offerTwo 41 = .ok (.aload_n 0, 1) := by decide +kernel
theorem dX5_offerTwo_42 : decode cX5_offerTwo 42 = .ok (.getfield 28, 3) := by decide +kernel
theorem dX5_offerTwo_45 : decode cX5_offerTwo 45 = .ok (.iload_n 2, 1) := by decide +kernel
theorem dX5_offerTwo_46 : decode cX5_offerTwo 46 = .ok (.iaload, 1) := by decide +kernel
theorem dX5_offerTwo_47 : decode cX5_offerTwo 47 = .ok (.iadd, 1) := by decide +kernel
theorem dX5_offerTwo_48 : decode cX5_offerTwo 48 = .ok (.aload_n 0, 1) := by decide +kernel
theorem dX5_offerTwo_49 : decode cX5_offerTwo 49 = .ok (.getfield 28, 3) := by decide +kernel
theorem dX5_offerTwo_52 : decode cX5_offerTwo 52 = .ok (.iload_n 1, 1) := by decide +kernel
theorem dX5_offerTwo_53 : decode cX5_offerTwo 53 = .ok (.iaload, 1) := by decide +kernel
theorem dX5_offerTwo_54 : decode cX5_offerTwo 54 = .ok (.isub, 1) := by decide +kernel
theorem dX5_offerTwo_55 : decode cX5_offerTwo 55 = .ok (.iload 5, 2) := by decide +kernel
theorem dX5_offerTwo_57 : decode cX5_offerTwo 57 = .ok (.isub, 1) := by decide +kernel
theorem dX5_offerTwo_58 : decode cX5_offerTwo 58 = .ok (.istore 6, 2) := by decide +kernel
theorem dX5_offerTwo_60 : decode cX5_offerTwo 60 = .ok (.aload_n 0, 1) := by decide +kernel
theorem dX5_offerTwo_61 : decode cX5_offerTwo 61 = .ok (.getfield 31, 3) := by decide +kernel
theorem dX5_offerTwo_64 : decode cX5_offerTwo 64 = .ok (.iload_n 1, 1) := by decide +kernel
theorem dX5_offerTwo_65 : decode cX5_offerTwo 65 = .ok (.iaload, 1) := by decide +kernel
theorem dX5_offerTwo_66 : decode cX5_offerTwo 66 = .ok (.iload 6, 2) := by decide +kernel
theorem dX5_offerTwo_68 : decode cX5_offerTwo 68 = .ok (.iadd, 1) := by decide +kernel
theorem dX5_offerTwo_69 : decode cX5_offerTwo 69 = .ok (.iconst 2, 1) := by decide +kernel
theorem dX5_offerTwo_70 : decode cX5_offerTwo 70 = .ok (.aload_n 0, 1) := by decide +kernel
theorem dX5_offerTwo_71 : decode cX5_offerTwo 71 = .ok (.getfield 73, 3) := by decide +kernel
theorem dX5_offerTwo_74 : decode cX5_offerTwo 74 = .ok (.imul, 1) := by decide +kernel
theorem dX5_offerTwo_75 : decode cX5_offerTwo 75 = .ok (.iadd, 1) := by decide +kernel
theorem dX5_offerTwo_76 : decode cX5_offerTwo 76 = .ok (.aload_n 0, 1) := by decide +kernel
theorem dX5_offerTwo_77 : decode cX5_offerTwo 77 = .ok (.getfield 31, 3) := by decide +kernel
theorem dX5_offerTwo_80 : decode cX5_offerTwo 80 = .ok (.iload_n 2, 1) := by decide +kernel
theorem dX5_offerTwo_81 : decode cX5_offerTwo 81 = .ok (.iaload, 1) := by decide +kernel
theorem dX5_offerTwo_82 : decode cX5_offerTwo 82 = .ok (.if_icmp .le 4, 3) := by decide +kernel
theorem dX5_offerTwo_85 : decode cX5_offerTwo 85 = .ok (.return_, 1) := by decide +kernel
theorem dX5_offerTwo_86 : decode cX5_offerTwo 86 = .ok (.aload_n 0, 1) := by decide +kernel
theorem dX5_offerTwo_87 : decode cX5_offerTwo 87 = .ok (.getfield 70, 3) := by decide +kernel
theorem dX5_offerTwo_90 : decode cX5_offerTwo 90 = .ok (.aload_n 0, 1) := by decide +kernel
theorem dX5_offerTwo_91 : decode cX5_offerTwo 91 = .ok (.iload_n 1, 1) := by decide +kernel
theorem dX5_offerTwo_92 : decode cX5_offerTwo 92 = .ok (.iload_n 3, 1) := by decide +kernel
theorem dX5_offerTwo_93 : decode cX5_offerTwo 93 = .ok (.iload_n 2, 1) := by decide +kernel
theorem dX5_offerTwo_94 : decode cX5_offerTwo 94 = .ok (.invokevirtual 127, 3) := by decide +kernel
theorem dX5_offerTwo_97 : decode cX5_offerTwo 97 = .ok (.iadd, 1) := by decide +kernel
theorem dX5_offerTwo_98 : decode cX5_offerTwo 98 = .ok (.istore 7, 2) := by decide +kernel
theorem dX5_offerTwo_100 : decode cX5_offerTwo 100 = .ok (.iconst 2, 1) := by decide +kernel
theorem dX5_offerTwo_101 : decode cX5_offerTwo 101 = .ok (.aload_n 0, 1) := by decide +kernel
theorem dX5_offerTwo_102 : decode cX5_offerTwo 102 = .ok (.getfield 70, 3) := by decide +kernel
theorem dX5_offerTwo_105 : decode cX5_offerTwo 105 = .ok (.imul, 1) := by decide +kernel
theorem dX5_offerTwo_106 : decode cX5_offerTwo 106 = .ok (.aload_n 0, 1) := by decide +kernel
theorem dX5_offerTwo_107 : decode cX5_offerTwo 107 = .ok (.iload_n 1, 1) := by decide +kernel
theorem dX5_offerTwo_108 : decode cX5_offerTwo 108 = .ok (.iload 4, 2) := by decide +kernel
theorem dX5_offerTwo_110 : decode cX5_offerTwo 110 = .ok (.iload_n 2, 1) := by decide +kernel
theorem dX5_offerTwo_111 : decode cX5_offerTwo 111 = .ok (.invokevirtual 127, 3) := by decide +kernel
theorem dX5_offerTwo_114 : decode cX5_offerTwo 114 = .ok (.iadd, 1) := by decide +kernel
theorem dX5_offerTwo_115 : decode cX5_offerTwo 115 = .ok (.istore 8, 2) := by decide +kernel
theorem dX5_offerTwo_117 : decode cX5_offerTwo 117 = .ok (.iload 6, 2) := by decide +kernel
theorem dX5_offerTwo_119 : decode cX5_offerTwo 119 = .ok (.iload 7, 2) := by decide +kernel
theorem dX5_offerTwo_121 : decode cX5_offerTwo 121 = .ok (.invokestatic 97, 3) := by decide +kernel
theorem dX5_offerTwo_124 : decode cX5_offerTwo 124 = .ok (.istore 9, 2) := by decide +kernel
theorem dX5_offerTwo_126 : decode cX5_offerTwo 126 = .ok (.iload 6, 2) := by decide +kernel
theorem dX5_offerTwo_128 : decode cX5_offerTwo 128 = .ok (.iload 8, 2) := by decide +kernel
theorem dX5_offerTwo_130 : decode cX5_offerTwo 130 = .ok (.invokestatic 97, 3) := by decide +kernel
theorem dX5_offerTwo_133 : decode cX5_offerTwo 133 = .ok (.istore 10, 2) := by decide +kernel
theorem dX5_offerTwo_135 : decode cX5_offerTwo 135 = .ok (.iload 7, 2) := by decide +kernel
theorem dX5_offerTwo_137 : decode cX5_offerTwo 137 = .ok (.iload 8, 2) := by decide +kernel
theorem dX5_offerTwo_139 : decode cX5_offerTwo 139 = .ok (.if_icmp .gt 20, 3) := by decide +kernel
theorem dX5_offerTwo_142 : decode cX5_offerTwo 142 = .ok (.iload 9, 2) := by decide +kernel
theorem dX5_offerTwo_144 : decode cX5_offerTwo 144 = .ok (.aload_n 0, 1) := by decide +kernel
theorem dX5_offerTwo_145 : decode cX5_offerTwo 145 = .ok (.getfield 73, 3) := by decide +kernel
theorem dX5_offerTwo_148 : decode cX5_offerTwo 148 = .ok (.iadd, 1) := by decide +kernel
theorem dX5_offerTwo_149 : decode cX5_offerTwo 149 = .ok (.iload 8, 2) := by decide +kernel
theorem dX5_offerTwo_151 : decode cX5_offerTwo 151 = .ok (.invokestatic 97, 3) := by decide +kernel
theorem dX5_offerTwo_154 : decode cX5_offerTwo 154 = .ok (.istore 10, 2) := by decide +kernel
theorem dX5_offerTwo_156 : decode cX5_offerTwo 156 = .ok (.goto 17, 3) := by decide +kernel
theorem dX5_offerTwo_159 : decode cX5_offerTwo 159 = .ok (.iload 10, 2) := by decide +kernel
theorem dX5_offerTwo_161 : decode cX5_offerTwo 161 = .ok (.aload_n 0, 1) := by decide +kernel
theorem dX5_offerTwo_162 : decode cX5_offerTwo 162 = .ok (.getfield 73, 3) := by decide +kernel
theorem dX5_offerTwo_165 : decode cX5_offerTwo 165 = .ok (.iadd, 1) := by decide +kernel
theorem dX5_offerTwo_166 : decode cX5_offerTwo 166 = .ok (.iload 7, 2) := by decide +kernel
theorem dX5_offerTwo_168 : decode cX5_offerTwo 168 = .ok (.invokestatic 97, 3) := by decide +kernel
theorem dX5_offerTwo_171 : decode cX5_offerTwo 171 = .ok (.istore 9, 2) := by decide +kernel
theorem dX5_offerTwo_173 : decode cX5_offerTwo 173 = .ok (.aload_n 0, 1) := by decide +kernel
theorem dX5_offerTwo_174 : decode cX5_offerTwo 174 = .ok (.aload_n 0, 1) := by decide +kernel
theorem dX5_offerTwo_175 : decode cX5_offerTwo 175 = .ok (.getfield 70, 3) := by decide +kernel
theorem dX5_offerTwo_178 : decode cX5_offerTwo 178 = .ok (.iload 7, 2) := by decide +kernel
theorem dX5_offerTwo_180 : decode cX5_offerTwo 180 = .ok (.iload 9, 2) := by decide +kernel
theorem dX5_offerTwo_182 : decode cX5_offerTwo 182 = .ok (.invokevirtual 131, 3) := by decide +kernel
theorem dX5_offerTwo_185 : decode cX5_offerTwo 185 = .ok (.ifCond .eq 50, 3) := by decide +kernel
theorem dX5_offerTwo_188 : decode cX5_offerTwo 188 = .ok (.aload_n 0, 1) := by decide +kernel
theorem dX5_offerTwo_189 : decode cX5_offerTwo 189 = .ok (.iconst 2, 1) := by decide +kernel
theorem dX5_offerTwo_190 : decode cX5_offerTwo 190 = .ok (.aload_n 0, 1) := by decide +kernel
theorem dX5_offerTwo_191 : decode cX5_offerTwo 191 = .ok (.getfield 70, 3) := by decide +kernel
theorem dX5_offerTwo_194 : decode cX5_offerTwo 194 = .ok (.imul, 1) := by decide +kernel
theorem dX5_offerTwo_195 : decode cX5_offerTwo 195 = .ok (.iload 8, 2) := by decide +kernel
theorem dX5_offerTwo_197 : decode cX5_offerTwo 197 = .ok (.iload 10, 2) := by decide +kernel
theorem dX5_offerTwo_199 : decode cX5_offerTwo 199 = .ok (.invokevirtual 131, 3) := by decide +kernel
theorem dX5_offerTwo_202 : decode cX5_offerTwo 202 = .ok (.ifCond .eq 33, 3) := by decide +kernel
theorem dX5_offerTwo_205 : decode cX5_offerTwo 205 = .ok (.aload_n 0, 1) := by decide +kernel
theorem dX5_offerTwo_206 : decode cX5_offerTwo 206 = .ok (.iload_n 1, 1) := by decide +kernel
theorem dX5_offerTwo_207 : decode cX5_offerTwo 207 = .ok (.iload_n 2, 1) := by decide +kernel
theorem dX5_offerTwo_208 : decode cX5_offerTwo 208 = .ok (.iload_n 1, 1) := by decide +kernel
theorem dX5_offerTwo_209 : decode cX5_offerTwo 209 = .ok (.iload_n 3, 1) := by decide +kernel
theorem dX5_offerTwo_210 : decode cX5_offerTwo 210 = .ok (.invokestatic 135, 3) := by decide +kernel
theorem dX5_offerTwo_213 : decode cX5_offerTwo 213 = .ok (.iload_n 1, 1) := by decide +kernel
theorem dX5_offerTwo_214 : decode cX5_offerTwo 214 = .ok (.iload 4, 2) := by decide +kernel
theorem dX5_offerTwo_216 : decode cX5_offerTwo 216 = .ok (.invokestatic 135, 3) := by decide +kernel
theorem dX5_offerTwo_219 : decode cX5_offerTwo 219 = .ok (.ior, 1) := by decide +kernel
theorem dX5_offerTwo_220 : decode cX5_offerTwo 220 = .ok (.iload 9, 2) := by decide +kernel
theorem dX5_offerTwo_222 : decode cX5_offerTwo 222 = .ok (.iload 10, 2) := by decide +kernel
theorem dX5_offerTwo_224 : decode cX5_offerTwo 224 = .ok (.invokestatic 97, 3) := by decide +kernel
theorem dX5_offerTwo_227 : decode cX5_offerTwo 227 = .ok (.aload_n 0, 1) := by decide +kernel
theorem dX5_offerTwo_228 : decode cX5_offerTwo 228 = .ok (.getfield 73, 3) := by decide +kernel
theorem dX5_offerTwo_231 : decode cX5_offerTwo 231 = .ok (.iadd, 1) := by decide +kernel
theorem dX5_offerTwo_232 : decode cX5_offerTwo 232 = .ok (.invokevirtual 138, 3) := by decide +kernel
theorem dX5_offerTwo_235 : decode cX5_offerTwo 235 = .ok (.return_, 1) := by decide +kernel
def pX5_offerTwo (x1 : Int32) (x2 : Int32) (x3 : Int32) (x4 : Int32) (M : Mm) : Option (Mm) :=
Option.bind (α := Int32) (if x4 = (x3 + 1) then
((pX5_spared x3 x4 M).bind fun v28 =>
some v28)
else
((pX5_spared x3 x3 M).bind fun v30 =>
(pX5_spared x4 x4 M).bind fun v32 =>
some (v30 + v32))) fun j1 =>
(ald M 23 10 x2).bind fun v4 =>
(ald M 23 10 x1).bind fun v6 =>
bnd ((((2 * (M 17 2)) + v4) - v6) - j1) fun v8 =>
(ald M 24 10 x1).bind fun v9 =>
(ald M 24 10 x2).bind fun v11 =>
if ((v9 + v8) + (2 * (M 17 3))) ≤ v11 then
((pX5_trip x1 x3 x2 M).bind fun v13 =>
bnd ((M 17 2) + v13) fun v15 =>
(pX5_trip x1 x4 x2 M).bind fun v16 =>
bnd ((2 * (M 17 2)) + v16) fun v18 =>
bnd (mmax v8 v15) fun v19 =>
bnd (mmax v8 v18) fun v20 =>
bnd (α := Int32 × Int32) (if v18 < v15 then
(bnd (mmax (v20 + (M 17 3)) v15) fun v26 =>
(v26, v20))
else
(bnd (mmax (v19 + (M 17 3)) v18) fun v27 =>
(v19, v27))) fun j21 =>
if (pX5_lasts (M 17 2) v15 j21.1 M) = 0 then
(some M)
else
(if (pX5_lasts (2 * (M 17 2)) v18 j21.2 M) = 0 then
(some M)
else
((pX5_offer x1 x2 ((pX5_bit x1 x3) ||| (pX5_bit x1 x4)) ((mmax j21.1 j21.2) + (M 17 3)) M).bind fun v24 =>
some v24)))
else
(some M)
abbrev zX5_offerTwo : Zx := (cX5_offerTwo, RX5, 11, 2, none)
set_option maxRecDepth 100000 in
set_option maxHeartbeats 4000000 in
theorem tX5_offerTwo {l : Launch} {Y : Sx} {M : Mm} {x1 : Int32} {x2 : Int32} {x3 : Int32} {x4 : Int32} {q : Mm} (hY : isA Y) (h : pX5_offerTwo x1 x2 x3 x4 M = some q) : Ct l Y yX5_offerTwo cX5_offerTwo 11 none 2 [.ref (adr Y 17), .int x1, .int x2, .int x3, .int x4] M none q := by
  refine Ct.of (by decide) rfl (lv := [(0, .ref (adr Y 17)), (1, .int x1), (2, .int x2), (3, .int x3), (4, .int x4)]) rfl ?_
  intro K hkl C
  change Cx K zX5_offerTwo Y at C
  subst hkl
  unfold pX5_offerTwo at h
  show Wp K zX5_offerTwo Y (Qm K Y none q) M 0 [(0, .ref (adr Y 17)), (1, .int x1), (2, .int x2), (3, .int x3), (4, .int x4)] []
  refine w_iload C (pc := 0) dX5_offerTwo_0 4 rfl ?_
  refine w_iload_n C (pc := 2) dX5_offerTwo_2 3 rfl ?_
  refine w_iconst C (pc := 3) dX5_offerTwo_3 (v := 1) (by decide) ?_
  refine w_iadd C (pc := 4) dX5_offerTwo_4 ?_
  obtain ⟨j1, e2, h3⟩ := ob h
  have Jj1 : Wp K zX5_offerTwo Y (Qm K Y none q) M 33 [(0, .ref (adr Y 17)), (1, .int x1), (2, .int x2), (3, .int x3), (4, .int x4)] [.int j1] := by
    refine w_istore C (pc := 33) dX5_offerTwo_33 (lv' := [(0, .ref (adr Y 17)), (1, .int x1), (2, .int x2), (3, .int x3), (4, .int x4), (5, .int j1)]) rfl rfl rfl ?_
    refine w_iconst C (pc := 35) dX5_offerTwo_35 (v := 2) (by decide) ?_
    refine w_aload_n C (pc := 36) dX5_offerTwo_36 0 rfl ?_
    refine w_getI C (pc := 37) dX5_offerTwo_37 f_X5_70 (sA_17 hY) rfl ?_
    refine w_imul C (pc := 40) dX5_offerTwo_40 ?_
    refine w_aload_n C (pc := 41) dX5_offerTwo_41 0 rfl ?_
    refine w_getR C (pc := 42) dX5_offerTwo_42 f_X5_28 (sA_17 hY) rfl ?_
    refine w_iload_n C (pc := 45) dX5_offerTwo_45 2 rfl ?_
    obtain ⟨v4, e5, h3⟩ := ob h3
    refine w_iald C (pc := 46) dX5_offerTwo_46 (sA_23 hY) e5 ?_
    refine w_iadd C (pc := 47) dX5_offerTwo_47 ?_
    refine w_aload_n C (pc := 48) dX5_offerTwo_48 0 rfl ?_
    refine w_getR C (pc := 49) dX5_offerTwo_49 f_X5_28 (sA_17 hY) rfl ?_
    refine w_iload_n C (pc := 52) dX5_offerTwo_52 1 rfl ?_
    obtain ⟨v6, e7, h3⟩ := ob h3
    refine w_iald C (pc := 53) dX5_offerTwo_53 (sA_23 hY) e7 ?_
    refine w_isub C (pc := 54) dX5_offerTwo_54 ?_
    refine w_iload C (pc := 55) dX5_offerTwo_55 5 rfl ?_
    refine w_isub C (pc := 57) dX5_offerTwo_57 ?_
    refine w_bnd h3 (fun v8 h3 => ?_)
    refine w_istore C (pc := 58) dX5_offerTwo_58 (lv' := [(0, .ref (adr Y 17)), (1, .int x1), (2, .int x2), (3, .int x3), (4, .int x4), (5, .int j1), (6, .int v8)]) rfl rfl rfl ?_
    refine w_aload_n C (pc := 60) dX5_offerTwo_60 0 rfl ?_
    refine w_getR C (pc := 61) dX5_offerTwo_61 f_X5_31 (sA_17 hY) rfl ?_
    refine w_iload_n C (pc := 64) dX5_offerTwo_64 1 rfl ?_
    obtain ⟨v9, e10, h3⟩ := ob h3
    refine w_iald C (pc := 65) dX5_offerTwo_65 (sA_24 hY) e10 ?_
    refine w_iload C (pc := 66) dX5_offerTwo_66 6 rfl ?_
    refine w_iadd C (pc := 68) dX5_offerTwo_68 ?_
    refine w_iconst C (pc := 69) dX5_offerTwo_69 (v := 2) (by decide) ?_
    refine w_aload_n C (pc := 70) dX5_offerTwo_70 0 rfl ?_
    refine w_getI C (pc := 71) dX5_offerTwo_71 f_X5_73 (sA_17 hY) rfl ?_
    refine w_imul C (pc := 74) dX5_offerTwo_74 ?_
    refine w_iadd C (pc := 75) dX5_offerTwo_75 ?_
    refine w_aload_n C (pc := 76) dX5_offerTwo_76 0 rfl ?_
    refine w_getR C (pc := 77) dX5_offerTwo_77 f_X5_31 (sA_17 hY) rfl ?_
    refine w_iload_n C (pc := 80) dX5_offerTwo_80 2 rfl ?_
    obtain ⟨v11, e12, h3⟩ := ob h3
    refine w_iald C (pc := 81) dX5_offerTwo_81 (sA_24 hY) e12 ?_
    refine w_icle C (pc := 82) 86 dX5_offerTwo_82 (by decide) (fun c => ?_) (fun c => ?_)
    · have h3 := it_t h3 c
      refine w_aload_n C (pc := 86) dX5_offerTwo_86 0 rfl ?_
      refine w_getI C (pc := 87) dX5_offerTwo_87 f_X5_70 (sA_17 hY) rfl ?_
      refine w_aload_n C (pc := 90) dX5_offerTwo_90 0 rfl ?_
      refine w_iload_n C (pc := 91) dX5_offerTwo_91 1 rfl ?_
      refine w_iload_n C (pc := 92) dX5_offerTwo_92 3 rfl ?_
      refine w_iload_n C (pc := 93) dX5_offerTwo_93 2 rfl ?_
      obtain ⟨v13, e14, h3⟩ := ob h3
      refine w_cVi C (pc := 94) dX5_offerTwo_94 my_X5_trip mi_X5_trip ml_X5_127 (sA_17 hY) rfl rfl rfl [.int x1, .int x3, .int x2] rfl rfl (Nat.le_of_ble_eq_true rfl) (tX5_trip hY  e14) ?_
      refine w_iadd C (pc := 97) dX5_offerTwo_97 ?_
      refine w_bnd h3 (fun v15 h3 => ?_)
      refine w_istore C (pc := 98) dX5_offerTwo_98 (lv' := [(0, .ref (adr Y 17)), (1, .int x1), (2, .int x2), (3, .int x3), (4, .int x4), (5, .int j1), (6, .int v8), (7, .int v15)]) rfl rfl rfl ?_
      refine w_iconst C (pc := 100) dX5_offerTwo_100 (v := 2) (by decide) ?_
      refine w_aload_n C (pc := 101) dX5_offerTwo_101 0 rfl ?_
      refine w_getI C (pc := 102) dX5_offerTwo_102 f_X5_70 (sA_17 hY) rfl ?_
      refine w_imul C (pc := 105) dX5_offerTwo_105 ?_
      refine w_aload_n C (pc := 106) dX5_offerTwo_106 0 rfl ?_
      refine w_iload_n C (pc := 107) dX5_offerTwo_107 1 rfl ?_
      refine w_iload C (pc := 108) dX5_offerTwo_108 4 rfl ?_
      refine w_iload_n C (pc := 110) dX5_offerTwo_110 2 rfl ?_
      obtain ⟨v16, e17, h3⟩ := ob h3
      refine w_cVi C (pc := 111) dX5_offerTwo_111 my_X5_trip mi_X5_trip ml_X5_127 (sA_17 hY) rfl rfl rfl [.int x1, .int x4, .int x2] rfl rfl (Nat.le_of_ble_eq_true rfl) (tX5_trip hY  e17) ?_
      refine w_iadd C (pc := 114) dX5_offerTwo_114 ?_
      refine w_bnd h3 (fun v18 h3 => ?_)
      refine w_istore C (pc := 115) dX5_offerTwo_115 (lv' := [(0, .ref (adr Y 17)), (1, .int x1), (2, .int x2), (3, .int x3), (4, .int x4), (5, .int j1), (6, .int v8), (7, .int v15), (8, .int v18)]) rfl rfl rfl ?_
      refine w_iload C (pc := 117) dX5_offerTwo_117 6 rfl ?_
      refine w_iload C (pc := 119) dX5_offerTwo_119 7 rfl ?_
      refine w_max C (pc := 121) dX5_offerTwo_121 mmax_X5_97 rfl (Nat.le_of_ble_eq_true rfl) ?_
      refine w_bnd h3 (fun v19 h3 => ?_)
      refine w_istore C (pc := 124) dX5_offerTwo_124 (lv' := [(0, .ref (adr Y 17)), (1, .int x1), (2, .int x2), (3, .int x3), (4, .int x4), (5, .int j1), (6, .int v8), (7, .int v15), (8, .int v18), (9, .int v19)]) rfl rfl rfl ?_
      refine w_iload C (pc := 126) dX5_offerTwo_126 6 rfl ?_
      refine w_iload C (pc := 128) dX5_offerTwo_128 8 rfl ?_
      refine w_max C (pc := 130) dX5_offerTwo_130 mmax_X5_97 rfl (Nat.le_of_ble_eq_true rfl) ?_
      refine w_bnd h3 (fun v20 h3 => ?_)
      refine w_istore C (pc := 133) dX5_offerTwo_133 (lv' := [(0, .ref (adr Y 17)), (1, .int x1), (2, .int x2), (3, .int x3), (4, .int x4), (5, .int j1), (6, .int v8), (7, .int v15), (8, .int v18), (9, .int v19), (10, .int v20)]) rfl rfl rfl ?_
      refine w_iload C (pc := 135) dX5_offerTwo_135 7 rfl ?_
      refine w_iload C (pc := 137) dX5_offerTwo_137 8 rfl ?_
      obtain ⟨j21, e22, h23⟩ := bn h3
      have Jj21 : Wp K zX5_offerTwo Y (Qm K Y none q) M 173 [(0, .ref (adr Y 17)), (1, .int x1), (2, .int x2), (3, .int x3), (4, .int x4), (5, .int j1), (6, .int v8), (7, .int v15), (8, .int v18), (9, .int j21.1), (10, .int j21.2)] [] := by
        refine w_aload_n C (pc := 173) dX5_offerTwo_173 0 rfl ?_
        refine w_aload_n C (pc := 174) dX5_offerTwo_174 0 rfl ?_
        refine w_getI C (pc := 175) dX5_offerTwo_175 f_X5_70 (sA_17 hY) rfl ?_
        refine w_iload C (pc := 178) dX5_offerTwo_178 7 rfl ?_
        refine w_iload C (pc := 180) dX5_offerTwo_180 9 rfl ?_
        refine w_cVi C (pc := 182) dX5_offerTwo_182 my_X5_lasts mi_X5_lasts ml_X5_131 (sA_17 hY) rfl rfl rfl [.int (M 17 2), .int v15, .int j21.1] rfl rfl (Nat.le_of_ble_eq_true rfl) (tX5_lasts hY  rfl) ?_
        refine w_ifeq C (pc := 185) 235 dX5_offerTwo_185 (by decide) (fun c => ?_) (fun c => ?_)
        · have h23 := it_t h23 c
          exact w_retV C (pc := 235) dX5_offerTwo_235 rfl (Option.some.inj h23)
        · have h23 := it_f h23 c
          refine w_aload_n C (pc := 188) dX5_offerTwo_188 0 rfl ?_
          refine w_iconst C (pc := 189) dX5_offerTwo_189 (v := 2) (by decide) ?_
          refine w_aload_n C (pc := 190) dX5_offerTwo_190 0 rfl ?_
          refine w_getI C (pc := 191) dX5_offerTwo_191 f_X5_70 (sA_17 hY) rfl ?_
          refine w_imul C (pc := 194) dX5_offerTwo_194 ?_
          refine w_iload C (pc := 195) dX5_offerTwo_195 8 rfl ?_
          refine w_iload C (pc := 197) dX5_offerTwo_197 10 rfl ?_
          refine w_cVi C (pc := 199) dX5_offerTwo_199 my_X5_lasts mi_X5_lasts ml_X5_131 (sA_17 hY) rfl rfl rfl [.int (2 * (M 17 2)), .int v18, .int j21.2] rfl rfl (Nat.le_of_ble_eq_true rfl) (tX5_lasts hY  rfl) ?_
          refine w_ifeq C (pc := 202) 235 dX5_offerTwo_202 (by decide) (fun c => ?_) (fun c => ?_)
          · have h23 := it_t h23 c
            exact w_retV C (pc := 235) dX5_offerTwo_235 rfl (Option.some.inj h23)
          · have h23 := it_f h23 c
            refine w_aload_n C (pc := 205) dX5_offerTwo_205 0 rfl ?_
            refine w_iload_n C (pc := 206) dX5_offerTwo_206 1 rfl ?_
            refine w_iload_n C (pc := 207) dX5_offerTwo_207 2 rfl ?_
            refine w_iload_n C (pc := 208) dX5_offerTwo_208 1 rfl ?_
            refine w_iload_n C (pc := 209) dX5_offerTwo_209 3 rfl ?_
            refine w_cSi C (pc := 210) dX5_offerTwo_210 my_X5_bit ms_X5_bit ml_X5_135 rfl rfl [.int x1, .int x3] rfl rfl (Nat.le_of_ble_eq_true rfl) (tX5_bit  rfl) ?_
            refine w_iload_n C (pc := 213) dX5_offerTwo_213 1 rfl ?_
            refine w_iload C (pc := 214) dX5_offerTwo_214 4 rfl ?_
            refine w_cSi C (pc := 216) dX5_offerTwo_216 my_X5_bit ms_X5_bit ml_X5_135 rfl rfl [.int x1, .int x4] rfl rfl (Nat.le_of_ble_eq_true rfl) (tX5_bit  rfl) ?_
            refine w_ior C (pc := 219) dX5_offerTwo_219 ?_
            refine w_iload C (pc := 220) dX5_offerTwo_220 9 rfl ?_
            refine w_iload C (pc := 222) dX5_offerTwo_222 10 rfl ?_
            refine w_max C (pc := 224) dX5_offerTwo_224 mmax_X5_97 rfl (Nat.le_of_ble_eq_true rfl) ?_
            refine w_aload_n C (pc := 227) dX5_offerTwo_227 0 rfl ?_
            refine w_getI C (pc := 228) dX5_offerTwo_228 f_X5_73 (sA_17 hY) rfl ?_
            refine w_iadd C (pc := 231) dX5_offerTwo_231 ?_
            obtain ⟨v24, e25, h23⟩ := ob h23
            refine w_cVv C (pc := 232) dX5_offerTwo_232 my_X5_offer mi_X5_offer ml_X5_138 (sA_17 hY) rfl rfl rfl [.int x1, .int x2, .int ((pX5_bit x1 x3) ||| (pX5_bit x1 x4)), .int ((mmax j21.1 j21.2) + (M 17 3))] rfl rfl (Nat.le_of_ble_eq_true rfl) (tX5_offer hY  e25) ?_
            exact w_retV C (pc := 235) dX5_offerTwo_235 rfl (Option.some.inj h23)
      refine w_icgt C (pc := 139) 159 dX5_offerTwo_139 (by decide) (fun c => ?_) (fun c => ?_)
      · have e22 := it_t e22 c
        refine w_iload C (pc := 159) dX5_offerTwo_159 10 rfl ?_
        refine w_aload_n C (pc := 161) dX5_offerTwo_161 0 rfl ?_
        refine w_getI C (pc := 162) dX5_offerTwo_162 f_X5_73 (sA_17 hY) rfl ?_
        refine w_iadd C (pc := 165) dX5_offerTwo_165 ?_
        refine w_iload C (pc := 166) dX5_offerTwo_166 7 rfl ?_
        refine w_max C (pc := 168) dX5_offerTwo_168 mmax_X5_97 rfl (Nat.le_of_ble_eq_true rfl) ?_
        refine w_bnd e22 (fun v26 e22 => ?_)
        refine w_istore C (pc := 171) dX5_offerTwo_171 (lv' := [(0, .ref (adr Y 17)), (1, .int x1), (2, .int x2), (3, .int x3), (4, .int x4), (5, .int j1), (6, .int v8), (7, .int v15), (8, .int v18), (9, .int v26), (10, .int v20)]) rfl rfl rfl ?_
        obtain rfl := e22
        try dsimp only at Jj21
        exact Jj21
      · have e22 := it_f e22 c
        refine w_iload C (pc := 142) dX5_offerTwo_142 9 rfl ?_
        refine w_aload_n C (pc := 144) dX5_offerTwo_144 0 rfl ?_
        refine w_getI C (pc := 145) dX5_offerTwo_145 f_X5_73 (sA_17 hY) rfl ?_
        refine w_iadd C (pc := 148) dX5_offerTwo_148 ?_
        refine w_iload C (pc := 149) dX5_offerTwo_149 8 rfl ?_
        refine w_max C (pc := 151) dX5_offerTwo_151 mmax_X5_97 rfl (Nat.le_of_ble_eq_true rfl) ?_
        refine w_bnd e22 (fun v27 e22 => ?_)
        refine w_istore C (pc := 154) dX5_offerTwo_154 (lv' := [(0, .ref (adr Y 17)), (1, .int x1), (2, .int x2), (3, .int x3), (4, .int x4), (5, .int j1), (6, .int v8), (7, .int v15), (8, .int v18), (9, .int v19), (10, .int v27)]) rfl rfl rfl ?_
        refine w_goto C (pc := 156) 173 dX5_offerTwo_156 (by decide) ?_
        obtain rfl := e22
        try dsimp only at Jj21
        exact Jj21
    · have h3 := it_f h3 c
      exact w_retV C (pc := 85) dX5_offerTwo_85 rfl (Option.some.inj h3)
  refine w_icne C (pc := 5) 18 dX5_offerTwo_5 (by decide) (fun c => ?_) (fun c => ?_)
  · have e2 := it_t e2 c
    refine w_aload_n C (pc := 8) dX5_offerTwo_8 0 rfl ?_
    refine w_iload_n C (pc := 9) dX5_offerTwo_9 3 rfl ?_
    refine w_iload C (pc := 10) dX5_offerTwo_10 4 rfl ?_
    obtain ⟨v28, e29, e2⟩ := ob e2
    refine w_cVi C (pc := 12) dX5_offerTwo_12 my_X5_spared mi_X5_spared ml_X5_124 (sA_17 hY) rfl rfl rfl [.int x3, .int x4] rfl rfl (Nat.le_of_ble_eq_true rfl) (tX5_spared hY  e29) ?_
    refine w_goto C (pc := 15) 33 dX5_offerTwo_15 (by decide) ?_
    obtain rfl := Option.some.inj e2
    exact Jj1
  · have e2 := it_f e2 c
    refine w_aload_n C (pc := 18) dX5_offerTwo_18 0 rfl ?_
    refine w_iload_n C (pc := 19) dX5_offerTwo_19 3 rfl ?_
    refine w_iload_n C (pc := 20) dX5_offerTwo_20 3 rfl ?_
    obtain ⟨v30, e31, e2⟩ := ob e2
    refine w_cVi C (pc := 21) dX5_offerTwo_21 my_X5_spared mi_X5_spared ml_X5_124 (sA_17 hY) rfl rfl rfl [.int x3, .int x3] rfl rfl (Nat.le_of_ble_eq_true rfl) (tX5_spared hY  e31) ?_
    refine w_aload_n C (pc := 24) dX5_offerTwo_24 0 rfl ?_
    refine w_iload C (pc := 25) dX5_offerTwo_25 4 rfl ?_
    refine w_iload C (pc := 27) dX5_offerTwo_27 4 rfl ?_
    obtain ⟨v32, e33, e2⟩ := ob e2
    refine w_cVi C (pc := 29) dX5_offerTwo_29 my_X5_spared mi_X5_spared ml_X5_124 (sA_17 hY) rfl rfl rfl [.int x4, .int x4] rfl rfl (Nat.le_of_ble_eq_true rfl) (tX5_spared hY  e33) ?_
    refine w_iadd C (pc := 32) dX5_offerTwo_32 ?_
    obtain rfl := Option.some.inj e2
    exact Jj1
theorem dX5_offerBlocks_0 : decode cX5_offerBlocks 0 = .ok (.iload_n 1, 1) := by decide +kernel
theorem dX5_offerBlocks_1 : decode cX5_offerBlocks 1 = .ok (.iconst 1, 1) := by decide +kernel
theorem dX5_offerBlocks_2 : decode cX5_offerBlocks 2 = .ok (.iadd, 1) := by decide +kernel
theorem dX5_offerBlocks_3 : decode cX5_offerBlocks 3 = .ok (.istore_n 3, 1) := by decide +kernel
theorem dX5_offerBlocks_4 : decode cX5_offerBlocks 4 = .ok (.iload_n 3, 1) := by decide +kernel
theorem dX5_offerBlocks_5 : decode cX5_offerBlocks 5 = .ok (.iload_n 2, 1) := by decide +kernel
theorem dX5_offerBlocks_6 : decode cX5_offerBlocks 6 = .ok (.if_icmp .ge 82, 3) := by decide +kernel
theorem dX5_offerBlocks_9 : decode cX5_offerBlocks 9 = .ok (.aload_n 0, 1) := by decide +kernel
theorem dX5_offerBlocks_10 : decode cX5_offerBlocks 10 = .ok (.getfield 21, 3) := by decide +kernel
theorem dX5_offerBlocks_13 : decode cX5_offerBlocks 13 = .ok (.aload_n 0, 1) := by decide +kernel
theorem dX5_offerBlocks_14 : decode cX5_offerBlocks 14 = .ok (.getfield 25, 3) := by decide +kernel
theorem dX5_offerBlocks_17 : decode cX5_offerBlocks 17 = .ok (.iload_n 3, 1) := by decide +kernel
theorem dX5_offerBlocks_18 : decode cX5_offerBlocks 18 = .ok (.iaload, 1) := by decide +kernel
theorem dX5_offerBlocks_19 : decode cX5_offerBlocks 19 = .ok (.baload, 1) := by decide +kernel
theorem dX5_offerBlocks_20 : decode cX5_offerBlocks 20 = .ok (.ifCond .ne 6, 3) := by decide +kernel
theorem dX5_offerBlocks_23 : decode cX5_offerBlocks 23 = .ok (.goto 59, 3) := by decide +kernel
theorem dX5_offerBlocks_26 : decode cX5_offerBlocks 26 = .ok (.aload_n 0, 1) := by decide +kernel
theorem dX5_offerBlocks_27 : decode cX5_offerBlocks 27 = .ok (.iload_n 1, 1) := by decide +kernel
theorem dX5_offerBlocks_28 : decode cX5_offerBlocks 28 = .ok (.iload_n 2, 1) := by decide +kernel
theorem dX5_offerBlocks_29 : decode cX5_offerBlocks 29 = .ok (.iload_n 3, 1) := by decide +kernel
theorem dX5_offerBlocks_30 : decode cX5_offerBlocks 30 = .ok (.invokevirtual 116, 3) := by decide +kernel
theorem dX5_offerBlocks_33 : decode cX5_offerBlocks 33 = .ok (.iload_n 1, 1) := by decide +kernel
theorem dX5_offerBlocks_34 : decode cX5_offerBlocks 34 = .ok (.iconst 1, 1) := by decide +kernel
theorem dX5_offerBlocks_35 : decode cX5_offerBlocks 35 = .ok (.iadd, 1) := by decide +kernel
theorem dX5_offerBlocks_36 : decode cX5_offerBlocks 36 = .ok (.istore 4, 2) := by decide +kernel
theorem dX5_offerBlocks_38 : decode cX5_offerBlocks 38 = .ok (.iload 4, 2) := by decide +kernel
theorem dX5_offerBlocks_40 : decode cX5_offerBlocks 40 = .ok (.iload_n 3, 1) := by decide +kernel
theorem dX5_offerBlocks_41 : decode cX5_offerBlocks 41 = .ok (.if_icmp .ge 41, 3) := by decide +kernel
theorem dX5_offerBlocks_44 : decode cX5_offerBlocks 44 = .ok (.aload_n 0, 1) := by decide +kernel
theorem dX5_offerBlocks_45 : decode cX5_offerBlocks 45 = .ok (.getfield 63, 3) := by decide +kernel
theorem dX5_offerBlocks_48 : decode cX5_offerBlocks 48 = .ok (.iconst 1, 1) := by decide +kernel
theorem dX5_offerBlocks_49 : decode cX5_offerBlocks 49 = .ok (.if_icmp .le 33, 3) := by decide +kernel
theorem dX5_offerBlocks_52 : decode cX5_offerBlocks 52 = .ok (.aload_n 0, 1) := by decide +kernel
theorem dX5_offerBlocks_53 : decode cX5_offerBlocks 53 = .ok (.getfield 21, 3) := by decide +kernel
theorem dX5_offerBlocks_56 : decode cX5_offerBlocks 56 = .ok (.aload_n 0, 1) := by decide +kernel
theorem dX5_offerBlocks_57 : decode cX5_offerBlocks 57 = .ok (.getfield 25, 3) := by decide +kernel
theorem dX5_offerBlocks_60 : decode cX5_offerBlocks 60 = .ok (.iload 4, 2) := by decide +kernel
theorem dX5_offerBlocks_62 : decode cX5_offerBlocks 62 = .ok (.iaload, 1) := by decide +kernel
theorem dX5_offerBlocks_63 : decode cX5_offerBlocks 63 = .ok (.baload, 1) := by decide +kernel
theorem dX5_offerBlocks_64 : decode cX5_offerBlocks 64 = .ok (.ifCond .eq 12, 3) := by decide +kernel
theorem dX5_offerBlocks_67 : decode cX5_offerBlocks 67 = .ok (.aload_n 0, 1) := by decide +kernel
theorem dX5_offerBlocks_68 : decode cX5_offerBlocks 68 = .ok (.iload_n 1, 1) := by decide +kernel
theorem dX5_offerBlocks_69 : decode cX5_offerBlocks 69 = .ok (.iload_n 2, 1) := by decide +kernel
theorem dX5_offerBlocks_70 : decode cX5_offerBlocks 70 = .ok (.iload 4, 2) := by decide +kernel
theorem dX5_offerBlocks_72 : decode cX5_offerBlocks 72 = .ok (.iload_n 3, 1) := by decide +kernel
theorem dX5_offerBlocks_73 : decode cX5_offerBlocks 73 = .ok (.invokevirtual 120, 3) := by decide +kernel
theorem dX5_offerBlocks_76 : decode cX5_offerBlocks 76 = .ok (.iinc 4 1, 3) := by decide +kernel
theorem dX5_offerBlocks_79 : decode cX5_offerBlocks 79 = .ok (.goto (-41), 3) := by decide +kernel
theorem dX5_offerBlocks_82 : decode cX5_offerBlocks 82 = .ok (.iinc 3 1, 3) := by decide +kernel
theorem dX5_offerBlocks_85 : decode cX5_offerBlocks 85 = .ok (.goto (-81), 3) := by decide +kernel
theorem dX5_offerBlocks_88 : decode cX5_offerBlocks 88 = .ok (.return_, 1) := by decide +kernel
def pX5_offerBlocks_L38 (x1 : Int32) (x2 : Int32) (x3 : Int32) (s : Int32 × Mm) : Option ((Int32 × Mm) ⊕ (Mm)) :=
if x3 ≤ s.1 then
(some (Sum.inr s.2))
else
(if (s.2 17 1) ≤ 1 then
(some (Sum.inr s.2))
else
((ald s.2 22 10 s.1).bind fun v9 =>
(ald s.2 21 9 v9).bind fun v11 =>
if v11 = 0 then
(some (Sum.inl (s.1 + 1, s.2)))
else
((pX5_offerTwo x1 x2 s.1 x3 s.2).bind fun v13 =>
some (Sum.inl (s.1 + 1, v13)))))
def pX5_offerBlocks_L4 (x1 : Int32) (x2 : Int32) (s : Int32 × Mm) : Option ((Int32 × Mm) ⊕ (Mm)) :=
if x2 ≤ s.1 then
(some (Sum.inr s.2))
else
((ald s.2 22 10 s.1).bind fun v2 =>
(ald s.2 21 9 v2).bind fun v4 =>
if v4 = 0 then
(some (Sum.inl (s.1 + 1, s.2)))
else
((pX5_offerOne x1 x2 s.1 s.2).bind fun v6 =>
bnd (x1 + 1) fun v8 =>
(itr (pX5_offerBlocks_L38 x1 x2 s.1) fuel (v8, v6)).bind fun x15 =>
some (Sum.inl (s.1 + 1, x15))))
def pX5_offerBlocks (x1 : Int32) (x2 : Int32) (M : Mm) : Option (Mm) :=
bnd (x1 + 1) fun v1 =>
(itr (pX5_offerBlocks_L4 x1 x2) fuel (v1, M)).bind fun x28 =>
some x28
abbrev zX5_offerBlocks : Zx := (cX5_offerBlocks, RX5, 5, 3, none)
set_option maxRecDepth 100000 in
set_option maxHeartbeats 4000000 in
theorem tX5_offerBlocks {l : Launch} {Y : Sx} {M : Mm} {x1 : Int32} {x2 : Int32} {q : Mm} (hY : isA Y) (h : pX5_offerBlocks x1 x2 M = some q) : Ct l Y yX5_offerBlocks cX5_offerBlocks 5 none 3 [.ref (adr Y 17), .int x1, .int x2] M none q := by
  refine Ct.of (by decide) rfl (lv := [(0, .ref (adr Y 17)), (1, .int x1), (2, .int x2)]) rfl ?_
  intro K hkl C
  change Cx K zX5_offerBlocks Y at C
  subst hkl
  unfold pX5_offerBlocks at h
  show Wp K zX5_offerBlocks Y (Qm K Y none q) M 0 [(0, .ref (adr Y 17)), (1, .int x1), (2, .int x2)] []
  refine w_iload_n C (pc := 0) dX5_offerBlocks_0 1 rfl ?_
  refine w_iconst C (pc := 1) dX5_offerBlocks_1 (v := 1) (by decide) ?_
  refine w_iadd C (pc := 2) dX5_offerBlocks_2 ?_
  refine w_bnd h (fun v1 h => ?_)
  refine w_istore_n C (pc := 3) dX5_offerBlocks_3 (lv' := [(0, .ref (adr Y 17)), (1, .int x1), (2, .int x2), (3, .int v1)]) rfl rfl rfl ?_
  obtain ⟨x28, e29, h⟩ := ob h
  refine itr_W (P := fun s30 => Wp K zX5_offerBlocks Y (Qm K Y none q) s30.2 4 [(0, .ref (adr Y 17)), (1, .int x1), (2, .int x2), (3, .int s30.1)] []) (R := fun x28 => Wp K zX5_offerBlocks Y (Qm K Y none q) x28 88 [(0, .ref (adr Y 17)), (1, .int x1), (2, .int x2)] []) ?_ fuel (v1, M) x28 e29 ?_
  · intro s30 r31 h34 ki32 kx33
    unfold pX5_offerBlocks_L4 at h34
    show Wp K zX5_offerBlocks Y (Qm K Y none q) s30.2 4 [(0, .ref (adr Y 17)), (1, .int x1), (2, .int x2), (3, .int s30.1)] []
    refine w_iload_n C (pc := 4) dX5_offerBlocks_4 3 rfl ?_
    refine w_iload_n C (pc := 5) dX5_offerBlocks_5 2 rfl ?_
    refine w_icge C (pc := 6) 88 dX5_offerBlocks_6 (by decide) (fun c => ?_) (fun c => ?_)
    · have h34 := it_t h34 c
      obtain rfl := Option.some.inj h34
      refine w_lv [0, 1, 2] rfl ?_
      have k9 := kx33 s30.2 rfl
      try dsimp only at k9
      exact k9
    · have h34 := it_f h34 c
      refine w_aload_n C (pc := 9) dX5_offerBlocks_9 0 rfl ?_
      refine w_getR C (pc := 10) dX5_offerBlocks_10 f_X5_21 (sA_17 hY) rfl ?_
      refine w_aload_n C (pc := 13) dX5_offerBlocks_13 0 rfl ?_
      refine w_getR C (pc := 14) dX5_offerBlocks_14 f_X5_25 (sA_17 hY) rfl ?_
      refine w_iload_n C (pc := 17) dX5_offerBlocks_17 3 rfl ?_
      obtain ⟨v35, e36, h34⟩ := ob h34
      refine w_iald C (pc := 18) dX5_offerBlocks_18 (sA_22 hY) e36 ?_
      obtain ⟨v37, e38, h34⟩ := ob h34
      refine w_zald C (pc := 19) dX5_offerBlocks_19 (sA_21 hY) e38 ?_
      refine w_ifne C (pc := 20) 26 dX5_offerBlocks_20 (by decide) (fun c => ?_) (fun c => ?_)
      · have h34 := it_t h34 c
        refine w_goto C (pc := 23) 82 dX5_offerBlocks_23 (by decide) ?_
        refine w_iinc C (pc := 82) dX5_offerBlocks_82 3 rfl (v := 1) (lv' := [(0, .ref (adr Y 17)), (1, .int x1), (2, .int x2), (3, .int (s30.1 + 1))]) (by decide) rfl rfl rfl ?_
        refine w_goto C (pc := 85) 4 dX5_offerBlocks_85 (by decide) ?_
        obtain rfl := Option.some.inj h34
        have k9 := ki32 (s30.1 + 1, s30.2) rfl
        try dsimp only at k9
        exact k9
      · have h34 := it_f h34 c
        refine w_aload_n C (pc := 26) dX5_offerBlocks_26 0 rfl ?_
        refine w_iload_n C (pc := 27) dX5_offerBlocks_27 1 rfl ?_
        refine w_iload_n C (pc := 28) dX5_offerBlocks_28 2 rfl ?_
        refine w_iload_n C (pc := 29) dX5_offerBlocks_29 3 rfl ?_
        obtain ⟨v39, e40, h34⟩ := ob h34
        refine w_cVv C (pc := 30) dX5_offerBlocks_30 my_X5_offerOne mi_X5_offerOne ml_X5_116 (sA_17 hY) rfl rfl rfl [.int x1, .int x2, .int s30.1] rfl rfl (Nat.le_of_ble_eq_true rfl) (tX5_offerOne hY  e40) ?_
        refine w_iload_n C (pc := 33) dX5_offerBlocks_33 1 rfl ?_
        refine w_iconst C (pc := 34) dX5_offerBlocks_34 (v := 1) (by decide) ?_
        refine w_iadd C (pc := 35) dX5_offerBlocks_35 ?_
        refine w_bnd h34 (fun v41 h34 => ?_)
        refine w_istore C (pc := 36) dX5_offerBlocks_36 (lv' := [(0, .ref (adr Y 17)), (1, .int x1), (2, .int x2), (3, .int s30.1), (4, .int v41)]) rfl rfl rfl ?_
        obtain ⟨x42, e43, h34⟩ := ob h34
        refine itr_W (P := fun s44 => Wp K zX5_offerBlocks Y (Qm K Y none q) s44.2 38 [(0, .ref (adr Y 17)), (1, .int x1), (2, .int x2), (3, .int s30.1), (4, .int s44.1)] []) (R := fun x42 => Wp K zX5_offerBlocks Y (Qm K Y none q) x42 82 [(0, .ref (adr Y 17)), (1, .int x1), (2, .int x2), (3, .int s30.1)] []) ?_ fuel (v41, v39) x42 e43 ?_
        · intro s44 r45 h48 ki46 kx47
          unfold pX5_offerBlocks_L38 at h48
          show Wp K zX5_offerBlocks Y (Qm K Y none q) s44.2 38 [(0, .ref (adr Y 17)), (1, .int x1), (2, .int x2), (3, .int s30.1), (4, .int s44.1)] []
          refine w_iload C (pc := 38) dX5_offerBlocks_38 4 rfl ?_
          refine w_iload_n C (pc := 40) dX5_offerBlocks_40 3 rfl ?_
          refine w_icge C (pc := 41) 82 dX5_offerBlocks_41 (by decide) (fun c => ?_) (fun c => ?_)
          · have h48 := it_t h48 c
            obtain rfl := Option.some.inj h48
            refine w_lv [0, 1, 2, 3] rfl ?_
            have k9 := kx47 s44.2 rfl
            try dsimp only at k9
            exact k9
          · have h48 := it_f h48 c
            refine w_aload_n C (pc := 44) dX5_offerBlocks_44 0 rfl ?_
            refine w_getI C (pc := 45) dX5_offerBlocks_45 f_X5_63 (sA_17 hY) rfl ?_
            refine w_iconst C (pc := 48) dX5_offerBlocks_48 (v := 1) (by decide) ?_
            refine w_icle C (pc := 49) 82 dX5_offerBlocks_49 (by decide) (fun c => ?_) (fun c => ?_)
            · have h48 := it_t h48 c
              obtain rfl := Option.some.inj h48
              refine w_lv [0, 1, 2, 3] rfl ?_
              have k9 := kx47 s44.2 rfl
              try dsimp only at k9
              exact k9
            · have h48 := it_f h48 c
              refine w_aload_n C (pc := 52) dX5_offerBlocks_52 0 rfl ?_
              refine w_getR C (pc := 53) dX5_offerBlocks_53 f_X5_21 (sA_17 hY) rfl ?_
              refine w_aload_n C (pc := 56) dX5_offerBlocks_56 0 rfl ?_
              refine w_getR C (pc := 57) dX5_offerBlocks_57 f_X5_25 (sA_17 hY) rfl ?_
              refine w_iload C (pc := 60) dX5_offerBlocks_60 4 rfl ?_
              obtain ⟨v49, e50, h48⟩ := ob h48
              refine w_iald C (pc := 62) dX5_offerBlocks_62 (sA_22 hY) e50 ?_
              obtain ⟨v51, e52, h48⟩ := ob h48
              refine w_zald C (pc := 63) dX5_offerBlocks_63 (sA_21 hY) e52 ?_
              refine w_ifeq C (pc := 64) 76 dX5_offerBlocks_64 (by decide) (fun c => ?_) (fun c => ?_)
              · have h48 := it_t h48 c
                refine w_iinc C (pc := 76) dX5_offerBlocks_76 4 rfl (v := 1) (lv' := [(0, .ref (adr Y 17)), (1, .int x1), (2, .int x2), (3, .int s30.1), (4, .int (s44.1 + 1))]) (by decide) rfl rfl rfl ?_
                refine w_goto C (pc := 79) 38 dX5_offerBlocks_79 (by decide) ?_
                obtain rfl := Option.some.inj h48
                have k9 := ki46 (s44.1 + 1, s44.2) rfl
                try dsimp only at k9
                exact k9
              · have h48 := it_f h48 c
                refine w_aload_n C (pc := 67) dX5_offerBlocks_67 0 rfl ?_
                refine w_iload_n C (pc := 68) dX5_offerBlocks_68 1 rfl ?_
                refine w_iload_n C (pc := 69) dX5_offerBlocks_69 2 rfl ?_
                refine w_iload C (pc := 70) dX5_offerBlocks_70 4 rfl ?_
                refine w_iload_n C (pc := 72) dX5_offerBlocks_72 3 rfl ?_
                obtain ⟨v53, e54, h48⟩ := ob h48
                refine w_cVv C (pc := 73) dX5_offerBlocks_73 my_X5_offerTwo mi_X5_offerTwo ml_X5_120 (sA_17 hY) rfl rfl rfl [.int x1, .int x2, .int s44.1, .int s30.1] rfl rfl (Nat.le_of_ble_eq_true rfl) (tX5_offerTwo hY  e54) ?_
                refine w_iinc C (pc := 76) dX5_offerBlocks_76 4 rfl (v := 1) (lv' := [(0, .ref (adr Y 17)), (1, .int x1), (2, .int x2), (3, .int s30.1), (4, .int (s44.1 + 1))]) (by decide) rfl rfl rfl ?_
                refine w_goto C (pc := 79) 38 dX5_offerBlocks_79 (by decide) ?_
                obtain rfl := Option.some.inj h48
                have k9 := ki46 (s44.1 + 1, v53) rfl
                try dsimp only at k9
                exact k9
        · refine w_iinc C (pc := 82) dX5_offerBlocks_82 3 rfl (v := 1) (lv' := [(0, .ref (adr Y 17)), (1, .int x1), (2, .int x2), (3, .int (s30.1 + 1))]) (by decide) rfl rfl rfl ?_
          refine w_goto C (pc := 85) 4 dX5_offerBlocks_85 (by decide) ?_
          obtain rfl := Option.some.inj h34
          have k9 := ki32 (s30.1 + 1, x42) rfl
          try dsimp only at k9
          exact k9
  · exact w_retV C (pc := 88) dX5_offerBlocks_88 rfl (Option.some.inj h)
theorem dX5_fill_0 : decode cX5_fill 0 = .ok (.iconst 1, 1) := by decide +kernel
theorem dX5_fill_1 : decode cX5_fill 1 = .ok (.iload_n 1, 1) := by decide +kernel
theorem dX5_fill_2 : decode cX5_fill 2 = .ok (.invokestatic 97, 3) := by decide +kernel
theorem dX5_fill_5 : decode cX5_fill 5 = .ok (.istore_n 2, 1) := by decide +kernel
theorem dX5_fill_6 : decode cX5_fill 6 = .ok (.iload_n 2, 1) := by decide +kernel
theorem dX5_fill_7 : decode cX5_fill 7 = .ok (.aload_n 0, 1) := by decide +kernel
theorem dX5_fill_8 : decode cX5_fill 8 = .ok (.getfield 56, 3) := by decide +kernel
theorem dX5_fill_11 : decode cX5_fill 11 = .ok (.if_icmp .gt 56, 3) := by decide +kernel
theorem dX5_fill_14 : decode cX5_fill 14 = .ok (.aload_n 0, 1) := by decide +kernel
theorem dX5_fill_15 : decode cX5_fill 15 = .ok (.iload_n 2, 1) := by decide +kernel
theorem dX5_fill_16 : decode cX5_fill 16 = .ok (.invokevirtual 102, 3) := by decide +kernel
theorem dX5_fill_19 : decode cX5_fill 19 = .ok (.iload_n 2, 1) := by decide +kernel
theorem dX5_fill_20 : decode cX5_fill 20 = .ok (.iconst 2, 1) := by decide +kernel
theorem dX5_fill_21 : decode cX5_fill 21 = .ok (.isub, 1) := by decide +kernel
theorem dX5_fill_22 : decode cX5_fill 22 = .ok (.istore_n 3, 1) := by decide +kernel
theorem dX5_fill_23 : decode cX5_fill 23 = .ok (.iload_n 3, 1) := by decide +kernel
theorem dX5_fill_24 : decode cX5_fill 24 = .ok (.ifCond .lt 37, 3) := by decide +kernel
theorem dX5_fill_27 : decode cX5_fill 27 = .ok (.aload_n 0, 1) := by decide +kernel
theorem dX5_fill_28 : decode cX5_fill 28 = .ok (.getfield 63, 3) := by decide +kernel
theorem dX5_fill_31 : decode cX5_fill 31 = .ok (.ifCond .le 30, 3) := by decide +kernel
theorem dX5_fill_34 : decode cX5_fill 34 = .ok (.aload_n 0, 1) := by decide +kernel
theorem dX5_fill_35 : decode cX5_fill 35 = .ok (.iload_n 3, 1) := by decide +kernel
theorem dX5_fill_36 : decode cX5_fill 36 = .ok (.iload_n 2, 1) := by decide +kernel
theorem dX5_fill_37 : decode cX5_fill 37 = .ok (.invokevirtual 106, 3) := by decide +kernel
theorem dX5_fill_40 : decode cX5_fill 40 = .ok (.aload_n 0, 1) := by decide +kernel
theorem dX5_fill_41 : decode cX5_fill 41 = .ok (.getfield 31, 3) := by decide +kernel
theorem dX5_fill_44 : decode cX5_fill 44 = .ok (.iload_n 2, 1) := by decide +kernel
theorem dX5_fill_45 : decode cX5_fill 45 = .ok (.iaload, 1) := by decide +kernel
theorem dX5_fill_46 : decode cX5_fill 46 = .ok (.if_icmp .gt 9, 3) := by decide +kernel
theorem dX5_fill_49 : decode cX5_fill 49 = .ok (.aload_n 0, 1) := by decide +kernel
theorem dX5_fill_50 : decode cX5_fill 50 = .ok (.iload_n 3, 1) := by decide +kernel
theorem dX5_fill_51 : decode cX5_fill 51 = .ok (.iload_n 2, 1) := by decide +kernel
theorem dX5_fill_52 : decode cX5_fill 52 = .ok (.invokevirtual 109, 3) := by decide +kernel
theorem dX5_fill_55 : decode cX5_fill 55 = .ok (.iinc 3 (-1), 3) := by decide +kernel
theorem dX5_fill_58 : decode cX5_fill 58 = .ok (.goto (-35), 3) := by decide +kernel
theorem dX5_fill_61 : decode cX5_fill 61 = .ok (.iinc 2 1, 3) := by decide +kernel
theorem dX5_fill_64 : decode cX5_fill 64 = .ok (.goto (-58), 3) := by decide +kernel
theorem dX5_fill_67 : decode cX5_fill 67 = .ok (.return_, 1) := by decide +kernel
def pX5_fill_L23 (x2 : Int32) (s : Int32 × Mm) : Option ((Int32 × Mm) ⊕ (Mm)) :=
if s.1 < 0 then
(some (Sum.inr s.2))
else
(if (s.2 17 1) ≤ 0 then
(some (Sum.inr s.2))
else
((pX5_soonest s.1 x2 s.2).bind fun v5 =>
(ald s.2 24 10 x2).bind fun v7 =>
if v7 < v5 then
(some (Sum.inl (s.1 + (-1), s.2)))
else
((pX5_offerBlocks s.1 x2 s.2).bind fun v9 =>
some (Sum.inl (s.1 + (-1), v9)))))
def pX5_fill_L6 (s : Int32 × Mm) : Option ((Int32 × Mm) ⊕ (Mm)) :=
if (s.2 17 6) < s.1 then
(some (Sum.inr s.2))
else
((pX5_beginWithVan s.1 s.2).bind fun v2 =>
bnd (s.1 - 2) fun v4 =>
(itr (pX5_fill_L23 s.1) fuel (v4, v2)).bind fun x11 =>
some (Sum.inl (s.1 + 1, x11)))
def pX5_fill (x1 : Int32) (M : Mm) : Option (Mm) :=
bnd (mmax 1 x1) fun v1 =>
(itr (pX5_fill_L6) fuel (v1, M)).bind fun x24 =>
some x24
abbrev zX5_fill : Zx := (cX5_fill, RX5, 4, 4, none)
set_option maxRecDepth 100000 in
set_option maxHeartbeats 4000000 in
theorem tX5_fill {l : Launch} {Y : Sx} {M : Mm} {x1 : Int32} {q : Mm} (hY : isA Y) (h : pX5_fill x1 M = some q) : Ct l Y yX5_fill cX5_fill 4 none 4 [.ref (adr Y 17), .int x1] M none q := by
  refine Ct.of (by decide) rfl (lv := [(0, .ref (adr Y 17)), (1, .int x1)]) rfl ?_
  intro K hkl C
  change Cx K zX5_fill Y at C
  subst hkl
  unfold pX5_fill at h
  show Wp K zX5_fill Y (Qm K Y none q) M 0 [(0, .ref (adr Y 17)), (1, .int x1)] []
  refine w_iconst C (pc := 0) dX5_fill_0 (v := 1) (by decide) ?_
  refine w_iload_n C (pc := 1) dX5_fill_1 1 rfl ?_
  refine w_max C (pc := 2) dX5_fill_2 mmax_X5_97 rfl (Nat.le_of_ble_eq_true rfl) ?_
  refine w_bnd h (fun v1 h => ?_)
  refine w_istore_n C (pc := 5) dX5_fill_5 (lv' := [(0, .ref (adr Y 17)), (1, .int x1), (2, .int v1)]) rfl rfl rfl ?_
  obtain ⟨x24, e25, h⟩ := ob h
  refine itr_W (P := fun s26 => Wp K zX5_fill Y (Qm K Y none q) s26.2 6 [(0, .ref (adr Y 17)), (1, .int x1), (2, .int s26.1)] []) (R := fun x24 => Wp K zX5_fill Y (Qm K Y none q) x24 67 [(0, .ref (adr Y 17)), (1, .int x1)] []) ?_ fuel (v1, M) x24 e25 ?_
  · intro s26 r27 h30 ki28 kx29
    unfold pX5_fill_L6 at h30
    show Wp K zX5_fill Y (Qm K Y none q) s26.2 6 [(0, .ref (adr Y 17)), (1, .int x1), (2, .int s26.1)] []
    refine w_iload_n C (pc := 6) dX5_fill_6 2 rfl ?_
    refine w_aload_n C (pc := 7) dX5_fill_7 0 rfl ?_
    refine w_getI C (pc := 8) dX5_fill_8 f_X5_56 (sA_17 hY) rfl ?_
    refine w_icgt C (pc := 11) 67 dX5_fill_11 (by decide) (fun c => ?_) (fun c => ?_)
    · have h30 := it_t h30 c
      obtain rfl := Option.some.inj h30
      refine w_lv [0, 1] rfl ?_
      have k9 := kx29 s26.2 rfl
      try dsimp only at k9
      exact k9
    · have h30 := it_f h30 c
      refine w_aload_n C (pc := 14) dX5_fill_14 0 rfl ?_
      refine w_iload_n C (pc := 15) dX5_fill_15 2 rfl ?_
      obtain ⟨v31, e32, h30⟩ := ob h30
      refine w_cVv C (pc := 16) dX5_fill_16 my_X5_beginWithVan mi_X5_beginWithVan ml_X5_102 (sA_17 hY) rfl rfl rfl [.int s26.1] rfl rfl (Nat.le_of_ble_eq_true rfl) (tX5_beginWithVan hY  e32) ?_
      refine w_iload_n C (pc := 19) dX5_fill_19 2 rfl ?_
      refine w_iconst C (pc := 20) dX5_fill_20 (v := 2) (by decide) ?_
      refine w_isub C (pc := 21) dX5_fill_21 ?_
      refine w_bnd h30 (fun v33 h30 => ?_)
      refine w_istore_n C (pc := 22) dX5_fill_22 (lv' := [(0, .ref (adr Y 17)), (1, .int x1), (2, .int s26.1), (3, .int v33)]) rfl rfl rfl ?_
      obtain ⟨x34, e35, h30⟩ := ob h30
      refine itr_W (P := fun s36 => Wp K zX5_fill Y (Qm K Y none q) s36.2 23 [(0, .ref (adr Y 17)), (1, .int x1), (2, .int s26.1), (3, .int s36.1)] []) (R := fun x34 => Wp K zX5_fill Y (Qm K Y none q) x34 61 [(0, .ref (adr Y 17)), (1, .int x1), (2, .int s26.1)] []) ?_ fuel (v33, v31) x34 e35 ?_
      · intro s36 r37 h40 ki38 kx39
        unfold pX5_fill_L23 at h40
        show Wp K zX5_fill Y (Qm K Y none q) s36.2 23 [(0, .ref (adr Y 17)), (1, .int x1), (2, .int s26.1), (3, .int s36.1)] []
        refine w_iload_n C (pc := 23) dX5_fill_23 3 rfl ?_
        refine w_iflt C (pc := 24) 61 dX5_fill_24 (by decide) (fun c => ?_) (fun c => ?_)
        · have h40 := it_t h40 c
          obtain rfl := Option.some.inj h40
          refine w_lv [0, 1, 2] rfl ?_
          have k9 := kx39 s36.2 rfl
          try dsimp only at k9
          exact k9
        · have h40 := it_f h40 c
          refine w_aload_n C (pc := 27) dX5_fill_27 0 rfl ?_
          refine w_getI C (pc := 28) dX5_fill_28 f_X5_63 (sA_17 hY) rfl ?_
          refine w_ifle C (pc := 31) 61 dX5_fill_31 (by decide) (fun c => ?_) (fun c => ?_)
          · have h40 := it_t h40 c
            obtain rfl := Option.some.inj h40
            refine w_lv [0, 1, 2] rfl ?_
            have k9 := kx39 s36.2 rfl
            try dsimp only at k9
            exact k9
          · have h40 := it_f h40 c
            refine w_aload_n C (pc := 34) dX5_fill_34 0 rfl ?_
            refine w_iload_n C (pc := 35) dX5_fill_35 3 rfl ?_
            refine w_iload_n C (pc := 36) dX5_fill_36 2 rfl ?_
            obtain ⟨v41, e42, h40⟩ := ob h40
            refine w_cVi C (pc := 37) dX5_fill_37 my_X5_soonest mi_X5_soonest ml_X5_106 (sA_17 hY) rfl rfl rfl [.int s36.1, .int s26.1] rfl rfl (Nat.le_of_ble_eq_true rfl) (tX5_soonest hY  e42) ?_
            refine w_aload_n C (pc := 40) dX5_fill_40 0 rfl ?_
            refine w_getR C (pc := 41) dX5_fill_41 f_X5_31 (sA_17 hY) rfl ?_
            refine w_iload_n C (pc := 44) dX5_fill_44 2 rfl ?_
            obtain ⟨v43, e44, h40⟩ := ob h40
            refine w_iald C (pc := 45) dX5_fill_45 (sA_24 hY) e44 ?_
            refine w_icgt C (pc := 46) 55 dX5_fill_46 (by decide) (fun c => ?_) (fun c => ?_)
            · have h40 := it_t h40 c
              refine w_iinc C (pc := 55) dX5_fill_55 3 rfl (v := (-1)) (lv' := [(0, .ref (adr Y 17)), (1, .int x1), (2, .int s26.1), (3, .int (s36.1 + (-1)))]) (by decide) rfl rfl rfl ?_
              refine w_goto C (pc := 58) 23 dX5_fill_58 (by decide) ?_
              obtain rfl := Option.some.inj h40
              have k9 := ki38 (s36.1 + (-1), s36.2) rfl
              try dsimp only at k9
              exact k9
            · have h40 := it_f h40 c
              refine w_aload_n C (pc := 49) dX5_fill_49 0 rfl ?_
              refine w_iload_n C (pc := 50) dX5_fill_50 3 rfl ?_
              refine w_iload_n C (pc := 51) dX5_fill_51 2 rfl ?_
              obtain ⟨v45, e46, h40⟩ := ob h40
              refine w_cVv C (pc := 52) dX5_fill_52 my_X5_offerBlocks mi_X5_offerBlocks ml_X5_109 (sA_17 hY) rfl rfl rfl [.int s36.1, .int s26.1] rfl rfl (Nat.le_of_ble_eq_true rfl) (tX5_offerBlocks hY  e46) ?_
              refine w_iinc C (pc := 55) dX5_fill_55 3 rfl (v := (-1)) (lv' := [(0, .ref (adr Y 17)), (1, .int x1), (2, .int s26.1), (3, .int (s36.1 + (-1)))]) (by decide) rfl rfl rfl ?_
              refine w_goto C (pc := 58) 23 dX5_fill_58 (by decide) ?_
              obtain rfl := Option.some.inj h40
              have k9 := ki38 (s36.1 + (-1), v45) rfl
              try dsimp only at k9
              exact k9
      · refine w_iinc C (pc := 61) dX5_fill_61 2 rfl (v := 1) (lv' := [(0, .ref (adr Y 17)), (1, .int x1), (2, .int (s26.1 + 1))]) (by decide) rfl rfl rfl ?_
        refine w_goto C (pc := 64) 6 dX5_fill_64 (by decide) ?_
        obtain rfl := Option.some.inj h30
        have k9 := ki28 (s26.1 + 1, x34) rfl
        try dsimp only at k9
        exact k9
  · exact w_retV C (pc := 67) dX5_fill_67 rfl (Option.some.inj h)
theorem dX5_isFlown_0 : decode cX5_isFlown 0 = .ok (.aload_n 0, 1) := by decide +kernel
theorem dX5_isFlown_1 : decode cX5_isFlown 1 = .ok (.getfield 40, 3) := by decide +kernel
theorem dX5_isFlown_4 : decode cX5_isFlown 4 = .ok (.iload_n 2, 1) := by decide +kernel
theorem dX5_isFlown_5 : decode cX5_isFlown 5 = .ok (.iaload, 1) := by decide +kernel
theorem dX5_isFlown_6 : decode cX5_isFlown 6 = .ok (.iload_n 1, 1) := by decide +kernel
theorem dX5_isFlown_7 : decode cX5_isFlown 7 = .ok (.iload_n 3, 1) := by decide +kernel
theorem dX5_isFlown_8 : decode cX5_isFlown 8 = .ok (.invokestatic 135, 3) := by decide +kernel
theorem dX5_isFlown_11 : decode cX5_isFlown 11 = .ok (.iand, 1) := by decide +kernel
theorem dX5_isFlown_12 : decode cX5_isFlown 12 = .ok (.ifCond .eq 7, 3) := by decide +kernel
theorem dX5_isFlown_15 : decode cX5_isFlown 15 = .ok (.iconst 1, 1) := by decide +kernel
theorem dX5_isFlown_16 : decode cX5_isFlown 16 = .ok (.goto 4, 3) := by decide +kernel
theorem dX5_isFlown_19 : decode cX5_isFlown 19 = .ok (.iconst 0, 1) := by decide +kernel
theorem dX5_isFlown_20 : decode cX5_isFlown 20 = .ok (.ireturn, 1) := by decide +kernel
def pX5_isFlown (x1 : Int32) (x2 : Int32) (x3 : Int32) (M : Mm) : Option (Int32) :=
(ald M 27 10 x2).bind fun v1 =>
if (v1 &&& (pX5_bit x1 x3)) = 0 then
(some 0)
else
(some 1)
abbrev zX5_isFlown : Zx := (cX5_isFlown, RX5, 4, 1, (some .boolean))
set_option maxRecDepth 100000 in
set_option maxHeartbeats 4000000 in
theorem tX5_isFlown {l : Launch} {Y : Sx} {M : Mm} {x1 : Int32} {x2 : Int32} {x3 : Int32} {q : Int32} (hY : isA Y) (h : pX5_isFlown x1 x2 x3 M = some q) : Ct l Y yX5_isFlown cX5_isFlown 4 (some .boolean) 1 [.ref (adr Y 17), .int x1, .int x2, .int x3] M (some q) M := by
  refine Ct.of (by decide) rfl (lv := [(0, .ref (adr Y 17)), (1, .int x1), (2, .int x2), (3, .int x3)]) rfl ?_
  intro K hkl C
  change Cx K zX5_isFlown Y at C
  subst hkl
  unfold pX5_isFlown at h
  show Wp K zX5_isFlown Y (Qm K Y (some q) M) M 0 [(0, .ref (adr Y 17)), (1, .int x1), (2, .int x2), (3, .int x3)] []
  refine w_aload_n C (pc := 0) dX5_isFlown_0 0 rfl ?_
  refine w_getR C (pc := 1) dX5_isFlown_1 f_X5_40 (sA_17 hY) rfl ?_
  refine w_iload_n C (pc := 4) dX5_isFlown_4 2 rfl ?_
  obtain ⟨v1, e2, h⟩ := ob h
  refine w_iald C (pc := 5) dX5_isFlown_5 (sA_27 hY) e2 ?_
  refine w_iload_n C (pc := 6) dX5_isFlown_6 1 rfl ?_
  refine w_iload_n C (pc := 7) dX5_isFlown_7 3 rfl ?_
  refine w_cSi C (pc := 8) dX5_isFlown_8 my_X5_bit ms_X5_bit ml_X5_135 rfl rfl [.int x1, .int x3] rfl rfl (Nat.le_of_ble_eq_true rfl) (tX5_bit  rfl) ?_
  refine w_iand C (pc := 11) dX5_isFlown_11 ?_
  refine w_ifeq C (pc := 12) 19 dX5_isFlown_12 (by decide) (fun c => ?_) (fun c => ?_)
  · have h := it_t h c
    refine w_iconst C (pc := 19) dX5_isFlown_19 (v := 0) (by decide) ?_
    exact w_retzR C (pc := 20) dX5_isFlown_20 rfl (by decide) (Option.some.inj h)
  · have h := it_f h c
    refine w_iconst C (pc := 15) dX5_isFlown_15 (v := 1) (by decide) ?_
    refine w_goto C (pc := 16) 20 dX5_isFlown_16 (by decide) ?_
    exact w_retzR C (pc := 20) dX5_isFlown_20 rfl (by decide) (Option.some.inj h)
theorem dX5_lastEnd_0 : decode cX5_lastEnd 0 = .ok (.aload_n 0, 1) := by decide +kernel
theorem dX5_lastEnd_1 : decode cX5_lastEnd 1 = .ok (.getfield 31, 3) := by decide +kernel
theorem dX5_lastEnd_4 : decode cX5_lastEnd 4 = .ok (.aload_n 0, 1) := by decide +kernel
theorem dX5_lastEnd_5 : decode cX5_lastEnd 5 = .ok (.getfield 56, 3) := by decide +kernel
theorem dX5_lastEnd_8 : decode cX5_lastEnd 8 = .ok (.iaload, 1) := by decide +kernel
theorem dX5_lastEnd_9 : decode cX5_lastEnd 9 = .ok (.ireturn, 1) := by decide +kernel
def pX5_lastEnd (M : Mm) : Option (Int32) :=
(ald M 24 10 (M 17 6)).bind fun v1 =>
some v1
abbrev zX5_lastEnd : Zx := (cX5_lastEnd, RX5, 1, 0, (some .int))
set_option maxRecDepth 100000 in
set_option maxHeartbeats 4000000 in
theorem tX5_lastEnd {l : Launch} {Y : Sx} {M : Mm} {q : Int32} (hY : isA Y) (h : pX5_lastEnd M = some q) : Ct l Y yX5_lastEnd cX5_lastEnd 1 (some .int) 0 [.ref (adr Y 17)] M (some q) M := by
  refine Ct.of (by decide) rfl (lv := [(0, .ref (adr Y 17))]) rfl ?_
  intro K hkl C
  change Cx K zX5_lastEnd Y at C
  subst hkl
  unfold pX5_lastEnd at h
  show Wp K zX5_lastEnd Y (Qm K Y (some q) M) M 0 [(0, .ref (adr Y 17))] []
  refine w_aload_n C (pc := 0) dX5_lastEnd_0 0 rfl ?_
  refine w_getR C (pc := 1) dX5_lastEnd_1 f_X5_31 (sA_17 hY) rfl ?_
  refine w_aload_n C (pc := 4) dX5_lastEnd_4 0 rfl ?_
  refine w_getI C (pc := 5) dX5_lastEnd_5 f_X5_56 (sA_17 hY) rfl ?_
  obtain ⟨v1, e2, h⟩ := ob h
  refine w_iald C (pc := 8) dX5_lastEnd_8 (sA_24 hY) e2 ?_
  exact w_retR C (pc := 9) dX5_lastEnd_9 rfl (Option.some.inj h)
theorem dX5_linkBlocks_0 : decode cX5_linkBlocks 0 = .ok (.iconst 0, 1) := by decide +kernel
theorem dX5_linkBlocks_1 : decode cX5_linkBlocks 1 = .ok (.istore_n 1, 1) := by decide +kernel
theorem dX5_linkBlocks_2 : decode cX5_linkBlocks 2 = .ok (.iload_n 1, 1) := by decide +kernel
theorem dX5_linkBlocks_3 : decode cX5_linkBlocks 3 = .ok (.aload_n 0, 1) := by decide +kernel
theorem dX5_linkBlocks_4 : decode cX5_linkBlocks 4 = .ok (.getfield 56, 3) := by decide +kernel
theorem dX5_linkBlocks_7 : decode cX5_linkBlocks 7 = .ok (.if_icmp .gt 16, 3) := by decide +kernel
theorem dX5_linkBlocks_10 : decode cX5_linkBlocks 10 = .ok (.aload_n 0, 1) := by decide +kernel
theorem dX5_linkBlocks_11 : decode cX5_linkBlocks 11 = .ok (.getfield 43, 3) := by decide +kernel
theorem dX5_linkBlocks_14 : decode cX5_linkBlocks 14 = .ok (.iload_n 1, 1) := by decide +kernel
theorem dX5_linkBlocks_15 : decode cX5_linkBlocks 15 = .ok (.iconst (-1), 1) := by decide +kernel
theorem dX5_linkBlocks_16 : decode cX5_linkBlocks 16 = .ok (.iastore, 1) := by decide +kernel
theorem dX5_linkBlocks_17 : decode cX5_linkBlocks 17 = .ok (.iinc 1 1, 3) := by decide +kernel
theorem dX5_linkBlocks_20 : decode cX5_linkBlocks 20 = .ok (.goto (-18), 3) := by decide +kernel
theorem dX5_linkBlocks_23 : decode cX5_linkBlocks 23 = .ok (.aload_n 0, 1) := by decide +kernel
theorem dX5_linkBlocks_24 : decode cX5_linkBlocks 24 = .ok (.getfield 56, 3) := by decide +kernel
theorem dX5_linkBlocks_27 : decode cX5_linkBlocks 27 = .ok (.istore_n 1, 1) := by decide +kernel
theorem dX5_linkBlocks_28 : decode cX5_linkBlocks 28 = .ok (.iconst 0, 1) := by decide +kernel
theorem dX5_linkBlocks_29 : decode cX5_linkBlocks 29 = .ok (.istore_n 2, 1) := by decide +kernel
theorem dX5_linkBlocks_30 : decode cX5_linkBlocks 30 = .ok (.iload_n 2, 1) := by decide +kernel
theorem dX5_linkBlocks_31 : decode cX5_linkBlocks 31 = .ok (.bipush 10, 2) := by decide +kernel
theorem dX5_linkBlocks_33 : decode cX5_linkBlocks 33 = .ok (.if_icmp .ge 32, 3) := by decide +kernel
theorem dX5_linkBlocks_36 : decode cX5_linkBlocks 36 = .ok (.iload_n 1, 1) := by decide +kernel
theorem dX5_linkBlocks_37 : decode cX5_linkBlocks 37 = .ok (.ifCond .le 28, 3) := by decide +kernel
theorem dX5_linkBlocks_40 : decode cX5_linkBlocks 40 = .ok (.aload_n 0, 1) := by decide +kernel
theorem dX5_linkBlocks_41 : decode cX5_linkBlocks 41 = .ok (.getfield 43, 3) := by decide +kernel
theorem dX5_linkBlocks_44 : decode cX5_linkBlocks 44 = .ok (.aload_n 0, 1) := by decide +kernel
theorem dX5_linkBlocks_45 : decode cX5_linkBlocks 45 = .ok (.getfield 37, 3) := by decide +kernel
theorem dX5_linkBlocks_48 : decode cX5_linkBlocks 48 = .ok (.iload_n 1, 1) := by decide +kernel
theorem dX5_linkBlocks_49 : decode cX5_linkBlocks 49 = .ok (.iaload, 1) := by decide +kernel
theorem dX5_linkBlocks_50 : decode cX5_linkBlocks 50 = .ok (.iload_n 1, 1) := by decide +kernel
theorem dX5_linkBlocks_51 : decode cX5_linkBlocks 51 = .ok (.iastore, 1) := by decide +kernel
theorem dX5_linkBlocks_52 : decode cX5_linkBlocks 52 = .ok (.aload_n 0, 1) := by decide +kernel
theorem dX5_linkBlocks_53 : decode cX5_linkBlocks 53 = .ok (.getfield 37, 3) := by decide +kernel
theorem dX5_linkBlocks_56 : decode cX5_linkBlocks 56 = .ok (.iload_n 1, 1) := by decide +kernel
theorem dX5_linkBlocks_57 : decode cX5_linkBlocks 57 = .ok (.iaload, 1) := by decide +kernel
theorem dX5_linkBlocks_58 : decode cX5_linkBlocks 58 = .ok (.istore_n 1, 1) := by decide +kernel
theorem dX5_linkBlocks_59 : decode cX5_linkBlocks 59 = .ok (.iinc 2 1, 3) := by decide +kernel
theorem dX5_linkBlocks_62 : decode cX5_linkBlocks 62 = .ok (.goto (-32), 3) := by decide +kernel
theorem dX5_linkBlocks_65 : decode cX5_linkBlocks 65 = .ok (.return_, 1) := by decide +kernel
def pX5_linkBlocks_L2 (s : Int32 × Mm) : Option ((Int32 × Mm) ⊕ (Mm)) :=
if (s.2 17 6) < s.1 then
(some (Sum.inr s.2))
else
((ast s.2 28 10 s.1 (-1)).bind fun M1 =>
some (Sum.inl (s.1 + 1, M1)))
def pX5_linkBlocks_L30 (s : Int32 × Int32 × Mm) : Option ((Int32 × Int32 × Mm) ⊕ (Mm)) :=
if 10 ≤ s.2.1 then
(some (Sum.inr s.2.2))
else
(if s.1 ≤ 0 then
(some (Sum.inr s.2.2))
else
((ald s.2.2 26 10 s.1).bind fun v13 =>
(ast s.2.2 28 10 v13 s.1).bind fun M15 =>
(ald M15 26 10 s.1).bind fun v17 =>
some (Sum.inl (v17, s.2.1 + 1, M15))))
def pX5_linkBlocks (M : Mm) : Option (Mm) :=
(itr (pX5_linkBlocks_L2) fuel (0, M)).bind fun x3 =>
bnd (x3 17 6) fun v12 =>
(itr (pX5_linkBlocks_L30) fuel (v12, 0, x3)).bind fun x19 =>
some x19
abbrev zX5_linkBlocks : Zx := (cX5_linkBlocks, RX5, 3, 0, none)
set_option maxRecDepth 100000 in
set_option maxHeartbeats 4000000 in
theorem tX5_linkBlocks {l : Launch} {Y : Sx} {M : Mm} {q : Mm} (hY : isA Y) (h : pX5_linkBlocks M = some q) : Ct l Y yX5_linkBlocks cX5_linkBlocks 3 none 0 [.ref (adr Y 17)] M none q := by
  refine Ct.of (by decide) rfl (lv := [(0, .ref (adr Y 17))]) rfl ?_
  intro K hkl C
  change Cx K zX5_linkBlocks Y at C
  subst hkl
  unfold pX5_linkBlocks at h
  show Wp K zX5_linkBlocks Y (Qm K Y none q) M 0 [(0, .ref (adr Y 17))] []
  refine w_iconst C (pc := 0) dX5_linkBlocks_0 (v := 0) (by decide) ?_
  refine w_istore_n C (pc := 1) dX5_linkBlocks_1 (lv' := [(0, .ref (adr Y 17)), (1, .int 0)]) rfl rfl rfl ?_
  obtain ⟨x3, e4, h⟩ := ob h
  refine itr_W (P := fun s5 => Wp K zX5_linkBlocks Y (Qm K Y none q) s5.2 2 [(0, .ref (adr Y 17)), (1, .int s5.1)] []) (R := fun x3 => Wp K zX5_linkBlocks Y (Qm K Y none q) x3 23 [(0, .ref (adr Y 17))] []) ?_ fuel (0, M) x3 e4 ?_
  · intro s5 r6 h9 ki7 kx8
    unfold pX5_linkBlocks_L2 at h9
    show Wp K zX5_linkBlocks Y (Qm K Y none q) s5.2 2 [(0, .ref (adr Y 17)), (1, .int s5.1)] []
    refine w_iload_n C (pc := 2) dX5_linkBlocks_2 1 rfl ?_
    refine w_aload_n C (pc := 3) dX5_linkBlocks_3 0 rfl ?_
    refine w_getI C (pc := 4) dX5_linkBlocks_4 f_X5_56 (sA_17 hY) rfl ?_
    refine w_icgt C (pc := 7) 23 dX5_linkBlocks_7 (by decide) (fun c => ?_) (fun c => ?_)
    · have h9 := it_t h9 c
      obtain rfl := Option.some.inj h9
      refine w_lv [0] rfl ?_
      have k9 := kx8 s5.2 rfl
      try dsimp only at k9
      exact k9
    · have h9 := it_f h9 c
      refine w_aload_n C (pc := 10) dX5_linkBlocks_10 0 rfl ?_
      refine w_getR C (pc := 11) dX5_linkBlocks_11 f_X5_43 (sA_17 hY) rfl ?_
      refine w_iload_n C (pc := 14) dX5_linkBlocks_14 1 rfl ?_
      refine w_iconst C (pc := 15) dX5_linkBlocks_15 (v := (-1)) (by decide) ?_
      obtain ⟨M10, e11, h9⟩ := ob h9
      refine w_iast C (pc := 16) dX5_linkBlocks_16 (sA_28 hY) e11 ?_
      refine w_iinc C (pc := 17) dX5_linkBlocks_17 1 rfl (v := 1) (lv' := [(0, .ref (adr Y 17)), (1, .int (s5.1 + 1))]) (by decide) rfl rfl rfl ?_
      refine w_goto C (pc := 20) 2 dX5_linkBlocks_20 (by decide) ?_
      obtain rfl := Option.some.inj h9
      have k9 := ki7 (s5.1 + 1, M10) rfl
      try dsimp only at k9
      exact k9
  · refine w_aload_n C (pc := 23) dX5_linkBlocks_23 0 rfl ?_
    refine w_getI C (pc := 24) dX5_linkBlocks_24 f_X5_56 (sA_17 hY) rfl ?_
    refine w_bnd h (fun v12 h => ?_)
    refine w_istore_n C (pc := 27) dX5_linkBlocks_27 (lv' := [(0, .ref (adr Y 17)), (1, .int v12)]) rfl rfl rfl ?_
    refine w_iconst C (pc := 28) dX5_linkBlocks_28 (v := 0) (by decide) ?_
    refine w_istore_n C (pc := 29) dX5_linkBlocks_29 (lv' := [(0, .ref (adr Y 17)), (1, .int v12), (2, .int 0)]) rfl rfl rfl ?_
    obtain ⟨x19, e20, h⟩ := ob h
    refine itr_W (P := fun s21 => Wp K zX5_linkBlocks Y (Qm K Y none q) s21.2.2 30 [(0, .ref (adr Y 17)), (1, .int s21.1), (2, .int s21.2.1)] []) (R := fun x19 => Wp K zX5_linkBlocks Y (Qm K Y none q) x19 65 [(0, .ref (adr Y 17))] []) ?_ fuel (v12, 0, x3) x19 e20 ?_
    · intro s21 r22 h25 ki23 kx24
      unfold pX5_linkBlocks_L30 at h25
      show Wp K zX5_linkBlocks Y (Qm K Y none q) s21.2.2 30 [(0, .ref (adr Y 17)), (1, .int s21.1), (2, .int s21.2.1)] []
      refine w_iload_n C (pc := 30) dX5_linkBlocks_30 2 rfl ?_
      refine w_bipush C (pc := 31) dX5_linkBlocks_31 (v := 10) (by decide) ?_
      refine w_icge C (pc := 33) 65 dX5_linkBlocks_33 (by decide) (fun c => ?_) (fun c => ?_)
      · have h25 := it_t h25 c
        obtain rfl := Option.some.inj h25
        refine w_lv [0] rfl ?_
        have k9 := kx24 s21.2.2 rfl
        try dsimp only at k9
        exact k9
      · have h25 := it_f h25 c
        refine w_iload_n C (pc := 36) dX5_linkBlocks_36 1 rfl ?_
        refine w_ifle C (pc := 37) 65 dX5_linkBlocks_37 (by decide) (fun c => ?_) (fun c => ?_)
        · have h25 := it_t h25 c
          obtain rfl := Option.some.inj h25
          refine w_lv [0] rfl ?_
          have k9 := kx24 s21.2.2 rfl
          try dsimp only at k9
          exact k9
        · have h25 := it_f h25 c
          refine w_aload_n C (pc := 40) dX5_linkBlocks_40 0 rfl ?_
          refine w_getR C (pc := 41) dX5_linkBlocks_41 f_X5_43 (sA_17 hY) rfl ?_
          refine w_aload_n C (pc := 44) dX5_linkBlocks_44 0 rfl ?_
          refine w_getR C (pc := 45) dX5_linkBlocks_45 f_X5_37 (sA_17 hY) rfl ?_
          refine w_iload_n C (pc := 48) dX5_linkBlocks_48 1 rfl ?_
          obtain ⟨v26, e27, h25⟩ := ob h25
          refine w_iald C (pc := 49) dX5_linkBlocks_49 (sA_26 hY) e27 ?_
          refine w_iload_n C (pc := 50) dX5_linkBlocks_50 1 rfl ?_
          obtain ⟨M28, e29, h25⟩ := ob h25
          refine w_iast C (pc := 51) dX5_linkBlocks_51 (sA_28 hY) e29 ?_
          refine w_aload_n C (pc := 52) dX5_linkBlocks_52 0 rfl ?_
          refine w_getR C (pc := 53) dX5_linkBlocks_53 f_X5_37 (sA_17 hY) rfl ?_
          refine w_iload_n C (pc := 56) dX5_linkBlocks_56 1 rfl ?_
          obtain ⟨v30, e31, h25⟩ := ob h25
          refine w_iald C (pc := 57) dX5_linkBlocks_57 (sA_26 hY) e31 ?_
          refine w_istore_n C (pc := 58) dX5_linkBlocks_58 (lv' := [(0, .ref (adr Y 17)), (1, .int v30), (2, .int s21.2.1)]) rfl rfl rfl ?_
          refine w_iinc C (pc := 59) dX5_linkBlocks_59 2 rfl (v := 1) (lv' := [(0, .ref (adr Y 17)), (1, .int v30), (2, .int (s21.2.1 + 1))]) (by decide) rfl rfl rfl ?_
          refine w_goto C (pc := 62) 30 dX5_linkBlocks_62 (by decide) ?_
          obtain rfl := Option.some.inj h25
          have k9 := ki23 (v30, s21.2.1 + 1, M28) rfl
          try dsimp only at k9
          exact k9
    · exact w_retV C (pc := 65) dX5_linkBlocks_65 rfl (Option.some.inj h)
theorem dX5_swap_0 : decode cX5_swap 0 = .ok (.aload_n 0, 1) := by decide +kernel
theorem dX5_swap_1 : decode cX5_swap 1 = .ok (.getfield 25, 3) := by decide +kernel
theorem dX5_swap_4 : decode cX5_swap 4 = .ok (.iload_n 1, 1) := by decide +kernel
theorem dX5_swap_5 : decode cX5_swap 5 = .ok (.iaload, 1) := by decide +kernel
theorem dX5_swap_6 : decode cX5_swap 6 = .ok (.istore_n 3, 1) := by decide +kernel
theorem dX5_swap_7 : decode cX5_swap 7 = .ok (.aload_n 0, 1) := by decide +kernel
theorem dX5_swap_8 : decode cX5_swap 8 = .ok (.getfield 25, 3) := by decide +kernel
theorem dX5_swap_11 : decode cX5_swap 11 = .ok (.iload_n 1, 1) := by decide +kernel
theorem dX5_swap_12 : decode cX5_swap 12 = .ok (.aload_n 0, 1) := by decide +kernel
theorem dX5_swap_13 : decode cX5_swap 13 = .ok (.getfield 25, 3) := by decide +kernel
theorem dX5_swap_16 : decode cX5_swap 16 = .ok (.iload_n 2, 1) := by decide +kernel
theorem dX5_swap_17 : decode cX5_swap 17 = .ok (.iaload, 1) := by decide +kernel
theorem dX5_swap_18 : decode cX5_swap 18 = .ok (.iastore, 1) := by decide +kernel
theorem dX5_swap_19 : decode cX5_swap 19 = .ok (.aload_n 0, 1) := by decide +kernel
theorem dX5_swap_20 : decode cX5_swap 20 = .ok (.getfield 25, 3) := by decide +kernel
theorem dX5_swap_23 : decode cX5_swap 23 = .ok (.iload_n 2, 1) := by decide +kernel
theorem dX5_swap_24 : decode cX5_swap 24 = .ok (.iload_n 3, 1) := by decide +kernel
theorem dX5_swap_25 : decode cX5_swap 25 = .ok (.iastore, 1) := by decide +kernel
theorem dX5_swap_26 : decode cX5_swap 26 = .ok (.return_, 1) := by decide +kernel
def pX5_swap (x1 : Int32) (x2 : Int32) (M : Mm) : Option (Mm) :=
(ald M 22 10 x1).bind fun v1 =>
(ald M 22 10 x2).bind fun v3 =>
(ast M 22 10 x1 v3).bind fun M5 =>
(ast M5 22 10 x2 v1).bind fun M7 =>
some M7
abbrev zX5_swap : Zx := (cX5_swap, RX5, 4, 0, none)
set_option maxRecDepth 100000 in
set_option maxHeartbeats 4000000 in
theorem tX5_swap {l : Launch} {Y : Sx} {M : Mm} {x1 : Int32} {x2 : Int32} {q : Mm} (hY : isA Y) (h : pX5_swap x1 x2 M = some q) : Ct l Y yX5_swap cX5_swap 4 none 0 [.ref (adr Y 17), .int x1, .int x2] M none q := by
  refine Ct.of (by decide) rfl (lv := [(0, .ref (adr Y 17)), (1, .int x1), (2, .int x2)]) rfl ?_
  intro K hkl C
  change Cx K zX5_swap Y at C
  subst hkl
  unfold pX5_swap at h
  show Wp K zX5_swap Y (Qm K Y none q) M 0 [(0, .ref (adr Y 17)), (1, .int x1), (2, .int x2)] []
  refine w_aload_n C (pc := 0) dX5_swap_0 0 rfl ?_
  refine w_getR C (pc := 1) dX5_swap_1 f_X5_25 (sA_17 hY) rfl ?_
  refine w_iload_n C (pc := 4) dX5_swap_4 1 rfl ?_
  obtain ⟨v1, e2, h⟩ := ob h
  refine w_iald C (pc := 5) dX5_swap_5 (sA_22 hY) e2 ?_
  refine w_istore_n C (pc := 6) dX5_swap_6 (lv' := [(0, .ref (adr Y 17)), (1, .int x1), (2, .int x2), (3, .int v1)]) rfl rfl rfl ?_
  refine w_aload_n C (pc := 7) dX5_swap_7 0 rfl ?_
  refine w_getR C (pc := 8) dX5_swap_8 f_X5_25 (sA_17 hY) rfl ?_
  refine w_iload_n C (pc := 11) dX5_swap_11 1 rfl ?_
  refine w_aload_n C (pc := 12) dX5_swap_12 0 rfl ?_
  refine w_getR C (pc := 13) dX5_swap_13 f_X5_25 (sA_17 hY) rfl ?_
  refine w_iload_n C (pc := 16) dX5_swap_16 2 rfl ?_
  obtain ⟨v3, e4, h⟩ := ob h
  refine w_iald C (pc := 17) dX5_swap_17 (sA_22 hY) e4 ?_
  obtain ⟨M5, e6, h⟩ := ob h
  refine w_iast C (pc := 18) dX5_swap_18 (sA_22 hY) e6 ?_
  refine w_aload_n C (pc := 19) dX5_swap_19 0 rfl ?_
  refine w_getR C (pc := 20) dX5_swap_20 f_X5_25 (sA_17 hY) rfl ?_
  refine w_iload_n C (pc := 23) dX5_swap_23 2 rfl ?_
  refine w_iload_n C (pc := 24) dX5_swap_24 3 rfl ?_
  obtain ⟨M7, e8, h⟩ := ob h
  refine w_iast C (pc := 25) dX5_swap_25 (sA_22 hY) e8 ?_
  exact w_retV C (pc := 26) dX5_swap_26 rfl (Option.some.inj h)
theorem dX5_nextOrder_0 : decode cX5_nextOrder 0 = .ok (.aload_n 0, 1) := by decide +kernel
theorem dX5_nextOrder_1 : decode cX5_nextOrder 1 = .ok (.getfield 56, 3) := by decide +kernel
theorem dX5_nextOrder_4 : decode cX5_nextOrder 4 = .ok (.iconst 2, 1) := by decide +kernel
theorem dX5_nextOrder_5 : decode cX5_nextOrder 5 = .ok (.isub, 1) := by decide +kernel
theorem dX5_nextOrder_6 : decode cX5_nextOrder 6 = .ok (.istore_n 1, 1) := by decide +kernel
theorem dX5_nextOrder_7 : decode cX5_nextOrder 7 = .ok (.iload_n 1, 1) := by decide +kernel
theorem dX5_nextOrder_8 : decode cX5_nextOrder 8 = .ok (.iconst 1, 1) := by decide +kernel
theorem dX5_nextOrder_9 : decode cX5_nextOrder 9 = .ok (.if_icmp .lt 26, 3) := by decide +kernel
theorem dX5_nextOrder_12 : decode cX5_nextOrder 12 = .ok (.aload_n 0, 1) := by decide +kernel
theorem dX5_nextOrder_13 : decode cX5_nextOrder 13 = .ok (.getfield 25, 3) := by decide +kernel
theorem dX5_nextOrder_16 : decode cX5_nextOrder 16 = .ok (.iload_n 1, 1) := by decide +kernel
theorem dX5_nextOrder_17 : decode cX5_nextOrder 17 = .ok (.iaload, 1) := by decide +kernel
theorem dX5_nextOrder_18 : decode cX5_nextOrder 18 = .ok (.aload_n 0, 1) := by decide +kernel
theorem dX5_nextOrder_19 : decode cX5_nextOrder 19 = .ok (.getfield 25, 3) := by decide +kernel
theorem dX5_nextOrder_22 : decode cX5_nextOrder 22 = .ok (.iload_n 1, 1) := by decide +kernel
theorem dX5_nextOrder_23 : decode cX5_nextOrder 23 = .ok (.iconst 1, 1) := by decide +kernel
theorem dX5_nextOrder_24 : decode cX5_nextOrder 24 = .ok (.iadd, 1) := by decide +kernel
theorem dX5_nextOrder_25 : decode cX5_nextOrder 25 = .ok (.iaload, 1) := by decide +kernel
theorem dX5_nextOrder_26 : decode cX5_nextOrder 26 = .ok (.if_icmp .le 9, 3) := by decide +kernel
theorem dX5_nextOrder_29 : decode cX5_nextOrder 29 = .ok (.iinc 1 (-1), 3) := by decide +kernel
theorem dX5_nextOrder_32 : decode cX5_nextOrder 32 = .ok (.goto (-25), 3) := by decide +kernel
theorem dX5_nextOrder_35 : decode cX5_nextOrder 35 = .ok (.iload_n 1, 1) := by decide +kernel
theorem dX5_nextOrder_36 : decode cX5_nextOrder 36 = .ok (.iconst 1, 1) := by decide +kernel
theorem dX5_nextOrder_37 : decode cX5_nextOrder 37 = .ok (.if_icmp .ge 5, 3) := by decide +kernel
theorem dX5_nextOrder_40 : decode cX5_nextOrder 40 = .ok (.iconst (-1), 1) := by decide +kernel
theorem dX5_nextOrder_41 : decode cX5_nextOrder 41 = .ok (.ireturn, 1) := by decide +kernel
theorem dX5_nextOrder_42 : decode cX5_nextOrder 42 = .ok (.aload_n 0, 1) := by decide +kernel
theorem dX5_nextOrder_43 : decode cX5_nextOrder 43 = .ok (.getfield 56, 3) := by decide +kernel
theorem dX5_nextOrder_46 : decode cX5_nextOrder 46 = .ok (.iconst 1, 1) := by decide +kernel
theorem dX5_nextOrder_47 : decode cX5_nextOrder 47 = .ok (.isub, 1) := by decide +kernel
theorem dX5_nextOrder_48 : decode cX5_nextOrder 48 = .ok (.istore_n 2, 1) := by decide +kernel
theorem dX5_nextOrder_49 : decode cX5_nextOrder 49 = .ok (.iload_n 2, 1) := by decide +kernel
theorem dX5_nextOrder_50 : decode cX5_nextOrder 50 = .ok (.iload_n 1, 1) := by decide +kernel
theorem dX5_nextOrder_51 : decode cX5_nextOrder 51 = .ok (.iconst 1, 1) := by decide +kernel
theorem dX5_nextOrder_52 : decode cX5_nextOrder 52 = .ok (.iadd, 1) := by decide +kernel
theorem dX5_nextOrder_53 : decode cX5_nextOrder 53 = .ok (.if_icmp .le 24, 3) := by decide +kernel
theorem dX5_nextOrder_56 : decode cX5_nextOrder 56 = .ok (.aload_n 0, 1) := by decide +kernel
theorem dX5_nextOrder_57 : decode cX5_nextOrder 57 = .ok (.getfield 25, 3) := by decide +kernel
theorem dX5_nextOrder_60 : decode cX5_nextOrder 60 = .ok (.iload_n 2, 1) := by decide +kernel
theorem dX5_nextOrder_61 : decode cX5_nextOrder 61 = .ok (.iaload, 1) := by decide +kernel
theorem dX5_nextOrder_62 : decode cX5_nextOrder 62 = .ok (.aload_n 0, 1) := by decide +kernel
theorem dX5_nextOrder_63 : decode cX5_nextOrder 63 = .ok (.getfield 25, 3) := by decide +kernel
theorem dX5_nextOrder_66 : decode cX5_nextOrder 66 = .ok (.iload_n 1, 1) := by decide +kernel
theorem dX5_nextOrder_67 : decode cX5_nextOrder 67 = .ok (.iaload, 1) := by decide +kernel
theorem dX5_nextOrder_68 : decode cX5_nextOrder 68 = .ok (.if_icmp .ge 9, 3) := by decide +kernel
theorem dX5_nextOrder_71 : decode cX5_nextOrder 71 = .ok (.iinc 2 (-1), 3) := by decide +kernel
theorem dX5_nextOrder_74 : decode cX5_nextOrder 74 = .ok (.goto (-25), 3) := by decide +kernel
theorem dX5_nextOrder_77 : decode cX5_nextOrder 77 = .ok (.aload_n 0, 1) := by decide +kernel
theorem dX5_nextOrder_78 : decode cX5_nextOrder 78 = .ok (.iload_n 1, 1) := by decide +kernel
theorem dX5_nextOrder_79 : decode cX5_nextOrder 79 = .ok (.iload_n 2, 1) := by decide +kernel
theorem dX5_nextOrder_80 : decode cX5_nextOrder 80 = .ok (.invokevirtual 167, 3) := by decide +kernel
theorem dX5_nextOrder_83 : decode cX5_nextOrder 83 = .ok (.iload_n 1, 1) := by decide +kernel
theorem dX5_nextOrder_84 : decode cX5_nextOrder 84 = .ok (.iconst 1, 1) := by decide +kernel
theorem dX5_nextOrder_85 : decode cX5_nextOrder 85 = .ok (.iadd, 1) := by decide +kernel
theorem dX5_nextOrder_86 : decode cX5_nextOrder 86 = .ok (.istore_n 3, 1) := by decide +kernel
theorem dX5_nextOrder_87 : decode cX5_nextOrder 87 = .ok (.aload_n 0, 1) := by decide +kernel
theorem dX5_nextOrder_88 : decode cX5_nextOrder 88 = .ok (.getfield 56, 3) := by decide +kernel
theorem dX5_nextOrder_91 : decode cX5_nextOrder 91 = .ok (.iconst 1, 1) := by decide +kernel
theorem dX5_nextOrder_92 : decode cX5_nextOrder 92 = .ok (.isub, 1) := by decide +kernel
theorem dX5_nextOrder_93 : decode cX5_nextOrder 93 = .ok (.istore 4, 2) := by decide +kernel
theorem dX5_nextOrder_95 : decode cX5_nextOrder 95 = .ok (.iload_n 3, 1) := by decide +kernel
theorem dX5_nextOrder_96 : decode cX5_nextOrder 96 = .ok (.iload 4, 2) := by decide +kernel
theorem dX5_nextOrder_98 : decode cX5_nextOrder 98 = .ok (.if_icmp .ge 19, 3) := by decide +kernel
theorem dX5_nextOrder_101 : decode cX5_nextOrder 101 = .ok (.aload_n 0, 1) := by decide +kernel
theorem dX5_nextOrder_102 : decode cX5_nextOrder 102 = .ok (.iload_n 3, 1) := by decide +kernel
theorem dX5_nextOrder_103 : decode cX5_nextOrder 103 = .ok (.iload 4, 2) := by decide +kernel
theorem dX5_nextOrder_105 : decode cX5_nextOrder 105 = .ok (.invokevirtual 167, 3) := by decide +kernel
theorem dX5_nextOrder_108 : decode cX5_nextOrder 108 = .ok (.iinc 3 1, 3) := by decide +kernel
theorem dX5_nextOrder_111 : decode cX5_nextOrder 111 = .ok (.iinc 4 (-1), 3) := by decide +kernel
theorem dX5_nextOrder_114 : decode cX5_nextOrder 114 = .ok (.goto (-19), 3) := by decide +kernel
theorem dX5_nextOrder_117 : decode cX5_nextOrder 117 = .ok (.iload_n 1, 1) := by decide +kernel
theorem dX5_nextOrder_118 : decode cX5_nextOrder 118 = .ok (.ireturn, 1) := by decide +kernel
def pX5_nextOrder_L7 (M : Mm) (s : Int32) : Option ((Int32) ⊕ (Int32)) :=
if s < 1 then
(some (Sum.inr s))
else
((ald M 22 10 s).bind fun v2 =>
(ald M 22 10 (s + 1)).bind fun v4 =>
if v2 ≤ v4 then
(some (Sum.inr s))
else
(some (Sum.inl (s + (-1)))))
def pX5_nextOrder_L49 (x1 : Int32) (M : Mm) (s : Int32) : Option ((Int32) ⊕ (Int32)) :=
if s ≤ (x1 + 1) then
(some (Sum.inr s))
else
((ald M 22 10 s).bind fun v18 =>
(ald M 22 10 x1).bind fun v20 =>
if v20 ≤ v18 then
(some (Sum.inr s))
else
(some (Sum.inl (s + (-1)))))
def pX5_nextOrder_L95 (x1 : Int32) (s : Int32 × Int32 × Mm) : Option ((Int32 × Int32 × Mm) ⊕ (Mm)) :=
if s.2.1 ≤ s.1 then
(some (Sum.inr s.2.2))
else
((pX5_swap s.1 s.2.1 s.2.2).bind fun v37 =>
some (Sum.inl (s.1 + 1, s.2.1 + (-1), v37)))
def pX5_nextOrder (M : Mm) : Option (Int32 × Mm) :=
bnd ((M 17 6) - 2) fun v1 =>
(itr (pX5_nextOrder_L7 M) fuel v1).bind fun x6 =>
if 1 ≤ x6 then
(bnd ((M 17 6) - 1) fun v17 =>
(itr (pX5_nextOrder_L49 x6 M) fuel v17).bind fun x22 =>
(pX5_swap x6 x22 M).bind fun v33 =>
bnd (x6 + 1) fun v35 =>
bnd ((v33 17 6) - 1) fun v36 =>
(itr (pX5_nextOrder_L95 x6) fuel (v35, v36, v33)).bind fun x39 =>
some (x6, x39))
else
(some ((-1), M))
abbrev zX5_nextOrder : Zx := (cX5_nextOrder, RX5, 5, 1, (some .int))
set_option maxRecDepth 100000 in
set_option maxHeartbeats 4000000 in
theorem tX5_nextOrder {l : Launch} {Y : Sx} {M : Mm} {q : Int32 × Mm} (hY : isA Y) (h : pX5_nextOrder M = some q) : Ct l Y yX5_nextOrder cX5_nextOrder 5 (some .int) 1 [.ref (adr Y 17)] M (some q.1) q.2 := by
  refine Ct.of (by decide) rfl (lv := [(0, .ref (adr Y 17))]) rfl ?_
  intro K hkl C
  change Cx K zX5_nextOrder Y at C
  subst hkl
  unfold pX5_nextOrder at h
  show Wp K zX5_nextOrder Y (Qm K Y (some q.1) q.2) M 0 [(0, .ref (adr Y 17))] []
  refine w_aload_n C (pc := 0) dX5_nextOrder_0 0 rfl ?_
  refine w_getI C (pc := 1) dX5_nextOrder_1 f_X5_56 (sA_17 hY) rfl ?_
  refine w_iconst C (pc := 4) dX5_nextOrder_4 (v := 2) (by decide) ?_
  refine w_isub C (pc := 5) dX5_nextOrder_5 ?_
  refine w_bnd h (fun v1 h => ?_)
  refine w_istore_n C (pc := 6) dX5_nextOrder_6 (lv' := [(0, .ref (adr Y 17)), (1, .int v1)]) rfl rfl rfl ?_
  obtain ⟨x6, e7, h⟩ := ob h
  refine itr_W (P := fun s8 => Wp K zX5_nextOrder Y (Qm K Y (some q.1) q.2) M 7 [(0, .ref (adr Y 17)), (1, .int s8)] []) (R := fun x6 => Wp K zX5_nextOrder Y (Qm K Y (some q.1) q.2) M 35 [(0, .ref (adr Y 17)), (1, .int x6)] []) ?_ fuel v1 x6 e7 ?_
  · intro s8 r9 h12 ki10 kx11
    unfold pX5_nextOrder_L7 at h12
    show Wp K zX5_nextOrder Y (Qm K Y (some q.1) q.2) M 7 [(0, .ref (adr Y 17)), (1, .int s8)] []
    refine w_iload_n C (pc := 7) dX5_nextOrder_7 1 rfl ?_
    refine w_iconst C (pc := 8) dX5_nextOrder_8 (v := 1) (by decide) ?_
    refine w_iclt C (pc := 9) 35 dX5_nextOrder_9 (by decide) (fun c => ?_) (fun c => ?_)
    · have h12 := it_t h12 c
      obtain rfl := Option.some.inj h12
      have k9 := kx11 s8 rfl
      try dsimp only at k9
      exact k9
    · have h12 := it_f h12 c
      refine w_aload_n C (pc := 12) dX5_nextOrder_12 0 rfl ?_
      refine w_getR C (pc := 13) dX5_nextOrder_13 f_X5_25 (sA_17 hY) rfl ?_
      refine w_iload_n C (pc := 16) dX5_nextOrder_16 1 rfl ?_
      obtain ⟨v13, e14, h12⟩ := ob h12
      refine w_iald C (pc := 17) dX5_nextOrder_17 (sA_22 hY) e14 ?_
      refine w_aload_n C (pc := 18) dX5_nextOrder_18 0 rfl ?_
      refine w_getR C (pc := 19) dX5_nextOrder_19 f_X5_25 (sA_17 hY) rfl ?_
      refine w_iload_n C (pc := 22) dX5_nextOrder_22 1 rfl ?_
      refine w_iconst C (pc := 23) dX5_nextOrder_23 (v := 1) (by decide) ?_
      refine w_iadd C (pc := 24) dX5_nextOrder_24 ?_
      obtain ⟨v15, e16, h12⟩ := ob h12
      refine w_iald C (pc := 25) dX5_nextOrder_25 (sA_22 hY) e16 ?_
      refine w_icle C (pc := 26) 35 dX5_nextOrder_26 (by decide) (fun c => ?_) (fun c => ?_)
      · have h12 := it_t h12 c
        obtain rfl := Option.some.inj h12
        have k9 := kx11 s8 rfl
        try dsimp only at k9
        exact k9
      · have h12 := it_f h12 c
        refine w_iinc C (pc := 29) dX5_nextOrder_29 1 rfl (v := (-1)) (lv' := [(0, .ref (adr Y 17)), (1, .int (s8 + (-1)))]) (by decide) rfl rfl rfl ?_
        refine w_goto C (pc := 32) 7 dX5_nextOrder_32 (by decide) ?_
        obtain rfl := Option.some.inj h12
        have k9 := ki10 (s8 + (-1)) rfl
        try dsimp only at k9
        exact k9
  · refine w_iload_n C (pc := 35) dX5_nextOrder_35 1 rfl ?_
    refine w_iconst C (pc := 36) dX5_nextOrder_36 (v := 1) (by decide) ?_
    refine w_icge C (pc := 37) 42 dX5_nextOrder_37 (by decide) (fun c => ?_) (fun c => ?_)
    · have h := it_t h c
      refine w_aload_n C (pc := 42) dX5_nextOrder_42 0 rfl ?_
      refine w_getI C (pc := 43) dX5_nextOrder_43 f_X5_56 (sA_17 hY) rfl ?_
      refine w_iconst C (pc := 46) dX5_nextOrder_46 (v := 1) (by decide) ?_
      refine w_isub C (pc := 47) dX5_nextOrder_47 ?_
      refine w_bnd h (fun v17 h => ?_)
      refine w_istore_n C (pc := 48) dX5_nextOrder_48 (lv' := [(0, .ref (adr Y 17)), (1, .int x6), (2, .int v17)]) rfl rfl rfl ?_
      obtain ⟨x22, e23, h⟩ := ob h
      refine itr_W (P := fun s24 => Wp K zX5_nextOrder Y (Qm K Y (some q.1) q.2) M 49 [(0, .ref (adr Y 17)), (1, .int x6), (2, .int s24)] []) (R := fun x22 => Wp K zX5_nextOrder Y (Qm K Y (some q.1) q.2) M 77 [(0, .ref (adr Y 17)), (1, .int x6), (2, .int x22)] []) ?_ fuel v17 x22 e23 ?_
      · intro s24 r25 h28 ki26 kx27
        unfold pX5_nextOrder_L49 at h28
        show Wp K zX5_nextOrder Y (Qm K Y (some q.1) q.2) M 49 [(0, .ref (adr Y 17)), (1, .int x6), (2, .int s24)] []
        refine w_iload_n C (pc := 49) dX5_nextOrder_49 2 rfl ?_
        refine w_iload_n C (pc := 50) dX5_nextOrder_50 1 rfl ?_
        refine w_iconst C (pc := 51) dX5_nextOrder_51 (v := 1) (by decide) ?_
        refine w_iadd C (pc := 52) dX5_nextOrder_52 ?_
        refine w_icle C (pc := 53) 77 dX5_nextOrder_53 (by decide) (fun c => ?_) (fun c => ?_)
        · have h28 := it_t h28 c
          obtain rfl := Option.some.inj h28
          have k9 := kx27 s24 rfl
          try dsimp only at k9
          exact k9
        · have h28 := it_f h28 c
          refine w_aload_n C (pc := 56) dX5_nextOrder_56 0 rfl ?_
          refine w_getR C (pc := 57) dX5_nextOrder_57 f_X5_25 (sA_17 hY) rfl ?_
          refine w_iload_n C (pc := 60) dX5_nextOrder_60 2 rfl ?_
          obtain ⟨v29, e30, h28⟩ := ob h28
          refine w_iald C (pc := 61) dX5_nextOrder_61 (sA_22 hY) e30 ?_
          refine w_aload_n C (pc := 62) dX5_nextOrder_62 0 rfl ?_
          refine w_getR C (pc := 63) dX5_nextOrder_63 f_X5_25 (sA_17 hY) rfl ?_
          refine w_iload_n C (pc := 66) dX5_nextOrder_66 1 rfl ?_
          obtain ⟨v31, e32, h28⟩ := ob h28
          refine w_iald C (pc := 67) dX5_nextOrder_67 (sA_22 hY) e32 ?_
          refine w_icge C (pc := 68) 77 dX5_nextOrder_68 (by decide) (fun c => ?_) (fun c => ?_)
          · have h28 := it_t h28 c
            obtain rfl := Option.some.inj h28
            have k9 := kx27 s24 rfl
            try dsimp only at k9
            exact k9
          · have h28 := it_f h28 c
            refine w_iinc C (pc := 71) dX5_nextOrder_71 2 rfl (v := (-1)) (lv' := [(0, .ref (adr Y 17)), (1, .int x6), (2, .int (s24 + (-1)))]) (by decide) rfl rfl rfl ?_
            refine w_goto C (pc := 74) 49 dX5_nextOrder_74 (by decide) ?_
            obtain rfl := Option.some.inj h28
            have k9 := ki26 (s24 + (-1)) rfl
            try dsimp only at k9
            exact k9
      · refine w_aload_n C (pc := 77) dX5_nextOrder_77 0 rfl ?_
        refine w_iload_n C (pc := 78) dX5_nextOrder_78 1 rfl ?_
        refine w_iload_n C (pc := 79) dX5_nextOrder_79 2 rfl ?_
        obtain ⟨v33, e34, h⟩ := ob h
        refine w_cVv C (pc := 80) dX5_nextOrder_80 my_X5_swap mi_X5_swap ml_X5_167 (sA_17 hY) rfl rfl rfl [.int x6, .int x22] rfl rfl (Nat.le_of_ble_eq_true rfl) (tX5_swap hY  e34) ?_
        refine w_iload_n C (pc := 83) dX5_nextOrder_83 1 rfl ?_
        refine w_iconst C (pc := 84) dX5_nextOrder_84 (v := 1) (by decide) ?_
        refine w_iadd C (pc := 85) dX5_nextOrder_85 ?_
        refine w_bnd h (fun v35 h => ?_)
        refine w_istore_n C (pc := 86) dX5_nextOrder_86 (lv' := [(0, .ref (adr Y 17)), (1, .int x6), (2, .int x22), (3, .int v35)]) rfl rfl rfl ?_
        refine w_aload_n C (pc := 87) dX5_nextOrder_87 0 rfl ?_
        refine w_getI C (pc := 88) dX5_nextOrder_88 f_X5_56 (sA_17 hY) rfl ?_
        refine w_iconst C (pc := 91) dX5_nextOrder_91 (v := 1) (by decide) ?_
        refine w_isub C (pc := 92) dX5_nextOrder_92 ?_
        refine w_bnd h (fun v36 h => ?_)
        refine w_istore C (pc := 93) dX5_nextOrder_93 (lv' := [(0, .ref (adr Y 17)), (1, .int x6), (2, .int x22), (3, .int v35), (4, .int v36)]) rfl rfl rfl ?_
        obtain ⟨x39, e40, h⟩ := ob h
        refine itr_W (P := fun s41 => Wp K zX5_nextOrder Y (Qm K Y (some q.1) q.2) s41.2.2 95 [(0, .ref (adr Y 17)), (1, .int x6), (2, .int x22), (3, .int s41.1), (4, .int s41.2.1)] []) (R := fun x39 => Wp K zX5_nextOrder Y (Qm K Y (some q.1) q.2) x39 117 [(0, .ref (adr Y 17)), (1, .int x6), (2, .int x22)] []) ?_ fuel (v35, v36, v33) x39 e40 ?_
        · intro s41 r42 h45 ki43 kx44
          unfold pX5_nextOrder_L95 at h45
          show Wp K zX5_nextOrder Y (Qm K Y (some q.1) q.2) s41.2.2 95 [(0, .ref (adr Y 17)), (1, .int x6), (2, .int x22), (3, .int s41.1), (4, .int s41.2.1)] []
          refine w_iload_n C (pc := 95) dX5_nextOrder_95 3 rfl ?_
          refine w_iload C (pc := 96) dX5_nextOrder_96 4 rfl ?_
          refine w_icge C (pc := 98) 117 dX5_nextOrder_98 (by decide) (fun c => ?_) (fun c => ?_)
          · have h45 := it_t h45 c
            obtain rfl := Option.some.inj h45
            refine w_lv [0, 1, 2] rfl ?_
            have k9 := kx44 s41.2.2 rfl
            try dsimp only at k9
            exact k9
          · have h45 := it_f h45 c
            refine w_aload_n C (pc := 101) dX5_nextOrder_101 0 rfl ?_
            refine w_iload_n C (pc := 102) dX5_nextOrder_102 3 rfl ?_
            refine w_iload C (pc := 103) dX5_nextOrder_103 4 rfl ?_
            obtain ⟨v46, e47, h45⟩ := ob h45
            refine w_cVv C (pc := 105) dX5_nextOrder_105 my_X5_swap mi_X5_swap ml_X5_167 (sA_17 hY) rfl rfl rfl [.int s41.1, .int s41.2.1] rfl rfl (Nat.le_of_ble_eq_true rfl) (tX5_swap hY  e47) ?_
            refine w_iinc C (pc := 108) dX5_nextOrder_108 3 rfl (v := 1) (lv' := [(0, .ref (adr Y 17)), (1, .int x6), (2, .int x22), (3, .int (s41.1 + 1)), (4, .int s41.2.1)]) (by decide) rfl rfl rfl ?_
            refine w_iinc C (pc := 111) dX5_nextOrder_111 4 rfl (v := (-1)) (lv' := [(0, .ref (adr Y 17)), (1, .int x6), (2, .int x22), (3, .int (s41.1 + 1)), (4, .int (s41.2.1 + (-1)))]) (by decide) rfl rfl rfl ?_
            refine w_goto C (pc := 114) 95 dX5_nextOrder_114 (by decide) ?_
            obtain rfl := Option.some.inj h45
            have k9 := ki43 (s41.1 + 1, s41.2.1 + (-1), v46) rfl
            try dsimp only at k9
            exact k9
        · refine w_iload_n C (pc := 117) dX5_nextOrder_117 1 rfl ?_
          exact w_ret C (pc := 118) dX5_nextOrder_118 rfl (Option.some.inj h)
    · have h := it_f h c
      refine w_iconst C (pc := 40) dX5_nextOrder_40 (v := (-1)) (by decide) ?_
      exact w_ret C (pc := 41) dX5_nextOrder_41 rfl (Option.some.inj h)
theorem dX5_orderNumber_0 : decode cX5_orderNumber 0 = .ok (.iconst 0, 1) := by decide +kernel
theorem dX5_orderNumber_1 : decode cX5_orderNumber 1 = .ok (.istore_n 1, 1) := by decide +kernel
theorem dX5_orderNumber_2 : decode cX5_orderNumber 2 = .ok (.iconst 1, 1) := by decide +kernel
theorem dX5_orderNumber_3 : decode cX5_orderNumber 3 = .ok (.istore_n 2, 1) := by decide +kernel
theorem dX5_orderNumber_4 : decode cX5_orderNumber 4 = .ok (.iload_n 2, 1) := by decide +kernel
theorem dX5_orderNumber_5 : decode cX5_orderNumber 5 = .ok (.aload_n 0, 1) := by decide +kernel
theorem dX5_orderNumber_6 : decode cX5_orderNumber 6 = .ok (.getfield 56, 3) := by decide +kernel
theorem dX5_orderNumber_9 : decode cX5_orderNumber 9 = .ok (.if_icmp .ge 21, 3) := by decide +kernel
theorem dX5_orderNumber_12 : decode cX5_orderNumber 12 = .ok (.iload_n 1, 1) := by decide +kernel
theorem dX5_orderNumber_13 : decode cX5_orderNumber 13 = .ok (.bipush 10, 2) := by decide +kernel
theorem dX5_orderNumber_15 : decode cX5_orderNumber 15 = .ok (.imul, 1) := by decide +kernel
theorem dX5_orderNumber_16 : decode cX5_orderNumber 16 = .ok (.aload_n 0, 1) := by decide +kernel
theorem dX5_orderNumber_17 : decode cX5_orderNumber 17 = .ok (.getfield 25, 3) := by decide +kernel
theorem dX5_orderNumber_20 : decode cX5_orderNumber 20 = .ok (.iload_n 2, 1) := by decide +kernel
theorem dX5_orderNumber_21 : decode cX5_orderNumber 21 = .ok (.iaload, 1) := by decide +kernel
theorem dX5_orderNumber_22 : decode cX5_orderNumber 22 = .ok (.iadd, 1) := by decide +kernel
theorem dX5_orderNumber_23 : decode cX5_orderNumber 23 = .ok (.istore_n 1, 1) := by decide +kernel
theorem dX5_orderNumber_24 : decode cX5_orderNumber 24 = .ok (.iinc 2 1, 3) := by decide +kernel
theorem dX5_orderNumber_27 : decode cX5_orderNumber 27 = .ok (.goto (-23), 3) := by decide +kernel
theorem dX5_orderNumber_30 : decode cX5_orderNumber 30 = .ok (.iload_n 1, 1) := by decide +kernel
theorem dX5_orderNumber_31 : decode cX5_orderNumber 31 = .ok (.ireturn, 1) := by decide +kernel
def pX5_orderNumber_L4 (M : Mm) (s : Int32 × Int32) : Option ((Int32 × Int32) ⊕ (Int32)) :=
if (M 17 6) ≤ s.2 then
(some (Sum.inr s.1))
else
((ald M 22 10 s.2).bind fun v1 =>
bnd ((s.1 * 10) + v1) fun v3 =>
some (Sum.inl (v3, s.2 + 1)))
def pX5_orderNumber (M : Mm) : Option (Int32) :=
(itr (pX5_orderNumber_L4 M) fuel (0, 1)).bind fun x4 =>
some x4
abbrev zX5_orderNumber : Zx := (cX5_orderNumber, RX5, 3, 0, (some .int))
set_option maxRecDepth 100000 in
set_option maxHeartbeats 4000000 in
theorem tX5_orderNumber {l : Launch} {Y : Sx} {M : Mm} {q : Int32} (hY : isA Y) (h : pX5_orderNumber M = some q) : Ct l Y yX5_orderNumber cX5_orderNumber 3 (some .int) 0 [.ref (adr Y 17)] M (some q) M := by
  refine Ct.of (by decide) rfl (lv := [(0, .ref (adr Y 17))]) rfl ?_
  intro K hkl C
  change Cx K zX5_orderNumber Y at C
  subst hkl
  unfold pX5_orderNumber at h
  show Wp K zX5_orderNumber Y (Qm K Y (some q) M) M 0 [(0, .ref (adr Y 17))] []
  refine w_iconst C (pc := 0) dX5_orderNumber_0 (v := 0) (by decide) ?_
  refine w_istore_n C (pc := 1) dX5_orderNumber_1 (lv' := [(0, .ref (adr Y 17)), (1, .int 0)]) rfl rfl rfl ?_
  refine w_iconst C (pc := 2) dX5_orderNumber_2 (v := 1) (by decide) ?_
  refine w_istore_n C (pc := 3) dX5_orderNumber_3 (lv' := [(0, .ref (adr Y 17)), (1, .int 0), (2, .int 1)]) rfl rfl rfl ?_
  obtain ⟨x4, e5, h⟩ := ob h
  refine itr_W (P := fun s6 => Wp K zX5_orderNumber Y (Qm K Y (some q) M) M 4 [(0, .ref (adr Y 17)), (1, .int s6.1), (2, .int s6.2)] []) (R := fun x4 => Wp K zX5_orderNumber Y (Qm K Y (some q) M) M 30 [(0, .ref (adr Y 17)), (1, .int x4)] []) ?_ fuel (0, 1) x4 e5 ?_
  · intro s6 r7 h10 ki8 kx9
    unfold pX5_orderNumber_L4 at h10
    show Wp K zX5_orderNumber Y (Qm K Y (some q) M) M 4 [(0, .ref (adr Y 17)), (1, .int s6.1), (2, .int s6.2)] []
    refine w_iload_n C (pc := 4) dX5_orderNumber_4 2 rfl ?_
    refine w_aload_n C (pc := 5) dX5_orderNumber_5 0 rfl ?_
    refine w_getI C (pc := 6) dX5_orderNumber_6 f_X5_56 (sA_17 hY) rfl ?_
    refine w_icge C (pc := 9) 30 dX5_orderNumber_9 (by decide) (fun c => ?_) (fun c => ?_)
    · have h10 := it_t h10 c
      obtain rfl := Option.some.inj h10
      refine w_lv [0, 1] rfl ?_
      have k9 := kx9 s6.1 rfl
      try dsimp only at k9
      exact k9
    · have h10 := it_f h10 c
      refine w_iload_n C (pc := 12) dX5_orderNumber_12 1 rfl ?_
      refine w_bipush C (pc := 13) dX5_orderNumber_13 (v := 10) (by decide) ?_
      refine w_imul C (pc := 15) dX5_orderNumber_15 ?_
      refine w_aload_n C (pc := 16) dX5_orderNumber_16 0 rfl ?_
      refine w_getR C (pc := 17) dX5_orderNumber_17 f_X5_25 (sA_17 hY) rfl ?_
      refine w_iload_n C (pc := 20) dX5_orderNumber_20 2 rfl ?_
      obtain ⟨v11, e12, h10⟩ := ob h10
      refine w_iald C (pc := 21) dX5_orderNumber_21 (sA_22 hY) e12 ?_
      refine w_iadd C (pc := 22) dX5_orderNumber_22 ?_
      refine w_bnd h10 (fun v13 h10 => ?_)
      refine w_istore_n C (pc := 23) dX5_orderNumber_23 (lv' := [(0, .ref (adr Y 17)), (1, .int v13), (2, .int s6.2)]) rfl rfl rfl ?_
      refine w_iinc C (pc := 24) dX5_orderNumber_24 2 rfl (v := 1) (lv' := [(0, .ref (adr Y 17)), (1, .int v13), (2, .int (s6.2 + 1))]) (by decide) rfl rfl rfl ?_
      refine w_goto C (pc := 27) 4 dX5_orderNumber_27 (by decide) ?_
      obtain rfl := Option.some.inj h10
      have k9 := ki8 (v13, s6.2 + 1) rfl
      try dsimp only at k9
      exact k9
  · refine w_iload_n C (pc := 30) dX5_orderNumber_30 1 rfl ?_
    exact w_retR C (pc := 31) dX5_orderNumber_31 rfl (Option.some.inj h)
theorem dX5_prepare_0 : decode cX5_prepare 0 = .ok (.aload_n 0, 1) := by decide +kernel
theorem dX5_prepare_1 : decode cX5_prepare 1 = .ok (.iload_n 1, 1) := by decide +kernel
theorem dX5_prepare_2 : decode cX5_prepare 2 = .ok (.putfield 63, 3) := by decide +kernel
theorem dX5_prepare_5 : decode cX5_prepare 5 = .ok (.aload_n 0, 1) := by decide +kernel
theorem dX5_prepare_6 : decode cX5_prepare 6 = .ok (.aload_n 0, 1) := by decide +kernel
theorem dX5_prepare_7 : decode cX5_prepare 7 = .ok (.getfield 46, 3) := by decide +kernel
theorem dX5_prepare_10 : decode cX5_prepare 10 = .ok (.bipush 6, 2) := by decide +kernel
theorem dX5_prepare_12 : decode cX5_prepare 12 = .ok (.invokevirtual 66, 3) := by decide +kernel
theorem dX5_prepare_15 : decode cX5_prepare 15 = .ok (.putfield 70, 3) := by decide +kernel
theorem dX5_prepare_18 : decode cX5_prepare 18 = .ok (.aload_n 0, 1) := by decide +kernel
theorem dX5_prepare_19 : decode cX5_prepare 19 = .ok (.aload_n 0, 1) := by decide +kernel
theorem dX5_prepare_20 : decode cX5_prepare 20 = .ok (.getfield 46, 3) := by decide +kernel
theorem dX5_prepare_23 : decode cX5_prepare 23 = .ok (.bipush 7, 2) := by decide +kernel
theorem dX5_prepare_25 : decode cX5_prepare 25 = .ok (.invokevirtual 66, 3) := by decide +kernel
theorem dX5_prepare_28 : decode cX5_prepare 28 = .ok (.putfield 73, 3) := by decide +kernel
theorem dX5_prepare_31 : decode cX5_prepare 31 = .ok (.aload_n 0, 1) := by decide +kernel
theorem dX5_prepare_32 : decode cX5_prepare 32 = .ok (.aload_n 0, 1) := by decide +kernel
theorem dX5_prepare_33 : decode cX5_prepare 33 = .ok (.getfield 46, 3) := by decide +kernel
theorem dX5_prepare_36 : decode cX5_prepare 36 = .ok (.iconst 5, 1) := by decide +kernel
theorem dX5_prepare_37 : decode cX5_prepare 37 = .ok (.invokevirtual 66, 3) := by decide +kernel
theorem dX5_prepare_40 : decode cX5_prepare 40 = .ok (.putfield 76, 3) := by decide +kernel
theorem dX5_prepare_43 : decode cX5_prepare 43 = .ok (.aload_n 0, 1) := by decide +kernel
theorem dX5_prepare_44 : decode cX5_prepare 44 = .ok (.aload_n 0, 1) := by decide +kernel
theorem dX5_prepare_45 : decode cX5_prepare 45 = .ok (.getfield 46, 3) := by decide +kernel
theorem dX5_prepare_48 : decode cX5_prepare 48 = .ok (.bipush 9, 2) := by decide +kernel
theorem dX5_prepare_50 : decode cX5_prepare 50 = .ok (.invokevirtual 66, 3) := by decide +kernel
theorem dX5_prepare_53 : decode cX5_prepare 53 = .ok (.iconst 1, 1) := by decide +kernel
theorem dX5_prepare_54 : decode cX5_prepare 54 = .ok (.if_icmp .ne 7, 3) := by decide +kernel
theorem dX5_prepare_57 : decode cX5_prepare 57 = .ok (.iconst 1, 1) := by decide +kernel
theorem dX5_prepare_58 : decode cX5_prepare 58 = .ok (.goto 4, 3) := by decide +kernel
theorem dX5_prepare_61 : decode cX5_prepare 61 = .ok (.iconst 0, 1) := by decide +kernel
theorem dX5_prepare_62 : decode cX5_prepare 62 = .ok (.putfield 79, 3) := by decide +kernel
theorem dX5_prepare_65 : decode cX5_prepare 65 = .ok (.iconst 0, 1) := by decide +kernel
theorem dX5_prepare_66 : decode cX5_prepare 66 = .ok (.istore 4, 2) := by decide +kernel
theorem dX5_prepare_68 : decode cX5_prepare 68 = .ok (.iload 4, 2) := by decide +kernel
theorem dX5_prepare_70 : decode cX5_prepare 70 = .ok (.aload_n 0, 1) := by decide +kernel
theorem dX5_prepare_71 : decode cX5_prepare 71 = .ok (.getfield 46, 3) := by decide +kernel
theorem dX5_prepare_74 : decode cX5_prepare 74 = .ok (.getfield 50, 3) := by decide +kernel
theorem dX5_prepare_77 : decode cX5_prepare 77 = .ok (.if_icmp .gt 124, 3) := by decide +kernel
theorem dX5_prepare_80 : decode cX5_prepare 80 = .ok (.aload_n 0, 1) := by decide +kernel
theorem dX5_prepare_81 : decode cX5_prepare 81 = .ok (.getfield 18, 3) := by decide +kernel
theorem dX5_prepare_84 : decode cX5_prepare 84 = .ok (.iload 4, 2) := by decide +kernel
theorem dX5_prepare_86 : decode cX5_prepare 86 = .ok (.aload_n 0, 1) := by decide +kernel
theorem dX5_prepare_87 : decode cX5_prepare 87 = .ok (.getfield 46, 3) := by decide +kernel
theorem dX5_prepare_90 : decode cX5_prepare 90 = .ok (.iload 4, 2) := by decide +kernel
theorem dX5_prepare_92 : decode cX5_prepare 92 = .ok (.iconst 3, 1) := by decide +kernel
theorem dX5_prepare_93 : decode cX5_prepare 93 = .ok (.invokevirtual 83, 3) := by decide +kernel
theorem dX5_prepare_96 : decode cX5_prepare 96 = .ok (.iastore, 1) := by decide +kernel
theorem dX5_prepare_97 : decode cX5_prepare 97 = .ok (.aload_n 0, 1) := by decide +kernel
theorem dX5_prepare_98 : decode cX5_prepare 98 = .ok (.getfield 21, 3) := by decide +kernel
theorem dX5_prepare_101 : decode cX5_prepare 101 = .ok (.iload 4, 2) := by decide +kernel
theorem dX5_prepare_103 : decode cX5_prepare 103 = .ok (.aload_n 0, 1) := by decide +kernel
theorem dX5_prepare_104 : decode cX5_prepare 104 = .ok (.getfield 46, 3) := by decide +kernel
theorem dX5_prepare_107 : decode cX5_prepare 107 = .ok (.iload 4, 2) := by decide +kernel
theorem dX5_prepare_109 : decode cX5_prepare 109 = .ok (.invokevirtual 87, 3) := by decide +kernel
theorem dX5_prepare_112 : decode cX5_prepare 112 = .ok (.bastore, 1) := by decide +kernel
theorem dX5_prepare_113 : decode cX5_prepare 113 = .ok (.iconst 0, 1) := by decide +kernel
theorem dX5_prepare_114 : decode cX5_prepare 114 = .ok (.istore 5, 2) := by decide +kernel
theorem dX5_prepare_116 : decode cX5_prepare 116 = .ok (.iload 5, 2) := by decide +kernel
theorem dX5_prepare_118 : decode cX5_prepare 118 = .ok (.aload_n 0, 1) := by decide +kernel
theorem dX5_prepare_119 : decode cX5_prepare 119 = .ok (.getfield 46, 3) := by decide +kernel
theorem dX5_prepare_122 : decode cX5_prepare 122 = .ok (.getfield 50, 3) := by decide +kernel
theorem dX5_prepare_125 : decode cX5_prepare 125 = .ok (.if_icmp .gt 70, 3) := by decide +kernel
theorem dX5_prepare_128 : decode cX5_prepare 128 = .ok (.aload_n 0, 1) := by decide +kernel
theorem dX5_prepare_129 : decode cX5_prepare 129 = .ok (.getfield 9, 3) := by decide +kernel
theorem dX5_prepare_132 : decode cX5_prepare 132 = .ok (.iload 4, 2) := by decide +kernel
theorem dX5_prepare_134 : decode cX5_prepare 134 = .ok (.bipush 9, 2) := by decide +kernel
theorem dX5_prepare_136 : decode cX5_prepare 136 = .ok (.imul, 1) := by decide +kernel
theorem dX5_prepare_137 : decode cX5_prepare 137 = .ok (.iload 5, 2) := by decide +kernel
theorem dX5_prepare_139 : decode cX5_prepare 139 = .ok (.iadd, 1) := by decide +kernel
theorem dX5_prepare_140 : decode cX5_prepare 140 = .ok (.aload_n 0, 1) := by decide +kernel
theorem dX5_prepare_141 : decode cX5_prepare 141 = .ok (.getfield 46, 3) := by decide +kernel
theorem dX5_prepare_144 : decode cX5_prepare 144 = .ok (.iload 4, 2) := by decide +kernel
theorem dX5_prepare_146 : decode cX5_prepare 146 = .ok (.iload 5, 2) := by decide +kernel
theorem dX5_prepare_148 : decode cX5_prepare 148 = .ok (.invokevirtual 90, 3) := by decide +kernel
theorem dX5_prepare_151 : decode cX5_prepare 151 = .ok (.aload_n 0, 1) := by decide +kernel
theorem dX5_prepare_152 : decode cX5_prepare 152 = .ok (.getfield 46, 3) := by decide +kernel
theorem dX5_prepare_155 : decode cX5_prepare 155 = .ok (.iload 5, 2) := by decide +kernel
theorem dX5_prepare_157 : decode cX5_prepare 157 = .ok (.iconst 2, 1) := by decide +kernel
theorem dX5_prepare_158 : decode cX5_prepare 158 = .ok (.invokevirtual 83, 3) := by decide +kernel
theorem dX5_prepare_161 : decode cX5_prepare 161 = .ok (.iadd, 1) := by decide +kernel
theorem dX5_prepare_162 : decode cX5_prepare 162 = .ok (.iastore, 1) := by decide +kernel
theorem dX5_prepare_163 : decode cX5_prepare 163 = .ok (.aload_n 0, 1) := by decide +kernel
theorem dX5_prepare_164 : decode cX5_prepare 164 = .ok (.getfield 15, 3) := by decide +kernel
theorem dX5_prepare_167 : decode cX5_prepare 167 = .ok (.iload 4, 2) := by decide +kernel
theorem dX5_prepare_169 : decode cX5_prepare 169 = .ok (.bipush 9, 2) := by decide +kernel
theorem dX5_prepare_171 : decode cX5_prepare 171 = .ok (.imul, 1) := by decide +kernel
theorem dX5_prepare_172 : decode cX5_prepare 172 = .ok (.iload 5, 2) := by decide +kernel
theorem dX5_prepare_174 : decode cX5_prepare 174 = .ok (.iadd, 1) := by decide +kernel
theorem dX5_prepare_175 : decode cX5_prepare 175 = .ok (.aload_n 0, 1) := by decide +kernel
theorem dX5_prepare_176 : decode cX5_prepare 176 = .ok (.getfield 46, 3) := by decide +kernel
theorem dX5_prepare_179 : decode cX5_prepare 179 = .ok (.iload 4, 2) := by decide +kernel
theorem dX5_prepare_181 : decode cX5_prepare 181 = .ok (.iload 5, 2) := by decide +kernel
theorem dX5_prepare_183 : decode cX5_prepare 183 = .ok (.iload_n 2, 1) := by decide +kernel
theorem dX5_prepare_184 : decode cX5_prepare 184 = .ok (.iload_n 3, 1) := by decide +kernel
theorem dX5_prepare_185 : decode cX5_prepare 185 = .ok (.invokevirtual 93, 3) := by decide +kernel
theorem dX5_prepare_188 : decode cX5_prepare 188 = .ok (.iastore, 1) := by decide +kernel
theorem dX5_prepare_189 : decode cX5_prepare 189 = .ok (.iinc 5 1, 3) := by decide +kernel
theorem dX5_prepare_192 : decode cX5_prepare 192 = .ok (.goto (-76), 3) := by decide +kernel
theorem dX5_prepare_195 : decode cX5_prepare 195 = .ok (.iinc 4 1, 3) := by decide +kernel
theorem dX5_prepare_198 : decode cX5_prepare 198 = .ok (.goto (-130), 3) := by decide +kernel
theorem dX5_prepare_201 : decode cX5_prepare 201 = .ok (.return_, 1) := by decide +kernel
def pX5_prepare_L116 (x2 : Int32) (x3 : Int32) (x4 : Int32) (s : Int32 × Mm) : Option ((Int32 × Mm) ⊕ (Mm)) :=
if (s.2 1 0) < s.1 then
(some (Sum.inr s.2))
else
((pX3_drive 1 x4 s.1 s.2).bind fun v32 =>
(pX3_fact 1 s.1 2 s.2).bind fun v34 =>
(ast s.2 18 81 ((x4 * 9) + s.1) (v32 + v34)).bind fun M36 =>
(pX3_flight 1 x4 s.1 x2 x3 M36).bind fun v38 =>
(ast M36 19 81 ((x4 * 9) + s.1) v38).bind fun M40 =>
some (Sum.inl (s.1 + 1, M40)))
def pX5_prepare_L68 (x2 : Int32) (x3 : Int32) (s : Int32 × Mm) : Option ((Int32 × Mm) ⊕ (Mm)) :=
if (s.2 1 0) < s.1 then
(some (Sum.inr s.2))
else
((pX3_fact 1 s.1 3 s.2).bind fun v24 =>
(ast s.2 20 9 s.1 v24).bind fun M26 =>
(pX3_isLight 1 s.1 M26).bind fun v28 =>
(ast M26 21 9 s.1 (vp_nar .boolean v28)).bind fun M30 =>
(itr (pX5_prepare_L116 x2 x3 s.1) fuel (0, M30)).bind fun x42 =>
some (Sum.inl (s.1 + 1, x42)))
def pX5_prepare (x1 : Int32) (x2 : Int32) (x3 : Int32) (M : Mm) : Option (Mm) :=
bnd (mset M 17 1 x1) fun M1 =>
(pX3_setting 1 6 M1).bind fun v3 =>
bnd (mset M1 17 2 v3) fun M5 =>
(pX3_setting 1 7 M5).bind fun v7 =>
bnd (mset M5 17 3 v7) fun M9 =>
(pX3_setting 1 5 M9).bind fun v11 =>
bnd (mset M9 17 4 v11) fun M13 =>
(pX3_setting 1 9 M13).bind fun v15 =>
bnd (α := Int32) (if v15 = 1 then
(1)
else
(0)) fun j17 =>
(zo j17).bind fun v20 =>
bnd (mset M13 17 5 j17) fun M22 =>
(itr (pX5_prepare_L68 x2 x3) fuel (0, M22)).bind fun x59 =>
some x59
abbrev zX5_prepare : Zx := (cX5_prepare, RX5, 6, 2, none)
set_option maxRecDepth 100000 in
set_option maxHeartbeats 4000000 in
theorem tX5_prepare {l : Launch} {Y : Sx} {M : Mm} {x1 : Int32} {x2 : Int32} {x3 : Int32} {q : Mm} (hY : isA Y) (h : pX5_prepare x1 x2 x3 M = some q) : Ct l Y yX5_prepare cX5_prepare 6 none 2 [.ref (adr Y 17), .int x1, .int x2, .int x3] M none q := by
  refine Ct.of (by decide) rfl (lv := [(0, .ref (adr Y 17)), (1, .int x1), (2, .int x2), (3, .int x3)]) rfl ?_
  intro K hkl C
  change Cx K zX5_prepare Y at C
  subst hkl
  unfold pX5_prepare at h
  show Wp K zX5_prepare Y (Qm K Y none q) M 0 [(0, .ref (adr Y 17)), (1, .int x1), (2, .int x2), (3, .int x3)] []
  refine w_aload_n C (pc := 0) dX5_prepare_0 0 rfl ?_
  refine w_iload_n C (pc := 1) dX5_prepare_1 1 rfl ?_
  obtain ⟨M1, e2, h⟩ := bn h
  refine w_putI C (pc := 2) dX5_prepare_2 fp_X5_63 (sA_17 hY) rfl ?_
  rw [e2]
  refine w_aload_n C (pc := 5) dX5_prepare_5 0 rfl ?_
  refine w_aload_n C (pc := 6) dX5_prepare_6 0 rfl ?_
  refine w_getR C (pc := 7) dX5_prepare_7 f_X5_46 (sA_17 hY) rfl ?_
  refine w_bipush C (pc := 10) dX5_prepare_10 (v := 6) (by decide) ?_
  obtain ⟨v3, e4, h⟩ := ob h
  refine w_cVi C (pc := 12) dX5_prepare_12 my_X3_setting mi_X3_setting ml_X5_66 (sA_1 hY) rfl rfl rfl [.int 6] rfl rfl (Nat.le_of_ble_eq_true rfl) (tX3_setting (kLand_1 hY) e4) ?_
  obtain ⟨M5, e6, h⟩ := bn h
  refine w_putI C (pc := 15) dX5_prepare_15 fp_X5_70 (sA_17 hY) rfl ?_
  rw [e6]
  refine w_aload_n C (pc := 18) dX5_prepare_18 0 rfl ?_
  refine w_aload_n C (pc := 19) dX5_prepare_19 0 rfl ?_
  refine w_getR C (pc := 20) dX5_prepare_20 f_X5_46 (sA_17 hY) rfl ?_
  refine w_bipush C (pc := 23) dX5_prepare_23 (v := 7) (by decide) ?_
  obtain ⟨v7, e8, h⟩ := ob h
  refine w_cVi C (pc := 25) dX5_prepare_25 my_X3_setting mi_X3_setting ml_X5_66 (sA_1 hY) rfl rfl rfl [.int 7] rfl rfl (Nat.le_of_ble_eq_true rfl) (tX3_setting (kLand_1 hY) e8) ?_
  obtain ⟨M9, e10, h⟩ := bn h
  refine w_putI C (pc := 28) dX5_prepare_28 fp_X5_73 (sA_17 hY) rfl ?_
  rw [e10]
  refine w_aload_n C (pc := 31) dX5_prepare_31 0 rfl ?_
  refine w_aload_n C (pc := 32) dX5_prepare_32 0 rfl ?_
  refine w_getR C (pc := 33) dX5_prepare_33 f_X5_46 (sA_17 hY) rfl ?_
  refine w_iconst C (pc := 36) dX5_prepare_36 (v := 5) (by decide) ?_
  obtain ⟨v11, e12, h⟩ := ob h
  refine w_cVi C (pc := 37) dX5_prepare_37 my_X3_setting mi_X3_setting ml_X5_66 (sA_1 hY) rfl rfl rfl [.int 5] rfl rfl (Nat.le_of_ble_eq_true rfl) (tX3_setting (kLand_1 hY) e12) ?_
  obtain ⟨M13, e14, h⟩ := bn h
  refine w_putI C (pc := 40) dX5_prepare_40 fp_X5_76 (sA_17 hY) rfl ?_
  rw [e14]
  refine w_aload_n C (pc := 43) dX5_prepare_43 0 rfl ?_
  refine w_aload_n C (pc := 44) dX5_prepare_44 0 rfl ?_
  refine w_getR C (pc := 45) dX5_prepare_45 f_X5_46 (sA_17 hY) rfl ?_
  refine w_bipush C (pc := 48) dX5_prepare_48 (v := 9) (by decide) ?_
  obtain ⟨v15, e16, h⟩ := ob h
  refine w_cVi C (pc := 50) dX5_prepare_50 my_X3_setting mi_X3_setting ml_X5_66 (sA_1 hY) rfl rfl rfl [.int 9] rfl rfl (Nat.le_of_ble_eq_true rfl) (tX3_setting (kLand_1 hY) e16) ?_
  refine w_iconst C (pc := 53) dX5_prepare_53 (v := 1) (by decide) ?_
  obtain ⟨j17, e18, h19⟩ := bn h
  have Jj17 : Wp K zX5_prepare Y (Qm K Y none q) M13 62 [(0, .ref (adr Y 17)), (1, .int x1), (2, .int x2), (3, .int x3)] [.int j17, .ref (adr Y 17)] := by
    obtain ⟨v20, e21, h19⟩ := ob h19
    obtain ⟨M22, e23, h19⟩ := bn h19
    refine w_putZ C (pc := 62) dX5_prepare_62 fp_X5_79 (sA_17 hY) rfl (zo_some e21).1 ?_
    rw [e23]
    refine w_iconst C (pc := 65) dX5_prepare_65 (v := 0) (by decide) ?_
    refine w_istore C (pc := 66) dX5_prepare_66 (lv' := [(0, .ref (adr Y 17)), (1, .int x1), (2, .int x2), (3, .int x3), (4, .int 0)]) rfl rfl rfl ?_
    obtain ⟨x59, e60, h19⟩ := ob h19
    refine itr_W (P := fun s61 => Wp K zX5_prepare Y (Qm K Y none q) s61.2 68 [(0, .ref (adr Y 17)), (1, .int x1), (2, .int x2), (3, .int x3), (4, .int s61.1)] []) (R := fun x59 => Wp K zX5_prepare Y (Qm K Y none q) x59 201 [(0, .ref (adr Y 17)), (1, .int x1), (2, .int x2), (3, .int x3)] []) ?_ fuel (0, M22) x59 e60 ?_
    · intro s61 r62 h65 ki63 kx64
      unfold pX5_prepare_L68 at h65
      show Wp K zX5_prepare Y (Qm K Y none q) s61.2 68 [(0, .ref (adr Y 17)), (1, .int x1), (2, .int x2), (3, .int x3), (4, .int s61.1)] []
      refine w_iload C (pc := 68) dX5_prepare_68 4 rfl ?_
      refine w_aload_n C (pc := 70) dX5_prepare_70 0 rfl ?_
      refine w_getR C (pc := 71) dX5_prepare_71 f_X5_46 (sA_17 hY) rfl ?_
      refine w_getI C (pc := 74) dX5_prepare_74 f_X5_50 (sA_1 hY) rfl ?_
      refine w_icgt C (pc := 77) 201 dX5_prepare_77 (by decide) (fun c => ?_) (fun c => ?_)
      · have h65 := it_t h65 c
        obtain rfl := Option.some.inj h65
        refine w_lv [0, 1, 2, 3] rfl ?_
        have k9 := kx64 s61.2 rfl
        try dsimp only at k9
        exact k9
      · have h65 := it_f h65 c
        refine w_aload_n C (pc := 80) dX5_prepare_80 0 rfl ?_
        refine w_getR C (pc := 81) dX5_prepare_81 f_X5_18 (sA_17 hY) rfl ?_
        refine w_iload C (pc := 84) dX5_prepare_84 4 rfl ?_
        refine w_aload_n C (pc := 86) dX5_prepare_86 0 rfl ?_
        refine w_getR C (pc := 87) dX5_prepare_87 f_X5_46 (sA_17 hY) rfl ?_
        refine w_iload C (pc := 90) dX5_prepare_90 4 rfl ?_
        refine w_iconst C (pc := 92) dX5_prepare_92 (v := 3) (by decide) ?_
        obtain ⟨v66, e67, h65⟩ := ob h65
        refine w_cVi C (pc := 93) dX5_prepare_93 my_X3_fact mi_X3_fact ml_X5_83 (sA_1 hY) rfl rfl rfl [.int s61.1, .int 3] rfl rfl (Nat.le_of_ble_eq_true rfl) (tX3_fact (kLand_1 hY) e67) ?_
        obtain ⟨M68, e69, h65⟩ := ob h65
        refine w_iast C (pc := 96) dX5_prepare_96 (sA_20 hY) e69 ?_
        refine w_aload_n C (pc := 97) dX5_prepare_97 0 rfl ?_
        refine w_getR C (pc := 98) dX5_prepare_98 f_X5_21 (sA_17 hY) rfl ?_
        refine w_iload C (pc := 101) dX5_prepare_101 4 rfl ?_
        refine w_aload_n C (pc := 103) dX5_prepare_103 0 rfl ?_
        refine w_getR C (pc := 104) dX5_prepare_104 f_X5_46 (sA_17 hY) rfl ?_
        refine w_iload C (pc := 107) dX5_prepare_107 4 rfl ?_
        obtain ⟨v70, e71, h65⟩ := ob h65
        refine w_cVi C (pc := 109) dX5_prepare_109 my_X3_isLight mi_X3_isLight ml_X5_87 (sA_1 hY) rfl rfl rfl [.int s61.1] rfl rfl (Nat.le_of_ble_eq_true rfl) (tX3_isLight (kLand_1 hY) e71) ?_
        obtain ⟨M72, e73, h65⟩ := ob h65
        refine w_zast C (pc := 112) dX5_prepare_112 (sA_21 hY) e73 ?_
        refine w_iconst C (pc := 113) dX5_prepare_113 (v := 0) (by decide) ?_
        refine w_istore C (pc := 114) dX5_prepare_114 (lv' := [(0, .ref (adr Y 17)), (1, .int x1), (2, .int x2), (3, .int x3), (4, .int s61.1), (5, .int 0)]) rfl rfl rfl ?_
        obtain ⟨x74, e75, h65⟩ := ob h65
        refine itr_W (P := fun s76 => Wp K zX5_prepare Y (Qm K Y none q) s76.2 116 [(0, .ref (adr Y 17)), (1, .int x1), (2, .int x2), (3, .int x3), (4, .int s61.1), (5, .int s76.1)] []) (R := fun x74 => Wp K zX5_prepare Y (Qm K Y none q) x74 195 [(0, .ref (adr Y 17)), (1, .int x1), (2, .int x2), (3, .int x3), (4, .int s61.1)] []) ?_ fuel (0, M72) x74 e75 ?_
        · intro s76 r77 h80 ki78 kx79
          unfold pX5_prepare_L116 at h80
          show Wp K zX5_prepare Y (Qm K Y none q) s76.2 116 [(0, .ref (adr Y 17)), (1, .int x1), (2, .int x2), (3, .int x3), (4, .int s61.1), (5, .int s76.1)] []
          refine w_iload C (pc := 116) dX5_prepare_116 5 rfl ?_
          refine w_aload_n C (pc := 118) dX5_prepare_118 0 rfl ?_
          refine w_getR C (pc := 119) dX5_prepare_119 f_X5_46 (sA_17 hY) rfl ?_
          refine w_getI C (pc := 122) dX5_prepare_122 f_X5_50 (sA_1 hY) rfl ?_
          refine w_icgt C (pc := 125) 195 dX5_prepare_125 (by decide) (fun c => ?_) (fun c => ?_)
          · have h80 := it_t h80 c
            obtain rfl := Option.some.inj h80
            refine w_lv [0, 1, 2, 3, 4] rfl ?_
            have k9 := kx79 s76.2 rfl
            try dsimp only at k9
            exact k9
          · have h80 := it_f h80 c
            refine w_aload_n C (pc := 128) dX5_prepare_128 0 rfl ?_
            refine w_getR C (pc := 129) dX5_prepare_129 f_X5_9 (sA_17 hY) rfl ?_
            refine w_iload C (pc := 132) dX5_prepare_132 4 rfl ?_
            refine w_bipush C (pc := 134) dX5_prepare_134 (v := 9) (by decide) ?_
            refine w_imul C (pc := 136) dX5_prepare_136 ?_
            refine w_iload C (pc := 137) dX5_prepare_137 5 rfl ?_
            refine w_iadd C (pc := 139) dX5_prepare_139 ?_
            refine w_aload_n C (pc := 140) dX5_prepare_140 0 rfl ?_
            refine w_getR C (pc := 141) dX5_prepare_141 f_X5_46 (sA_17 hY) rfl ?_
            refine w_iload C (pc := 144) dX5_prepare_144 4 rfl ?_
            refine w_iload C (pc := 146) dX5_prepare_146 5 rfl ?_
            obtain ⟨v81, e82, h80⟩ := ob h80
            refine w_cVi C (pc := 148) dX5_prepare_148 my_X3_drive mi_X3_drive ml_X5_90 (sA_1 hY) rfl rfl rfl [.int s61.1, .int s76.1] rfl rfl (Nat.le_of_ble_eq_true rfl) (tX3_drive (kLand_1 hY) e82) ?_
            refine w_aload_n C (pc := 151) dX5_prepare_151 0 rfl ?_
            refine w_getR C (pc := 152) dX5_prepare_152 f_X5_46 (sA_17 hY) rfl ?_
            refine w_iload C (pc := 155) dX5_prepare_155 5 rfl ?_
            refine w_iconst C (pc := 157) dX5_prepare_157 (v := 2) (by decide) ?_
            obtain ⟨v83, e84, h80⟩ := ob h80
            refine w_cVi C (pc := 158) dX5_prepare_158 my_X3_fact mi_X3_fact ml_X5_83 (sA_1 hY) rfl rfl rfl [.int s76.1, .int 2] rfl rfl (Nat.le_of_ble_eq_true rfl) (tX3_fact (kLand_1 hY) e84) ?_
            refine w_iadd C (pc := 161) dX5_prepare_161 ?_
            obtain ⟨M85, e86, h80⟩ := ob h80
            refine w_iast C (pc := 162) dX5_prepare_162 (sA_18 hY) e86 ?_
            refine w_aload_n C (pc := 163) dX5_prepare_163 0 rfl ?_
            refine w_getR C (pc := 164) dX5_prepare_164 f_X5_15 (sA_17 hY) rfl ?_
            refine w_iload C (pc := 167) dX5_prepare_167 4 rfl ?_
            refine w_bipush C (pc := 169) dX5_prepare_169 (v := 9) (by decide) ?_
            refine w_imul C (pc := 171) dX5_prepare_171 ?_
            refine w_iload C (pc := 172) dX5_prepare_172 5 rfl ?_
            refine w_iadd C (pc := 174) dX5_prepare_174 ?_
            refine w_aload_n C (pc := 175) dX5_prepare_175 0 rfl ?_
            refine w_getR C (pc := 176) dX5_prepare_176 f_X5_46 (sA_17 hY) rfl ?_
            refine w_iload C (pc := 179) dX5_prepare_179 4 rfl ?_
            refine w_iload C (pc := 181) dX5_prepare_181 5 rfl ?_
            refine w_iload_n C (pc := 183) dX5_prepare_183 2 rfl ?_
            refine w_iload_n C (pc := 184) dX5_prepare_184 3 rfl ?_
            obtain ⟨v87, e88, h80⟩ := ob h80
            refine w_cVi C (pc := 185) dX5_prepare_185 my_X3_flight mi_X3_flight ml_X5_93 (sA_1 hY) rfl rfl rfl [.int s61.1, .int s76.1, .int x2, .int x3] rfl rfl (Nat.le_of_ble_eq_true rfl) (tX3_flight (kLand_1 hY) e88) ?_
            obtain ⟨M89, e90, h80⟩ := ob h80
            refine w_iast C (pc := 188) dX5_prepare_188 (sA_19 hY) e90 ?_
            refine w_iinc C (pc := 189) dX5_prepare_189 5 rfl (v := 1) (lv' := [(0, .ref (adr Y 17)), (1, .int x1), (2, .int x2), (3, .int x3), (4, .int s61.1), (5, .int (s76.1 + 1))]) (by decide) rfl rfl rfl ?_
            refine w_goto C (pc := 192) 116 dX5_prepare_192 (by decide) ?_
            obtain rfl := Option.some.inj h80
            have k9 := ki78 (s76.1 + 1, M89) rfl
            try dsimp only at k9
            exact k9
        · refine w_iinc C (pc := 195) dX5_prepare_195 4 rfl (v := 1) (lv' := [(0, .ref (adr Y 17)), (1, .int x1), (2, .int x2), (3, .int x3), (4, .int (s61.1 + 1))]) (by decide) rfl rfl rfl ?_
          refine w_goto C (pc := 198) 68 dX5_prepare_198 (by decide) ?_
          obtain rfl := Option.some.inj h65
          have k9 := ki63 (s61.1 + 1, x74) rfl
          try dsimp only at k9
          exact k9
    · exact w_retV C (pc := 201) dX5_prepare_201 rfl (Option.some.inj h19)
  refine w_icne C (pc := 54) 61 dX5_prepare_54 (by decide) (fun c => ?_) (fun c => ?_)
  · have e18 := it_t e18 c
    refine w_iconst C (pc := 57) dX5_prepare_57 (v := 1) (by decide) ?_
    refine w_goto C (pc := 58) 62 dX5_prepare_58 (by decide) ?_
    obtain rfl := e18
    exact Jj17
  · have e18 := it_f e18 c
    refine w_iconst C (pc := 61) dX5_prepare_61 (v := 0) (by decide) ?_
    obtain rfl := e18
    exact Jj17
theorem dX5_readOrder_0 : decode cX5_readOrder 0 = .ok (.iload_n 1, 1) := by decide +kernel
theorem dX5_readOrder_1 : decode cX5_readOrder 1 = .ok (.istore_n 2, 1) := by decide +kernel
theorem dX5_readOrder_2 : decode cX5_readOrder 2 = .ok (.iconst 0, 1) := by decide +kernel
theorem dX5_readOrder_3 : decode cX5_readOrder 3 = .ok (.istore_n 3, 1) := by decide +kernel
theorem dX5_readOrder_4 : decode cX5_readOrder 4 = .ok (.aload_n 0, 1) := by decide +kernel
theorem dX5_readOrder_5 : decode cX5_readOrder 5 = .ok (.aload_n 0, 1) := by decide +kernel
theorem dX5_readOrder_6 : decode cX5_readOrder 6 = .ok (.getfield 46, 3) := by decide +kernel
theorem dX5_readOrder_9 : decode cX5_readOrder 9 = .ok (.getfield 50, 3) := by decide +kernel
theorem dX5_readOrder_12 : decode cX5_readOrder 12 = .ok (.iconst 1, 1) := by decide +kernel
theorem dX5_readOrder_13 : decode cX5_readOrder 13 = .ok (.iadd, 1) := by decide +kernel
theorem dX5_readOrder_14 : decode cX5_readOrder 14 = .ok (.putfield 56, 3) := by decide +kernel
theorem dX5_readOrder_17 : decode cX5_readOrder 17 = .ok (.aload_n 0, 1) := by decide +kernel
theorem dX5_readOrder_18 : decode cX5_readOrder 18 = .ok (.getfield 25, 3) := by decide +kernel
theorem dX5_readOrder_21 : decode cX5_readOrder 21 = .ok (.iconst 0, 1) := by decide +kernel
theorem dX5_readOrder_22 : decode cX5_readOrder 22 = .ok (.iconst 0, 1) := by decide +kernel
theorem dX5_readOrder_23 : decode cX5_readOrder 23 = .ok (.iastore, 1) := by decide +kernel
theorem dX5_readOrder_24 : decode cX5_readOrder 24 = .ok (.aload_n 0, 1) := by decide +kernel
theorem dX5_readOrder_25 : decode cX5_readOrder 25 = .ok (.getfield 25, 3) := by decide +kernel
theorem dX5_readOrder_28 : decode cX5_readOrder 28 = .ok (.aload_n 0, 1) := by decide +kernel
theorem dX5_readOrder_29 : decode cX5_readOrder 29 = .ok (.getfield 56, 3) := by decide +kernel
theorem dX5_readOrder_32 : decode cX5_readOrder 32 = .ok (.iconst 0, 1) := by decide +kernel
theorem dX5_readOrder_33 : decode cX5_readOrder 33 = .ok (.iastore, 1) := by decide +kernel
theorem dX5_readOrder_34 : decode cX5_readOrder 34 = .ok (.aload_n 0, 1) := by decide +kernel
theorem dX5_readOrder_35 : decode cX5_readOrder 35 = .ok (.getfield 46, 3) := by decide +kernel
theorem dX5_readOrder_38 : decode cX5_readOrder 38 = .ok (.getfield 50, 3) := by decide +kernel
theorem dX5_readOrder_41 : decode cX5_readOrder 41 = .ok (.istore 4, 2) := by decide +kernel
theorem dX5_readOrder_43 : decode cX5_readOrder 43 = .ok (.iload 4, 2) := by decide +kernel
theorem dX5_readOrder_45 : decode cX5_readOrder 45 = .ok (.iconst 1, 1) := by decide +kernel
theorem dX5_readOrder_46 : decode cX5_readOrder 46 = .ok (.if_icmp .lt 60, 3) := by decide +kernel
theorem dX5_readOrder_49 : decode cX5_readOrder 49 = .ok (.iload_n 2, 1) := by decide +kernel
theorem dX5_readOrder_50 : decode cX5_readOrder 50 = .ok (.bipush 10, 2) := by decide +kernel
theorem dX5_readOrder_52 : decode cX5_readOrder 52 = .ok (.irem, 1) := by decide +kernel
theorem dX5_readOrder_53 : decode cX5_readOrder 53 = .ok (.istore 5, 2) := by decide +kernel
theorem dX5_readOrder_55 : decode cX5_readOrder 55 = .ok (.aload_n 0, 1) := by decide +kernel
theorem dX5_readOrder_56 : decode cX5_readOrder 56 = .ok (.getfield 46, 3) := by decide +kernel
theorem dX5_readOrder_59 : decode cX5_readOrder 59 = .ok (.iload 5, 2) := by decide +kernel
theorem dX5_readOrder_61 : decode cX5_readOrder 61 = .ok (.invokevirtual 59, 3) := by decide +kernel
theorem dX5_readOrder_64 : decode cX5_readOrder 64 = .ok (.ifCond .eq 13, 3) := by decide +kernel
theorem dX5_readOrder_67 : decode cX5_readOrder 67 = .ok (.iload_n 3, 1) := by decide +kernel
theorem dX5_readOrder_68 : decode cX5_readOrder 68 = .ok (.iload 5, 2) := by decide +kernel
theorem dX5_readOrder_70 : decode cX5_readOrder 70 = .ok (.ishr, 1) := by decide +kernel
theorem dX5_readOrder_71 : decode cX5_readOrder 71 = .ok (.iconst 1, 1) := by decide +kernel
theorem dX5_readOrder_72 : decode cX5_readOrder 72 = .ok (.iand, 1) := by decide +kernel
theorem dX5_readOrder_73 : decode cX5_readOrder 73 = .ok (.iconst 1, 1) := by decide +kernel
theorem dX5_readOrder_74 : decode cX5_readOrder 74 = .ok (.if_icmp .ne 5, 3) := by decide +kernel
theorem dX5_readOrder_77 : decode cX5_readOrder 77 = .ok (.iconst 0, 1) := by decide +kernel
theorem dX5_readOrder_78 : decode cX5_readOrder 78 = .ok (.ireturn, 1) := by decide +kernel
theorem dX5_readOrder_79 : decode cX5_readOrder 79 = .ok (.iload_n 3, 1) := by decide +kernel
theorem dX5_readOrder_80 : decode cX5_readOrder 80 = .ok (.iconst 1, 1) := by decide +kernel
theorem dX5_readOrder_81 : decode cX5_readOrder 81 = .ok (.iload 5, 2) := by decide +kernel
theorem dX5_readOrder_83 : decode cX5_readOrder 83 = .ok (.ishl, 1) := by decide +kernel
theorem dX5_readOrder_84 : decode cX5_readOrder 84 = .ok (.ior, 1) := by decide +kernel
theorem dX5_readOrder_85 : decode cX5_readOrder 85 = .ok (.istore_n 3, 1) := by decide +kernel
theorem dX5_readOrder_86 : decode cX5_readOrder 86 = .ok (.aload_n 0, 1) := by decide +kernel
theorem dX5_readOrder_87 : decode cX5_readOrder 87 = .ok (.getfield 25, 3) := by decide +kernel
theorem dX5_readOrder_90 : decode cX5_readOrder 90 = .ok (.iload 4, 2) := by decide +kernel
theorem dX5_readOrder_92 : decode cX5_readOrder 92 = .ok (.iload 5, 2) := by decide +kernel
theorem dX5_readOrder_94 : decode cX5_readOrder 94 = .ok (.iastore, 1) := by decide +kernel
theorem dX5_readOrder_95 : decode cX5_readOrder 95 = .ok (.iload_n 2, 1) := by decide +kernel
theorem dX5_readOrder_96 : decode cX5_readOrder 96 = .ok (.bipush 10, 2) := by decide +kernel
theorem dX5_readOrder_98 : decode cX5_readOrder 98 = .ok (.idiv, 1) := by decide +kernel
theorem dX5_readOrder_99 : decode cX5_readOrder 99 = .ok (.istore_n 2, 1) := by decide +kernel
theorem dX5_readOrder_100 : decode cX5_readOrder 100 = .ok (.iinc 4 (-1), 3) := by decide +kernel
theorem dX5_readOrder_103 : decode cX5_readOrder 103 = .ok (.goto (-60), 3) := by decide +kernel
theorem dX5_readOrder_106 : decode cX5_readOrder 106 = .ok (.iload_n 2, 1) := by decide +kernel
theorem dX5_readOrder_107 : decode cX5_readOrder 107 = .ok (.ifCond .ne 7, 3) := by decide +kernel
theorem dX5_readOrder_110 : decode cX5_readOrder 110 = .ok (.iconst 1, 1) := by decide +kernel
theorem dX5_readOrder_111 : decode cX5_readOrder 111 = .ok (.goto 4, 3) := by decide +kernel
theorem dX5_readOrder_114 : decode cX5_readOrder 114 = .ok (.iconst 0, 1) := by decide +kernel
theorem dX5_readOrder_115 : decode cX5_readOrder 115 = .ok (.ireturn, 1) := by decide +kernel
def pX5_readOrder_L43 (s : Int32 × Int32 × Int32 × Mm) : Option ((Int32 × Int32 × Int32 × Mm) ⊕ ((Int32 × Mm) ⊕ (Int32 × Mm))) :=
if s.2.2.1 < 1 then
(some (Sum.inr (Sum.inl (s.1, s.2.2.2))))
else
(bnd (rmi s.1 10) fun v8 =>
if (pX3_isCustomer 1 v8 s.2.2.2) = 0 then
(some (Sum.inr (Sum.inr (0, s.2.2.2))))
else
(if ((s.2.1 >>> (v8 &&& 31)) &&& 1) = 1 then
(some (Sum.inr (Sum.inr (0, s.2.2.2))))
else
(bnd (s.2.1 ||| (1 <<< (v8 &&& 31))) fun v11 =>
(ast s.2.2.2 22 10 s.2.2.1 v8).bind fun M12 =>
bnd (s.1 / 10) fun v14 =>
some (Sum.inl (v14, v11, s.2.2.1 + (-1), M12)))))
def pX5_readOrder (x1 : Int32) (M : Mm) : Option (Int32 × Mm) :=
bnd (mset M 17 6 ((M 1 0) + 1)) fun M1 =>
(ast M1 22 10 0 0).bind fun M3 =>
(ast M3 22 10 (M3 17 6) 0).bind fun M5 =>
bnd (M5 1 0) fun v7 =>
(itr (pX5_readOrder_L43) fuel (x1, 0, v7, M5)).bind fun x15 =>
Sum.elim (fun yx15 =>
if yx15.1 = 0 then
(some (1, yx15.2))
else
(some (0, yx15.2))) (fun r => some r) x15
abbrev zX5_readOrder : Zx := (cX5_readOrder, RX5, 6, 1, (some .boolean))
set_option maxRecDepth 100000 in
set_option maxHeartbeats 4000000 in
theorem tX5_readOrder {l : Launch} {Y : Sx} {M : Mm} {x1 : Int32} {q : Int32 × Mm} (hY : isA Y) (h : pX5_readOrder x1 M = some q) : Ct l Y yX5_readOrder cX5_readOrder 6 (some .boolean) 1 [.ref (adr Y 17), .int x1] M (some q.1) q.2 := by
  refine Ct.of (by decide) rfl (lv := [(0, .ref (adr Y 17)), (1, .int x1)]) rfl ?_
  intro K hkl C
  change Cx K zX5_readOrder Y at C
  subst hkl
  unfold pX5_readOrder at h
  show Wp K zX5_readOrder Y (Qm K Y (some q.1) q.2) M 0 [(0, .ref (adr Y 17)), (1, .int x1)] []
  refine w_iload_n C (pc := 0) dX5_readOrder_0 1 rfl ?_
  refine w_istore_n C (pc := 1) dX5_readOrder_1 (lv' := [(0, .ref (adr Y 17)), (1, .int x1), (2, .int x1)]) rfl rfl rfl ?_
  refine w_iconst C (pc := 2) dX5_readOrder_2 (v := 0) (by decide) ?_
  refine w_istore_n C (pc := 3) dX5_readOrder_3 (lv' := [(0, .ref (adr Y 17)), (1, .int x1), (2, .int x1), (3, .int 0)]) rfl rfl rfl ?_
  refine w_aload_n C (pc := 4) dX5_readOrder_4 0 rfl ?_
  refine w_aload_n C (pc := 5) dX5_readOrder_5 0 rfl ?_
  refine w_getR C (pc := 6) dX5_readOrder_6 f_X5_46 (sA_17 hY) rfl ?_
  refine w_getI C (pc := 9) dX5_readOrder_9 f_X5_50 (sA_1 hY) rfl ?_
  refine w_iconst C (pc := 12) dX5_readOrder_12 (v := 1) (by decide) ?_
  refine w_iadd C (pc := 13) dX5_readOrder_13 ?_
  obtain ⟨M1, e2, h⟩ := bn h
  refine w_putI C (pc := 14) dX5_readOrder_14 fp_X5_56 (sA_17 hY) rfl ?_
  rw [e2]
  refine w_aload_n C (pc := 17) dX5_readOrder_17 0 rfl ?_
  refine w_getR C (pc := 18) dX5_readOrder_18 f_X5_25 (sA_17 hY) rfl ?_
  refine w_iconst C (pc := 21) dX5_readOrder_21 (v := 0) (by decide) ?_
  refine w_iconst C (pc := 22) dX5_readOrder_22 (v := 0) (by decide) ?_
  obtain ⟨M3, e4, h⟩ := ob h
  refine w_iast C (pc := 23) dX5_readOrder_23 (sA_22 hY) e4 ?_
  refine w_aload_n C (pc := 24) dX5_readOrder_24 0 rfl ?_
  refine w_getR C (pc := 25) dX5_readOrder_25 f_X5_25 (sA_17 hY) rfl ?_
  refine w_aload_n C (pc := 28) dX5_readOrder_28 0 rfl ?_
  refine w_getI C (pc := 29) dX5_readOrder_29 f_X5_56 (sA_17 hY) rfl ?_
  refine w_iconst C (pc := 32) dX5_readOrder_32 (v := 0) (by decide) ?_
  obtain ⟨M5, e6, h⟩ := ob h
  refine w_iast C (pc := 33) dX5_readOrder_33 (sA_22 hY) e6 ?_
  refine w_aload_n C (pc := 34) dX5_readOrder_34 0 rfl ?_
  refine w_getR C (pc := 35) dX5_readOrder_35 f_X5_46 (sA_17 hY) rfl ?_
  refine w_getI C (pc := 38) dX5_readOrder_38 f_X5_50 (sA_1 hY) rfl ?_
  refine w_bnd h (fun v7 h => ?_)
  refine w_istore C (pc := 41) dX5_readOrder_41 (lv' := [(0, .ref (adr Y 17)), (1, .int x1), (2, .int x1), (3, .int 0), (4, .int v7)]) rfl rfl rfl ?_
  obtain ⟨x15, e16, h⟩ := ob h
  refine itr_W (P := fun s17 => Wp K zX5_readOrder Y (Qm K Y (some q.1) q.2) s17.2.2.2 43 [(0, .ref (adr Y 17)), (1, .int x1), (2, .int s17.1), (3, .int s17.2.1), (4, .int s17.2.2.1)] []) (R := fun x9 => (∀ yx15, x9 = Sum.inl yx15 → Wp K zX5_readOrder Y (Qm K Y (some q.1) q.2) yx15.2 106 [(0, .ref (adr Y 17)), (1, .int x1), (2, .int yx15.1)] []) ∧ (∀ v9, x9 = Sum.inr v9 → some v9 = some q)) ?_ fuel (x1, 0, v7, M5) x15 e16 ?_
  · intro s17 r18 h21 ki19 kx20
    unfold pX5_readOrder_L43 at h21
    show Wp K zX5_readOrder Y (Qm K Y (some q.1) q.2) s17.2.2.2 43 [(0, .ref (adr Y 17)), (1, .int x1), (2, .int s17.1), (3, .int s17.2.1), (4, .int s17.2.2.1)] []
    refine w_iload C (pc := 43) dX5_readOrder_43 4 rfl ?_
    refine w_iconst C (pc := 45) dX5_readOrder_45 (v := 1) (by decide) ?_
    refine w_iclt C (pc := 46) 106 dX5_readOrder_46 (by decide) (fun c => ?_) (fun c => ?_)
    · have h21 := it_t h21 c
      obtain rfl := Option.some.inj h21
      refine w_lv [0, 1, 2] rfl ?_
      have k9 := (kx20 (Sum.inl (s17.1, s17.2.2.2)) rfl).1 (s17.1, s17.2.2.2) rfl
      try dsimp only at k9
      exact k9
    · have h21 := it_f h21 c
      refine w_iload_n C (pc := 49) dX5_readOrder_49 2 rfl ?_
      refine w_bipush C (pc := 50) dX5_readOrder_50 (v := 10) (by decide) ?_
      refine w_irem C (pc := 52) dX5_readOrder_52 (by decide) ?_
      refine w_bnd h21 (fun v22 h21 => ?_)
      refine w_istore C (pc := 53) dX5_readOrder_53 (lv' := [(0, .ref (adr Y 17)), (1, .int x1), (2, .int s17.1), (3, .int s17.2.1), (4, .int s17.2.2.1), (5, .int v22)]) rfl rfl rfl ?_
      refine w_aload_n C (pc := 55) dX5_readOrder_55 0 rfl ?_
      refine w_getR C (pc := 56) dX5_readOrder_56 f_X5_46 (sA_17 hY) rfl ?_
      refine w_iload C (pc := 59) dX5_readOrder_59 5 rfl ?_
      refine w_cVi C (pc := 61) dX5_readOrder_61 my_X3_isCustomer mi_X3_isCustomer ml_X5_59 (sA_1 hY) rfl rfl rfl [.int v22] rfl rfl (Nat.le_of_ble_eq_true rfl) (tX3_isCustomer (kLand_1 hY) rfl) ?_
      refine w_ifeq C (pc := 64) 77 dX5_readOrder_64 (by decide) (fun c => ?_) (fun c => ?_)
      · have h21 := it_t h21 c
        refine w_iconst C (pc := 77) dX5_readOrder_77 (v := 0) (by decide) ?_
        obtain rfl := Option.some.inj h21
        have h23 := (kx20 (Sum.inr (0, s17.2.2.2)) rfl).2 (0, s17.2.2.2) rfl
        exact w_retz C (pc := 78) dX5_readOrder_78 rfl (by decide) (Option.some.inj h23)
      · have h21 := it_f h21 c
        refine w_iload_n C (pc := 67) dX5_readOrder_67 3 rfl ?_
        refine w_iload C (pc := 68) dX5_readOrder_68 5 rfl ?_
        refine w_ishr C (pc := 70) dX5_readOrder_70 ?_
        refine w_iconst C (pc := 71) dX5_readOrder_71 (v := 1) (by decide) ?_
        refine w_iand C (pc := 72) dX5_readOrder_72 ?_
        refine w_iconst C (pc := 73) dX5_readOrder_73 (v := 1) (by decide) ?_
        refine w_icne C (pc := 74) 79 dX5_readOrder_74 (by decide) (fun c => ?_) (fun c => ?_)
        · have h21 := it_t h21 c
          refine w_iconst C (pc := 77) dX5_readOrder_77 (v := 0) (by decide) ?_
          obtain rfl := Option.some.inj h21
          have h24 := (kx20 (Sum.inr (0, s17.2.2.2)) rfl).2 (0, s17.2.2.2) rfl
          exact w_retz C (pc := 78) dX5_readOrder_78 rfl (by decide) (Option.some.inj h24)
        · have h21 := it_f h21 c
          refine w_iload_n C (pc := 79) dX5_readOrder_79 3 rfl ?_
          refine w_iconst C (pc := 80) dX5_readOrder_80 (v := 1) (by decide) ?_
          refine w_iload C (pc := 81) dX5_readOrder_81 5 rfl ?_
          refine w_ishl C (pc := 83) dX5_readOrder_83 ?_
          refine w_ior C (pc := 84) dX5_readOrder_84 ?_
          refine w_bnd h21 (fun v25 h21 => ?_)
          refine w_istore_n C (pc := 85) dX5_readOrder_85 (lv' := [(0, .ref (adr Y 17)), (1, .int x1), (2, .int s17.1), (3, .int v25), (4, .int s17.2.2.1), (5, .int v22)]) rfl rfl rfl ?_
          refine w_aload_n C (pc := 86) dX5_readOrder_86 0 rfl ?_
          refine w_getR C (pc := 87) dX5_readOrder_87 f_X5_25 (sA_17 hY) rfl ?_
          refine w_iload C (pc := 90) dX5_readOrder_90 4 rfl ?_
          refine w_iload C (pc := 92) dX5_readOrder_92 5 rfl ?_
          obtain ⟨M26, e27, h21⟩ := ob h21
          refine w_iast C (pc := 94) dX5_readOrder_94 (sA_22 hY) e27 ?_
          refine w_iload_n C (pc := 95) dX5_readOrder_95 2 rfl ?_
          refine w_bipush C (pc := 96) dX5_readOrder_96 (v := 10) (by decide) ?_
          refine w_idiv C (pc := 98) dX5_readOrder_98 (by decide) ?_
          refine w_bnd h21 (fun v28 h21 => ?_)
          refine w_istore_n C (pc := 99) dX5_readOrder_99 (lv' := [(0, .ref (adr Y 17)), (1, .int x1), (2, .int v28), (3, .int v25), (4, .int s17.2.2.1), (5, .int v22)]) rfl rfl rfl ?_
          refine w_iinc C (pc := 100) dX5_readOrder_100 4 rfl (v := (-1)) (lv' := [(0, .ref (adr Y 17)), (1, .int x1), (2, .int v28), (3, .int v25), (4, .int (s17.2.2.1 + (-1))), (5, .int v22)]) (by decide) rfl rfl rfl ?_
          refine w_goto C (pc := 103) 43 dX5_readOrder_103 (by decide) ?_
          obtain rfl := Option.some.inj h21
          refine w_lv [0, 1, 2, 3, 4] rfl ?_
          have k9 := ki19 (v28, v25, s17.2.2.1 + (-1), M26) rfl
          try dsimp only at k9
          exact k9
  · refine ⟨fun yx15 hy => ?_, fun v9 hv => ?_⟩
    · subst hy
      dsimp only [Sum.elim] at h
      refine w_iload_n C (pc := 106) dX5_readOrder_106 2 rfl ?_
      refine w_ifne C (pc := 107) 114 dX5_readOrder_107 (by decide) (fun c => ?_) (fun c => ?_)
      · have h := it_t h c
        refine w_iconst C (pc := 110) dX5_readOrder_110 (v := 1) (by decide) ?_
        refine w_goto C (pc := 111) 115 dX5_readOrder_111 (by decide) ?_
        exact w_retz C (pc := 115) dX5_readOrder_115 rfl (by decide) (Option.some.inj h)
      · have h := it_f h c
        refine w_iconst C (pc := 114) dX5_readOrder_114 (v := 0) (by decide) ?_
        exact w_retz C (pc := 115) dX5_readOrder_115 rfl (by decide) (Option.some.inj h)
    · subst hv
      exact h
theorem dX5_search_0 : decode cX5_search 0 = .ok (.aload_n 0, 1) := by decide +kernel
theorem dX5_search_1 : decode cX5_search 1 = .ok (.aload_n 0, 1) := by decide +kernel
theorem dX5_search_2 : decode cX5_search 2 = .ok (.getfield 46, 3) := by decide +kernel
theorem dX5_search_5 : decode cX5_search 5 = .ok (.getfield 50, 3) := by decide +kernel
theorem dX5_search_8 : decode cX5_search 8 = .ok (.iconst 1, 1) := by decide +kernel
theorem dX5_search_9 : decode cX5_search 9 = .ok (.iadd, 1) := by decide +kernel
theorem dX5_search_10 : decode cX5_search 10 = .ok (.putfield 56, 3) := by decide +kernel
theorem dX5_search_13 : decode cX5_search 13 = .ok (.iconst 0, 1) := by decide +kernel
theorem dX5_search_14 : decode cX5_search 14 = .ok (.istore_n 2, 1) := by decide +kernel
theorem dX5_search_15 : decode cX5_search 15 = .ok (.iload_n 2, 1) := by decide +kernel
theorem dX5_search_16 : decode cX5_search 16 = .ok (.aload_n 0, 1) := by decide +kernel
theorem dX5_search_17 : decode cX5_search 17 = .ok (.getfield 56, 3) := by decide +kernel
theorem dX5_search_20 : decode cX5_search 20 = .ok (.if_icmp .ge 16, 3) := by decide +kernel
theorem dX5_search_23 : decode cX5_search 23 = .ok (.aload_n 0, 1) := by decide +kernel
theorem dX5_search_24 : decode cX5_search 24 = .ok (.getfield 25, 3) := by decide +kernel
theorem dX5_search_27 : decode cX5_search 27 = .ok (.iload_n 2, 1) := by decide +kernel
theorem dX5_search_28 : decode cX5_search 28 = .ok (.iload_n 2, 1) := by decide +kernel
theorem dX5_search_29 : decode cX5_search 29 = .ok (.iastore, 1) := by decide +kernel
theorem dX5_search_30 : decode cX5_search 30 = .ok (.iinc 2 1, 3) := by decide +kernel
theorem dX5_search_33 : decode cX5_search 33 = .ok (.goto (-18), 3) := by decide +kernel
theorem dX5_search_36 : decode cX5_search 36 = .ok (.aload_n 0, 1) := by decide +kernel
theorem dX5_search_37 : decode cX5_search 37 = .ok (.getfield 25, 3) := by decide +kernel
theorem dX5_search_40 : decode cX5_search 40 = .ok (.aload_n 0, 1) := by decide +kernel
theorem dX5_search_41 : decode cX5_search 41 = .ok (.getfield 56, 3) := by decide +kernel
theorem dX5_search_44 : decode cX5_search 44 = .ok (.iconst 0, 1) := by decide +kernel
theorem dX5_search_45 : decode cX5_search 45 = .ok (.iastore, 1) := by decide +kernel
theorem dX5_search_46 : decode cX5_search 46 = .ok (.aload_n 0, 1) := by decide +kernel
theorem dX5_search_47 : decode cX5_search 47 = .ok (.iconst 1, 1) := by decide +kernel
theorem dX5_search_48 : decode cX5_search 48 = .ok (.invokevirtual 146, 3) := by decide +kernel
theorem dX5_search_51 : decode cX5_search 51 = .ok (.aload_n 1, 1) := by decide +kernel
theorem dX5_search_52 : decode cX5_search 52 = .ok (.aload_n 0, 1) := by decide +kernel
theorem dX5_search_53 : decode cX5_search 53 = .ok (.invokevirtual 149, 3) := by decide +kernel
theorem dX5_search_56 : decode cX5_search 56 = .ok (.aload_n 0, 1) := by decide +kernel
theorem dX5_search_57 : decode cX5_search 57 = .ok (.invokevirtual 153, 3) := by decide +kernel
theorem dX5_search_60 : decode cX5_search 60 = .ok (.invokevirtual 156, 3) := by decide +kernel
theorem dX5_search_63 : decode cX5_search 63 = .ok (.iconst 1, 1) := by decide +kernel
theorem dX5_search_64 : decode cX5_search 64 = .ok (.istore_n 2, 1) := by decide +kernel
theorem dX5_search_65 : decode cX5_search 65 = .ok (.iload_n 2, 1) := by decide +kernel
theorem dX5_search_66 : decode cX5_search 66 = .ok (.sipush 5040, 3) := by decide +kernel
theorem dX5_search_69 : decode cX5_search 69 = .ok (.if_icmp .ge 48, 3) := by decide +kernel
theorem dX5_search_72 : decode cX5_search 72 = .ok (.aload_n 0, 1) := by decide +kernel
theorem dX5_search_73 : decode cX5_search 73 = .ok (.invokevirtual 161, 3) := by decide +kernel
theorem dX5_search_76 : decode cX5_search 76 = .ok (.istore_n 3, 1) := by decide +kernel
theorem dX5_search_77 : decode cX5_search 77 = .ok (.iload_n 3, 1) := by decide +kernel
theorem dX5_search_78 : decode cX5_search 78 = .ok (.iconst (-1), 1) := by decide +kernel
theorem dX5_search_79 : decode cX5_search 79 = .ok (.if_icmp .ne 4, 3) := by decide +kernel
theorem dX5_search_82 : decode cX5_search 82 = .ok (.return_, 1) := by decide +kernel
theorem dX5_search_83 : decode cX5_search 83 = .ok (.aload_n 0, 1) := by decide +kernel
theorem dX5_search_84 : decode cX5_search 84 = .ok (.iload_n 3, 1) := by decide +kernel
theorem dX5_search_85 : decode cX5_search 85 = .ok (.invokevirtual 146, 3) := by decide +kernel
theorem dX5_search_88 : decode cX5_search 88 = .ok (.aload_n 0, 1) := by decide +kernel
theorem dX5_search_89 : decode cX5_search 89 = .ok (.invokevirtual 149, 3) := by decide +kernel
theorem dX5_search_92 : decode cX5_search 92 = .ok (.aload_n 1, 1) := by decide +kernel
theorem dX5_search_93 : decode cX5_search 93 = .ok (.getfield 164, 3) := by decide +kernel
theorem dX5_search_96 : decode cX5_search 96 = .ok (.if_icmp .ge 15, 3) := by decide +kernel
theorem dX5_search_99 : decode cX5_search 99 = .ok (.aload_n 1, 1) := by decide +kernel
theorem dX5_search_100 : decode cX5_search 100 = .ok (.aload_n 0, 1) := by decide +kernel
theorem dX5_search_101 : decode cX5_search 101 = .ok (.invokevirtual 149, 3) := by decide +kernel
theorem dX5_search_104 : decode cX5_search 104 = .ok (.aload_n 0, 1) := by decide +kernel
theorem dX5_search_105 : decode cX5_search 105 = .ok (.invokevirtual 153, 3) := by decide +kernel
theorem dX5_search_108 : decode cX5_search 108 = .ok (.invokevirtual 156, 3) := by decide +kernel
theorem dX5_search_111 : decode cX5_search 111 = .ok (.iinc 2 1, 3) := by decide +kernel
theorem dX5_search_114 : decode cX5_search 114 = .ok (.goto (-49), 3) := by decide +kernel
theorem dX5_search_117 : decode cX5_search 117 = .ok (.return_, 1) := by decide +kernel
def pX5_search_L15 (f : Nat) (s : Int32 × Mm) : Option ((Int32 × Mm) ⊕ (Mm)) :=
if (s.2 17 6) ≤ s.1 then
(some (Sum.inr s.2))
else
((ast s.2 22 10 s.1 s.1).bind fun M3 =>
some (Sum.inl (s.1 + 1, M3)))
def pX5_search_L65 (f : Nat) (s : Int32 × Mm) : Option ((Int32 × Mm) ⊕ ((Mm) ⊕ (Mm))) :=
if 5040 ≤ s.1 then
(some (Sum.inr (Sum.inl s.2)))
else
((pX5_nextOrder s.2).bind fun v24 =>
bnd (v24.1) fun v26 =>
if v26 = (-1) then
(some (Sum.inr (Sum.inr v24.2)))
else
((pX5_fill v26 v24.2).bind fun v28 =>
(pX5_lastEnd v28).bind fun v30 =>
if (v28 f 1) ≤ v30 then
(some (Sum.inl (s.1 + 1, v28)))
else
((pX5_lastEnd v28).bind fun v32 =>
(pX5_orderNumber v28).bind fun v34 =>
bnd (pX2_keep f v32 v34 v28) fun v36 =>
some (Sum.inl (s.1 + 1, v36)))))
def pX5_search (f : Nat) (M : Mm) : Option (Mm) :=
bnd (mset M 17 6 ((M 1 0) + 1)) fun M1 =>
(itr (pX5_search_L15 f) fuel (0, M1)).bind fun x5 =>
(ast x5 22 10 (x5 17 6) 0).bind fun M14 =>
(pX5_fill 1 M14).bind fun v16 =>
(pX5_lastEnd v16).bind fun v18 =>
(pX5_orderNumber v16).bind fun v20 =>
bnd (pX2_keep f v18 v20 v16) fun v22 =>
(itr (pX5_search_L65 f) fuel (1, v22)).bind fun x38 =>
Sum.elim (fun yx38 =>
some yx38) (fun r => some r) x38
abbrev zX5_search : Zx := (cX5_search, RX5, 4, 5, none)
set_option maxRecDepth 100000 in
set_option maxHeartbeats 4000000 in
theorem tX5_search {l : Launch} {Y : Sx} {M : Mm} {f : Nat} {q : Mm} (hY : isA Y) (h_f : isFound Y f) (h : pX5_search f M = some q) : Ct l Y yX5_search cX5_search 4 none 5 [.ref (adr Y 17), .ref (adr Y f)] M none q := by
  refine Ct.of (by decide) rfl (lv := [(0, .ref (adr Y 17)), (1, .ref (adr Y f))]) rfl ?_
  intro K hkl C
  change Cx K zX5_search Y at C
  subst hkl
  unfold pX5_search at h
  show Wp K zX5_search Y (Qm K Y none q) M 0 [(0, .ref (adr Y 17)), (1, .ref (adr Y f))] []
  refine w_aload_n C (pc := 0) dX5_search_0 0 rfl ?_
  refine w_aload_n C (pc := 1) dX5_search_1 0 rfl ?_
  refine w_getR C (pc := 2) dX5_search_2 f_X5_46 (sA_17 hY) rfl ?_
  refine w_getI C (pc := 5) dX5_search_5 f_X5_50 (sA_1 hY) rfl ?_
  refine w_iconst C (pc := 8) dX5_search_8 (v := 1) (by decide) ?_
  refine w_iadd C (pc := 9) dX5_search_9 ?_
  obtain ⟨M1, e2, h⟩ := bn h
  refine w_putI C (pc := 10) dX5_search_10 fp_X5_56 (sA_17 hY) rfl ?_
  rw [e2]
  refine w_iconst C (pc := 13) dX5_search_13 (v := 0) (by decide) ?_
  refine w_istore_n C (pc := 14) dX5_search_14 (lv' := [(0, .ref (adr Y 17)), (1, .ref (adr Y f)), (2, .int 0)]) rfl rfl rfl ?_
  obtain ⟨x5, e6, h⟩ := ob h
  refine itr_W (P := fun s7 => Wp K zX5_search Y (Qm K Y none q) s7.2 15 [(0, .ref (adr Y 17)), (1, .ref (adr Y f)), (2, .int s7.1)] []) (R := fun x5 => Wp K zX5_search Y (Qm K Y none q) x5 36 [(0, .ref (adr Y 17)), (1, .ref (adr Y f))] []) ?_ fuel (0, M1) x5 e6 ?_
  · intro s7 r8 h11 ki9 kx10
    unfold pX5_search_L15 at h11
    show Wp K zX5_search Y (Qm K Y none q) s7.2 15 [(0, .ref (adr Y 17)), (1, .ref (adr Y f)), (2, .int s7.1)] []
    refine w_iload_n C (pc := 15) dX5_search_15 2 rfl ?_
    refine w_aload_n C (pc := 16) dX5_search_16 0 rfl ?_
    refine w_getI C (pc := 17) dX5_search_17 f_X5_56 (sA_17 hY) rfl ?_
    refine w_icge C (pc := 20) 36 dX5_search_20 (by decide) (fun c => ?_) (fun c => ?_)
    · have h11 := it_t h11 c
      obtain rfl := Option.some.inj h11
      refine w_lv [0, 1] rfl ?_
      have k9 := kx10 s7.2 rfl
      try dsimp only at k9
      exact k9
    · have h11 := it_f h11 c
      refine w_aload_n C (pc := 23) dX5_search_23 0 rfl ?_
      refine w_getR C (pc := 24) dX5_search_24 f_X5_25 (sA_17 hY) rfl ?_
      refine w_iload_n C (pc := 27) dX5_search_27 2 rfl ?_
      refine w_iload_n C (pc := 28) dX5_search_28 2 rfl ?_
      obtain ⟨M12, e13, h11⟩ := ob h11
      refine w_iast C (pc := 29) dX5_search_29 (sA_22 hY) e13 ?_
      refine w_iinc C (pc := 30) dX5_search_30 2 rfl (v := 1) (lv' := [(0, .ref (adr Y 17)), (1, .ref (adr Y f)), (2, .int (s7.1 + 1))]) (by decide) rfl rfl rfl ?_
      refine w_goto C (pc := 33) 15 dX5_search_33 (by decide) ?_
      obtain rfl := Option.some.inj h11
      have k9 := ki9 (s7.1 + 1, M12) rfl
      try dsimp only at k9
      exact k9
  · refine w_aload_n C (pc := 36) dX5_search_36 0 rfl ?_
    refine w_getR C (pc := 37) dX5_search_37 f_X5_25 (sA_17 hY) rfl ?_
    refine w_aload_n C (pc := 40) dX5_search_40 0 rfl ?_
    refine w_getI C (pc := 41) dX5_search_41 f_X5_56 (sA_17 hY) rfl ?_
    refine w_iconst C (pc := 44) dX5_search_44 (v := 0) (by decide) ?_
    obtain ⟨M14, e15, h⟩ := ob h
    refine w_iast C (pc := 45) dX5_search_45 (sA_22 hY) e15 ?_
    refine w_aload_n C (pc := 46) dX5_search_46 0 rfl ?_
    refine w_iconst C (pc := 47) dX5_search_47 (v := 1) (by decide) ?_
    obtain ⟨v16, e17, h⟩ := ob h
    refine w_cVv C (pc := 48) dX5_search_48 my_X5_fill mi_X5_fill ml_X5_146 (sA_17 hY) rfl rfl rfl [.int 1] rfl rfl (Nat.le_of_ble_eq_true rfl) (tX5_fill hY  e17) ?_
    refine w_aload_n C (pc := 51) dX5_search_51 1 rfl ?_
    refine w_aload_n C (pc := 52) dX5_search_52 0 rfl ?_
    obtain ⟨v18, e19, h⟩ := ob h
    refine w_cVi C (pc := 53) dX5_search_53 my_X5_lastEnd mi_X5_lastEnd ml_X5_149 (sA_17 hY) rfl rfl rfl [] rfl rfl (Nat.le_of_ble_eq_true rfl) (tX5_lastEnd hY  e19) ?_
    refine w_aload_n C (pc := 56) dX5_search_56 0 rfl ?_
    obtain ⟨v20, e21, h⟩ := ob h
    refine w_cVi C (pc := 57) dX5_search_57 my_X5_orderNumber mi_X5_orderNumber ml_X5_153 (sA_17 hY) rfl rfl rfl [] rfl rfl (Nat.le_of_ble_eq_true rfl) (tX5_orderNumber hY  e21) ?_
    obtain ⟨v22, e23, h⟩ := bn h
    refine w_cVv C (pc := 60) dX5_search_60 my_X2_keep mi_X2_keep ml_X5_156 h_f rfl rfl rfl [.int v18, .int v20] rfl rfl (Nat.le_of_ble_eq_true rfl) (tX2_keep h_f e23) ?_
    refine w_iconst C (pc := 63) dX5_search_63 (v := 1) (by decide) ?_
    refine w_istore_n C (pc := 64) dX5_search_64 (lv' := [(0, .ref (adr Y 17)), (1, .ref (adr Y f)), (2, .int 1)]) rfl rfl rfl ?_
    obtain ⟨x38, e39, h⟩ := ob h
    refine itr_W (P := fun s40 => Wp K zX5_search Y (Qm K Y none q) s40.2 65 [(0, .ref (adr Y 17)), (1, .ref (adr Y f)), (2, .int s40.1)] []) (R := fun x9 => (∀ yx38, x9 = Sum.inl yx38 → Wp K zX5_search Y (Qm K Y none q) yx38 117 [(0, .ref (adr Y 17)), (1, .ref (adr Y f))] []) ∧ (∀ v9, x9 = Sum.inr v9 → some v9 = some q)) ?_ fuel (1, v22) x38 e39 ?_
    · intro s40 r41 h44 ki42 kx43
      unfold pX5_search_L65 at h44
      show Wp K zX5_search Y (Qm K Y none q) s40.2 65 [(0, .ref (adr Y 17)), (1, .ref (adr Y f)), (2, .int s40.1)] []
      refine w_iload_n C (pc := 65) dX5_search_65 2 rfl ?_
      refine w_sipush C (pc := 66) dX5_search_66 (v := 5040) (by decide) ?_
      refine w_icge C (pc := 69) 117 dX5_search_69 (by decide) (fun c => ?_) (fun c => ?_)
      · have h44 := it_t h44 c
        obtain rfl := Option.some.inj h44
        refine w_lv [0, 1] rfl ?_
        have k9 := (kx43 (Sum.inl s40.2) rfl).1 s40.2 rfl
        try dsimp only at k9
        exact k9
      · have h44 := it_f h44 c
        refine w_aload_n C (pc := 72) dX5_search_72 0 rfl ?_
        obtain ⟨v45, e46, h44⟩ := ob h44
        refine w_cVi C (pc := 73) dX5_search_73 my_X5_nextOrder mi_X5_nextOrder ml_X5_161 (sA_17 hY) rfl rfl rfl [] rfl rfl (Nat.le_of_ble_eq_true rfl) (tX5_nextOrder hY  e46) ?_
        refine w_bnd h44 (fun v47 h44 => ?_)
        refine w_istore_n C (pc := 76) dX5_search_76 (lv' := [(0, .ref (adr Y 17)), (1, .ref (adr Y f)), (2, .int s40.1), (3, .int v47)]) rfl rfl rfl ?_
        refine w_iload_n C (pc := 77) dX5_search_77 3 rfl ?_
        refine w_iconst C (pc := 78) dX5_search_78 (v := (-1)) (by decide) ?_
        refine w_icne C (pc := 79) 83 dX5_search_79 (by decide) (fun c => ?_) (fun c => ?_)
        · have h44 := it_t h44 c
          obtain rfl := Option.some.inj h44
          have h48 := (kx43 (Sum.inr v45.2) rfl).2 v45.2 rfl
          exact w_retV C (pc := 82) dX5_search_82 rfl (Option.some.inj h48)
        · have h44 := it_f h44 c
          refine w_aload_n C (pc := 83) dX5_search_83 0 rfl ?_
          refine w_iload_n C (pc := 84) dX5_search_84 3 rfl ?_
          obtain ⟨v49, e50, h44⟩ := ob h44
          refine w_cVv C (pc := 85) dX5_search_85 my_X5_fill mi_X5_fill ml_X5_146 (sA_17 hY) rfl rfl rfl [.int v47] rfl rfl (Nat.le_of_ble_eq_true rfl) (tX5_fill hY  e50) ?_
          refine w_aload_n C (pc := 88) dX5_search_88 0 rfl ?_
          obtain ⟨v51, e52, h44⟩ := ob h44
          refine w_cVi C (pc := 89) dX5_search_89 my_X5_lastEnd mi_X5_lastEnd ml_X5_149 (sA_17 hY) rfl rfl rfl [] rfl rfl (Nat.le_of_ble_eq_true rfl) (tX5_lastEnd hY  e52) ?_
          refine w_aload_n C (pc := 92) dX5_search_92 1 rfl ?_
          refine w_getI C (pc := 93) dX5_search_93 f_X5_164 h_f rfl ?_
          refine w_icge C (pc := 96) 111 dX5_search_96 (by decide) (fun c => ?_) (fun c => ?_)
          · have h44 := it_t h44 c
            refine w_iinc C (pc := 111) dX5_search_111 2 rfl (v := 1) (lv' := [(0, .ref (adr Y 17)), (1, .ref (adr Y f)), (2, .int (s40.1 + 1)), (3, .int v47)]) (by decide) rfl rfl rfl ?_
            refine w_goto C (pc := 114) 65 dX5_search_114 (by decide) ?_
            obtain rfl := Option.some.inj h44
            refine w_lv [0, 1, 2] rfl ?_
            have k9 := ki42 (s40.1 + 1, v49) rfl
            try dsimp only at k9
            exact k9
          · have h44 := it_f h44 c
            refine w_aload_n C (pc := 99) dX5_search_99 1 rfl ?_
            refine w_aload_n C (pc := 100) dX5_search_100 0 rfl ?_
            obtain ⟨v53, e54, h44⟩ := ob h44
            refine w_cVi C (pc := 101) dX5_search_101 my_X5_lastEnd mi_X5_lastEnd ml_X5_149 (sA_17 hY) rfl rfl rfl [] rfl rfl (Nat.le_of_ble_eq_true rfl) (tX5_lastEnd hY  e54) ?_
            refine w_aload_n C (pc := 104) dX5_search_104 0 rfl ?_
            obtain ⟨v55, e56, h44⟩ := ob h44
            refine w_cVi C (pc := 105) dX5_search_105 my_X5_orderNumber mi_X5_orderNumber ml_X5_153 (sA_17 hY) rfl rfl rfl [] rfl rfl (Nat.le_of_ble_eq_true rfl) (tX5_orderNumber hY  e56) ?_
            obtain ⟨v57, e58, h44⟩ := bn h44
            refine w_cVv C (pc := 108) dX5_search_108 my_X2_keep mi_X2_keep ml_X5_156 h_f rfl rfl rfl [.int v53, .int v55] rfl rfl (Nat.le_of_ble_eq_true rfl) (tX2_keep h_f e58) ?_
            refine w_iinc C (pc := 111) dX5_search_111 2 rfl (v := 1) (lv' := [(0, .ref (adr Y 17)), (1, .ref (adr Y f)), (2, .int (s40.1 + 1)), (3, .int v47)]) (by decide) rfl rfl rfl ?_
            refine w_goto C (pc := 114) 65 dX5_search_114 (by decide) ?_
            obtain rfl := Option.some.inj h44
            refine w_lv [0, 1, 2] rfl ?_
            have k9 := ki42 (s40.1 + 1, v57) rfl
            try dsimp only at k9
            exact k9
    · refine ⟨fun yx38 hy => ?_, fun v9 hv => ?_⟩
      · subst hy
        dsimp only [Sum.elim] at h
        exact w_retV C (pc := 117) dX5_search_117 rfl (Option.some.inj h)
      · subst hv
        exact h
theorem dX5_writeBlock_0 : decode cX5_writeBlock 0 = .ok (.aload_n 1, 1) := by decide +kernel
theorem dX5_writeBlock_1 : decode cX5_writeBlock 1 = .ok (.getfield 182, 3) := by decide +kernel
theorem dX5_writeBlock_4 : decode cX5_writeBlock 4 = .ok (.istore 4, 2) := by decide +kernel
theorem dX5_writeBlock_6 : decode cX5_writeBlock 6 = .ok (.iload_n 2, 1) := by decide +kernel
theorem dX5_writeBlock_7 : decode cX5_writeBlock 7 = .ok (.iconst 1, 1) := by decide +kernel
theorem dX5_writeBlock_8 : decode cX5_writeBlock 8 = .ok (.iadd, 1) := by decide +kernel
theorem dX5_writeBlock_9 : decode cX5_writeBlock 9 = .ok (.istore 5, 2) := by decide +kernel
theorem dX5_writeBlock_11 : decode cX5_writeBlock 11 = .ok (.iload 5, 2) := by decide +kernel
theorem dX5_writeBlock_13 : decode cX5_writeBlock 13 = .ok (.iload_n 3, 1) := by decide +kernel
theorem dX5_writeBlock_14 : decode cX5_writeBlock 14 = .ok (.if_icmp .ge 32, 3) := by decide +kernel
theorem dX5_writeBlock_17 : decode cX5_writeBlock 17 = .ok (.aload_n 0, 1) := by decide +kernel
theorem dX5_writeBlock_18 : decode cX5_writeBlock 18 = .ok (.iload_n 2, 1) := by decide +kernel
theorem dX5_writeBlock_19 : decode cX5_writeBlock 19 = .ok (.iload_n 3, 1) := by decide +kernel
theorem dX5_writeBlock_20 : decode cX5_writeBlock 20 = .ok (.iload 5, 2) := by decide +kernel
theorem dX5_writeBlock_22 : decode cX5_writeBlock 22 = .ok (.invokevirtual 185, 3) := by decide +kernel
theorem dX5_writeBlock_25 : decode cX5_writeBlock 25 = .ok (.ifCond .ne 15, 3) := by decide +kernel
theorem dX5_writeBlock_28 : decode cX5_writeBlock 28 = .ok (.aload_n 1, 1) := by decide +kernel
theorem dX5_writeBlock_29 : decode cX5_writeBlock 29 = .ok (.aload_n 0, 1) := by decide +kernel
theorem dX5_writeBlock_30 : decode cX5_writeBlock 30 = .ok (.getfield 25, 3) := by decide +kernel
theorem dX5_writeBlock_33 : decode cX5_writeBlock 33 = .ok (.iload 5, 2) := by decide +kernel
theorem dX5_writeBlock_35 : decode cX5_writeBlock 35 = .ok (.iaload, 1) := by decide +kernel
theorem dX5_writeBlock_36 : decode cX5_writeBlock 36 = .ok (.invokevirtual 188, 3) := by decide +kernel
theorem dX5_writeBlock_39 : decode cX5_writeBlock 39 = .ok (.pop, 1) := by decide +kernel
theorem dX5_writeBlock_40 : decode cX5_writeBlock 40 = .ok (.iinc 5 1, 3) := by decide +kernel
theorem dX5_writeBlock_43 : decode cX5_writeBlock 43 = .ok (.goto (-32), 3) := by decide +kernel
theorem dX5_writeBlock_46 : decode cX5_writeBlock 46 = .ok (.aload_n 1, 1) := by decide +kernel
theorem dX5_writeBlock_47 : decode cX5_writeBlock 47 = .ok (.getfield 182, 3) := by decide +kernel
theorem dX5_writeBlock_50 : decode cX5_writeBlock 50 = .ok (.iconst 1, 1) := by decide +kernel
theorem dX5_writeBlock_51 : decode cX5_writeBlock 51 = .ok (.iadd, 1) := by decide +kernel
theorem dX5_writeBlock_52 : decode cX5_writeBlock 52 = .ok (.istore 5, 2) := by decide +kernel
theorem dX5_writeBlock_54 : decode cX5_writeBlock 54 = .ok (.iconst 0, 1) := by decide +kernel
theorem dX5_writeBlock_55 : decode cX5_writeBlock 55 = .ok (.istore 6, 2) := by decide +kernel
theorem dX5_writeBlock_57 : decode cX5_writeBlock 57 = .ok (.iload_n 2, 1) := by decide +kernel
theorem dX5_writeBlock_58 : decode cX5_writeBlock 58 = .ok (.iconst 1, 1) := by decide +kernel
theorem dX5_writeBlock_59 : decode cX5_writeBlock 59 = .ok (.iadd, 1) := by decide +kernel
theorem dX5_writeBlock_60 : decode cX5_writeBlock 60 = .ok (.istore 7, 2) := by decide +kernel
theorem dX5_writeBlock_62 : decode cX5_writeBlock 62 = .ok (.iload 7, 2) := by decide +kernel
theorem dX5_writeBlock_64 : decode cX5_writeBlock 64 = .ok (.iload_n 3, 1) := by decide +kernel
theorem dX5_writeBlock_65 : decode cX5_writeBlock 65 = .ok (.if_icmp .ge 41, 3) := by decide +kernel
theorem dX5_writeBlock_68 : decode cX5_writeBlock 68 = .ok (.aload_n 0, 1) := by decide +kernel
theorem dX5_writeBlock_69 : decode cX5_writeBlock 69 = .ok (.iload_n 2, 1) := by decide +kernel
theorem dX5_writeBlock_70 : decode cX5_writeBlock 70 = .ok (.iload_n 3, 1) := by decide +kernel
theorem dX5_writeBlock_71 : decode cX5_writeBlock 71 = .ok (.iload 7, 2) := by decide +kernel
theorem dX5_writeBlock_73 : decode cX5_writeBlock 73 = .ok (.invokevirtual 185, 3) := by decide +kernel
theorem dX5_writeBlock_76 : decode cX5_writeBlock 76 = .ok (.ifCond .eq 24, 3) := by decide +kernel
theorem dX5_writeBlock_79 : decode cX5_writeBlock 79 = .ok (.aload_n 1, 1) := by decide +kernel
theorem dX5_writeBlock_80 : decode cX5_writeBlock 80 = .ok (.iload 6, 2) := by decide +kernel
theorem dX5_writeBlock_82 : decode cX5_writeBlock 82 = .ok (.iload 4, 2) := by decide +kernel
theorem dX5_writeBlock_84 : decode cX5_writeBlock 84 = .ok (.aload_n 0, 1) := by decide +kernel
theorem dX5_writeBlock_85 : decode cX5_writeBlock 85 = .ok (.getfield 25, 3) := by decide +kernel
theorem dX5_writeBlock_88 : decode cX5_writeBlock 88 = .ok (.iload 7, 2) := by decide +kernel
theorem dX5_writeBlock_90 : decode cX5_writeBlock 90 = .ok (.iaload, 1) := by decide +kernel
theorem dX5_writeBlock_91 : decode cX5_writeBlock 91 = .ok (.iload 5, 2) := by decide +kernel
theorem dX5_writeBlock_93 : decode cX5_writeBlock 93 = .ok (.invokevirtual 191, 3) := by decide +kernel
theorem dX5_writeBlock_96 : decode cX5_writeBlock 96 = .ok (.pop, 1) := by decide +kernel
theorem dX5_writeBlock_97 : decode cX5_writeBlock 97 = .ok (.iinc 6 1, 3) := by decide +kernel
theorem dX5_writeBlock_100 : decode cX5_writeBlock 100 = .ok (.iinc 7 1, 3) := by decide +kernel
theorem dX5_writeBlock_103 : decode cX5_writeBlock 103 = .ok (.goto (-41), 3) := by decide +kernel
theorem dX5_writeBlock_106 : decode cX5_writeBlock 106 = .ok (.iload_n 3, 1) := by decide +kernel
theorem dX5_writeBlock_107 : decode cX5_writeBlock 107 = .ok (.aload_n 0, 1) := by decide +kernel
theorem dX5_writeBlock_108 : decode cX5_writeBlock 108 = .ok (.getfield 56, 3) := by decide +kernel
theorem dX5_writeBlock_111 : decode cX5_writeBlock 111 = .ok (.if_icmp .ge 14, 3) := by decide +kernel
theorem dX5_writeBlock_114 : decode cX5_writeBlock 114 = .ok (.aload_n 1, 1) := by decide +kernel
theorem dX5_writeBlock_115 : decode cX5_writeBlock 115 = .ok (.aload_n 0, 1) := by decide +kernel
theorem dX5_writeBlock_116 : decode cX5_writeBlock 116 = .ok (.getfield 25, 3) := by decide +kernel
theorem dX5_writeBlock_119 : decode cX5_writeBlock 119 = .ok (.iload_n 3, 1) := by decide +kernel
theorem dX5_writeBlock_120 : decode cX5_writeBlock 120 = .ok (.iaload, 1) := by decide +kernel
theorem dX5_writeBlock_121 : decode cX5_writeBlock 121 = .ok (.invokevirtual 188, 3) := by decide +kernel
theorem dX5_writeBlock_124 : decode cX5_writeBlock 124 = .ok (.pop, 1) := by decide +kernel
theorem dX5_writeBlock_125 : decode cX5_writeBlock 125 = .ok (.return_, 1) := by decide +kernel
def pX5_writeBlock_L11 (x2 : Int32) (x3 : Int32) (x4 : Int32) (s : Int32 × Mm) : Option ((Int32 × Mm) ⊕ (Mm)) :=
if x3 ≤ s.1 then
(some (Sum.inr s.2))
else
((pX5_isFlown x2 x3 s.1 s.2).bind fun v3 =>
if v3 = 0 then
((ald s.2 22 10 s.1).bind fun v5 =>
(pX4_addStop 4 v5 s.2).bind fun v7 =>
some (Sum.inl (s.1 + 1, v7.2)))
else
(some (Sum.inl (s.1 + 1, s.2))))
def pX5_writeBlock_L62 (x2 : Int32) (x3 : Int32) (x4 : Int32) (x5 : Int32) (s : Int32 × Int32 × Mm) : Option ((Int32 × Int32 × Mm) ⊕ (Mm)) :=
if x3 ≤ s.2.1 then
(some (Sum.inr s.2.2))
else
((pX5_isFlown x2 x3 s.2.1 s.2.2).bind fun v24 =>
if v24 = 0 then
(some (Sum.inl (s.1, s.2.1 + 1, s.2.2)))
else
((ald s.2.2 22 10 s.2.1).bind fun v26 =>
(pX4_addSortie 4 s.1 x4 v26 x5 s.2.2).bind fun v28 =>
some (Sum.inl (s.1 + 1, s.2.1 + 1, v28.2))))
def pX5_writeBlock (x2 : Int32) (x3 : Int32) (M : Mm) : Option (Mm) :=
bnd (M 4 0) fun v1 =>
bnd (x2 + 1) fun v2 =>
(itr (pX5_writeBlock_L11 x2 x3 v1) fuel (v2, M)).bind fun x9 =>
bnd ((x9 4 0) + 1) fun v22 =>
bnd (x2 + 1) fun v23 =>
(itr (pX5_writeBlock_L62 x2 x3 v1 v22) fuel (0, v23, x9)).bind fun x30 =>
if (x30 17 6) ≤ x3 then
(some x30)
else
((ald x30 22 10 x3).bind fun v43 =>
(pX4_addStop 4 v43 x30).bind fun v45 =>
some v45.2)
abbrev zX5_writeBlock : Zx := (cX5_writeBlock, RX5, 8, 2, none)
set_option maxRecDepth 100000 in
set_option maxHeartbeats 4000000 in
theorem tX5_writeBlock {l : Launch} {Y : Sx} {M : Mm} {x2 : Int32} {x3 : Int32} {q : Mm} (hY : isA Y) (h : pX5_writeBlock x2 x3 M = some q) : Ct l Y yX5_writeBlock cX5_writeBlock 8 none 2 [.ref (adr Y 17), .ref (adr Y 4), .int x2, .int x3] M none q := by
  refine Ct.of (by decide) rfl (lv := [(0, .ref (adr Y 17)), (1, .ref (adr Y 4)), (2, .int x2), (3, .int x3)]) rfl ?_
  intro K hkl C
  change Cx K zX5_writeBlock Y at C
  subst hkl
  unfold pX5_writeBlock at h
  show Wp K zX5_writeBlock Y (Qm K Y none q) M 0 [(0, .ref (adr Y 17)), (1, .ref (adr Y 4)), (2, .int x2), (3, .int x3)] []
  refine w_aload_n C (pc := 0) dX5_writeBlock_0 1 rfl ?_
  refine w_getI C (pc := 1) dX5_writeBlock_1 f_X5_182 (sA_4 hY) rfl ?_
  refine w_bnd h (fun v1 h => ?_)
  refine w_istore C (pc := 4) dX5_writeBlock_4 (lv' := [(0, .ref (adr Y 17)), (1, .ref (adr Y 4)), (2, .int x2), (3, .int x3), (4, .int v1)]) rfl rfl rfl ?_
  refine w_iload_n C (pc := 6) dX5_writeBlock_6 2 rfl ?_
  refine w_iconst C (pc := 7) dX5_writeBlock_7 (v := 1) (by decide) ?_
  refine w_iadd C (pc := 8) dX5_writeBlock_8 ?_
  refine w_bnd h (fun v2 h => ?_)
  refine w_istore C (pc := 9) dX5_writeBlock_9 (lv' := [(0, .ref (adr Y 17)), (1, .ref (adr Y 4)), (2, .int x2), (3, .int x3), (4, .int v1), (5, .int v2)]) rfl rfl rfl ?_
  obtain ⟨x9, e10, h⟩ := ob h
  refine itr_W (P := fun s11 => Wp K zX5_writeBlock Y (Qm K Y none q) s11.2 11 [(0, .ref (adr Y 17)), (1, .ref (adr Y 4)), (2, .int x2), (3, .int x3), (4, .int v1), (5, .int s11.1)] []) (R := fun x9 => Wp K zX5_writeBlock Y (Qm K Y none q) x9 46 [(0, .ref (adr Y 17)), (1, .ref (adr Y 4)), (2, .int x2), (3, .int x3), (4, .int v1)] []) ?_ fuel (v2, M) x9 e10 ?_
  · intro s11 r12 h15 ki13 kx14
    unfold pX5_writeBlock_L11 at h15
    show Wp K zX5_writeBlock Y (Qm K Y none q) s11.2 11 [(0, .ref (adr Y 17)), (1, .ref (adr Y 4)), (2, .int x2), (3, .int x3), (4, .int v1), (5, .int s11.1)] []
    refine w_iload C (pc := 11) dX5_writeBlock_11 5 rfl ?_
    refine w_iload_n C (pc := 13) dX5_writeBlock_13 3 rfl ?_
    refine w_icge C (pc := 14) 46 dX5_writeBlock_14 (by decide) (fun c => ?_) (fun c => ?_)
    · have h15 := it_t h15 c
      obtain rfl := Option.some.inj h15
      refine w_lv [0, 1, 2, 3, 4] rfl ?_
      have k9 := kx14 s11.2 rfl
      try dsimp only at k9
      exact k9
    · have h15 := it_f h15 c
      refine w_aload_n C (pc := 17) dX5_writeBlock_17 0 rfl ?_
      refine w_iload_n C (pc := 18) dX5_writeBlock_18 2 rfl ?_
      refine w_iload_n C (pc := 19) dX5_writeBlock_19 3 rfl ?_
      refine w_iload C (pc := 20) dX5_writeBlock_20 5 rfl ?_
      obtain ⟨v16, e17, h15⟩ := ob h15
      refine w_cVi C (pc := 22) dX5_writeBlock_22 my_X5_isFlown mi_X5_isFlown ml_X5_185 (sA_17 hY) rfl rfl rfl [.int x2, .int x3, .int s11.1] rfl rfl (Nat.le_of_ble_eq_true rfl) (tX5_isFlown hY  e17) ?_
      refine w_ifne C (pc := 25) 40 dX5_writeBlock_25 (by decide) (fun c => ?_) (fun c => ?_)
      · have h15 := it_t h15 c
        refine w_aload_n C (pc := 28) dX5_writeBlock_28 1 rfl ?_
        refine w_aload_n C (pc := 29) dX5_writeBlock_29 0 rfl ?_
        refine w_getR C (pc := 30) dX5_writeBlock_30 f_X5_25 (sA_17 hY) rfl ?_
        refine w_iload C (pc := 33) dX5_writeBlock_33 5 rfl ?_
        obtain ⟨v18, e19, h15⟩ := ob h15
        refine w_iald C (pc := 35) dX5_writeBlock_35 (sA_22 hY) e19 ?_
        obtain ⟨v20, e21, h15⟩ := ob h15
        refine w_cVi C (pc := 36) dX5_writeBlock_36 my_X4_addStop mi_X4_addStop ml_X5_188 (sA_4 hY) rfl rfl rfl [.int v18] rfl rfl (Nat.le_of_ble_eq_true rfl) (tX4_addStop (kPlan_4 hY) e21) ?_
        refine w_pop C (pc := 39) dX5_writeBlock_39 rfl ?_
        refine w_iinc C (pc := 40) dX5_writeBlock_40 5 rfl (v := 1) (lv' := [(0, .ref (adr Y 17)), (1, .ref (adr Y 4)), (2, .int x2), (3, .int x3), (4, .int v1), (5, .int (s11.1 + 1))]) (by decide) rfl rfl rfl ?_
        refine w_goto C (pc := 43) 11 dX5_writeBlock_43 (by decide) ?_
        obtain rfl := Option.some.inj h15
        have k9 := ki13 (s11.1 + 1, v20.2) rfl
        try dsimp only at k9
        exact k9
      · have h15 := it_f h15 c
        refine w_iinc C (pc := 40) dX5_writeBlock_40 5 rfl (v := 1) (lv' := [(0, .ref (adr Y 17)), (1, .ref (adr Y 4)), (2, .int x2), (3, .int x3), (4, .int v1), (5, .int (s11.1 + 1))]) (by decide) rfl rfl rfl ?_
        refine w_goto C (pc := 43) 11 dX5_writeBlock_43 (by decide) ?_
        obtain rfl := Option.some.inj h15
        have k9 := ki13 (s11.1 + 1, s11.2) rfl
        try dsimp only at k9
        exact k9
  · refine w_aload_n C (pc := 46) dX5_writeBlock_46 1 rfl ?_
    refine w_getI C (pc := 47) dX5_writeBlock_47 f_X5_182 (sA_4 hY) rfl ?_
    refine w_iconst C (pc := 50) dX5_writeBlock_50 (v := 1) (by decide) ?_
    refine w_iadd C (pc := 51) dX5_writeBlock_51 ?_
    refine w_bnd h (fun v22 h => ?_)
    refine w_istore C (pc := 52) dX5_writeBlock_52 (lv' := [(0, .ref (adr Y 17)), (1, .ref (adr Y 4)), (2, .int x2), (3, .int x3), (4, .int v1), (5, .int v22)]) rfl rfl rfl ?_
    refine w_iconst C (pc := 54) dX5_writeBlock_54 (v := 0) (by decide) ?_
    refine w_istore C (pc := 55) dX5_writeBlock_55 (lv' := [(0, .ref (adr Y 17)), (1, .ref (adr Y 4)), (2, .int x2), (3, .int x3), (4, .int v1), (5, .int v22), (6, .int 0)]) rfl rfl rfl ?_
    refine w_iload_n C (pc := 57) dX5_writeBlock_57 2 rfl ?_
    refine w_iconst C (pc := 58) dX5_writeBlock_58 (v := 1) (by decide) ?_
    refine w_iadd C (pc := 59) dX5_writeBlock_59 ?_
    refine w_bnd h (fun v23 h => ?_)
    refine w_istore C (pc := 60) dX5_writeBlock_60 (lv' := [(0, .ref (adr Y 17)), (1, .ref (adr Y 4)), (2, .int x2), (3, .int x3), (4, .int v1), (5, .int v22), (6, .int 0), (7, .int v23)]) rfl rfl rfl ?_
    obtain ⟨x30, e31, h⟩ := ob h
    refine itr_W (P := fun s32 => Wp K zX5_writeBlock Y (Qm K Y none q) s32.2.2 62 [(0, .ref (adr Y 17)), (1, .ref (adr Y 4)), (2, .int x2), (3, .int x3), (4, .int v1), (5, .int v22), (6, .int s32.1), (7, .int s32.2.1)] []) (R := fun x30 => Wp K zX5_writeBlock Y (Qm K Y none q) x30 106 [(0, .ref (adr Y 17)), (1, .ref (adr Y 4)), (2, .int x2), (3, .int x3), (4, .int v1), (5, .int v22)] []) ?_ fuel (0, v23, x9) x30 e31 ?_
    · intro s32 r33 h36 ki34 kx35
      unfold pX5_writeBlock_L62 at h36
      show Wp K zX5_writeBlock Y (Qm K Y none q) s32.2.2 62 [(0, .ref (adr Y 17)), (1, .ref (adr Y 4)), (2, .int x2), (3, .int x3), (4, .int v1), (5, .int v22), (6, .int s32.1), (7, .int s32.2.1)] []
      refine w_iload C (pc := 62) dX5_writeBlock_62 7 rfl ?_
      refine w_iload_n C (pc := 64) dX5_writeBlock_64 3 rfl ?_
      refine w_icge C (pc := 65) 106 dX5_writeBlock_65 (by decide) (fun c => ?_) (fun c => ?_)
      · have h36 := it_t h36 c
        obtain rfl := Option.some.inj h36
        refine w_lv [0, 1, 2, 3, 4, 5] rfl ?_
        have k9 := kx35 s32.2.2 rfl
        try dsimp only at k9
        exact k9
      · have h36 := it_f h36 c
        refine w_aload_n C (pc := 68) dX5_writeBlock_68 0 rfl ?_
        refine w_iload_n C (pc := 69) dX5_writeBlock_69 2 rfl ?_
        refine w_iload_n C (pc := 70) dX5_writeBlock_70 3 rfl ?_
        refine w_iload C (pc := 71) dX5_writeBlock_71 7 rfl ?_
        obtain ⟨v37, e38, h36⟩ := ob h36
        refine w_cVi C (pc := 73) dX5_writeBlock_73 my_X5_isFlown mi_X5_isFlown ml_X5_185 (sA_17 hY) rfl rfl rfl [.int x2, .int x3, .int s32.2.1] rfl rfl (Nat.le_of_ble_eq_true rfl) (tX5_isFlown hY  e38) ?_
        refine w_ifeq C (pc := 76) 100 dX5_writeBlock_76 (by decide) (fun c => ?_) (fun c => ?_)
        · have h36 := it_t h36 c
          refine w_iinc C (pc := 100) dX5_writeBlock_100 7 rfl (v := 1) (lv' := [(0, .ref (adr Y 17)), (1, .ref (adr Y 4)), (2, .int x2), (3, .int x3), (4, .int v1), (5, .int v22), (6, .int s32.1), (7, .int (s32.2.1 + 1))]) (by decide) rfl rfl rfl ?_
          refine w_goto C (pc := 103) 62 dX5_writeBlock_103 (by decide) ?_
          obtain rfl := Option.some.inj h36
          have k9 := ki34 (s32.1, s32.2.1 + 1, s32.2.2) rfl
          try dsimp only at k9
          exact k9
        · have h36 := it_f h36 c
          refine w_aload_n C (pc := 79) dX5_writeBlock_79 1 rfl ?_
          refine w_iload C (pc := 80) dX5_writeBlock_80 6 rfl ?_
          refine w_iload C (pc := 82) dX5_writeBlock_82 4 rfl ?_
          refine w_aload_n C (pc := 84) dX5_writeBlock_84 0 rfl ?_
          refine w_getR C (pc := 85) dX5_writeBlock_85 f_X5_25 (sA_17 hY) rfl ?_
          refine w_iload C (pc := 88) dX5_writeBlock_88 7 rfl ?_
          obtain ⟨v39, e40, h36⟩ := ob h36
          refine w_iald C (pc := 90) dX5_writeBlock_90 (sA_22 hY) e40 ?_
          refine w_iload C (pc := 91) dX5_writeBlock_91 5 rfl ?_
          obtain ⟨v41, e42, h36⟩ := ob h36
          refine w_cVi C (pc := 93) dX5_writeBlock_93 my_X4_addSortie mi_X4_addSortie ml_X5_191 (sA_4 hY) rfl rfl rfl [.int s32.1, .int v1, .int v39, .int v22] rfl rfl (Nat.le_of_ble_eq_true rfl) (tX4_addSortie (kPlan_4 hY) e42) ?_
          refine w_pop C (pc := 96) dX5_writeBlock_96 rfl ?_
          refine w_iinc C (pc := 97) dX5_writeBlock_97 6 rfl (v := 1) (lv' := [(0, .ref (adr Y 17)), (1, .ref (adr Y 4)), (2, .int x2), (3, .int x3), (4, .int v1), (5, .int v22), (6, .int (s32.1 + 1)), (7, .int s32.2.1)]) (by decide) rfl rfl rfl ?_
          refine w_iinc C (pc := 100) dX5_writeBlock_100 7 rfl (v := 1) (lv' := [(0, .ref (adr Y 17)), (1, .ref (adr Y 4)), (2, .int x2), (3, .int x3), (4, .int v1), (5, .int v22), (6, .int (s32.1 + 1)), (7, .int (s32.2.1 + 1))]) (by decide) rfl rfl rfl ?_
          refine w_goto C (pc := 103) 62 dX5_writeBlock_103 (by decide) ?_
          obtain rfl := Option.some.inj h36
          have k9 := ki34 (s32.1 + 1, s32.2.1 + 1, v41.2) rfl
          try dsimp only at k9
          exact k9
    · refine w_iload_n C (pc := 106) dX5_writeBlock_106 3 rfl ?_
      refine w_aload_n C (pc := 107) dX5_writeBlock_107 0 rfl ?_
      refine w_getI C (pc := 108) dX5_writeBlock_108 f_X5_56 (sA_17 hY) rfl ?_
      refine w_icge C (pc := 111) 125 dX5_writeBlock_111 (by decide) (fun c => ?_) (fun c => ?_)
      · have h := it_t h c
        exact w_retV C (pc := 125) dX5_writeBlock_125 rfl (Option.some.inj h)
      · have h := it_f h c
        refine w_aload_n C (pc := 114) dX5_writeBlock_114 1 rfl ?_
        refine w_aload_n C (pc := 115) dX5_writeBlock_115 0 rfl ?_
        refine w_getR C (pc := 116) dX5_writeBlock_116 f_X5_25 (sA_17 hY) rfl ?_
        refine w_iload_n C (pc := 119) dX5_writeBlock_119 3 rfl ?_
        obtain ⟨v43, e44, h⟩ := ob h
        refine w_iald C (pc := 120) dX5_writeBlock_120 (sA_22 hY) e44 ?_
        obtain ⟨v45, e46, h⟩ := ob h
        refine w_cVi C (pc := 121) dX5_writeBlock_121 my_X4_addStop mi_X4_addStop ml_X5_188 (sA_4 hY) rfl rfl rfl [.int v43] rfl rfl (Nat.le_of_ble_eq_true rfl) (tX4_addStop (kPlan_4 hY) e46) ?_
        refine w_pop C (pc := 124) dX5_writeBlock_124 rfl ?_
        exact w_retV C (pc := 125) dX5_writeBlock_125 rfl (Option.some.inj h)
theorem dX5_writePlan_0 : decode cX5_writePlan 0 = .ok (.aload_n 0, 1) := by decide +kernel
theorem dX5_writePlan_1 : decode cX5_writePlan 1 = .ok (.invokevirtual 170, 3) := by decide +kernel
theorem dX5_writePlan_4 : decode cX5_writePlan 4 = .ok (.aload_n 1, 1) := by decide +kernel
theorem dX5_writePlan_5 : decode cX5_writePlan 5 = .ok (.invokevirtual 173, 3) := by decide +kernel
theorem dX5_writePlan_8 : decode cX5_writePlan 8 = .ok (.iconst 0, 1) := by decide +kernel
theorem dX5_writePlan_9 : decode cX5_writePlan 9 = .ok (.istore_n 2, 1) := by decide +kernel
theorem dX5_writePlan_10 : decode cX5_writePlan 10 = .ok (.iload_n 2, 1) := by decide +kernel
theorem dX5_writePlan_11 : decode cX5_writePlan 11 = .ok (.aload_n 0, 1) := by decide +kernel
theorem dX5_writePlan_12 : decode cX5_writePlan 12 = .ok (.getfield 56, 3) := by decide +kernel
theorem dX5_writePlan_15 : decode cX5_writePlan 15 = .ok (.if_icmp .ge 31, 3) := by decide +kernel
theorem dX5_writePlan_18 : decode cX5_writePlan 18 = .ok (.aload_n 0, 1) := by decide +kernel
theorem dX5_writePlan_19 : decode cX5_writePlan 19 = .ok (.getfield 43, 3) := by decide +kernel
theorem dX5_writePlan_22 : decode cX5_writePlan 22 = .ok (.iload_n 2, 1) := by decide +kernel
theorem dX5_writePlan_23 : decode cX5_writePlan 23 = .ok (.iaload, 1) := by decide +kernel
theorem dX5_writePlan_24 : decode cX5_writePlan 24 = .ok (.iconst (-1), 1) := by decide +kernel
theorem dX5_writePlan_25 : decode cX5_writePlan 25 = .ok (.if_icmp .eq 15, 3) := by decide +kernel
theorem dX5_writePlan_28 : decode cX5_writePlan 28 = .ok (.aload_n 0, 1) := by decide +kernel
theorem dX5_writePlan_29 : decode cX5_writePlan 29 = .ok (.aload_n 1, 1) := by decide +kernel
theorem dX5_writePlan_30 : decode cX5_writePlan 30 = .ok (.iload_n 2, 1) := by decide +kernel
theorem dX5_writePlan_31 : decode cX5_writePlan 31 = .ok (.aload_n 0, 1) := by decide +kernel
theorem dX5_writePlan_32 : decode cX5_writePlan 32 = .ok (.getfield 43, 3) := by decide +kernel
theorem dX5_writePlan_35 : decode cX5_writePlan 35 = .ok (.iload_n 2, 1) := by decide +kernel
theorem dX5_writePlan_36 : decode cX5_writePlan 36 = .ok (.iaload, 1) := by decide +kernel
theorem dX5_writePlan_37 : decode cX5_writePlan 37 = .ok (.invokevirtual 178, 3) := by decide +kernel
theorem dX5_writePlan_40 : decode cX5_writePlan 40 = .ok (.iinc 2 1, 3) := by decide +kernel
theorem dX5_writePlan_43 : decode cX5_writePlan 43 = .ok (.goto (-33), 3) := by decide +kernel
theorem dX5_writePlan_46 : decode cX5_writePlan 46 = .ok (.return_, 1) := by decide +kernel
def pX5_writePlan_L10 (s : Int32 × Mm) : Option ((Int32 × Mm) ⊕ (Mm)) :=
if (s.2 17 6) ≤ s.1 then
(some (Sum.inr s.2))
else
((ald s.2 28 10 s.1).bind fun v5 =>
if v5 = (-1) then
(some (Sum.inl (s.1 + 1, s.2)))
else
((ald s.2 28 10 s.1).bind fun v7 =>
(pX5_writeBlock s.1 v7 s.2).bind fun v9 =>
some (Sum.inl (s.1 + 1, v9))))
def pX5_writePlan (M : Mm) : Option (Mm) :=
(pX5_linkBlocks M).bind fun v1 =>
bnd (pX4_empty 4 v1) fun v3 =>
(itr (pX5_writePlan_L10) fuel (0, v3)).bind fun x11 =>
some x11
abbrev zX5_writePlan : Zx := (cX5_writePlan, RX5, 3, 3, none)
set_option maxRecDepth 100000 in
set_option maxHeartbeats 4000000 in
theorem tX5_writePlan {l : Launch} {Y : Sx} {M : Mm} {q : Mm} (hY : isA Y) (h : pX5_writePlan M = some q) : Ct l Y yX5_writePlan cX5_writePlan 3 none 3 [.ref (adr Y 17), .ref (adr Y 4)] M none q := by
  refine Ct.of (by decide) rfl (lv := [(0, .ref (adr Y 17)), (1, .ref (adr Y 4))]) rfl ?_
  intro K hkl C
  change Cx K zX5_writePlan Y at C
  subst hkl
  unfold pX5_writePlan at h
  show Wp K zX5_writePlan Y (Qm K Y none q) M 0 [(0, .ref (adr Y 17)), (1, .ref (adr Y 4))] []
  refine w_aload_n C (pc := 0) dX5_writePlan_0 0 rfl ?_
  obtain ⟨v1, e2, h⟩ := ob h
  refine w_cVv C (pc := 1) dX5_writePlan_1 my_X5_linkBlocks mi_X5_linkBlocks ml_X5_170 (sA_17 hY) rfl rfl rfl [] rfl rfl (Nat.le_of_ble_eq_true rfl) (tX5_linkBlocks hY  e2) ?_
  refine w_aload_n C (pc := 4) dX5_writePlan_4 1 rfl ?_
  obtain ⟨v3, e4, h⟩ := bn h
  refine w_cVv C (pc := 5) dX5_writePlan_5 my_X4_empty mi_X4_empty ml_X5_173 (sA_4 hY) rfl rfl rfl [] rfl rfl (Nat.le_of_ble_eq_true rfl) (tX4_empty (kPlan_4 hY) e4) ?_
  refine w_iconst C (pc := 8) dX5_writePlan_8 (v := 0) (by decide) ?_
  refine w_istore_n C (pc := 9) dX5_writePlan_9 (lv' := [(0, .ref (adr Y 17)), (1, .ref (adr Y 4)), (2, .int 0)]) rfl rfl rfl ?_
  obtain ⟨x11, e12, h⟩ := ob h
  refine itr_W (P := fun s13 => Wp K zX5_writePlan Y (Qm K Y none q) s13.2 10 [(0, .ref (adr Y 17)), (1, .ref (adr Y 4)), (2, .int s13.1)] []) (R := fun x11 => Wp K zX5_writePlan Y (Qm K Y none q) x11 46 [(0, .ref (adr Y 17)), (1, .ref (adr Y 4))] []) ?_ fuel (0, v3) x11 e12 ?_
  · intro s13 r14 h17 ki15 kx16
    unfold pX5_writePlan_L10 at h17
    show Wp K zX5_writePlan Y (Qm K Y none q) s13.2 10 [(0, .ref (adr Y 17)), (1, .ref (adr Y 4)), (2, .int s13.1)] []
    refine w_iload_n C (pc := 10) dX5_writePlan_10 2 rfl ?_
    refine w_aload_n C (pc := 11) dX5_writePlan_11 0 rfl ?_
    refine w_getI C (pc := 12) dX5_writePlan_12 f_X5_56 (sA_17 hY) rfl ?_
    refine w_icge C (pc := 15) 46 dX5_writePlan_15 (by decide) (fun c => ?_) (fun c => ?_)
    · have h17 := it_t h17 c
      obtain rfl := Option.some.inj h17
      refine w_lv [0, 1] rfl ?_
      have k9 := kx16 s13.2 rfl
      try dsimp only at k9
      exact k9
    · have h17 := it_f h17 c
      refine w_aload_n C (pc := 18) dX5_writePlan_18 0 rfl ?_
      refine w_getR C (pc := 19) dX5_writePlan_19 f_X5_43 (sA_17 hY) rfl ?_
      refine w_iload_n C (pc := 22) dX5_writePlan_22 2 rfl ?_
      obtain ⟨v18, e19, h17⟩ := ob h17
      refine w_iald C (pc := 23) dX5_writePlan_23 (sA_28 hY) e19 ?_
      refine w_iconst C (pc := 24) dX5_writePlan_24 (v := (-1)) (by decide) ?_
      refine w_iceq C (pc := 25) 40 dX5_writePlan_25 (by decide) (fun c => ?_) (fun c => ?_)
      · have h17 := it_t h17 c
        refine w_iinc C (pc := 40) dX5_writePlan_40 2 rfl (v := 1) (lv' := [(0, .ref (adr Y 17)), (1, .ref (adr Y 4)), (2, .int (s13.1 + 1))]) (by decide) rfl rfl rfl ?_
        refine w_goto C (pc := 43) 10 dX5_writePlan_43 (by decide) ?_
        obtain rfl := Option.some.inj h17
        have k9 := ki15 (s13.1 + 1, s13.2) rfl
        try dsimp only at k9
        exact k9
      · have h17 := it_f h17 c
        refine w_aload_n C (pc := 28) dX5_writePlan_28 0 rfl ?_
        refine w_aload_n C (pc := 29) dX5_writePlan_29 1 rfl ?_
        refine w_iload_n C (pc := 30) dX5_writePlan_30 2 rfl ?_
        refine w_aload_n C (pc := 31) dX5_writePlan_31 0 rfl ?_
        refine w_getR C (pc := 32) dX5_writePlan_32 f_X5_43 (sA_17 hY) rfl ?_
        refine w_iload_n C (pc := 35) dX5_writePlan_35 2 rfl ?_
        obtain ⟨v20, e21, h17⟩ := ob h17
        refine w_iald C (pc := 36) dX5_writePlan_36 (sA_28 hY) e21 ?_
        obtain ⟨v22, e23, h17⟩ := ob h17
        refine w_cVv C (pc := 37) dX5_writePlan_37 my_X5_writeBlock mi_X5_writeBlock ml_X5_178 (sA_17 hY) rfl rfl rfl [.ref (adr Y 4), .int s13.1, .int v20] rfl rfl (Nat.le_of_ble_eq_true rfl) (tX5_writeBlock hY  e23) ?_
        refine w_iinc C (pc := 40) dX5_writePlan_40 2 rfl (v := 1) (lv' := [(0, .ref (adr Y 17)), (1, .ref (adr Y 4)), (2, .int (s13.1 + 1))]) (by decide) rfl rfl rfl ?_
        refine w_goto C (pc := 43) 10 dX5_writePlan_43 (by decide) ?_
        obtain rfl := Option.some.inj h17
        have k9 := ki15 (s13.1 + 1, v22) rfl
        try dsimp only at k9
        exact k9
  · exact w_retV C (pc := 46) dX5_writePlan_46 rfl (Option.some.inj h)
