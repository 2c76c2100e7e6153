theorem dJ6_bitCount_0f7a4_0 : decode cJ6_bitCount_0f7a4 0 = .ok (.iload_n 0, 1) := by decide +kernel
theorem dJ6_bitCount_0f7a4_1 : decode cJ6_bitCount_0f7a4 1 = .ok (.iload_n 0, 1) := by decide +kernel
theorem dJ6_bitCount_0f7a4_2 : decode cJ6_bitCount_0f7a4 2 = .ok (.iconst 1, 1) := by decide +kernel
theorem dJ6_bitCount_0f7a4_3 : decode cJ6_bitCount_0f7a4 3 = .ok (.iushr, 1) := by decide +kernel
theorem dJ6_bitCount_0f7a4_4 : decode cJ6_bitCount_0f7a4 4 = .ok (.ldc_w 265, 3) := by decide +kernel
theorem dJ6_bitCount_0f7a4_7 : decode cJ6_bitCount_0f7a4 7 = .ok (.iand, 1) := by decide +kernel
theorem dJ6_bitCount_0f7a4_8 : decode cJ6_bitCount_0f7a4 8 = .ok (.isub, 1) := by decide +kernel
theorem dJ6_bitCount_0f7a4_9 : decode cJ6_bitCount_0f7a4 9 = .ok (.istore_n 0, 1) := by decide +kernel
theorem dJ6_bitCount_0f7a4_10 : decode cJ6_bitCount_0f7a4 10 = .ok (.iload_n 0, 1) := by decide +kernel
theorem dJ6_bitCount_0f7a4_11 : decode cJ6_bitCount_0f7a4 11 = .ok (.ldc_w 266, 3) := by decide +kernel
theorem dJ6_bitCount_0f7a4_14 : decode cJ6_bitCount_0f7a4 14 = .ok (.iand, 1) := by decide +kernel
theorem dJ6_bitCount_0f7a4_15 : decode cJ6_bitCount_0f7a4 15 = .ok (.iload_n 0, 1) := by decide +kernel
theorem dJ6_bitCount_0f7a4_16 : decode cJ6_bitCount_0f7a4 16 = .ok (.iconst 2, 1) := by decide +kernel
theorem dJ6_bitCount_0f7a4_17 : decode cJ6_bitCount_0f7a4 17 = .ok (.iushr, 1) := by decide +kernel
theorem dJ6_bitCount_0f7a4_18 : decode cJ6_bitCount_0f7a4 18 = .ok (.ldc_w 266, 3) := by decide +kernel
theorem dJ6_bitCount_0f7a4_21 : decode cJ6_bitCount_0f7a4 21 = .ok (.iand, 1) := by decide +kernel
theorem dJ6_bitCount_0f7a4_22 : decode cJ6_bitCount_0f7a4 22 = .ok (.iadd, 1) := by decide +kernel
theorem dJ6_bitCount_0f7a4_23 : decode cJ6_bitCount_0f7a4 23 = .ok (.istore_n 0, 1) := by decide +kernel
theorem dJ6_bitCount_0f7a4_24 : decode cJ6_bitCount_0f7a4 24 = .ok (.iload_n 0, 1) := by decide +kernel
theorem dJ6_bitCount_0f7a4_25 : decode cJ6_bitCount_0f7a4 25 = .ok (.iload_n 0, 1) := by decide +kernel
theorem dJ6_bitCount_0f7a4_26 : decode cJ6_bitCount_0f7a4 26 = .ok (.iconst 4, 1) := by decide +kernel
theorem dJ6_bitCount_0f7a4_27 : decode cJ6_bitCount_0f7a4 27 = .ok (.iushr, 1) := by decide +kernel
theorem dJ6_bitCount_0f7a4_28 : decode cJ6_bitCount_0f7a4 28 = .ok (.iadd, 1) := by decide +kernel
theorem dJ6_bitCount_0f7a4_29 : decode cJ6_bitCount_0f7a4 29 = .ok (.ldc_w 267, 3) := by decide +kernel
theorem dJ6_bitCount_0f7a4_32 : decode cJ6_bitCount_0f7a4 32 = .ok (.iand, 1) := by decide +kernel
theorem dJ6_bitCount_0f7a4_33 : decode cJ6_bitCount_0f7a4 33 = .ok (.istore_n 0, 1) := by decide +kernel
theorem dJ6_bitCount_0f7a4_34 : decode cJ6_bitCount_0f7a4 34 = .ok (.iload_n 0, 1) := by decide +kernel
theorem dJ6_bitCount_0f7a4_35 : decode cJ6_bitCount_0f7a4 35 = .ok (.iload_n 0, 1) := by decide +kernel
theorem dJ6_bitCount_0f7a4_36 : decode cJ6_bitCount_0f7a4 36 = .ok (.bipush 8, 2) := by decide +kernel
theorem dJ6_bitCount_0f7a4_38 : decode cJ6_bitCount_0f7a4 38 = .ok (.iushr, 1) := by decide +kernel
theorem dJ6_bitCount_0f7a4_39 : decode cJ6_bitCount_0f7a4 39 = .ok (.iadd, 1) := by decide +kernel
theorem dJ6_bitCount_0f7a4_40 : decode cJ6_bitCount_0f7a4 40 = .ok (.istore_n 0, 1) := by decide +kernel
theorem dJ6_bitCount_0f7a4_41 : decode cJ6_bitCount_0f7a4 41 = .ok (.iload_n 0, 1) := by decide +kernel
theorem dJ6_bitCount_0f7a4_42 : decode cJ6_bitCount_0f7a4 42 = .ok (.iload_n 0, 1) := by decide +kernel
theorem dJ6_bitCount_0f7a4_43 : decode cJ6_bitCount_0f7a4 43 = .ok (.bipush 16, 2) := by decide +kernel
theorem dJ6_bitCount_0f7a4_45 : decode cJ6_bitCount_0f7a4 45 = .ok (.iushr, 1) := by decide +kernel
theorem dJ6_bitCount_0f7a4_46 : decode cJ6_bitCount_0f7a4 46 = .ok (.iadd, 1) := by decide +kernel
theorem dJ6_bitCount_0f7a4_47 : decode cJ6_bitCount_0f7a4 47 = .ok (.istore_n 0, 1) := by decide +kernel
theorem dJ6_bitCount_0f7a4_48 : decode cJ6_bitCount_0f7a4 48 = .ok (.iload_n 0, 1) := by decide +kernel
theorem dJ6_bitCount_0f7a4_49 : decode cJ6_bitCount_0f7a4 49 = .ok (.bipush 63, 2) := by decide +kernel
theorem dJ6_bitCount_0f7a4_51 : decode cJ6_bitCount_0f7a4 51 = .ok (.iand, 1) := by decide +kernel
theorem dJ6_bitCount_0f7a4_52 : decode cJ6_bitCount_0f7a4 52 = .ok (.ireturn, 1) := by decide +kernel
def pJ6_bitCount_0f7a4 (x0 : Int32) : Int32 :=
bnd (x0 - ((ush x0 1) &&& 1431655765)) fun v1 =>
bnd ((v1 &&& 858993459) + ((ush v1 2) &&& 858993459)) fun v2 =>
bnd ((v2 + (ush v2 4)) &&& 252645135) fun v3 =>
bnd (v3 + (ush v3 8)) fun v4 =>
bnd (v4 + (ush v4 16)) fun v5 =>
v5 &&& 63
abbrev zJ6_bitCount_0f7a4 : Zx := (cJ6_bitCount_0f7a4, RJ6, 1, 0, (some .int))
set_option maxRecDepth 100000 in
set_option maxHeartbeats 4000000 in
theorem tJ6_bitCount_0f7a4 {l : Launch} {Y : Sx} {M : Mm} {x0 : Int32} {q : Int32} (h : pJ6_bitCount_0f7a4 x0 = q) : Ct l Y yJ6_bitCount_0f7a4 cJ6_bitCount_0f7a4 1 (some .int) 0 [.int x0] M (some q) M := by
  refine Ct.of (by decide) rfl (lv := [(0, .int x0)]) rfl ?_
  intro K hkl C
  change Cx K zJ6_bitCount_0f7a4 Y at C
  subst hkl
  unfold pJ6_bitCount_0f7a4 at h
  show Wp K zJ6_bitCount_0f7a4 Y (Qm K Y (some q) M) M 0 [(0, .int x0)] []
  refine w_iload_n C (pc := 0) dJ6_bitCount_0f7a4_0 0 rfl ?_
  refine w_iload_n C (pc := 1) dJ6_bitCount_0f7a4_1 0 rfl ?_
  refine w_iconst C (pc := 2) dJ6_bitCount_0f7a4_2 (v := 1) (by decide) ?_
  refine w_iushr C (pc := 3) dJ6_bitCount_0f7a4_3 ?_
  refine w_ldcw C (pc := 4) dJ6_bitCount_0f7a4_4 k_J6_265 ?_
  refine w_iand C (pc := 7) dJ6_bitCount_0f7a4_7 ?_
  refine w_isub C (pc := 8) dJ6_bitCount_0f7a4_8 ?_
  refine w_bnd h (fun v1 h => ?_)
  refine w_istore_n C (pc := 9) dJ6_bitCount_0f7a4_9 (lv' := [(0, .int v1)]) rfl rfl rfl ?_
  refine w_iload_n C (pc := 10) dJ6_bitCount_0f7a4_10 0 rfl ?_
  refine w_ldcw C (pc := 11) dJ6_bitCount_0f7a4_11 k_J6_266 ?_
  refine w_iand C (pc := 14) dJ6_bitCount_0f7a4_14 ?_
  refine w_iload_n C (pc := 15) dJ6_bitCount_0f7a4_15 0 rfl ?_
  refine w_iconst C (pc := 16) dJ6_bitCount_0f7a4_16 (v := 2) (by decide) ?_
  refine w_iushr C (pc := 17) dJ6_bitCount_0f7a4_17 ?_
  refine w_ldcw C (pc := 18) dJ6_bitCount_0f7a4_18 k_J6_266 ?_
  refine w_iand C (pc := 21) dJ6_bitCount_0f7a4_21 ?_
  refine w_iadd C (pc := 22) dJ6_bitCount_0f7a4_22 ?_
  refine w_bnd h (fun v2 h => ?_)
  refine w_istore_n C (pc := 23) dJ6_bitCount_0f7a4_23 (lv' := [(0, .int v2)]) rfl rfl rfl ?_
  refine w_iload_n C (pc := 24) dJ6_bitCount_0f7a4_24 0 rfl ?_
  refine w_iload_n C (pc := 25) dJ6_bitCount_0f7a4_25 0 rfl ?_
  refine w_iconst C (pc := 26) dJ6_bitCount_0f7a4_26 (v := 4) (by decide) ?_
  refine w_iushr C (pc := 27) dJ6_bitCount_0f7a4_27 ?_
  refine w_iadd C (pc := 28) dJ6_bitCount_0f7a4_28 ?_
  refine w_ldcw C (pc := 29) dJ6_bitCount_0f7a4_29 k_J6_267 ?_
  refine w_iand C (pc := 32) dJ6_bitCount_0f7a4_32 ?_
  refine w_bnd h (fun v3 h => ?_)
  refine w_istore_n C (pc := 33) dJ6_bitCount_0f7a4_33 (lv' := [(0, .int v3)]) rfl rfl rfl ?_
  refine w_iload_n C (pc := 34) dJ6_bitCount_0f7a4_34 0 rfl ?_
  refine w_iload_n C (pc := 35) dJ6_bitCount_0f7a4_35 0 rfl ?_
  refine w_bipush C (pc := 36) dJ6_bitCount_0f7a4_36 (v := 8) (by decide) ?_
  refine w_iushr C (pc := 38) dJ6_bitCount_0f7a4_38 ?_
  refine w_iadd C (pc := 39) dJ6_bitCount_0f7a4_39 ?_
  refine w_bnd h (fun v4 h => ?_)
  refine w_istore_n C (pc := 40) dJ6_bitCount_0f7a4_40 (lv' := [(0, .int v4)]) rfl rfl rfl ?_
  refine w_iload_n C (pc := 41) dJ6_bitCount_0f7a4_41 0 rfl ?_
  refine w_iload_n C (pc := 42) dJ6_bitCount_0f7a4_42 0 rfl ?_
  refine w_bipush C (pc := 43) dJ6_bitCount_0f7a4_43 (v := 16) (by decide) ?_
  refine w_iushr C (pc := 45) dJ6_bitCount_0f7a4_45 ?_
  refine w_iadd C (pc := 46) dJ6_bitCount_0f7a4_46 ?_
  refine w_bnd h (fun v5 h => ?_)
  refine w_istore_n C (pc := 47) dJ6_bitCount_0f7a4_47 (lv' := [(0, .int v5)]) rfl rfl rfl ?_
  refine w_iload_n C (pc := 48) dJ6_bitCount_0f7a4_48 0 rfl ?_
  refine w_bipush C (pc := 49) dJ6_bitCount_0f7a4_49 (v := 63) (by decide) ?_
  refine w_iand C (pc := 51) dJ6_bitCount_0f7a4_51 ?_
  exact w_retR C (pc := 52) dJ6_bitCount_0f7a4_52 rfl h
