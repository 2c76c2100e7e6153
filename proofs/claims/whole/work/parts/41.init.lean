set_option maxRecDepth 20000 in
theorem arc_int : Cond.arrayClass .int ∈ gw := gw_mem (tb1 59 rfl) rfl
set_option maxRecDepth 20000 in
theorem arc_boolean : Cond.arrayClass .boolean ∈ gw := gw_mem (tb1 202 rfl) rfl
set_option maxRecDepth 20000 in
theorem arc_byte : Cond.arrayClass .byte ∈ gw := gw_mem (tb3 28 rfl) rfl
set_option maxRecDepth 20000 in
theorem arc_long : Cond.arrayClass .long ∈ gw := gw_mem (tb6 182 rfl) rfl
set_option maxRecDepth 20000 in
theorem oi_inst : Cond.instanceMethod objectInit ∈ gw := gw_mem (tb1 28 rfl) rfl
set_option maxRecDepth 20000 in
theorem oi_code : Cond.code objectInit ⟨#[0xb1]⟩ 1 none ∈ gw := gw_mem (tb1 29 rfl) rfl
set_option maxRecDepth 20000 in
theorem cl_same : Cond.sameMethod "[I" "java/lang/Object" "clone" "()Ljava/lang/Object;" ∈ gw := gw_mem (tb1 39 rfl) rfl
set_option maxRecDepth 20000 in
theorem cl_nat : Cond.native ⟨"java/lang/Object", "clone", "()Ljava/lang/Object;"⟩ ∈ gw := gw_mem (tb1 40 rfl) rfl
set_option maxRecDepth 20000 in
theorem cl_inst : Cond.instanceMethod ⟨"java/lang/Object", "clone", "()Ljava/lang/Object;"⟩ ∈ gw := gw_mem (tb1 41 rfl) rfl
set_option maxRecDepth 20000 in
theorem cl_sel : Cond.selects "[I" ⟨"[I", "clone", "()Ljava/lang/Object;"⟩ ⟨"java/lang/Object", "clone", "()Ljava/lang/Object;"⟩ ∈ gw := gw_mem (tb1 42 rfl) rfl
theorem dX3_init_0 : decode cX3_init 0 = .ok (.aload_n 0, 1) := by decide +kernel
theorem dX3_init_1 : decode cX3_init 1 = .ok (.invokespecial 3, 3) := by decide +kernel
theorem dX3_init_4 : decode cX3_init 4 = .ok (.aload_n 0, 1) := by decide +kernel
theorem dX3_init_5 : decode cX3_init 5 = .ok (.bipush 45, 2) := by decide +kernel
theorem dX3_init_7 : decode cX3_init 7 = .ok (.newarray .int, 2) := by decide +kernel
theorem dX3_init_9 : decode cX3_init 9 = .ok (.putfield 9, 3) := by decide +kernel
theorem dX3_init_12 : decode cX3_init 12 = .ok (.aload_n 0, 1) := by decide +kernel
theorem dX3_init_13 : decode cX3_init 13 = .ok (.getstatic 15, 3) := by decide +kernel
theorem dX3_init_16 : decode cX3_init 16 = .ok (.invokevirtual 18, 3) := by decide +kernel
theorem dX3_init_19 : decode cX3_init 19 = .ok (.checkcast 19, 3) := by decide +kernel
theorem dX3_init_22 : decode cX3_init 22 = .ok (.putfield 23, 3) := by decide +kernel
theorem dX3_init_25 : decode cX3_init 25 = .ok (.return_, 1) := by decide +kernel
set_option maxRecDepth 20000 in
theorem ff_X3_9 : FF RX3 9 3 1 := ⟨TX3, 3, tyX3, .array .int, rfl, by decide, inWX3, gw_mem (tb1 50 rfl) rfl, tyX3_ok, nmX3, rfl, rfl, by decide +kernel, fun q => ⟨rfl, rfl⟩⟩
set_option maxRecDepth 20000 in
theorem ff_X3_23 : FF RX3 23 3 2 := ⟨TX3, 3, tyX3, .array .int, rfl, by decide, inWX3, gw_mem (tb1 51 rfl) rfl, tyX3_ok, nmX3, rfl, rfl, by decide +kernel, fun q => ⟨rfl, rfl⟩⟩
set_option maxRecDepth 20000 in
theorem oi_X3_3 : Cond.methodLink RX3 3 objectInit ∈ gw := gw_mem (tb1 35 rfl) rfl
set_option maxRecDepth 20000 in
theorem cll_X3 : Cond.methodLink RX3 18 ⟨"[I", "clone", "()Ljava/lang/Object;"⟩ ∈ gw := gw_mem (tb1 38 rfl) rfl
set_option maxRecDepth 20000 in
theorem cc_X3 : Cond.classLink RX3 19 "[I" ∈ gw := gw_mem (tb1 44 rfl) rfl
set_option maxRecDepth 20000 in
theorem iy_X3_init : MY yX3_init cX3_init 1 none 0 := ⟨gw_mem (tb1 34 rfl) rfl, gw_mem (tb1 2 rfl) rfl, by decide +kernel⟩
set_option maxRecDepth 20000 in
theorem ii_X3_init : Cond.instanceMethod yX3_init ∈ gw := gw_mem (tb1 33 rfl) rfl
set_option maxRecDepth 100000 in
set_option maxHeartbeats 4000000 in
theorem nX3_init {l : Launch} (G : Gx) (h0 : Nat) : Cn l G yX3_init cX3_init 1 1 2 55 [.ref h0] h0 (.inr (3, [.int 0, .null, .null])) (fun w1 => ∃ q1 q2 : Nat, w1 = [(h0, .inr (3, [.int 0, .ref q1, .ref q2])), (q1, .inl (G.2.1 .int, 45, .inl fun _ => 0)), (q2, .inl (G.2.1 .int, 10, .inl stF))]) := by
  refine Cn.of (by decide) rfl rfl (lv := [(0, .ref h0)]) rfl ?_
  intro K A hA hkl C
  change Ck K (cX3_init, RX3, 1, rmi0 1 2 55) G A at C
  subst hkl
  change Wi K (cX3_init, RX3, 1, rmi0 1 2 55) G A _ [(h0, .inr (3, [.int 0, .null, .null]))] 0 0 0 _ _
  refine i_aload_n C (pc := 0) dX3_init_0 0 rfl ?_
  refine i_obj C (pc := 1) dX3_init_1 oi_X3_3 oi_inst oi_code ⟨rfl, rfl⟩ ?_
  refine i_aload_n C (pc := 4) dX3_init_4 0 rfl ?_
  refine i_bipush C (pc := 5) dX3_init_5 (v := 45) (by decide) ?_
  refine i_newa C (pc := 7) dX3_init_7 (ty := .int) (N := 45) (t0 := 0) (ws' := fun q => [(h0, .inr (3, [.int 0, .null, .null])), (q, .inl (G.2.1 .int, 45, .inl fun _ => 0))]) rfl arc_int rfl rfl (fun c => Iff.rfl) (by decide) (by decide) (by decide) rfl rfl (fun q => rfl) (fun q1 => ?_)
  refine i_putF C (pc := 9) dX3_init_9 (k := 0) (ws' := [(h0, .inr (3, [.int 0, .ref q1, .null])), (q1, .inl (G.2.1 .int, 45, .inl fun _ => 0))]) ff_X3_9 rfl rfl rfl ?_
  refine i_aload_n C (pc := 12) dX3_init_12 0 rfl ?_
  refine i_gets C (pc := 13) dX3_init_13 (host := "TruckWing") (nw_mem (tb1 36 rfl) rfl) ?_
  refine i_clone C (pc := 16) dX3_init_16 (ws' := fun q => [(h0, .inr (3, [.int 0, .ref q1, .null])), (q1, .inl (G.2.1 .int, 45, .inl fun _ => 0)), (q, .inl (G.2.1 .int, 10, .inl stF))]) cll_X3 cl_same cl_nat cl_inst cl_sel ⟨rfl, rfl⟩ rfl rfl (fun q => rfl) (fun q2 => ?_)
  refine i_cast C (pc := 19) dX3_init_19 cc_X3 (k := 2) rfl ?_
  refine i_putF C (pc := 22) dX3_init_22 (k := 0) (ws' := [(h0, .inr (3, [.int 0, .ref q1, .ref q2])), (q1, .inl (G.2.1 .int, 45, .inl fun _ => 0)), (q2, .inl (G.2.1 .int, 10, .inl stF))]) ff_X3_23 rfl rfl rfl ?_
  exact i_ret C (pc := 25) hA dX3_init_25 rfl rfl ⟨q1, q2, rfl⟩
theorem dX4_init_0 : decode cX4_init 0 = .ok (.aload_n 0, 1) := by decide +kernel
theorem dX4_init_1 : decode cX4_init 1 = .ok (.invokespecial 3, 3) := by decide +kernel
theorem dX4_init_4 : decode cX4_init 4 = .ok (.aload_n 0, 1) := by decide +kernel
theorem dX4_init_5 : decode cX4_init 5 = .ok (.bipush 8, 2) := by decide +kernel
theorem dX4_init_7 : decode cX4_init 7 = .ok (.newarray .int, 2) := by decide +kernel
theorem dX4_init_9 : decode cX4_init 9 = .ok (.putfield 9, 3) := by decide +kernel
theorem dX4_init_12 : decode cX4_init 12 = .ok (.aload_n 0, 1) := by decide +kernel
theorem dX4_init_13 : decode cX4_init 13 = .ok (.bipush 32, 2) := by decide +kernel
theorem dX4_init_15 : decode cX4_init 15 = .ok (.newarray .int, 2) := by decide +kernel
theorem dX4_init_17 : decode cX4_init 17 = .ok (.putfield 15, 3) := by decide +kernel
theorem dX4_init_20 : decode cX4_init 20 = .ok (.return_, 1) := by decide +kernel
set_option maxRecDepth 20000 in
theorem ff_X4_9 : FF RX4 9 4 2 := ⟨TX4, 4, tyX4, .array .int, rfl, by decide, inWX4, gw_mem (tb1 74 rfl) rfl, tyX4_ok, nmX4, rfl, rfl, by decide +kernel, fun q => ⟨rfl, rfl⟩⟩
set_option maxRecDepth 20000 in
theorem ff_X4_15 : FF RX4 15 4 3 := ⟨TX4, 4, tyX4, .array .int, rfl, by decide, inWX4, gw_mem (tb1 75 rfl) rfl, tyX4_ok, nmX4, rfl, rfl, by decide +kernel, fun q => ⟨rfl, rfl⟩⟩
set_option maxRecDepth 20000 in
theorem oi_X4_3 : Cond.methodLink RX4 3 objectInit ∈ gw := gw_mem (tb1 65 rfl) rfl
set_option maxRecDepth 20000 in
theorem iy_X4_init : MY yX4_init cX4_init 1 none 0 := ⟨gw_mem (tb1 64 rfl) rfl, gw_mem (tb1 3 rfl) rfl, by decide +kernel⟩
set_option maxRecDepth 20000 in
theorem ii_X4_init : Cond.instanceMethod yX4_init ∈ gw := gw_mem (tb1 63 rfl) rfl
set_option maxRecDepth 100000 in
set_option maxHeartbeats 4000000 in
theorem nX4_init {l : Launch} (G : Gx) (h0 : Nat) : Cn l G yX4_init cX4_init 1 1 2 40 [.ref h0] h0 (.inr (4, [.int 0, .int 0, .null, .null])) (fun w1 => ∃ q1 q2 : Nat, w1 = [(h0, .inr (4, [.int 0, .int 0, .ref q1, .ref q2])), (q1, .inl (G.2.1 .int, 8, .inl fun _ => 0)), (q2, .inl (G.2.1 .int, 32, .inl fun _ => 0))]) := by
  refine Cn.of (by decide) rfl rfl (lv := [(0, .ref h0)]) rfl ?_
  intro K A hA hkl C
  change Ck K (cX4_init, RX4, 1, rmi0 1 2 40) G A at C
  subst hkl
  change Wi K (cX4_init, RX4, 1, rmi0 1 2 40) G A _ [(h0, .inr (4, [.int 0, .int 0, .null, .null]))] 0 0 0 _ _
  refine i_aload_n C (pc := 0) dX4_init_0 0 rfl ?_
  refine i_obj C (pc := 1) dX4_init_1 oi_X4_3 oi_inst oi_code ⟨rfl, rfl⟩ ?_
  refine i_aload_n C (pc := 4) dX4_init_4 0 rfl ?_
  refine i_bipush C (pc := 5) dX4_init_5 (v := 8) (by decide) ?_
  refine i_newa C (pc := 7) dX4_init_7 (ty := .int) (N := 8) (t0 := 0) (ws' := fun q => [(h0, .inr (4, [.int 0, .int 0, .null, .null])), (q, .inl (G.2.1 .int, 8, .inl fun _ => 0))]) rfl arc_int rfl rfl (fun c => Iff.rfl) (by decide) (by decide) (by decide) rfl rfl (fun q => rfl) (fun q1 => ?_)
  refine i_putF C (pc := 9) dX4_init_9 (k := 0) (ws' := [(h0, .inr (4, [.int 0, .int 0, .ref q1, .null])), (q1, .inl (G.2.1 .int, 8, .inl fun _ => 0))]) ff_X4_9 rfl rfl rfl ?_
  refine i_aload_n C (pc := 12) dX4_init_12 0 rfl ?_
  refine i_bipush C (pc := 13) dX4_init_13 (v := 32) (by decide) ?_
  refine i_newa C (pc := 15) dX4_init_15 (ty := .int) (N := 32) (t0 := 0) (ws' := fun q => [(h0, .inr (4, [.int 0, .int 0, .ref q1, .null])), (q1, .inl (G.2.1 .int, 8, .inl fun _ => 0)), (q, .inl (G.2.1 .int, 32, .inl fun _ => 0))]) rfl arc_int rfl rfl (fun c => Iff.rfl) (by decide) (by decide) (by decide) rfl rfl (fun q => rfl) (fun q2 => ?_)
  refine i_putF C (pc := 17) dX4_init_17 (k := 0) (ws' := [(h0, .inr (4, [.int 0, .int 0, .ref q1, .ref q2])), (q1, .inl (G.2.1 .int, 8, .inl fun _ => 0)), (q2, .inl (G.2.1 .int, 32, .inl fun _ => 0))]) ff_X4_15 rfl rfl rfl ?_
  exact i_ret C (pc := 20) hA dX4_init_20 rfl rfl ⟨q1, q2, rfl⟩
theorem dX1_init_0 : decode cX1_init 0 = .ok (.aload_n 0, 1) := by decide +kernel
theorem dX1_init_1 : decode cX1_init 1 = .ok (.invokespecial 3, 3) := by decide +kernel
theorem dX1_init_4 : decode cX1_init 4 = .ok (.aload_n 0, 1) := by decide +kernel
theorem dX1_init_5 : decode cX1_init 5 = .ok (.bipush 26, 2) := by decide +kernel
theorem dX1_init_7 : decode cX1_init 7 = .ok (.newarray .int, 2) := by decide +kernel
theorem dX1_init_9 : decode cX1_init 9 = .ok (.putfield 11, 3) := by decide +kernel
theorem dX1_init_12 : decode cX1_init 12 = .ok (.return_, 1) := by decide +kernel
set_option maxRecDepth 20000 in
theorem ff_X1_11 : FF RX1 11 1 1 := ⟨TX1, 2, tyX1, .array .int, rfl, by decide, inWX1, gw_mem (tb1 99 rfl) rfl, tyX1_ok, nmX1, rfl, rfl, by decide +kernel, fun q => ⟨rfl, rfl⟩⟩
set_option maxRecDepth 20000 in
theorem oi_X1_3 : Cond.methodLink RX1 3 objectInit ∈ gw := gw_mem (tb1 96 rfl) rfl
set_option maxRecDepth 20000 in
theorem iy_X1_init : MY yX1_init cX1_init 1 none 0 := ⟨gw_mem (tb1 95 rfl) rfl, gw_mem (tb1 5 rfl) rfl, by decide +kernel⟩
set_option maxRecDepth 20000 in
theorem ii_X1_init : Cond.instanceMethod yX1_init ∈ gw := gw_mem (tb1 94 rfl) rfl
set_option maxRecDepth 100000 in
set_option maxHeartbeats 4000000 in
theorem nX1_init {l : Launch} (G : Gx) (h0 : Nat) : Cn l G yX1_init cX1_init 1 1 1 26 [.ref h0] h0 (.inr (1, [.int 0, .null])) (fun w1 => ∃ q1 : Nat, w1 = [(h0, .inr (1, [.int 0, .ref q1])), (q1, .inl (G.2.1 .int, 26, .inl fun _ => 0))]) := by
  refine Cn.of (by decide) rfl rfl (lv := [(0, .ref h0)]) rfl ?_
  intro K A hA hkl C
  change Ck K (cX1_init, RX1, 1, rmi0 1 1 26) G A at C
  subst hkl
  change Wi K (cX1_init, RX1, 1, rmi0 1 1 26) G A _ [(h0, .inr (1, [.int 0, .null]))] 0 0 0 _ _
  refine i_aload_n C (pc := 0) dX1_init_0 0 rfl ?_
  refine i_obj C (pc := 1) dX1_init_1 oi_X1_3 oi_inst oi_code ⟨rfl, rfl⟩ ?_
  refine i_aload_n C (pc := 4) dX1_init_4 0 rfl ?_
  refine i_bipush C (pc := 5) dX1_init_5 (v := 26) (by decide) ?_
  refine i_newa C (pc := 7) dX1_init_7 (ty := .int) (N := 26) (t0 := 0) (ws' := fun q => [(h0, .inr (1, [.int 0, .null])), (q, .inl (G.2.1 .int, 26, .inl fun _ => 0))]) rfl arc_int rfl rfl (fun c => Iff.rfl) (by decide) (by decide) (by decide) rfl rfl (fun q => rfl) (fun q1 => ?_)
  refine i_putF C (pc := 9) dX1_init_9 (k := 0) (ws' := [(h0, .inr (1, [.int 0, .ref q1])), (q1, .inl (G.2.1 .int, 26, .inl fun _ => 0))]) ff_X1_11 rfl rfl rfl ?_
  exact i_ret C (pc := 12) hA dX1_init_12 rfl rfl ⟨q1, rfl⟩
theorem dX0_init_0 : decode cX0_init 0 = .ok (.aload_n 0, 1) := by decide +kernel
theorem dX0_init_1 : decode cX0_init 1 = .ok (.invokespecial 3, 3) := by decide +kernel
theorem dX0_init_4 : decode cX0_init 4 = .ok (.aload_n 0, 1) := by decide +kernel
theorem dX0_init_5 : decode cX0_init 5 = .ok (.new 9, 3) := by decide +kernel
theorem dX0_init_8 : decode cX0_init 8 = .ok (.dup, 1) := by decide +kernel
theorem dX0_init_9 : decode cX0_init 9 = .ok (.invokespecial 11, 3) := by decide +kernel
theorem dX0_init_12 : decode cX0_init 12 = .ok (.putfield 12, 3) := by decide +kernel
theorem dX0_init_15 : decode cX0_init 15 = .ok (.aload_n 0, 1) := by decide +kernel
theorem dX0_init_16 : decode cX0_init 16 = .ok (.bipush 10, 2) := by decide +kernel
theorem dX0_init_18 : decode cX0_init 18 = .ok (.newarray .int, 2) := by decide +kernel
theorem dX0_init_20 : decode cX0_init 20 = .ok (.putfield 18, 3) := by decide +kernel
theorem dX0_init_23 : decode cX0_init 23 = .ok (.aload_n 0, 1) := by decide +kernel
theorem dX0_init_24 : decode cX0_init 24 = .ok (.bipush 10, 2) := by decide +kernel
theorem dX0_init_26 : decode cX0_init 26 = .ok (.newarray .int, 2) := by decide +kernel
theorem dX0_init_28 : decode cX0_init 28 = .ok (.putfield 22, 3) := by decide +kernel
theorem dX0_init_31 : decode cX0_init 31 = .ok (.aload_n 0, 1) := by decide +kernel
theorem dX0_init_32 : decode cX0_init 32 = .ok (.bipush 10, 2) := by decide +kernel
theorem dX0_init_34 : decode cX0_init 34 = .ok (.newarray .int, 2) := by decide +kernel
theorem dX0_init_36 : decode cX0_init 36 = .ok (.putfield 25, 3) := by decide +kernel
theorem dX0_init_39 : decode cX0_init 39 = .ok (.aload_n 0, 1) := by decide +kernel
theorem dX0_init_40 : decode cX0_init 40 = .ok (.bipush 10, 2) := by decide +kernel
theorem dX0_init_42 : decode cX0_init 42 = .ok (.newarray .int, 2) := by decide +kernel
theorem dX0_init_44 : decode cX0_init 44 = .ok (.putfield 28, 3) := by decide +kernel
theorem dX0_init_47 : decode cX0_init 47 = .ok (.aload_n 0, 1) := by decide +kernel
theorem dX0_init_48 : decode cX0_init 48 = .ok (.bipush 8, 2) := by decide +kernel
theorem dX0_init_50 : decode cX0_init 50 = .ok (.newarray .int, 2) := by decide +kernel
theorem dX0_init_52 : decode cX0_init 52 = .ok (.putfield 31, 3) := by decide +kernel
theorem dX0_init_55 : decode cX0_init 55 = .ok (.aload_n 0, 1) := by decide +kernel
theorem dX0_init_56 : decode cX0_init 56 = .ok (.bipush 8, 2) := by decide +kernel
theorem dX0_init_58 : decode cX0_init 58 = .ok (.newarray .int, 2) := by decide +kernel
theorem dX0_init_60 : decode cX0_init 60 = .ok (.putfield 34, 3) := by decide +kernel
theorem dX0_init_63 : decode cX0_init 63 = .ok (.aload_n 0, 1) := by decide +kernel
theorem dX0_init_64 : decode cX0_init 64 = .ok (.bipush 8, 2) := by decide +kernel
theorem dX0_init_66 : decode cX0_init 66 = .ok (.newarray .int, 2) := by decide +kernel
theorem dX0_init_68 : decode cX0_init 68 = .ok (.putfield 37, 3) := by decide +kernel
theorem dX0_init_71 : decode cX0_init 71 = .ok (.aload_n 0, 1) := by decide +kernel
theorem dX0_init_72 : decode cX0_init 72 = .ok (.aload_n 1, 1) := by decide +kernel
theorem dX0_init_73 : decode cX0_init 73 = .ok (.putfield 40, 3) := by decide +kernel
theorem dX0_init_76 : decode cX0_init 76 = .ok (.aload_n 0, 1) := by decide +kernel
theorem dX0_init_77 : decode cX0_init 77 = .ok (.aload_n 2, 1) := by decide +kernel
theorem dX0_init_78 : decode cX0_init 78 = .ok (.putfield 44, 3) := by decide +kernel
theorem dX0_init_81 : decode cX0_init 81 = .ok (.return_, 1) := by decide +kernel
set_option maxRecDepth 20000 in
theorem nc_X0_9 : NC RX0 9 1 [.int 0, .null] := ⟨RX1, TX1, 2, tyX1, rfl, inWX1, tyX1_ok, gw_mem (tb1 91 rfl) rfl, gw_mem (tb1 92 rfl) rfl, gw_mem (tb1 5 rfl) rfl, (by intro j hj; rcases (show j = 0 ∨ j = 1 by omega) with rfl | rfl <;> rfl), rfl⟩
set_option maxRecDepth 20000 in
theorem ff_X0_12 : FF RX0 12 0 2 := ⟨TX0, 11, tyX0, .object "TruckWing$Diary", rfl, by decide, inWX0, gw_mem (tb1 107 rfl) rfl, tyX0_ok, nmX0, rfl, rfl, by decide +kernel, fun q => ⟨rfl, rfl⟩⟩
set_option maxRecDepth 20000 in
theorem ff_X0_18 : FF RX0 18 0 4 := ⟨TX0, 11, tyX0, .array .int, rfl, by decide, inWX0, gw_mem (tb1 111 rfl) rfl, tyX0_ok, nmX0, rfl, rfl, by decide +kernel, fun q => ⟨rfl, rfl⟩⟩
set_option maxRecDepth 20000 in
theorem ff_X0_22 : FF RX0 22 0 5 := ⟨TX0, 11, tyX0, .array .int, rfl, by decide, inWX0, gw_mem (tb1 112 rfl) rfl, tyX0_ok, nmX0, rfl, rfl, by decide +kernel, fun q => ⟨rfl, rfl⟩⟩
set_option maxRecDepth 20000 in
theorem ff_X0_25 : FF RX0 25 0 6 := ⟨TX0, 11, tyX0, .array .int, rfl, by decide, inWX0, gw_mem (tb1 113 rfl) rfl, tyX0_ok, nmX0, rfl, rfl, by decide +kernel, fun q => ⟨rfl, rfl⟩⟩
set_option maxRecDepth 20000 in
theorem ff_X0_28 : FF RX0 28 0 7 := ⟨TX0, 11, tyX0, .array .int, rfl, by decide, inWX0, gw_mem (tb1 114 rfl) rfl, tyX0_ok, nmX0, rfl, rfl, by decide +kernel, fun q => ⟨rfl, rfl⟩⟩
set_option maxRecDepth 20000 in
theorem ff_X0_31 : FF RX0 31 0 8 := ⟨TX0, 11, tyX0, .array .int, rfl, by decide, inWX0, gw_mem (tb1 115 rfl) rfl, tyX0_ok, nmX0, rfl, rfl, by decide +kernel, fun q => ⟨rfl, rfl⟩⟩
set_option maxRecDepth 20000 in
theorem ff_X0_34 : FF RX0 34 0 9 := ⟨TX0, 11, tyX0, .array .int, rfl, by decide, inWX0, gw_mem (tb1 116 rfl) rfl, tyX0_ok, nmX0, rfl, rfl, by decide +kernel, fun q => ⟨rfl, rfl⟩⟩
set_option maxRecDepth 20000 in
theorem ff_X0_37 : FF RX0 37 0 10 := ⟨TX0, 11, tyX0, .array .int, rfl, by decide, inWX0, gw_mem (tb1 117 rfl) rfl, tyX0_ok, nmX0, rfl, rfl, by decide +kernel, fun q => ⟨rfl, rfl⟩⟩
set_option maxRecDepth 20000 in
theorem ff_X0_40 : FF RX0 40 0 0 := ⟨TX0, 11, tyX0, .object "TruckWing$Land", rfl, by decide, inWX0, gw_mem (tb1 105 rfl) rfl, tyX0_ok, nmX0, rfl, rfl, by decide +kernel, fun q => ⟨rfl, rfl⟩⟩
set_option maxRecDepth 20000 in
theorem ff_X0_44 : FF RX0 44 0 1 := ⟨TX0, 11, tyX0, .object "TruckWing$Plan", rfl, by decide, inWX0, gw_mem (tb1 106 rfl) rfl, tyX0_ok, nmX0, rfl, rfl, by decide +kernel, fun q => ⟨rfl, rfl⟩⟩
set_option maxRecDepth 20000 in
theorem oi_X0_3 : Cond.methodLink RX0 3 objectInit ∈ gw := gw_mem (tb1 90 rfl) rfl
set_option maxRecDepth 20000 in
theorem mli_X0_11 : ML RX0 11 yX1_init := Or.inr ⟨"TruckWing", nw_mem (tb1 93 rfl) rfl⟩
set_option maxRecDepth 20000 in
theorem iy_X0_init : MY yX0_init cX0_init 3 none 2 := ⟨gw_mem (tb1 89 rfl) rfl, gw_mem (tb1 4 rfl) rfl, by decide +kernel⟩
set_option maxRecDepth 20000 in
theorem ii_X0_init : Cond.instanceMethod yX0_init ∈ gw := gw_mem (tb1 88 rfl) rfl
set_option maxRecDepth 100000 in
set_option maxHeartbeats 4000000 in
theorem nX0_init {l : Launch} (G : Gx) (h0 : Nat) (a1 : Nat) (a2 : Nat) : Cn l G yX0_init cX0_init 3 2 9 92 [.ref h0, .ref a1, .ref a2] h0 (.inr (0, [.null, .null, .null, .int 0, .null, .null, .null, .null, .null, .null, .null])) (fun w1 => ∃ q1 q2 q3 q4 q5 q6 q7 q8 q9 : Nat, w1 = [(h0, .inr (0, [.ref a1, .ref a2, .ref q1, .int 0, .ref q3, .ref q4, .ref q5, .ref q6, .ref q7, .ref q8, .ref q9])), (q1, .inr (1, [.int 0, .ref q2])), (q2, .inl (G.2.1 .int, 26, .inl fun _ => 0)), (q3, .inl (G.2.1 .int, 10, .inl fun _ => 0)), (q4, .inl (G.2.1 .int, 10, .inl fun _ => 0)), (q5, .inl (G.2.1 .int, 10, .inl fun _ => 0)), (q6, .inl (G.2.1 .int, 10, .inl fun _ => 0)), (q7, .inl (G.2.1 .int, 8, .inl fun _ => 0)), (q8, .inl (G.2.1 .int, 8, .inl fun _ => 0)), (q9, .inl (G.2.1 .int, 8, .inl fun _ => 0))]) := by
  refine Cn.of (by decide) rfl rfl (lv := [(0, .ref h0), (1, .ref a1), (2, .ref a2)]) rfl ?_
  intro K A hA hkl C
  change Ck K (cX0_init, RX0, 3, rmi0 2 9 92) G A at C
  subst hkl
  change Wi K (cX0_init, RX0, 3, rmi0 2 9 92) G A _ [(h0, .inr (0, [.null, .null, .null, .int 0, .null, .null, .null, .null, .null, .null, .null]))] 0 0 0 _ _
  refine i_aload_n C (pc := 0) dX0_init_0 0 rfl ?_
  refine i_obj C (pc := 1) dX0_init_1 oi_X0_3 oi_inst oi_code ⟨rfl, rfl⟩ ?_
  refine i_aload_n C (pc := 4) dX0_init_4 0 rfl ?_
  refine i_new C (pc := 5) dX0_init_5 (ws' := fun q => [(h0, .inr (0, [.null, .null, .null, .int 0, .null, .null, .null, .null, .null, .null, .null])), (q, .inr (1, [.int 0, .null]))]) nc_X0_9 rfl rfl (fun q => rfl) (fun q1 => ?_)
  refine i_dup C (pc := 8) dX0_init_8 rfl ?_
  refine i_call C (pc := 9) dX0_init_9 (wr := [(h0, .inr (0, [.null, .null, .null, .int 0, .null, .null, .null, .null, .null, .null, .null]))]) iy_X1_init ii_X1_init rfl mli_X0_11 rfl ⟨rfl, rfl⟩ rfl rfl [] rfl rfl (Nat.le_of_ble_eq_true rfl) (nX1_init _ _) (fun w1 hp => ?_)
  obtain ⟨q2, rfl⟩ := hp
  change Wi K _ G A _ [(h0, .inr (0, [.null, .null, .null, .int 0, .null, .null, .null, .null, .null, .null, .null])), (q1, .inr (1, [.int 0, .ref q2])), (q2, .inl (G.2.1 .int, 26, .inl fun _ => 0))] _ _ _ _ _
  refine i_putF C (pc := 12) dX0_init_12 (k := 0) (ws' := [(h0, .inr (0, [.null, .null, .ref q1, .int 0, .null, .null, .null, .null, .null, .null, .null])), (q1, .inr (1, [.int 0, .ref q2])), (q2, .inl (G.2.1 .int, 26, .inl fun _ => 0))]) ff_X0_12 rfl rfl rfl ?_
  refine i_aload_n C (pc := 15) dX0_init_15 0 rfl ?_
  refine i_bipush C (pc := 16) dX0_init_16 (v := 10) (by decide) ?_
  refine i_newa C (pc := 18) dX0_init_18 (ty := .int) (N := 10) (t0 := 0) (ws' := fun q => [(h0, .inr (0, [.null, .null, .ref q1, .int 0, .null, .null, .null, .null, .null, .null, .null])), (q1, .inr (1, [.int 0, .ref q2])), (q2, .inl (G.2.1 .int, 26, .inl fun _ => 0)), (q, .inl (G.2.1 .int, 10, .inl fun _ => 0))]) rfl arc_int rfl rfl (fun c => Iff.rfl) (by decide) (by decide) (by decide) rfl rfl (fun q => rfl) (fun q3 => ?_)
  refine i_putF C (pc := 20) dX0_init_20 (k := 0) (ws' := [(h0, .inr (0, [.null, .null, .ref q1, .int 0, .ref q3, .null, .null, .null, .null, .null, .null])), (q1, .inr (1, [.int 0, .ref q2])), (q2, .inl (G.2.1 .int, 26, .inl fun _ => 0)), (q3, .inl (G.2.1 .int, 10, .inl fun _ => 0))]) ff_X0_18 rfl rfl rfl ?_
  refine i_aload_n C (pc := 23) dX0_init_23 0 rfl ?_
  refine i_bipush C (pc := 24) dX0_init_24 (v := 10) (by decide) ?_
  refine i_newa C (pc := 26) dX0_init_26 (ty := .int) (N := 10) (t0 := 0) (ws' := fun q => [(h0, .inr (0, [.null, .null, .ref q1, .int 0, .ref q3, .null, .null, .null, .null, .null, .null])), (q1, .inr (1, [.int 0, .ref q2])), (q2, .inl (G.2.1 .int, 26, .inl fun _ => 0)), (q3, .inl (G.2.1 .int, 10, .inl fun _ => 0)), (q, .inl (G.2.1 .int, 10, .inl fun _ => 0))]) rfl arc_int rfl rfl (fun c => Iff.rfl) (by decide) (by decide) (by decide) rfl rfl (fun q => rfl) (fun q4 => ?_)
  refine i_putF C (pc := 28) dX0_init_28 (k := 0) (ws' := [(h0, .inr (0, [.null, .null, .ref q1, .int 0, .ref q3, .ref q4, .null, .null, .null, .null, .null])), (q1, .inr (1, [.int 0, .ref q2])), (q2, .inl (G.2.1 .int, 26, .inl fun _ => 0)), (q3, .inl (G.2.1 .int, 10, .inl fun _ => 0)), (q4, .inl (G.2.1 .int, 10, .inl fun _ => 0))]) ff_X0_22 rfl rfl rfl ?_
  refine i_aload_n C (pc := 31) dX0_init_31 0 rfl ?_
  refine i_bipush C (pc := 32) dX0_init_32 (v := 10) (by decide) ?_
  refine i_newa C (pc := 34) dX0_init_34 (ty := .int) (N := 10) (t0 := 0) (ws' := fun q => [(h0, .inr (0, [.null, .null, .ref q1, .int 0, .ref q3, .ref q4, .null, .null, .null, .null, .null])), (q1, .inr (1, [.int 0, .ref q2])), (q2, .inl (G.2.1 .int, 26, .inl fun _ => 0)), (q3, .inl (G.2.1 .int, 10, .inl fun _ => 0)), (q4, .inl (G.2.1 .int, 10, .inl fun _ => 0)), (q, .inl (G.2.1 .int, 10, .inl fun _ => 0))]) rfl arc_int rfl rfl (fun c => Iff.rfl) (by decide) (by decide) (by decide) rfl rfl (fun q => rfl) (fun q5 => ?_)
  refine i_putF C (pc := 36) dX0_init_36 (k := 0) (ws' := [(h0, .inr (0, [.null, .null, .ref q1, .int 0, .ref q3, .ref q4, .ref q5, .null, .null, .null, .null])), (q1, .inr (1, [.int 0, .ref q2])), (q2, .inl (G.2.1 .int, 26, .inl fun _ => 0)), (q3, .inl (G.2.1 .int, 10, .inl fun _ => 0)), (q4, .inl (G.2.1 .int, 10, .inl fun _ => 0)), (q5, .inl (G.2.1 .int, 10, .inl fun _ => 0))]) ff_X0_25 rfl rfl rfl ?_
  refine i_aload_n C (pc := 39) dX0_init_39 0 rfl ?_
  refine i_bipush C (pc := 40) dX0_init_40 (v := 10) (by decide) ?_
  refine i_newa C (pc := 42) dX0_init_42 (ty := .int) (N := 10) (t0 := 0) (ws' := fun q => [(h0, .inr (0, [.null, .null, .ref q1, .int 0, .ref q3, .ref q4, .ref q5, .null, .null, .null, .null])), (q1, .inr (1, [.int 0, .ref q2])), (q2, .inl (G.2.1 .int, 26, .inl fun _ => 0)), (q3, .inl (G.2.1 .int, 10, .inl fun _ => 0)), (q4, .inl (G.2.1 .int, 10, .inl fun _ => 0)), (q5, .inl (G.2.1 .int, 10, .inl fun _ => 0)), (q, .inl (G.2.1 .int, 10, .inl fun _ => 0))]) rfl arc_int rfl rfl (fun c => Iff.rfl) (by decide) (by decide) (by decide) rfl rfl (fun q => rfl) (fun q6 => ?_)
  refine i_putF C (pc := 44) dX0_init_44 (k := 0) (ws' := [(h0, .inr (0, [.null, .null, .ref q1, .int 0, .ref q3, .ref q4, .ref q5, .ref q6, .null, .null, .null])), (q1, .inr (1, [.int 0, .ref q2])), (q2, .inl (G.2.1 .int, 26, .inl fun _ => 0)), (q3, .inl (G.2.1 .int, 10, .inl fun _ => 0)), (q4, .inl (G.2.1 .int, 10, .inl fun _ => 0)), (q5, .inl (G.2.1 .int, 10, .inl fun _ => 0)), (q6, .inl (G.2.1 .int, 10, .inl fun _ => 0))]) ff_X0_28 rfl rfl rfl ?_
  refine i_aload_n C (pc := 47) dX0_init_47 0 rfl ?_
  refine i_bipush C (pc := 48) dX0_init_48 (v := 8) (by decide) ?_
  refine i_newa C (pc := 50) dX0_init_50 (ty := .int) (N := 8) (t0 := 0) (ws' := fun q => [(h0, .inr (0, [.null, .null, .ref q1, .int 0, .ref q3, .ref q4, .ref q5, .ref q6, .null, .null, .null])), (q1, .inr (1, [.int 0, .ref q2])), (q2, .inl (G.2.1 .int, 26, .inl fun _ => 0)), (q3, .inl (G.2.1 .int, 10, .inl fun _ => 0)), (q4, .inl (G.2.1 .int, 10, .inl fun _ => 0)), (q5, .inl (G.2.1 .int, 10, .inl fun _ => 0)), (q6, .inl (G.2.1 .int, 10, .inl fun _ => 0)), (q, .inl (G.2.1 .int, 8, .inl fun _ => 0))]) rfl arc_int rfl rfl (fun c => Iff.rfl) (by decide) (by decide) (by decide) rfl rfl (fun q => rfl) (fun q7 => ?_)
  refine i_putF C (pc := 52) dX0_init_52 (k := 0) (ws' := [(h0, .inr (0, [.null, .null, .ref q1, .int 0, .ref q3, .ref q4, .ref q5, .ref q6, .ref q7, .null, .null])), (q1, .inr (1, [.int 0, .ref q2])), (q2, .inl (G.2.1 .int, 26, .inl fun _ => 0)), (q3, .inl (G.2.1 .int, 10, .inl fun _ => 0)), (q4, .inl (G.2.1 .int, 10, .inl fun _ => 0)), (q5, .inl (G.2.1 .int, 10, .inl fun _ => 0)), (q6, .inl (G.2.1 .int, 10, .inl fun _ => 0)), (q7, .inl (G.2.1 .int, 8, .inl fun _ => 0))]) ff_X0_31 rfl rfl rfl ?_
  refine i_aload_n C (pc := 55) dX0_init_55 0 rfl ?_
  refine i_bipush C (pc := 56) dX0_init_56 (v := 8) (by decide) ?_
  refine i_newa C (pc := 58) dX0_init_58 (ty := .int) (N := 8) (t0 := 0) (ws' := fun q => [(h0, .inr (0, [.null, .null, .ref q1, .int 0, .ref q3, .ref q4, .ref q5, .ref q6, .ref q7, .null, .null])), (q1, .inr (1, [.int 0, .ref q2])), (q2, .inl (G.2.1 .int, 26, .inl fun _ => 0)), (q3, .inl (G.2.1 .int, 10, .inl fun _ => 0)), (q4, .inl (G.2.1 .int, 10, .inl fun _ => 0)), (q5, .inl (G.2.1 .int, 10, .inl fun _ => 0)), (q6, .inl (G.2.1 .int, 10, .inl fun _ => 0)), (q7, .inl (G.2.1 .int, 8, .inl fun _ => 0)), (q, .inl (G.2.1 .int, 8, .inl fun _ => 0))]) rfl arc_int rfl rfl (fun c => Iff.rfl) (by decide) (by decide) (by decide) rfl rfl (fun q => rfl) (fun q8 => ?_)
  refine i_putF C (pc := 60) dX0_init_60 (k := 0) (ws' := [(h0, .inr (0, [.null, .null, .ref q1, .int 0, .ref q3, .ref q4, .ref q5, .ref q6, .ref q7, .ref q8, .null])), (q1, .inr (1, [.int 0, .ref q2])), (q2, .inl (G.2.1 .int, 26, .inl fun _ => 0)), (q3, .inl (G.2.1 .int, 10, .inl fun _ => 0)), (q4, .inl (G.2.1 .int, 10, .inl fun _ => 0)), (q5, .inl (G.2.1 .int, 10, .inl fun _ => 0)), (q6, .inl (G.2.1 .int, 10, .inl fun _ => 0)), (q7, .inl (G.2.1 .int, 8, .inl fun _ => 0)), (q8, .inl (G.2.1 .int, 8, .inl fun _ => 0))]) ff_X0_34 rfl rfl rfl ?_
  refine i_aload_n C (pc := 63) dX0_init_63 0 rfl ?_
  refine i_bipush C (pc := 64) dX0_init_64 (v := 8) (by decide) ?_
  refine i_newa C (pc := 66) dX0_init_66 (ty := .int) (N := 8) (t0 := 0) (ws' := fun q => [(h0, .inr (0, [.null, .null, .ref q1, .int 0, .ref q3, .ref q4, .ref q5, .ref q6, .ref q7, .ref q8, .null])), (q1, .inr (1, [.int 0, .ref q2])), (q2, .inl (G.2.1 .int, 26, .inl fun _ => 0)), (q3, .inl (G.2.1 .int, 10, .inl fun _ => 0)), (q4, .inl (G.2.1 .int, 10, .inl fun _ => 0)), (q5, .inl (G.2.1 .int, 10, .inl fun _ => 0)), (q6, .inl (G.2.1 .int, 10, .inl fun _ => 0)), (q7, .inl (G.2.1 .int, 8, .inl fun _ => 0)), (q8, .inl (G.2.1 .int, 8, .inl fun _ => 0)), (q, .inl (G.2.1 .int, 8, .inl fun _ => 0))]) rfl arc_int rfl rfl (fun c => Iff.rfl) (by decide) (by decide) (by decide) rfl rfl (fun q => rfl) (fun q9 => ?_)
  refine i_putF C (pc := 68) dX0_init_68 (k := 0) (ws' := [(h0, .inr (0, [.null, .null, .ref q1, .int 0, .ref q3, .ref q4, .ref q5, .ref q6, .ref q7, .ref q8, .ref q9])), (q1, .inr (1, [.int 0, .ref q2])), (q2, .inl (G.2.1 .int, 26, .inl fun _ => 0)), (q3, .inl (G.2.1 .int, 10, .inl fun _ => 0)), (q4, .inl (G.2.1 .int, 10, .inl fun _ => 0)), (q5, .inl (G.2.1 .int, 10, .inl fun _ => 0)), (q6, .inl (G.2.1 .int, 10, .inl fun _ => 0)), (q7, .inl (G.2.1 .int, 8, .inl fun _ => 0)), (q8, .inl (G.2.1 .int, 8, .inl fun _ => 0)), (q9, .inl (G.2.1 .int, 8, .inl fun _ => 0))]) ff_X0_37 rfl rfl rfl ?_
  refine i_aload_n C (pc := 71) dX0_init_71 0 rfl ?_
  refine i_aload_n C (pc := 72) dX0_init_72 1 rfl ?_
  refine i_putF C (pc := 73) dX0_init_73 (k := 0) (ws' := [(h0, .inr (0, [.ref a1, .null, .ref q1, .int 0, .ref q3, .ref q4, .ref q5, .ref q6, .ref q7, .ref q8, .ref q9])), (q1, .inr (1, [.int 0, .ref q2])), (q2, .inl (G.2.1 .int, 26, .inl fun _ => 0)), (q3, .inl (G.2.1 .int, 10, .inl fun _ => 0)), (q4, .inl (G.2.1 .int, 10, .inl fun _ => 0)), (q5, .inl (G.2.1 .int, 10, .inl fun _ => 0)), (q6, .inl (G.2.1 .int, 10, .inl fun _ => 0)), (q7, .inl (G.2.1 .int, 8, .inl fun _ => 0)), (q8, .inl (G.2.1 .int, 8, .inl fun _ => 0)), (q9, .inl (G.2.1 .int, 8, .inl fun _ => 0))]) ff_X0_40 rfl rfl rfl ?_
  refine i_aload_n C (pc := 76) dX0_init_76 0 rfl ?_
  refine i_aload_n C (pc := 77) dX0_init_77 2 rfl ?_
  refine i_putF C (pc := 78) dX0_init_78 (k := 0) (ws' := [(h0, .inr (0, [.ref a1, .ref a2, .ref q1, .int 0, .ref q3, .ref q4, .ref q5, .ref q6, .ref q7, .ref q8, .ref q9])), (q1, .inr (1, [.int 0, .ref q2])), (q2, .inl (G.2.1 .int, 26, .inl fun _ => 0)), (q3, .inl (G.2.1 .int, 10, .inl fun _ => 0)), (q4, .inl (G.2.1 .int, 10, .inl fun _ => 0)), (q5, .inl (G.2.1 .int, 10, .inl fun _ => 0)), (q6, .inl (G.2.1 .int, 10, .inl fun _ => 0)), (q7, .inl (G.2.1 .int, 8, .inl fun _ => 0)), (q8, .inl (G.2.1 .int, 8, .inl fun _ => 0)), (q9, .inl (G.2.1 .int, 8, .inl fun _ => 0))]) ff_X0_44 rfl rfl rfl ?_
  exact i_ret C (pc := 81) hA dX0_init_81 rfl rfl ⟨q1, q2, q3, q4, q5, q6, q7, q8, q9, rfl⟩
theorem dX5_init_0 : decode cX5_init 0 = .ok (.aload_n 0, 1) := by decide +kernel
theorem dX5_init_1 : decode cX5_init 1 = .ok (.invokespecial 3, 3) := by decide +kernel
theorem dX5_init_4 : decode cX5_init 4 = .ok (.aload_n 0, 1) := by decide +kernel
theorem dX5_init_5 : decode cX5_init 5 = .ok (.bipush 81, 2) := by decide +kernel
theorem dX5_init_7 : decode cX5_init 7 = .ok (.newarray .int, 2) := by decide +kernel
theorem dX5_init_9 : decode cX5_init 9 = .ok (.putfield 9, 3) := by decide +kernel
theorem dX5_init_12 : decode cX5_init 12 = .ok (.aload_n 0, 1) := by decide +kernel
theorem dX5_init_13 : decode cX5_init 13 = .ok (.bipush 81, 2) := by decide +kernel
theorem dX5_init_15 : decode cX5_init 15 = .ok (.newarray .int, 2) := by decide +kernel
theorem dX5_init_17 : decode cX5_init 17 = .ok (.putfield 15, 3) := by decide +kernel
theorem dX5_init_20 : decode cX5_init 20 = .ok (.aload_n 0, 1) := by decide +kernel
theorem dX5_init_21 : decode cX5_init 21 = .ok (.bipush 9, 2) := by decide +kernel
theorem dX5_init_23 : decode cX5_init 23 = .ok (.newarray .int, 2) := by decide +kernel
theorem dX5_init_25 : decode cX5_init 25 = .ok (.putfield 18, 3) := by decide +kernel
theorem dX5_init_28 : decode cX5_init 28 = .ok (.aload_n 0, 1) := by decide +kernel
theorem dX5_init_29 : decode cX5_init 29 = .ok (.bipush 9, 2) := by decide +kernel
theorem dX5_init_31 : decode cX5_init 31 = .ok (.newarray .boolean, 2) := by decide +kernel
theorem dX5_init_33 : decode cX5_init 33 = .ok (.putfield 21, 3) := by decide +kernel
theorem dX5_init_36 : decode cX5_init 36 = .ok (.aload_n 0, 1) := by decide +kernel
theorem dX5_init_37 : decode cX5_init 37 = .ok (.bipush 10, 2) := by decide +kernel
theorem dX5_init_39 : decode cX5_init 39 = .ok (.newarray .int, 2) := by decide +kernel
theorem dX5_init_41 : decode cX5_init 41 = .ok (.putfield 25, 3) := by decide +kernel
theorem dX5_init_44 : decode cX5_init 44 = .ok (.aload_n 0, 1) := by decide +kernel
theorem dX5_init_45 : decode cX5_init 45 = .ok (.bipush 10, 2) := by decide +kernel
theorem dX5_init_47 : decode cX5_init 47 = .ok (.newarray .int, 2) := by decide +kernel
theorem dX5_init_49 : decode cX5_init 49 = .ok (.putfield 28, 3) := by decide +kernel
theorem dX5_init_52 : decode cX5_init 52 = .ok (.aload_n 0, 1) := by decide +kernel
theorem dX5_init_53 : decode cX5_init 53 = .ok (.bipush 10, 2) := by decide +kernel
theorem dX5_init_55 : decode cX5_init 55 = .ok (.newarray .int, 2) := by decide +kernel
theorem dX5_init_57 : decode cX5_init 57 = .ok (.putfield 31, 3) := by decide +kernel
theorem dX5_init_60 : decode cX5_init 60 = .ok (.aload_n 0, 1) := by decide +kernel
theorem dX5_init_61 : decode cX5_init 61 = .ok (.bipush 10, 2) := by decide +kernel
theorem dX5_init_63 : decode cX5_init 63 = .ok (.newarray .int, 2) := by decide +kernel
theorem dX5_init_65 : decode cX5_init 65 = .ok (.putfield 34, 3) := by decide +kernel
theorem dX5_init_68 : decode cX5_init 68 = .ok (.aload_n 0, 1) := by decide +kernel
theorem dX5_init_69 : decode cX5_init 69 = .ok (.bipush 10, 2) := by decide +kernel
theorem dX5_init_71 : decode cX5_init 71 = .ok (.newarray .int, 2) := by decide +kernel
theorem dX5_init_73 : decode cX5_init 73 = .ok (.putfield 37, 3) := by decide +kernel
theorem dX5_init_76 : decode cX5_init 76 = .ok (.aload_n 0, 1) := by decide +kernel
theorem dX5_init_77 : decode cX5_init 77 = .ok (.bipush 10, 2) := by decide +kernel
theorem dX5_init_79 : decode cX5_init 79 = .ok (.newarray .int, 2) := by decide +kernel
theorem dX5_init_81 : decode cX5_init 81 = .ok (.putfield 40, 3) := by decide +kernel
theorem dX5_init_84 : decode cX5_init 84 = .ok (.aload_n 0, 1) := by decide +kernel
theorem dX5_init_85 : decode cX5_init 85 = .ok (.bipush 10, 2) := by decide +kernel
theorem dX5_init_87 : decode cX5_init 87 = .ok (.newarray .int, 2) := by decide +kernel
theorem dX5_init_89 : decode cX5_init 89 = .ok (.putfield 43, 3) := by decide +kernel
theorem dX5_init_92 : decode cX5_init 92 = .ok (.aload_n 0, 1) := by decide +kernel
theorem dX5_init_93 : decode cX5_init 93 = .ok (.aload_n 1, 1) := by decide +kernel
theorem dX5_init_94 : decode cX5_init 94 = .ok (.putfield 46, 3) := by decide +kernel
theorem dX5_init_97 : decode cX5_init 97 = .ok (.return_, 1) := by decide +kernel
set_option maxRecDepth 20000 in
theorem ff_X5_9 : FF RX5 9 5 7 := ⟨TX5, 18, tyX5, .array .int, rfl, by decide, inWX5, gw_mem (tb1 154 rfl) rfl, tyX5_ok, nmX5, rfl, rfl, by decide +kernel, fun q => ⟨rfl, rfl⟩⟩
set_option maxRecDepth 20000 in
theorem ff_X5_15 : FF RX5 15 5 8 := ⟨TX5, 18, tyX5, .array .int, rfl, by decide, inWX5, gw_mem (tb1 155 rfl) rfl, tyX5_ok, nmX5, rfl, rfl, by decide +kernel, fun q => ⟨rfl, rfl⟩⟩
set_option maxRecDepth 20000 in
theorem ff_X5_18 : FF RX5 18 5 9 := ⟨TX5, 18, tyX5, .array .int, rfl, by decide, inWX5, gw_mem (tb1 156 rfl) rfl, tyX5_ok, nmX5, rfl, rfl, by decide +kernel, fun q => ⟨rfl, rfl⟩⟩
set_option maxRecDepth 20000 in
theorem ff_X5_21 : FF RX5 21 5 10 := ⟨TX5, 18, tyX5, .array .boolean, rfl, by decide, inWX5, gw_mem (tb1 157 rfl) rfl, tyX5_ok, nmX5, rfl, rfl, by decide +kernel, fun q => ⟨rfl, rfl⟩⟩
set_option maxRecDepth 20000 in
theorem ff_X5_25 : FF RX5 25 5 11 := ⟨TX5, 18, tyX5, .array .int, rfl, by decide, inWX5, gw_mem (tb1 158 rfl) rfl, tyX5_ok, nmX5, rfl, rfl, by decide +kernel, fun q => ⟨rfl, rfl⟩⟩
set_option maxRecDepth 20000 in
theorem ff_X5_28 : FF RX5 28 5 12 := ⟨TX5, 18, tyX5, .array .int, rfl, by decide, inWX5, gw_mem (tb1 159 rfl) rfl, tyX5_ok, nmX5, rfl, rfl, by decide +kernel, fun q => ⟨rfl, rfl⟩⟩
set_option maxRecDepth 20000 in
theorem ff_X5_31 : FF RX5 31 5 13 := ⟨TX5, 18, tyX5, .array .int, rfl, by decide, inWX5, gw_mem (tb1 160 rfl) rfl, tyX5_ok, nmX5, rfl, rfl, by decide +kernel, fun q => ⟨rfl, rfl⟩⟩
set_option maxRecDepth 20000 in
theorem ff_X5_34 : FF RX5 34 5 14 := ⟨TX5, 18, tyX5, .array .int, rfl, by decide, inWX5, gw_mem (tb1 161 rfl) rfl, tyX5_ok, nmX5, rfl, rfl, by decide +kernel, fun q => ⟨rfl, rfl⟩⟩
set_option maxRecDepth 20000 in
theorem ff_X5_37 : FF RX5 37 5 15 := ⟨TX5, 18, tyX5, .array .int, rfl, by decide, inWX5, gw_mem (tb1 162 rfl) rfl, tyX5_ok, nmX5, rfl, rfl, by decide +kernel, fun q => ⟨rfl, rfl⟩⟩
set_option maxRecDepth 20000 in
theorem ff_X5_40 : FF RX5 40 5 16 := ⟨TX5, 18, tyX5, .array .int, rfl, by decide, inWX5, gw_mem (tb1 163 rfl) rfl, tyX5_ok, nmX5, rfl, rfl, by decide +kernel, fun q => ⟨rfl, rfl⟩⟩
set_option maxRecDepth 20000 in
theorem ff_X5_43 : FF RX5 43 5 17 := ⟨TX5, 18, tyX5, .array .int, rfl, by decide, inWX5, gw_mem (tb1 164 rfl) rfl, tyX5_ok, nmX5, rfl, rfl, by decide +kernel, fun q => ⟨rfl, rfl⟩⟩
set_option maxRecDepth 20000 in
theorem ff_X5_46 : FF RX5 46 5 0 := ⟨TX5, 18, tyX5, .object "TruckWing$Land", rfl, by decide, inWX5, gw_mem (tb1 147 rfl) rfl, tyX5_ok, nmX5, rfl, rfl, by decide +kernel, fun q => ⟨rfl, rfl⟩⟩
set_option maxRecDepth 20000 in
theorem oi_X5_3 : Cond.methodLink RX5 3 objectInit ∈ gw := gw_mem (tb1 146 rfl) rfl
set_option maxRecDepth 20000 in
theorem iy_X5_init : MY yX5_init cX5_init 2 none 1 := ⟨gw_mem (tb1 145 rfl) rfl, gw_mem (tb1 6 rfl) rfl, by decide +kernel⟩
set_option maxRecDepth 20000 in
theorem ii_X5_init : Cond.instanceMethod yX5_init ∈ gw := gw_mem (tb1 144 rfl) rfl
set_option maxRecDepth 100000 in
set_option maxHeartbeats 4000000 in
theorem nX5_init {l : Launch} (G : Gx) (h0 : Nat) (a1 : Nat) : Cn l G yX5_init cX5_init 2 1 11 250 [.ref h0, .ref a1] h0 (.inr (5, [.null, .int 0, .int 0, .int 0, .int 0, .int 0, .int 0, .null, .null, .null, .null, .null, .null, .null, .null, .null, .null, .null])) (fun w1 => ∃ q1 q2 q3 q4 q5 q6 q7 q8 q9 q10 q11 : Nat, w1 = [(h0, .inr (5, [.ref a1, .int 0, .int 0, .int 0, .int 0, .int 0, .int 0, .ref q1, .ref q2, .ref q3, .ref q4, .ref q5, .ref q6, .ref q7, .ref q8, .ref q9, .ref q10, .ref q11])), (q1, .inl (G.2.1 .int, 81, .inl fun _ => 0)), (q2, .inl (G.2.1 .int, 81, .inl fun _ => 0)), (q3, .inl (G.2.1 .int, 9, .inl fun _ => 0)), (q4, .inl (G.2.1 .boolean, 9, .inl fun _ => 0)), (q5, .inl (G.2.1 .int, 10, .inl fun _ => 0)), (q6, .inl (G.2.1 .int, 10, .inl fun _ => 0)), (q7, .inl (G.2.1 .int, 10, .inl fun _ => 0)), (q8, .inl (G.2.1 .int, 10, .inl fun _ => 0)), (q9, .inl (G.2.1 .int, 10, .inl fun _ => 0)), (q10, .inl (G.2.1 .int, 10, .inl fun _ => 0)), (q11, .inl (G.2.1 .int, 10, .inl fun _ => 0))]) := by
  refine Cn.of (by decide) rfl rfl (lv := [(0, .ref h0), (1, .ref a1)]) rfl ?_
  intro K A hA hkl C
  change Ck K (cX5_init, RX5, 2, rmi0 1 11 250) G A at C
  subst hkl
  change Wi K (cX5_init, RX5, 2, rmi0 1 11 250) G A _ [(h0, .inr (5, [.null, .int 0, .int 0, .int 0, .int 0, .int 0, .int 0, .null, .null, .null, .null, .null, .null, .null, .null, .null, .null, .null]))] 0 0 0 _ _
  refine i_aload_n C (pc := 0) dX5_init_0 0 rfl ?_
  refine i_obj C (pc := 1) dX5_init_1 oi_X5_3 oi_inst oi_code ⟨rfl, rfl⟩ ?_
  refine i_aload_n C (pc := 4) dX5_init_4 0 rfl ?_
  refine i_bipush C (pc := 5) dX5_init_5 (v := 81) (by decide) ?_
  refine i_newa C (pc := 7) dX5_init_7 (ty := .int) (N := 81) (t0 := 0) (ws' := fun q => [(h0, .inr (5, [.null, .int 0, .int 0, .int 0, .int 0, .int 0, .int 0, .null, .null, .null, .null, .null, .null, .null, .null, .null, .null, .null])), (q, .inl (G.2.1 .int, 81, .inl fun _ => 0))]) rfl arc_int rfl rfl (fun c => Iff.rfl) (by decide) (by decide) (by decide) rfl rfl (fun q => rfl) (fun q1 => ?_)
  refine i_putF C (pc := 9) dX5_init_9 (k := 0) (ws' := [(h0, .inr (5, [.null, .int 0, .int 0, .int 0, .int 0, .int 0, .int 0, .ref q1, .null, .null, .null, .null, .null, .null, .null, .null, .null, .null])), (q1, .inl (G.2.1 .int, 81, .inl fun _ => 0))]) ff_X5_9 rfl rfl rfl ?_
  refine i_aload_n C (pc := 12) dX5_init_12 0 rfl ?_
  refine i_bipush C (pc := 13) dX5_init_13 (v := 81) (by decide) ?_
  refine i_newa C (pc := 15) dX5_init_15 (ty := .int) (N := 81) (t0 := 0) (ws' := fun q => [(h0, .inr (5, [.null, .int 0, .int 0, .int 0, .int 0, .int 0, .int 0, .ref q1, .null, .null, .null, .null, .null, .null, .null, .null, .null, .null])), (q1, .inl (G.2.1 .int, 81, .inl fun _ => 0)), (q, .inl (G.2.1 .int, 81, .inl fun _ => 0))]) rfl arc_int rfl rfl (fun c => Iff.rfl) (by decide) (by decide) (by decide) rfl rfl (fun q => rfl) (fun q2 => ?_)
  refine i_putF C (pc := 17) dX5_init_17 (k := 0) (ws' := [(h0, .inr (5, [.null, .int 0, .int 0, .int 0, .int 0, .int 0, .int 0, .ref q1, .ref q2, .null, .null, .null, .null, .null, .null, .null, .null, .null])), (q1, .inl (G.2.1 .int, 81, .inl fun _ => 0)), (q2, .inl (G.2.1 .int, 81, .inl fun _ => 0))]) ff_X5_15 rfl rfl rfl ?_
  refine i_aload_n C (pc := 20) dX5_init_20 0 rfl ?_
  refine i_bipush C (pc := 21) dX5_init_21 (v := 9) (by decide) ?_
  refine i_newa C (pc := 23) dX5_init_23 (ty := .int) (N := 9) (t0 := 0) (ws' := fun q => [(h0, .inr (5, [.null, .int 0, .int 0, .int 0, .int 0, .int 0, .int 0, .ref q1, .ref q2, .null, .null, .null, .null, .null, .null, .null, .null, .null])), (q1, .inl (G.2.1 .int, 81, .inl fun _ => 0)), (q2, .inl (G.2.1 .int, 81, .inl fun _ => 0)), (q, .inl (G.2.1 .int, 9, .inl fun _ => 0))]) rfl arc_int rfl rfl (fun c => Iff.rfl) (by decide) (by decide) (by decide) rfl rfl (fun q => rfl) (fun q3 => ?_)
  refine i_putF C (pc := 25) dX5_init_25 (k := 0) (ws' := [(h0, .inr (5, [.null, .int 0, .int 0, .int 0, .int 0, .int 0, .int 0, .ref q1, .ref q2, .ref q3, .null, .null, .null, .null, .null, .null, .null, .null])), (q1, .inl (G.2.1 .int, 81, .inl fun _ => 0)), (q2, .inl (G.2.1 .int, 81, .inl fun _ => 0)), (q3, .inl (G.2.1 .int, 9, .inl fun _ => 0))]) ff_X5_18 rfl rfl rfl ?_
  refine i_aload_n C (pc := 28) dX5_init_28 0 rfl ?_
  refine i_bipush C (pc := 29) dX5_init_29 (v := 9) (by decide) ?_
  refine i_newa C (pc := 31) dX5_init_31 (ty := .boolean) (N := 9) (t0 := 1) (ws' := fun q => [(h0, .inr (5, [.null, .int 0, .int 0, .int 0, .int 0, .int 0, .int 0, .ref q1, .ref q2, .ref q3, .null, .null, .null, .null, .null, .null, .null, .null])), (q1, .inl (G.2.1 .int, 81, .inl fun _ => 0)), (q2, .inl (G.2.1 .int, 81, .inl fun _ => 0)), (q3, .inl (G.2.1 .int, 9, .inl fun _ => 0)), (q, .inl (G.2.1 .boolean, 9, .inl fun _ => 0))]) rfl arc_boolean rfl rfl (fun c => Iff.rfl) (by decide) (by decide) (by decide) rfl rfl (fun q => rfl) (fun q4 => ?_)
  refine i_putF C (pc := 33) dX5_init_33 (k := 0) (ws' := [(h0, .inr (5, [.null, .int 0, .int 0, .int 0, .int 0, .int 0, .int 0, .ref q1, .ref q2, .ref q3, .ref q4, .null, .null, .null, .null, .null, .null, .null])), (q1, .inl (G.2.1 .int, 81, .inl fun _ => 0)), (q2, .inl (G.2.1 .int, 81, .inl fun _ => 0)), (q3, .inl (G.2.1 .int, 9, .inl fun _ => 0)), (q4, .inl (G.2.1 .boolean, 9, .inl fun _ => 0))]) ff_X5_21 rfl rfl rfl ?_
  refine i_aload_n C (pc := 36) dX5_init_36 0 rfl ?_
  refine i_bipush C (pc := 37) dX5_init_37 (v := 10) (by decide) ?_
  refine i_newa C (pc := 39) dX5_init_39 (ty := .int) (N := 10) (t0 := 0) (ws' := fun q => [(h0, .inr (5, [.null, .int 0, .int 0, .int 0, .int 0, .int 0, .int 0, .ref q1, .ref q2, .ref q3, .ref q4, .null, .null, .null, .null, .null, .null, .null])), (q1, .inl (G.2.1 .int, 81, .inl fun _ => 0)), (q2, .inl (G.2.1 .int, 81, .inl fun _ => 0)), (q3, .inl (G.2.1 .int, 9, .inl fun _ => 0)), (q4, .inl (G.2.1 .boolean, 9, .inl fun _ => 0)), (q, .inl (G.2.1 .int, 10, .inl fun _ => 0))]) rfl arc_int rfl rfl (fun c => Iff.rfl) (by decide) (by decide) (by decide) rfl rfl (fun q => rfl) (fun q5 => ?_)
  refine i_putF C (pc := 41) dX5_init_41 (k := 0) (ws' := [(h0, .inr (5, [.null, .int 0, .int 0, .int 0, .int 0, .int 0, .int 0, .ref q1, .ref q2, .ref q3, .ref q4, .ref q5, .null, .null, .null, .null, .null, .null])), (q1, .inl (G.2.1 .int, 81, .inl fun _ => 0)), (q2, .inl (G.2.1 .int, 81, .inl fun _ => 0)), (q3, .inl (G.2.1 .int, 9, .inl fun _ => 0)), (q4, .inl (G.2.1 .boolean, 9, .inl fun _ => 0)), (q5, .inl (G.2.1 .int, 10, .inl fun _ => 0))]) ff_X5_25 rfl rfl rfl ?_
  refine i_aload_n C (pc := 44) dX5_init_44 0 rfl ?_
  refine i_bipush C (pc := 45) dX5_init_45 (v := 10) (by decide) ?_
  refine i_newa C (pc := 47) dX5_init_47 (ty := .int) (N := 10) (t0 := 0) (ws' := fun q => [(h0, .inr (5, [.null, .int 0, .int 0, .int 0, .int 0, .int 0, .int 0, .ref q1, .ref q2, .ref q3, .ref q4, .ref q5, .null, .null, .null, .null, .null, .null])), (q1, .inl (G.2.1 .int, 81, .inl fun _ => 0)), (q2, .inl (G.2.1 .int, 81, .inl fun _ => 0)), (q3, .inl (G.2.1 .int, 9, .inl fun _ => 0)), (q4, .inl (G.2.1 .boolean, 9, .inl fun _ => 0)), (q5, .inl (G.2.1 .int, 10, .inl fun _ => 0)), (q, .inl (G.2.1 .int, 10, .inl fun _ => 0))]) rfl arc_int rfl rfl (fun c => Iff.rfl) (by decide) (by decide) (by decide) rfl rfl (fun q => rfl) (fun q6 => ?_)
  refine i_putF C (pc := 49) dX5_init_49 (k := 0) (ws' := [(h0, .inr (5, [.null, .int 0, .int 0, .int 0, .int 0, .int 0, .int 0, .ref q1, .ref q2, .ref q3, .ref q4, .ref q5, .ref q6, .null, .null, .null, .null, .null])), (q1, .inl (G.2.1 .int, 81, .inl fun _ => 0)), (q2, .inl (G.2.1 .int, 81, .inl fun _ => 0)), (q3, .inl (G.2.1 .int, 9, .inl fun _ => 0)), (q4, .inl (G.2.1 .boolean, 9, .inl fun _ => 0)), (q5, .inl (G.2.1 .int, 10, .inl fun _ => 0)), (q6, .inl (G.2.1 .int, 10, .inl fun _ => 0))]) ff_X5_28 rfl rfl rfl ?_
  refine i_aload_n C (pc := 52) dX5_init_52 0 rfl ?_
  refine i_bipush C (pc := 53) dX5_init_53 (v := 10) (by decide) ?_
  refine i_newa C (pc := 55) dX5_init_55 (ty := .int) (N := 10) (t0 := 0) (ws' := fun q => [(h0, .inr (5, [.null, .int 0, .int 0, .int 0, .int 0, .int 0, .int 0, .ref q1, .ref q2, .ref q3, .ref q4, .ref q5, .ref q6, .null, .null, .null, .null, .null])), (q1, .inl (G.2.1 .int, 81, .inl fun _ => 0)), (q2, .inl (G.2.1 .int, 81, .inl fun _ => 0)), (q3, .inl (G.2.1 .int, 9, .inl fun _ => 0)), (q4, .inl (G.2.1 .boolean, 9, .inl fun _ => 0)), (q5, .inl (G.2.1 .int, 10, .inl fun _ => 0)), (q6, .inl (G.2.1 .int, 10, .inl fun _ => 0)), (q, .inl (G.2.1 .int, 10, .inl fun _ => 0))]) rfl arc_int rfl rfl (fun c => Iff.rfl) (by decide) (by decide) (by decide) rfl rfl (fun q => rfl) (fun q7 => ?_)
  refine i_putF C (pc := 57) dX5_init_57 (k := 0) (ws' := [(h0, .inr (5, [.null, .int 0, .int 0, .int 0, .int 0, .int 0, .int 0, .ref q1, .ref q2, .ref q3, .ref q4, .ref q5, .ref q6, .ref q7, .null, .null, .null, .null])), (q1, .inl (G.2.1 .int, 81, .inl fun _ => 0)), (q2, .inl (G.2.1 .int, 81, .inl fun _ => 0)), (q3, .inl (G.2.1 .int, 9, .inl fun _ => 0)), (q4, .inl (G.2.1 .boolean, 9, .inl fun _ => 0)), (q5, .inl (G.2.1 .int, 10, .inl fun _ => 0)), (q6, .inl (G.2.1 .int, 10, .inl fun _ => 0)), (q7, .inl (G.2.1 .int, 10, .inl fun _ => 0))]) ff_X5_31 rfl rfl rfl ?_
  refine i_aload_n C (pc := 60) dX5_init_60 0 rfl ?_
  refine i_bipush C (pc := 61) dX5_init_61 (v := 10) (by decide) ?_
  refine i_newa C (pc := 63) dX5_init_63 (ty := .int) (N := 10) (t0 := 0) (ws' := fun q => [(h0, .inr (5, [.null, .int 0, .int 0, .int 0, .int 0, .int 0, .int 0, .ref q1, .ref q2, .ref q3, .ref q4, .ref q5, .ref q6, .ref q7, .null, .null, .null, .null])), (q1, .inl (G.2.1 .int, 81, .inl fun _ => 0)), (q2, .inl (G.2.1 .int, 81, .inl fun _ => 0)), (q3, .inl (G.2.1 .int, 9, .inl fun _ => 0)), (q4, .inl (G.2.1 .boolean, 9, .inl fun _ => 0)), (q5, .inl (G.2.1 .int, 10, .inl fun _ => 0)), (q6, .inl (G.2.1 .int, 10, .inl fun _ => 0)), (q7, .inl (G.2.1 .int, 10, .inl fun _ => 0)), (q, .inl (G.2.1 .int, 10, .inl fun _ => 0))]) rfl arc_int rfl rfl (fun c => Iff.rfl) (by decide) (by decide) (by decide) rfl rfl (fun q => rfl) (fun q8 => ?_)
  refine i_putF C (pc := 65) dX5_init_65 (k := 0) (ws' := [(h0, .inr (5, [.null, .int 0, .int 0, .int 0, .int 0, .int 0, .int 0, .ref q1, .ref q2, .ref q3, .ref q4, .ref q5, .ref q6, .ref q7, .ref q8, .null, .null, .null])), (q1, .inl (G.2.1 .int, 81, .inl fun _ => 0)), (q2, .inl (G.2.1 .int, 81, .inl fun _ => 0)), (q3, .inl (G.2.1 .int, 9, .inl fun _ => 0)), (q4, .inl (G.2.1 .boolean, 9, .inl fun _ => 0)), (q5, .inl (G.2.1 .int, 10, .inl fun _ => 0)), (q6, .inl (G.2.1 .int, 10, .inl fun _ => 0)), (q7, .inl (G.2.1 .int, 10, .inl fun _ => 0)), (q8, .inl (G.2.1 .int, 10, .inl fun _ => 0))]) ff_X5_34 rfl rfl rfl ?_
  refine i_aload_n C (pc := 68) dX5_init_68 0 rfl ?_
  refine i_bipush C (pc := 69) dX5_init_69 (v := 10) (by decide) ?_
  refine i_newa C (pc := 71) dX5_init_71 (ty := .int) (N := 10) (t0 := 0) (ws' := fun q => [(h0, .inr (5, [.null, .int 0, .int 0, .int 0, .int 0, .int 0, .int 0, .ref q1, .ref q2, .ref q3, .ref q4, .ref q5, .ref q6, .ref q7, .ref q8, .null, .null, .null])), (q1, .inl (G.2.1 .int, 81, .inl fun _ => 0)), (q2, .inl (G.2.1 .int, 81, .inl fun _ => 0)), (q3, .inl (G.2.1 .int, 9, .inl fun _ => 0)), (q4, .inl (G.2.1 .boolean, 9, .inl fun _ => 0)), (q5, .inl (G.2.1 .int, 10, .inl fun _ => 0)), (q6, .inl (G.2.1 .int, 10, .inl fun _ => 0)), (q7, .inl (G.2.1 .int, 10, .inl fun _ => 0)), (q8, .inl (G.2.1 .int, 10, .inl fun _ => 0)), (q, .inl (G.2.1 .int, 10, .inl fun _ => 0))]) rfl arc_int rfl rfl (fun c => Iff.rfl) (by decide) (by decide) (by decide) rfl rfl (fun q => rfl) (fun q9 => ?_)
  refine i_putF C (pc := 73) dX5_init_73 (k := 0) (ws' := [(h0, .inr (5, [.null, .int 0, .int 0, .int 0, .int 0, .int 0, .int 0, .ref q1, .ref q2, .ref q3, .ref q4, .ref q5, .ref q6, .ref q7, .ref q8, .ref q9, .null, .null])), (q1, .inl (G.2.1 .int, 81, .inl fun _ => 0)), (q2, .inl (G.2.1 .int, 81, .inl fun _ => 0)), (q3, .inl (G.2.1 .int, 9, .inl fun _ => 0)), (q4, .inl (G.2.1 .boolean, 9, .inl fun _ => 0)), (q5, .inl (G.2.1 .int, 10, .inl fun _ => 0)), (q6, .inl (G.2.1 .int, 10, .inl fun _ => 0)), (q7, .inl (G.2.1 .int, 10, .inl fun _ => 0)), (q8, .inl (G.2.1 .int, 10, .inl fun _ => 0)), (q9, .inl (G.2.1 .int, 10, .inl fun _ => 0))]) ff_X5_37 rfl rfl rfl ?_
  refine i_aload_n C (pc := 76) dX5_init_76 0 rfl ?_
  refine i_bipush C (pc := 77) dX5_init_77 (v := 10) (by decide) ?_
  refine i_newa C (pc := 79) dX5_init_79 (ty := .int) (N := 10) (t0 := 0) (ws' := fun q => [(h0, .inr (5, [.null, .int 0, .int 0, .int 0, .int 0, .int 0, .int 0, .ref q1, .ref q2, .ref q3, .ref q4, .ref q5, .ref q6, .ref q7, .ref q8, .ref q9, .null, .null])), (q1, .inl (G.2.1 .int, 81, .inl fun _ => 0)), (q2, .inl (G.2.1 .int, 81, .inl fun _ => 0)), (q3, .inl (G.2.1 .int, 9, .inl fun _ => 0)), (q4, .inl (G.2.1 .boolean, 9, .inl fun _ => 0)), (q5, .inl (G.2.1 .int, 10, .inl fun _ => 0)), (q6, .inl (G.2.1 .int, 10, .inl fun _ => 0)), (q7, .inl (G.2.1 .int, 10, .inl fun _ => 0)), (q8, .inl (G.2.1 .int, 10, .inl fun _ => 0)), (q9, .inl (G.2.1 .int, 10, .inl fun _ => 0)), (q, .inl (G.2.1 .int, 10, .inl fun _ => 0))]) rfl arc_int rfl rfl (fun c => Iff.rfl) (by decide) (by decide) (by decide) rfl rfl (fun q => rfl) (fun q10 => ?_)
  refine i_putF C (pc := 81) dX5_init_81 (k := 0) (ws' := [(h0, .inr (5, [.null, .int 0, .int 0, .int 0, .int 0, .int 0, .int 0, .ref q1, .ref q2, .ref q3, .ref q4, .ref q5, .ref q6, .ref q7, .ref q8, .ref q9, .ref q10, .null])), (q1, .inl (G.2.1 .int, 81, .inl fun _ => 0)), (q2, .inl (G.2.1 .int, 81, .inl fun _ => 0)), (q3, .inl (G.2.1 .int, 9, .inl fun _ => 0)), (q4, .inl (G.2.1 .boolean, 9, .inl fun _ => 0)), (q5, .inl (G.2.1 .int, 10, .inl fun _ => 0)), (q6, .inl (G.2.1 .int, 10, .inl fun _ => 0)), (q7, .inl (G.2.1 .int, 10, .inl fun _ => 0)), (q8, .inl (G.2.1 .int, 10, .inl fun _ => 0)), (q9, .inl (G.2.1 .int, 10, .inl fun _ => 0)), (q10, .inl (G.2.1 .int, 10, .inl fun _ => 0))]) ff_X5_40 rfl rfl rfl ?_
  refine i_aload_n C (pc := 84) dX5_init_84 0 rfl ?_
  refine i_bipush C (pc := 85) dX5_init_85 (v := 10) (by decide) ?_
  refine i_newa C (pc := 87) dX5_init_87 (ty := .int) (N := 10) (t0 := 0) (ws' := fun q => [(h0, .inr (5, [.null, .int 0, .int 0, .int 0, .int 0, .int 0, .int 0, .ref q1, .ref q2, .ref q3, .ref q4, .ref q5, .ref q6, .ref q7, .ref q8, .ref q9, .ref q10, .null])), (q1, .inl (G.2.1 .int, 81, .inl fun _ => 0)), (q2, .inl (G.2.1 .int, 81, .inl fun _ => 0)), (q3, .inl (G.2.1 .int, 9, .inl fun _ => 0)), (q4, .inl (G.2.1 .boolean, 9, .inl fun _ => 0)), (q5, .inl (G.2.1 .int, 10, .inl fun _ => 0)), (q6, .inl (G.2.1 .int, 10, .inl fun _ => 0)), (q7, .inl (G.2.1 .int, 10, .inl fun _ => 0)), (q8, .inl (G.2.1 .int, 10, .inl fun _ => 0)), (q9, .inl (G.2.1 .int, 10, .inl fun _ => 0)), (q10, .inl (G.2.1 .int, 10, .inl fun _ => 0)), (q, .inl (G.2.1 .int, 10, .inl fun _ => 0))]) rfl arc_int rfl rfl (fun c => Iff.rfl) (by decide) (by decide) (by decide) rfl rfl (fun q => rfl) (fun q11 => ?_)
  refine i_putF C (pc := 89) dX5_init_89 (k := 0) (ws' := [(h0, .inr (5, [.null, .int 0, .int 0, .int 0, .int 0, .int 0, .int 0, .ref q1, .ref q2, .ref q3, .ref q4, .ref q5, .ref q6, .ref q7, .ref q8, .ref q9, .ref q10, .ref q11])), (q1, .inl (G.2.1 .int, 81, .inl fun _ => 0)), (q2, .inl (G.2.1 .int, 81, .inl fun _ => 0)), (q3, .inl (G.2.1 .int, 9, .inl fun _ => 0)), (q4, .inl (G.2.1 .boolean, 9, .inl fun _ => 0)), (q5, .inl (G.2.1 .int, 10, .inl fun _ => 0)), (q6, .inl (G.2.1 .int, 10, .inl fun _ => 0)), (q7, .inl (G.2.1 .int, 10, .inl fun _ => 0)), (q8, .inl (G.2.1 .int, 10, .inl fun _ => 0)), (q9, .inl (G.2.1 .int, 10, .inl fun _ => 0)), (q10, .inl (G.2.1 .int, 10, .inl fun _ => 0)), (q11, .inl (G.2.1 .int, 10, .inl fun _ => 0))]) ff_X5_43 rfl rfl rfl ?_
  refine i_aload_n C (pc := 92) dX5_init_92 0 rfl ?_
  refine i_aload_n C (pc := 93) dX5_init_93 1 rfl ?_
  refine i_putF C (pc := 94) dX5_init_94 (k := 0) (ws' := [(h0, .inr (5, [.ref a1, .int 0, .int 0, .int 0, .int 0, .int 0, .int 0, .ref q1, .ref q2, .ref q3, .ref q4, .ref q5, .ref q6, .ref q7, .ref q8, .ref q9, .ref q10, .ref q11])), (q1, .inl (G.2.1 .int, 81, .inl fun _ => 0)), (q2, .inl (G.2.1 .int, 81, .inl fun _ => 0)), (q3, .inl (G.2.1 .int, 9, .inl fun _ => 0)), (q4, .inl (G.2.1 .boolean, 9, .inl fun _ => 0)), (q5, .inl (G.2.1 .int, 10, .inl fun _ => 0)), (q6, .inl (G.2.1 .int, 10, .inl fun _ => 0)), (q7, .inl (G.2.1 .int, 10, .inl fun _ => 0)), (q8, .inl (G.2.1 .int, 10, .inl fun _ => 0)), (q9, .inl (G.2.1 .int, 10, .inl fun _ => 0)), (q10, .inl (G.2.1 .int, 10, .inl fun _ => 0)), (q11, .inl (G.2.1 .int, 10, .inl fun _ => 0))]) ff_X5_46 rfl rfl rfl ?_
  exact i_ret C (pc := 97) hA dX5_init_97 rfl rfl ⟨q1, q2, q3, q4, q5, q6, q7, q8, q9, q10, q11, rfl⟩
theorem dX6_init_0 : decode cX6_init 0 = .ok (.aload_n 0, 1) := by decide +kernel
theorem dX6_init_1 : decode cX6_init 1 = .ok (.invokespecial 3, 3) := by decide +kernel
theorem dX6_init_4 : decode cX6_init 4 = .ok (.aload_n 0, 1) := by decide +kernel
theorem dX6_init_5 : decode cX6_init 5 = .ok (.sipush 300, 3) := by decide +kernel
theorem dX6_init_8 : decode cX6_init 8 = .ok (.newarray .int, 2) := by decide +kernel
theorem dX6_init_10 : decode cX6_init 10 = .ok (.putfield 9, 3) := by decide +kernel
theorem dX6_init_13 : decode cX6_init 13 = .ok (.return_, 1) := by decide +kernel
set_option maxRecDepth 20000 in
theorem ff_X6_9 : FF RX6 9 6 1 := ⟨TX6, 2, tyX6, .array .int, rfl, by decide, inWX6, gw_mem (tb1 212 rfl) rfl, tyX6_ok, nmX6, rfl, rfl, by decide +kernel, fun q => ⟨rfl, rfl⟩⟩
set_option maxRecDepth 20000 in
theorem oi_X6_3 : Cond.methodLink RX6 3 objectInit ∈ gw := gw_mem (tb1 208 rfl) rfl
set_option maxRecDepth 20000 in
theorem iy_X6_init : MY yX6_init cX6_init 1 none 0 := ⟨gw_mem (tb1 207 rfl) rfl, gw_mem (tb1 7 rfl) rfl, by decide +kernel⟩
set_option maxRecDepth 20000 in
theorem ii_X6_init : Cond.instanceMethod yX6_init ∈ gw := gw_mem (tb1 206 rfl) rfl
set_option maxRecDepth 100000 in
set_option maxHeartbeats 4000000 in
theorem nX6_init {l : Launch} (G : Gx) (h0 : Nat) : Cn l G yX6_init cX6_init 1 1 1 300 [.ref h0] h0 (.inr (6, [.int 0, .null])) (fun w1 => ∃ q1 : Nat, w1 = [(h0, .inr (6, [.int 0, .ref q1])), (q1, .inl (G.2.1 .int, 300, .inl fun _ => 0))]) := by
  refine Cn.of (by decide) rfl rfl (lv := [(0, .ref h0)]) rfl ?_
  intro K A hA hkl C
  change Ck K (cX6_init, RX6, 1, rmi0 1 1 300) G A at C
  subst hkl
  change Wi K (cX6_init, RX6, 1, rmi0 1 1 300) G A _ [(h0, .inr (6, [.int 0, .null]))] 0 0 0 _ _
  refine i_aload_n C (pc := 0) dX6_init_0 0 rfl ?_
  refine i_obj C (pc := 1) dX6_init_1 oi_X6_3 oi_inst oi_code ⟨rfl, rfl⟩ ?_
  refine i_aload_n C (pc := 4) dX6_init_4 0 rfl ?_
  refine i_sipush C (pc := 5) dX6_init_5 (v := 300) (by decide) ?_
  refine i_newa C (pc := 8) dX6_init_8 (ty := .int) (N := 300) (t0 := 0) (ws' := fun q => [(h0, .inr (6, [.int 0, .null])), (q, .inl (G.2.1 .int, 300, .inl fun _ => 0))]) rfl arc_int rfl rfl (fun c => Iff.rfl) (by decide) (by decide) (by decide) rfl rfl (fun q => rfl) (fun q1 => ?_)
  refine i_putF C (pc := 10) dX6_init_10 (k := 0) (ws' := [(h0, .inr (6, [.int 0, .ref q1])), (q1, .inl (G.2.1 .int, 300, .inl fun _ => 0))]) ff_X6_9 rfl rfl rfl ?_
  exact i_ret C (pc := 13) hA dX6_init_13 rfl rfl ⟨q1, rfl⟩
theorem dX7_init_0 : decode cX7_init 0 = .ok (.aload_n 0, 1) := by decide +kernel
theorem dX7_init_1 : decode cX7_init 1 = .ok (.invokespecial 3, 3) := by decide +kernel
theorem dX7_init_4 : decode cX7_init 4 = .ok (.aload_n 0, 1) := by decide +kernel
theorem dX7_init_5 : decode cX7_init 5 = .ok (.new 9, 3) := by decide +kernel
theorem dX7_init_8 : decode cX7_init 8 = .ok (.dup, 1) := by decide +kernel
theorem dX7_init_9 : decode cX7_init 9 = .ok (.invokespecial 11, 3) := by decide +kernel
theorem dX7_init_12 : decode cX7_init 12 = .ok (.putfield 12, 3) := by decide +kernel
theorem dX7_init_15 : decode cX7_init 15 = .ok (.aload_n 0, 1) := by decide +kernel
theorem dX7_init_16 : decode cX7_init 16 = .ok (.new 18, 3) := by decide +kernel
theorem dX7_init_19 : decode cX7_init 19 = .ok (.dup, 1) := by decide +kernel
theorem dX7_init_20 : decode cX7_init 20 = .ok (.invokespecial 20, 3) := by decide +kernel
theorem dX7_init_23 : decode cX7_init 23 = .ok (.putfield 21, 3) := by decide +kernel
theorem dX7_init_26 : decode cX7_init 26 = .ok (.aload_n 0, 1) := by decide +kernel
theorem dX7_init_27 : decode cX7_init 27 = .ok (.bipush 8, 2) := by decide +kernel
theorem dX7_init_29 : decode cX7_init 29 = .ok (.newarray .int, 2) := by decide +kernel
theorem dX7_init_31 : decode cX7_init 31 = .ok (.putfield 25, 3) := by decide +kernel
theorem dX7_init_34 : decode cX7_init 34 = .ok (.aload_n 0, 1) := by decide +kernel
theorem dX7_init_35 : decode cX7_init 35 = .ok (.aload_n 1, 1) := by decide +kernel
theorem dX7_init_36 : decode cX7_init 36 = .ok (.putfield 29, 3) := by decide +kernel
theorem dX7_init_39 : decode cX7_init 39 = .ok (.return_, 1) := by decide +kernel
set_option maxRecDepth 20000 in
theorem nc_X7_9 : NC RX7 9 3 [.int 0, .null, .null] := ⟨RX3, TX3, 3, tyX3, rfl, inWX3, tyX3_ok, gw_mem (tb1 224 rfl) rfl, gw_mem (tb1 31 rfl) rfl, gw_mem (tb1 2 rfl) rfl, (by intro j hj; rcases (show j = 0 ∨ j = 1 ∨ j = 2 by omega) with rfl | rfl | rfl <;> rfl), rfl⟩
set_option maxRecDepth 20000 in
theorem ff_X7_12 : FF RX7 12 7 1 := ⟨TX7, 10, tyX7, .object "TruckWing$Land", rfl, by decide, inWX7, gw_mem (tb1 229 rfl) rfl, tyX7_ok, nmX7, rfl, rfl, by decide +kernel, fun q => ⟨rfl, rfl⟩⟩
set_option maxRecDepth 20000 in
theorem nc_X7_18 : NC RX7 18 4 [.int 0, .int 0, .null, .null] := ⟨RX4, TX4, 4, tyX4, rfl, inWX4, tyX4_ok, gw_mem (tb1 226 rfl) rfl, gw_mem (tb1 61 rfl) rfl, gw_mem (tb1 3 rfl) rfl, (by intro j hj; rcases (show j = 0 ∨ j = 1 ∨ j = 2 ∨ j = 3 by omega) with rfl | rfl | rfl | rfl <;> rfl), rfl⟩
set_option maxRecDepth 20000 in
theorem ff_X7_21 : FF RX7 21 7 2 := ⟨TX7, 10, tyX7, .object "TruckWing$Plan", rfl, by decide, inWX7, gw_mem (tb1 231 rfl) rfl, tyX7_ok, nmX7, rfl, rfl, by decide +kernel, fun q => ⟨rfl, rfl⟩⟩
set_option maxRecDepth 20000 in
theorem ff_X7_25 : FF RX7 25 7 3 := ⟨TX7, 10, tyX7, .array .int, rfl, by decide, inWX7, gw_mem (tb1 233 rfl) rfl, tyX7_ok, nmX7, rfl, rfl, by decide +kernel, fun q => ⟨rfl, rfl⟩⟩
set_option maxRecDepth 20000 in
theorem ff_X7_29 : FF RX7 29 7 0 := ⟨TX7, 10, tyX7, .object "TruckWing$Tape", rfl, by decide, inWX7, gw_mem (tb1 228 rfl) rfl, tyX7_ok, nmX7, rfl, rfl, by decide +kernel, fun q => ⟨rfl, rfl⟩⟩
set_option maxRecDepth 20000 in
theorem oi_X7_3 : Cond.methodLink RX7 3 objectInit ∈ gw := gw_mem (tb1 223 rfl) rfl
set_option maxRecDepth 20000 in
theorem mli_X7_11 : ML RX7 11 yX3_init := Or.inr ⟨"TruckWing", nw_mem (tb1 225 rfl) rfl⟩
set_option maxRecDepth 20000 in
theorem mli_X7_20 : ML RX7 20 yX4_init := Or.inr ⟨"TruckWing", nw_mem (tb1 227 rfl) rfl⟩
set_option maxRecDepth 20000 in
theorem iy_X7_init : MY yX7_init cX7_init 2 none 1 := ⟨gw_mem (tb1 222 rfl) rfl, gw_mem (tb1 8 rfl) rfl, by decide +kernel⟩
set_option maxRecDepth 20000 in
theorem ii_X7_init : Cond.instanceMethod yX7_init ∈ gw := gw_mem (tb1 221 rfl) rfl
set_option maxRecDepth 100000 in
set_option maxHeartbeats 4000000 in
theorem nX7_init {l : Launch} (G : Gx) (h0 : Nat) (a1 : Nat) : Cn l G yX7_init cX7_init 2 2 7 110 [.ref h0, .ref a1] h0 (.inr (7, [.null, .null, .null, .null, .int 0, .int 0, .int 0, .int 0, .int 0, .int 0])) (fun w1 => ∃ q1 q2 q3 q4 q5 q6 q7 : Nat, w1 = [(h0, .inr (7, [.ref a1, .ref q1, .ref q4, .ref q7, .int 0, .int 0, .int 0, .int 0, .int 0, .int 0])), (q1, .inr (3, [.int 0, .ref q2, .ref q3])), (q2, .inl (G.2.1 .int, 45, .inl fun _ => 0)), (q3, .inl (G.2.1 .int, 10, .inl stF)), (q4, .inr (4, [.int 0, .int 0, .ref q5, .ref q6])), (q5, .inl (G.2.1 .int, 8, .inl fun _ => 0)), (q6, .inl (G.2.1 .int, 32, .inl fun _ => 0)), (q7, .inl (G.2.1 .int, 8, .inl fun _ => 0))]) := by
  refine Cn.of (by decide) rfl rfl (lv := [(0, .ref h0), (1, .ref a1)]) rfl ?_
  intro K A hA hkl C
  change Ck K (cX7_init, RX7, 2, rmi0 2 7 110) G A at C
  subst hkl
  change Wi K (cX7_init, RX7, 2, rmi0 2 7 110) G A _ [(h0, .inr (7, [.null, .null, .null, .null, .int 0, .int 0, .int 0, .int 0, .int 0, .int 0]))] 0 0 0 _ _
  refine i_aload_n C (pc := 0) dX7_init_0 0 rfl ?_
  refine i_obj C (pc := 1) dX7_init_1 oi_X7_3 oi_inst oi_code ⟨rfl, rfl⟩ ?_
  refine i_aload_n C (pc := 4) dX7_init_4 0 rfl ?_
  refine i_new C (pc := 5) dX7_init_5 (ws' := fun q => [(h0, .inr (7, [.null, .null, .null, .null, .int 0, .int 0, .int 0, .int 0, .int 0, .int 0])), (q, .inr (3, [.int 0, .null, .null]))]) nc_X7_9 rfl rfl (fun q => rfl) (fun q1 => ?_)
  refine i_dup C (pc := 8) dX7_init_8 rfl ?_
  refine i_call C (pc := 9) dX7_init_9 (wr := [(h0, .inr (7, [.null, .null, .null, .null, .int 0, .int 0, .int 0, .int 0, .int 0, .int 0]))]) iy_X3_init ii_X3_init rfl mli_X7_11 rfl ⟨rfl, rfl⟩ rfl rfl [] rfl rfl (Nat.le_of_ble_eq_true rfl) (nX3_init _ _) (fun w1 hp => ?_)
  obtain ⟨q2, q3, rfl⟩ := hp
  change Wi K _ G A _ [(h0, .inr (7, [.null, .null, .null, .null, .int 0, .int 0, .int 0, .int 0, .int 0, .int 0])), (q1, .inr (3, [.int 0, .ref q2, .ref q3])), (q2, .inl (G.2.1 .int, 45, .inl fun _ => 0)), (q3, .inl (G.2.1 .int, 10, .inl stF))] _ _ _ _ _
  refine i_putF C (pc := 12) dX7_init_12 (k := 0) (ws' := [(h0, .inr (7, [.null, .ref q1, .null, .null, .int 0, .int 0, .int 0, .int 0, .int 0, .int 0])), (q1, .inr (3, [.int 0, .ref q2, .ref q3])), (q2, .inl (G.2.1 .int, 45, .inl fun _ => 0)), (q3, .inl (G.2.1 .int, 10, .inl stF))]) ff_X7_12 rfl rfl rfl ?_
  refine i_aload_n C (pc := 15) dX7_init_15 0 rfl ?_
  refine i_new C (pc := 16) dX7_init_16 (ws' := fun q => [(h0, .inr (7, [.null, .ref q1, .null, .null, .int 0, .int 0, .int 0, .int 0, .int 0, .int 0])), (q1, .inr (3, [.int 0, .ref q2, .ref q3])), (q2, .inl (G.2.1 .int, 45, .inl fun _ => 0)), (q3, .inl (G.2.1 .int, 10, .inl stF)), (q, .inr (4, [.int 0, .int 0, .null, .null]))]) nc_X7_18 rfl rfl (fun q => rfl) (fun q4 => ?_)
  refine i_dup C (pc := 19) dX7_init_19 rfl ?_
  refine i_call C (pc := 20) dX7_init_20 (wr := [(h0, .inr (7, [.null, .ref q1, .null, .null, .int 0, .int 0, .int 0, .int 0, .int 0, .int 0])), (q1, .inr (3, [.int 0, .ref q2, .ref q3])), (q2, .inl (G.2.1 .int, 45, .inl fun _ => 0)), (q3, .inl (G.2.1 .int, 10, .inl stF))]) iy_X4_init ii_X4_init rfl mli_X7_20 rfl ⟨rfl, rfl⟩ rfl rfl [] rfl rfl (Nat.le_of_ble_eq_true rfl) (nX4_init _ _) (fun w1 hp => ?_)
  obtain ⟨q5, q6, rfl⟩ := hp
  change Wi K _ G A _ [(h0, .inr (7, [.null, .ref q1, .null, .null, .int 0, .int 0, .int 0, .int 0, .int 0, .int 0])), (q1, .inr (3, [.int 0, .ref q2, .ref q3])), (q2, .inl (G.2.1 .int, 45, .inl fun _ => 0)), (q3, .inl (G.2.1 .int, 10, .inl stF)), (q4, .inr (4, [.int 0, .int 0, .ref q5, .ref q6])), (q5, .inl (G.2.1 .int, 8, .inl fun _ => 0)), (q6, .inl (G.2.1 .int, 32, .inl fun _ => 0))] _ _ _ _ _
  refine i_putF C (pc := 23) dX7_init_23 (k := 0) (ws' := [(h0, .inr (7, [.null, .ref q1, .ref q4, .null, .int 0, .int 0, .int 0, .int 0, .int 0, .int 0])), (q1, .inr (3, [.int 0, .ref q2, .ref q3])), (q2, .inl (G.2.1 .int, 45, .inl fun _ => 0)), (q3, .inl (G.2.1 .int, 10, .inl stF)), (q4, .inr (4, [.int 0, .int 0, .ref q5, .ref q6])), (q5, .inl (G.2.1 .int, 8, .inl fun _ => 0)), (q6, .inl (G.2.1 .int, 32, .inl fun _ => 0))]) ff_X7_21 rfl rfl rfl ?_
  refine i_aload_n C (pc := 26) dX7_init_26 0 rfl ?_
  refine i_bipush C (pc := 27) dX7_init_27 (v := 8) (by decide) ?_
  refine i_newa C (pc := 29) dX7_init_29 (ty := .int) (N := 8) (t0 := 0) (ws' := fun q => [(h0, .inr (7, [.null, .ref q1, .ref q4, .null, .int 0, .int 0, .int 0, .int 0, .int 0, .int 0])), (q1, .inr (3, [.int 0, .ref q2, .ref q3])), (q2, .inl (G.2.1 .int, 45, .inl fun _ => 0)), (q3, .inl (G.2.1 .int, 10, .inl stF)), (q4, .inr (4, [.int 0, .int 0, .ref q5, .ref q6])), (q5, .inl (G.2.1 .int, 8, .inl fun _ => 0)), (q6, .inl (G.2.1 .int, 32, .inl fun _ => 0)), (q, .inl (G.2.1 .int, 8, .inl fun _ => 0))]) rfl arc_int rfl rfl (fun c => Iff.rfl) (by decide) (by decide) (by decide) rfl rfl (fun q => rfl) (fun q7 => ?_)
  refine i_putF C (pc := 31) dX7_init_31 (k := 0) (ws' := [(h0, .inr (7, [.null, .ref q1, .ref q4, .ref q7, .int 0, .int 0, .int 0, .int 0, .int 0, .int 0])), (q1, .inr (3, [.int 0, .ref q2, .ref q3])), (q2, .inl (G.2.1 .int, 45, .inl fun _ => 0)), (q3, .inl (G.2.1 .int, 10, .inl stF)), (q4, .inr (4, [.int 0, .int 0, .ref q5, .ref q6])), (q5, .inl (G.2.1 .int, 8, .inl fun _ => 0)), (q6, .inl (G.2.1 .int, 32, .inl fun _ => 0)), (q7, .inl (G.2.1 .int, 8, .inl fun _ => 0))]) ff_X7_25 rfl rfl rfl ?_
  refine i_aload_n C (pc := 34) dX7_init_34 0 rfl ?_
  refine i_aload_n C (pc := 35) dX7_init_35 1 rfl ?_
  refine i_putF C (pc := 36) dX7_init_36 (k := 0) (ws' := [(h0, .inr (7, [.ref a1, .ref q1, .ref q4, .ref q7, .int 0, .int 0, .int 0, .int 0, .int 0, .int 0])), (q1, .inr (3, [.int 0, .ref q2, .ref q3])), (q2, .inl (G.2.1 .int, 45, .inl fun _ => 0)), (q3, .inl (G.2.1 .int, 10, .inl stF)), (q4, .inr (4, [.int 0, .int 0, .ref q5, .ref q6])), (q5, .inl (G.2.1 .int, 8, .inl fun _ => 0)), (q6, .inl (G.2.1 .int, 32, .inl fun _ => 0)), (q7, .inl (G.2.1 .int, 8, .inl fun _ => 0))]) ff_X7_29 rfl rfl rfl ?_
  exact i_ret C (pc := 39) hA dX7_init_39 rfl rfl ⟨q1, q2, q3, q4, q5, q6, q7, rfl⟩
theorem dX2_init_0 : decode cX2_init 0 = .ok (.aload_n 0, 1) := by decide +kernel
theorem dX2_init_1 : decode cX2_init 1 = .ok (.invokespecial 1, 3) := by decide +kernel
theorem dX2_init_4 : decode cX2_init 4 = .ok (.return_, 1) := by decide +kernel
set_option maxRecDepth 20000 in
theorem oi_X2_1 : Cond.methodLink RX2 1 objectInit ∈ gw := gw_mem (tb2 27 rfl) rfl
set_option maxRecDepth 20000 in
theorem iy_X2_init : MY yX2_init cX2_init 1 none 0 := ⟨gw_mem (tb2 26 rfl) rfl, gw_mem (tb1 9 rfl) rfl, by decide +kernel⟩
set_option maxRecDepth 20000 in
theorem ii_X2_init : Cond.instanceMethod yX2_init ∈ gw := gw_mem (tb2 25 rfl) rfl
set_option maxRecDepth 100000 in
set_option maxHeartbeats 4000000 in
theorem nX2_init {l : Launch} (G : Gx) (h0 : Nat) : Cn l G yX2_init cX2_init 1 1 0 0 [.ref h0] h0 (.inr (2, [.int 0, .int 0, .int 0])) (fun w1 => w1 = [(h0, .inr (2, [.int 0, .int 0, .int 0]))]) := by
  refine Cn.of (by decide) rfl rfl (lv := [(0, .ref h0)]) rfl ?_
  intro K A hA hkl C
  change Ck K (cX2_init, RX2, 1, rmi0 1 0 0) G A at C
  subst hkl
  change Wi K (cX2_init, RX2, 1, rmi0 1 0 0) G A _ [(h0, .inr (2, [.int 0, .int 0, .int 0]))] 0 0 0 _ _
  refine i_aload_n C (pc := 0) dX2_init_0 0 rfl ?_
  refine i_obj C (pc := 1) dX2_init_1 oi_X2_1 oi_inst oi_code ⟨rfl, rfl⟩ ?_
  exact i_ret C (pc := 4) hA dX2_init_4 rfl rfl rfl
theorem dX8_init_0 : decode cX8_init 0 = .ok (.aload_n 0, 1) := by decide +kernel
theorem dX8_init_1 : decode cX8_init 1 = .ok (.invokespecial 1, 3) := by decide +kernel
theorem dX8_init_4 : decode cX8_init 4 = .ok (.aload_n 0, 1) := by decide +kernel
theorem dX8_init_5 : decode cX8_init 5 = .ok (.new 7, 3) := by decide +kernel
theorem dX8_init_8 : decode cX8_init 8 = .ok (.dup, 1) := by decide +kernel
theorem dX8_init_9 : decode cX8_init 9 = .ok (.invokespecial 9, 3) := by decide +kernel
theorem dX8_init_12 : decode cX8_init 12 = .ok (.putfield 10, 3) := by decide +kernel
theorem dX8_init_15 : decode cX8_init 15 = .ok (.aload_n 0, 1) := by decide +kernel
theorem dX8_init_16 : decode cX8_init 16 = .ok (.new 16, 3) := by decide +kernel
theorem dX8_init_19 : decode cX8_init 19 = .ok (.dup, 1) := by decide +kernel
theorem dX8_init_20 : decode cX8_init 20 = .ok (.invokespecial 18, 3) := by decide +kernel
theorem dX8_init_23 : decode cX8_init 23 = .ok (.putfield 19, 3) := by decide +kernel
theorem dX8_init_26 : decode cX8_init 26 = .ok (.aload_n 0, 1) := by decide +kernel
theorem dX8_init_27 : decode cX8_init 27 = .ok (.new 23, 3) := by decide +kernel
theorem dX8_init_30 : decode cX8_init 30 = .ok (.dup, 1) := by decide +kernel
theorem dX8_init_31 : decode cX8_init 31 = .ok (.aload_n 0, 1) := by decide +kernel
theorem dX8_init_32 : decode cX8_init 32 = .ok (.getfield 10, 3) := by decide +kernel
theorem dX8_init_35 : decode cX8_init 35 = .ok (.aload_n 0, 1) := by decide +kernel
theorem dX8_init_36 : decode cX8_init 36 = .ok (.getfield 19, 3) := by decide +kernel
theorem dX8_init_39 : decode cX8_init 39 = .ok (.invokespecial 25, 3) := by decide +kernel
theorem dX8_init_42 : decode cX8_init 42 = .ok (.putfield 28, 3) := by decide +kernel
theorem dX8_init_45 : decode cX8_init 45 = .ok (.aload_n 0, 1) := by decide +kernel
theorem dX8_init_46 : decode cX8_init 46 = .ok (.new 32, 3) := by decide +kernel
theorem dX8_init_49 : decode cX8_init 49 = .ok (.dup, 1) := by decide +kernel
theorem dX8_init_50 : decode cX8_init 50 = .ok (.aload_n 0, 1) := by decide +kernel
theorem dX8_init_51 : decode cX8_init 51 = .ok (.getfield 10, 3) := by decide +kernel
theorem dX8_init_54 : decode cX8_init 54 = .ok (.invokespecial 34, 3) := by decide +kernel
theorem dX8_init_57 : decode cX8_init 57 = .ok (.putfield 37, 3) := by decide +kernel
theorem dX8_init_60 : decode cX8_init 60 = .ok (.aload_n 0, 1) := by decide +kernel
theorem dX8_init_61 : decode cX8_init 61 = .ok (.new 41, 3) := by decide +kernel
theorem dX8_init_64 : decode cX8_init 64 = .ok (.dup, 1) := by decide +kernel
theorem dX8_init_65 : decode cX8_init 65 = .ok (.invokespecial 43, 3) := by decide +kernel
theorem dX8_init_68 : decode cX8_init 68 = .ok (.putfield 44, 3) := by decide +kernel
theorem dX8_init_71 : decode cX8_init 71 = .ok (.aload_n 0, 1) := by decide +kernel
theorem dX8_init_72 : decode cX8_init 72 = .ok (.new 48, 3) := by decide +kernel
theorem dX8_init_75 : decode cX8_init 75 = .ok (.dup, 1) := by decide +kernel
theorem dX8_init_76 : decode cX8_init 76 = .ok (.aload_n 0, 1) := by decide +kernel
theorem dX8_init_77 : decode cX8_init 77 = .ok (.getfield 44, 3) := by decide +kernel
theorem dX8_init_80 : decode cX8_init 80 = .ok (.invokespecial 50, 3) := by decide +kernel
theorem dX8_init_83 : decode cX8_init 83 = .ok (.putfield 53, 3) := by decide +kernel
theorem dX8_init_86 : decode cX8_init 86 = .ok (.aload_n 0, 1) := by decide +kernel
theorem dX8_init_87 : decode cX8_init 87 = .ok (.new 57, 3) := by decide +kernel
theorem dX8_init_90 : decode cX8_init 90 = .ok (.dup, 1) := by decide +kernel
theorem dX8_init_91 : decode cX8_init 91 = .ok (.invokespecial 59, 3) := by decide +kernel
theorem dX8_init_94 : decode cX8_init 94 = .ok (.putfield 60, 3) := by decide +kernel
theorem dX8_init_97 : decode cX8_init 97 = .ok (.aload_n 0, 1) := by decide +kernel
theorem dX8_init_98 : decode cX8_init 98 = .ok (.new 57, 3) := by decide +kernel
theorem dX8_init_101 : decode cX8_init 101 = .ok (.dup, 1) := by decide +kernel
theorem dX8_init_102 : decode cX8_init 102 = .ok (.invokespecial 59, 3) := by decide +kernel
theorem dX8_init_105 : decode cX8_init 105 = .ok (.putfield 64, 3) := by decide +kernel
theorem dX8_init_108 : decode cX8_init 108 = .ok (.return_, 1) := by decide +kernel
set_option maxRecDepth 20000 in
theorem nc_X8_7 : NC RX8 7 3 [.int 0, .null, .null] := ⟨RX3, TX3, 3, tyX3, rfl, inWX3, tyX3_ok, gw_mem (tb1 30 rfl) rfl, gw_mem (tb1 31 rfl) rfl, gw_mem (tb1 2 rfl) rfl, (by intro j hj; rcases (show j = 0 ∨ j = 1 ∨ j = 2 by omega) with rfl | rfl | rfl <;> rfl), rfl⟩
set_option maxRecDepth 20000 in
theorem ff_X8_10 : FF RX8 10 8 0 := ⟨TX8, 8, tyX8, .object "TruckWing$Land", rfl, by decide, inWX8, gw_mem (tb2 42 rfl) rfl, tyX8_ok, nmX8, rfl, rfl, by decide +kernel, fun q => ⟨rfl, rfl⟩⟩
set_option maxRecDepth 20000 in
theorem nc_X8_16 : NC RX8 16 4 [.int 0, .int 0, .null, .null] := ⟨RX4, TX4, 4, tyX4, rfl, inWX4, tyX4_ok, gw_mem (tb1 60 rfl) rfl, gw_mem (tb1 61 rfl) rfl, gw_mem (tb1 3 rfl) rfl, (by intro j hj; rcases (show j = 0 ∨ j = 1 ∨ j = 2 ∨ j = 3 by omega) with rfl | rfl | rfl | rfl <;> rfl), rfl⟩
set_option maxRecDepth 20000 in
theorem ff_X8_19 : FF RX8 19 8 1 := ⟨TX8, 8, tyX8, .object "TruckWing$Plan", rfl, by decide, inWX8, gw_mem (tb2 43 rfl) rfl, tyX8_ok, nmX8, rfl, rfl, by decide +kernel, fun q => ⟨rfl, rfl⟩⟩
set_option maxRecDepth 20000 in
theorem nc_X8_23 : NC RX8 23 0 [.null, .null, .null, .int 0, .null, .null, .null, .null, .null, .null, .null] := ⟨RX0, TX0, 11, tyX0, rfl, inWX0, tyX0_ok, gw_mem (tb1 85 rfl) rfl, gw_mem (tb1 86 rfl) rfl, gw_mem (tb1 4 rfl) rfl, (by intro j hj; rcases (show j = 0 ∨ j = 1 ∨ j = 2 ∨ j = 3 ∨ j = 4 ∨ j = 5 ∨ j = 6 ∨ j = 7 ∨ j = 8 ∨ j = 9 ∨ j = 10 by omega) with rfl | rfl | rfl | rfl | rfl | rfl | rfl | rfl | rfl | rfl | rfl <;> rfl), rfl⟩
set_option maxRecDepth 20000 in
theorem ff_X8_28 : FF RX8 28 8 2 := ⟨TX8, 8, tyX8, .object "TruckWing$Course", rfl, by decide, inWX8, gw_mem (tb2 44 rfl) rfl, tyX8_ok, nmX8, rfl, rfl, by decide +kernel, fun q => ⟨rfl, rfl⟩⟩
set_option maxRecDepth 20000 in
theorem nc_X8_32 : NC RX8 32 5 [.null, .int 0, .int 0, .int 0, .int 0, .int 0, .int 0, .null, .null, .null, .null, .null, .null, .null, .null, .null, .null, .null] := ⟨RX5, TX5, 18, tyX5, rfl, inWX5, tyX5_ok, gw_mem (tb1 141 rfl) rfl, gw_mem (tb1 142 rfl) rfl, gw_mem (tb1 6 rfl) rfl, (by intro j hj; rcases (show j = 0 ∨ j = 1 ∨ j = 2 ∨ j = 3 ∨ j = 4 ∨ j = 5 ∨ j = 6 ∨ j = 7 ∨ j = 8 ∨ j = 9 ∨ j = 10 ∨ j = 11 ∨ j = 12 ∨ j = 13 ∨ j = 14 ∨ j = 15 ∨ j = 16 ∨ j = 17 by omega) with rfl | rfl | rfl | rfl | rfl | rfl | rfl | rfl | rfl | rfl | rfl | rfl | rfl | rfl | rfl | rfl | rfl | rfl <;> rfl), rfl⟩
set_option maxRecDepth 20000 in
theorem ff_X8_37 : FF RX8 37 8 3 := ⟨TX8, 8, tyX8, .object "TruckWing$Table", rfl, by decide, inWX8, gw_mem (tb2 45 rfl) rfl, tyX8_ok, nmX8, rfl, rfl, by decide +kernel, fun q => ⟨rfl, rfl⟩⟩
set_option maxRecDepth 20000 in
theorem nc_X8_41 : NC RX8 41 6 [.int 0, .null] := ⟨RX6, TX6, 2, tyX6, rfl, inWX6, tyX6_ok, gw_mem (tb1 203 rfl) rfl, gw_mem (tb1 204 rfl) rfl, gw_mem (tb1 7 rfl) rfl, (by intro j hj; rcases (show j = 0 ∨ j = 1 by omega) with rfl | rfl <;> rfl), rfl⟩
set_option maxRecDepth 20000 in
theorem ff_X8_44 : FF RX8 44 8 4 := ⟨TX8, 8, tyX8, .object "TruckWing$Tape", rfl, by decide, inWX8, gw_mem (tb2 46 rfl) rfl, tyX8_ok, nmX8, rfl, rfl, by decide +kernel, fun q => ⟨rfl, rfl⟩⟩
set_option maxRecDepth 20000 in
theorem nc_X8_48 : NC RX8 48 7 [.null, .null, .null, .null, .int 0, .int 0, .int 0, .int 0, .int 0, .int 0] := ⟨RX7, TX7, 10, tyX7, rfl, inWX7, tyX7_ok, gw_mem (tb1 218 rfl) rfl, gw_mem (tb1 219 rfl) rfl, gw_mem (tb1 8 rfl) rfl, (by intro j hj; rcases (show j = 0 ∨ j = 1 ∨ j = 2 ∨ j = 3 ∨ j = 4 ∨ j = 5 ∨ j = 6 ∨ j = 7 ∨ j = 8 ∨ j = 9 by omega) with rfl | rfl | rfl | rfl | rfl | rfl | rfl | rfl | rfl | rfl <;> rfl), rfl⟩
set_option maxRecDepth 20000 in
theorem ff_X8_53 : FF RX8 53 8 5 := ⟨TX8, 8, tyX8, .object "TruckWing$Teller", rfl, by decide, inWX8, gw_mem (tb2 47 rfl) rfl, tyX8_ok, nmX8, rfl, rfl, by decide +kernel, fun q => ⟨rfl, rfl⟩⟩
set_option maxRecDepth 20000 in
theorem nc_X8_57 : NC RX8 57 2 [.int 0, .int 0, .int 0] := ⟨RX2, TX2, 3, tyX2, rfl, inWX2, tyX2_ok, gw_mem (tb2 22 rfl) rfl, gw_mem (tb2 23 rfl) rfl, gw_mem (tb1 9 rfl) rfl, (by intro j hj; rcases (show j = 0 ∨ j = 1 ∨ j = 2 by omega) with rfl | rfl | rfl <;> rfl), rfl⟩
set_option maxRecDepth 20000 in
theorem ff_X8_60 : FF RX8 60 8 6 := ⟨TX8, 8, tyX8, .object "TruckWing$Found", rfl, by decide, inWX8, gw_mem (tb2 48 rfl) rfl, tyX8_ok, nmX8, rfl, rfl, by decide +kernel, fun q => ⟨rfl, rfl⟩⟩
set_option maxRecDepth 20000 in
theorem ff_X8_64 : FF RX8 64 8 7 := ⟨TX8, 8, tyX8, .object "TruckWing$Found", rfl, by decide, inWX8, gw_mem (tb2 49 rfl) rfl, tyX8_ok, nmX8, rfl, rfl, by decide +kernel, fun q => ⟨rfl, rfl⟩⟩
set_option maxRecDepth 20000 in
theorem oi_X8_1 : Cond.methodLink RX8 1 objectInit ∈ gw := gw_mem (tb1 27 rfl) rfl
set_option maxRecDepth 20000 in
theorem mli_X8_9 : ML RX8 9 yX3_init := Or.inr ⟨"TruckWing", nw_mem (tb1 32 rfl) rfl⟩
set_option maxRecDepth 20000 in
theorem mli_X8_18 : ML RX8 18 yX4_init := Or.inr ⟨"TruckWing", nw_mem (tb1 62 rfl) rfl⟩
set_option maxRecDepth 20000 in
theorem mli_X8_25 : ML RX8 25 yX0_init := Or.inr ⟨"TruckWing", nw_mem (tb1 87 rfl) rfl⟩
set_option maxRecDepth 20000 in
theorem mli_X8_34 : ML RX8 34 yX5_init := Or.inr ⟨"TruckWing", nw_mem (tb1 143 rfl) rfl⟩
set_option maxRecDepth 20000 in
theorem mli_X8_43 : ML RX8 43 yX6_init := Or.inr ⟨"TruckWing", nw_mem (tb1 205 rfl) rfl⟩
set_option maxRecDepth 20000 in
theorem mli_X8_50 : ML RX8 50 yX7_init := Or.inr ⟨"TruckWing", nw_mem (tb1 220 rfl) rfl⟩
set_option maxRecDepth 20000 in
theorem mli_X8_59 : ML RX8 59 yX2_init := Or.inr ⟨"TruckWing", nw_mem (tb2 24 rfl) rfl⟩
set_option maxRecDepth 20000 in
theorem iy_X8_init : MY yX8_init cX8_init 1 none 0 := ⟨gw_mem (tb1 26 rfl) rfl, gw_mem (tb1 1 rfl) rfl, by decide +kernel⟩
set_option maxRecDepth 20000 in
theorem ii_X8_init : Cond.instanceMethod yX8_init ∈ gw := gw_mem (tb1 25 rfl) rfl
set_option maxRecDepth 100000 in
set_option maxHeartbeats 4000000 in
theorem nX8_init {l : Launch} (G : Gx) (h0 : Nat) : Cn l G yX8_init cX8_init 1 3 40 901 [.ref h0] h0 (.inr (8, [.null, .null, .null, .null, .null, .null, .null, .null])) (fun w1 => ∃ q1 q2 q3 q4 q5 q6 q7 q8 q9 q10 q11 q12 q13 q14 q15 q16 q17 q18 q19 q20 q21 q22 q23 q24 q25 q26 q27 q28 q29 q30 q31 q32 q33 q34 q35 q36 q37 q38 q39 q40 : Nat, w1 = [(h0, .inr (8, [.ref q1, .ref q4, .ref q7, .ref q17, .ref q29, .ref q31, .ref q39, .ref q40])), (q1, .inr (3, [.int 0, .ref q2, .ref q3])), (q2, .inl (G.2.1 .int, 45, .inl fun _ => 0)), (q3, .inl (G.2.1 .int, 10, .inl stF)), (q4, .inr (4, [.int 0, .int 0, .ref q5, .ref q6])), (q5, .inl (G.2.1 .int, 8, .inl fun _ => 0)), (q6, .inl (G.2.1 .int, 32, .inl fun _ => 0)), (q7, .inr (0, [.ref q1, .ref q4, .ref q8, .int 0, .ref q10, .ref q11, .ref q12, .ref q13, .ref q14, .ref q15, .ref q16])), (q8, .inr (1, [.int 0, .ref q9])), (q9, .inl (G.2.1 .int, 26, .inl fun _ => 0)), (q10, .inl (G.2.1 .int, 10, .inl fun _ => 0)), (q11, .inl (G.2.1 .int, 10, .inl fun _ => 0)), (q12, .inl (G.2.1 .int, 10, .inl fun _ => 0)), (q13, .inl (G.2.1 .int, 10, .inl fun _ => 0)), (q14, .inl (G.2.1 .int, 8, .inl fun _ => 0)), (q15, .inl (G.2.1 .int, 8, .inl fun _ => 0)), (q16, .inl (G.2.1 .int, 8, .inl fun _ => 0)), (q17, .inr (5, [.ref q1, .int 0, .int 0, .int 0, .int 0, .int 0, .int 0, .ref q18, .ref q19, .ref q20, .ref q21, .ref q22, .ref q23, .ref q24, .ref q25, .ref q26, .ref q27, .ref q28])), (q18, .inl (G.2.1 .int, 81, .inl fun _ => 0)), (q19, .inl (G.2.1 .int, 81, .inl fun _ => 0)), (q20, .inl (G.2.1 .int, 9, .inl fun _ => 0)), (q21, .inl (G.2.1 .boolean, 9, .inl fun _ => 0)), (q22, .inl (G.2.1 .int, 10, .inl fun _ => 0)), (q23, .inl (G.2.1 .int, 10, .inl fun _ => 0)), (q24, .inl (G.2.1 .int, 10, .inl fun _ => 0)), (q25, .inl (G.2.1 .int, 10, .inl fun _ => 0)), (q26, .inl (G.2.1 .int, 10, .inl fun _ => 0)), (q27, .inl (G.2.1 .int, 10, .inl fun _ => 0)), (q28, .inl (G.2.1 .int, 10, .inl fun _ => 0)), (q29, .inr (6, [.int 0, .ref q30])), (q30, .inl (G.2.1 .int, 300, .inl fun _ => 0)), (q31, .inr (7, [.ref q29, .ref q32, .ref q35, .ref q38, .int 0, .int 0, .int 0, .int 0, .int 0, .int 0])), (q32, .inr (3, [.int 0, .ref q33, .ref q34])), (q33, .inl (G.2.1 .int, 45, .inl fun _ => 0)), (q34, .inl (G.2.1 .int, 10, .inl stF)), (q35, .inr (4, [.int 0, .int 0, .ref q36, .ref q37])), (q36, .inl (G.2.1 .int, 8, .inl fun _ => 0)), (q37, .inl (G.2.1 .int, 32, .inl fun _ => 0)), (q38, .inl (G.2.1 .int, 8, .inl fun _ => 0)), (q39, .inr (2, [.int 0, .int 0, .int 0])), (q40, .inr (2, [.int 0, .int 0, .int 0]))]) := by
  refine Cn.of (by decide) rfl rfl (lv := [(0, .ref h0)]) rfl ?_
  intro K A hA hkl C
  change Ck K (cX8_init, RX8, 1, rmi0 3 40 901) G A at C
  subst hkl
  change Wi K (cX8_init, RX8, 1, rmi0 3 40 901) G A _ [(h0, .inr (8, [.null, .null, .null, .null, .null, .null, .null, .null]))] 0 0 0 _ _
  refine i_aload_n C (pc := 0) dX8_init_0 0 rfl ?_
  refine i_obj C (pc := 1) dX8_init_1 oi_X8_1 oi_inst oi_code ⟨rfl, rfl⟩ ?_
  refine i_aload_n C (pc := 4) dX8_init_4 0 rfl ?_
  refine i_new C (pc := 5) dX8_init_5 (ws' := fun q => [(h0, .inr (8, [.null, .null, .null, .null, .null, .null, .null, .null])), (q, .inr (3, [.int 0, .null, .null]))]) nc_X8_7 rfl rfl (fun q => rfl) (fun q1 => ?_)
  refine i_dup C (pc := 8) dX8_init_8 rfl ?_
  refine i_call C (pc := 9) dX8_init_9 (wr := [(h0, .inr (8, [.null, .null, .null, .null, .null, .null, .null, .null]))]) iy_X3_init ii_X3_init rfl mli_X8_9 rfl ⟨rfl, rfl⟩ rfl rfl [] rfl rfl (Nat.le_of_ble_eq_true rfl) (nX3_init _ _) (fun w1 hp => ?_)
  obtain ⟨q2, q3, rfl⟩ := hp
  change Wi K _ G A _ [(h0, .inr (8, [.null, .null, .null, .null, .null, .null, .null, .null])), (q1, .inr (3, [.int 0, .ref q2, .ref q3])), (q2, .inl (G.2.1 .int, 45, .inl fun _ => 0)), (q3, .inl (G.2.1 .int, 10, .inl stF))] _ _ _ _ _
  refine i_putF C (pc := 12) dX8_init_12 (k := 0) (ws' := [(h0, .inr (8, [.ref q1, .null, .null, .null, .null, .null, .null, .null])), (q1, .inr (3, [.int 0, .ref q2, .ref q3])), (q2, .inl (G.2.1 .int, 45, .inl fun _ => 0)), (q3, .inl (G.2.1 .int, 10, .inl stF))]) ff_X8_10 rfl rfl rfl ?_
  refine i_aload_n C (pc := 15) dX8_init_15 0 rfl ?_
  refine i_new C (pc := 16) dX8_init_16 (ws' := fun q => [(h0, .inr (8, [.ref q1, .null, .null, .null, .null, .null, .null, .null])), (q1, .inr (3, [.int 0, .ref q2, .ref q3])), (q2, .inl (G.2.1 .int, 45, .inl fun _ => 0)), (q3, .inl (G.2.1 .int, 10, .inl stF)), (q, .inr (4, [.int 0, .int 0, .null, .null]))]) nc_X8_16 rfl rfl (fun q => rfl) (fun q4 => ?_)
  refine i_dup C (pc := 19) dX8_init_19 rfl ?_
  refine i_call C (pc := 20) dX8_init_20 (wr := [(h0, .inr (8, [.ref q1, .null, .null, .null, .null, .null, .null, .null])), (q1, .inr (3, [.int 0, .ref q2, .ref q3])), (q2, .inl (G.2.1 .int, 45, .inl fun _ => 0)), (q3, .inl (G.2.1 .int, 10, .inl stF))]) iy_X4_init ii_X4_init rfl mli_X8_18 rfl ⟨rfl, rfl⟩ rfl rfl [] rfl rfl (Nat.le_of_ble_eq_true rfl) (nX4_init _ _) (fun w1 hp => ?_)
  obtain ⟨q5, q6, rfl⟩ := hp
  change Wi K _ G A _ [(h0, .inr (8, [.ref q1, .null, .null, .null, .null, .null, .null, .null])), (q1, .inr (3, [.int 0, .ref q2, .ref q3])), (q2, .inl (G.2.1 .int, 45, .inl fun _ => 0)), (q3, .inl (G.2.1 .int, 10, .inl stF)), (q4, .inr (4, [.int 0, .int 0, .ref q5, .ref q6])), (q5, .inl (G.2.1 .int, 8, .inl fun _ => 0)), (q6, .inl (G.2.1 .int, 32, .inl fun _ => 0))] _ _ _ _ _
  refine i_putF C (pc := 23) dX8_init_23 (k := 0) (ws' := [(h0, .inr (8, [.ref q1, .ref q4, .null, .null, .null, .null, .null, .null])), (q1, .inr (3, [.int 0, .ref q2, .ref q3])), (q2, .inl (G.2.1 .int, 45, .inl fun _ => 0)), (q3, .inl (G.2.1 .int, 10, .inl stF)), (q4, .inr (4, [.int 0, .int 0, .ref q5, .ref q6])), (q5, .inl (G.2.1 .int, 8, .inl fun _ => 0)), (q6, .inl (G.2.1 .int, 32, .inl fun _ => 0))]) ff_X8_19 rfl rfl rfl ?_
  refine i_aload_n C (pc := 26) dX8_init_26 0 rfl ?_
  refine i_new C (pc := 27) dX8_init_27 (ws' := fun q => [(h0, .inr (8, [.ref q1, .ref q4, .null, .null, .null, .null, .null, .null])), (q1, .inr (3, [.int 0, .ref q2, .ref q3])), (q2, .inl (G.2.1 .int, 45, .inl fun _ => 0)), (q3, .inl (G.2.1 .int, 10, .inl stF)), (q4, .inr (4, [.int 0, .int 0, .ref q5, .ref q6])), (q5, .inl (G.2.1 .int, 8, .inl fun _ => 0)), (q6, .inl (G.2.1 .int, 32, .inl fun _ => 0)), (q, .inr (0, [.null, .null, .null, .int 0, .null, .null, .null, .null, .null, .null, .null]))]) nc_X8_23 rfl rfl (fun q => rfl) (fun q7 => ?_)
  refine i_dup C (pc := 30) dX8_init_30 rfl ?_
  refine i_aload_n C (pc := 31) dX8_init_31 0 rfl ?_
  refine i_getR C (pc := 32) dX8_init_32 (k := 0) ff_X8_10 rfl rfl ?_
  refine i_aload_n C (pc := 35) dX8_init_35 0 rfl ?_
  refine i_getR C (pc := 36) dX8_init_36 (k := 0) ff_X8_19 rfl rfl ?_
  refine i_call C (pc := 39) dX8_init_39 (wr := [(h0, .inr (8, [.ref q1, .ref q4, .null, .null, .null, .null, .null, .null])), (q1, .inr (3, [.int 0, .ref q2, .ref q3])), (q2, .inl (G.2.1 .int, 45, .inl fun _ => 0)), (q3, .inl (G.2.1 .int, 10, .inl stF)), (q4, .inr (4, [.int 0, .int 0, .ref q5, .ref q6])), (q5, .inl (G.2.1 .int, 8, .inl fun _ => 0)), (q6, .inl (G.2.1 .int, 32, .inl fun _ => 0))]) iy_X0_init ii_X0_init rfl mli_X8_25 rfl ⟨rfl, rfl⟩ rfl rfl [.ref q1, .ref q4] rfl rfl (Nat.le_of_ble_eq_true rfl) (nX0_init _ _ _ _) (fun w1 hp => ?_)
  obtain ⟨q8, q9, q10, q11, q12, q13, q14, q15, q16, rfl⟩ := hp
  change Wi K _ G A _ [(h0, .inr (8, [.ref q1, .ref q4, .null, .null, .null, .null, .null, .null])), (q1, .inr (3, [.int 0, .ref q2, .ref q3])), (q2, .inl (G.2.1 .int, 45, .inl fun _ => 0)), (q3, .inl (G.2.1 .int, 10, .inl stF)), (q4, .inr (4, [.int 0, .int 0, .ref q5, .ref q6])), (q5, .inl (G.2.1 .int, 8, .inl fun _ => 0)), (q6, .inl (G.2.1 .int, 32, .inl fun _ => 0)), (q7, .inr (0, [.ref q1, .ref q4, .ref q8, .int 0, .ref q10, .ref q11, .ref q12, .ref q13, .ref q14, .ref q15, .ref q16])), (q8, .inr (1, [.int 0, .ref q9])), (q9, .inl (G.2.1 .int, 26, .inl fun _ => 0)), (q10, .inl (G.2.1 .int, 10, .inl fun _ => 0)), (q11, .inl (G.2.1 .int, 10, .inl fun _ => 0)), (q12, .inl (G.2.1 .int, 10, .inl fun _ => 0)), (q13, .inl (G.2.1 .int, 10, .inl fun _ => 0)), (q14, .inl (G.2.1 .int, 8, .inl fun _ => 0)), (q15, .inl (G.2.1 .int, 8, .inl fun _ => 0)), (q16, .inl (G.2.1 .int, 8, .inl fun _ => 0))] _ _ _ _ _
  refine i_putF C (pc := 42) dX8_init_42 (k := 0) (ws' := [(h0, .inr (8, [.ref q1, .ref q4, .ref q7, .null, .null, .null, .null, .null])), (q1, .inr (3, [.int 0, .ref q2, .ref q3])), (q2, .inl (G.2.1 .int, 45, .inl fun _ => 0)), (q3, .inl (G.2.1 .int, 10, .inl stF)), (q4, .inr (4, [.int 0, .int 0, .ref q5, .ref q6])), (q5, .inl (G.2.1 .int, 8, .inl fun _ => 0)), (q6, .inl (G.2.1 .int, 32, .inl fun _ => 0)), (q7, .inr (0, [.ref q1, .ref q4, .ref q8, .int 0, .ref q10, .ref q11, .ref q12, .ref q13, .ref q14, .ref q15, .ref q16])), (q8, .inr (1, [.int 0, .ref q9])), (q9, .inl (G.2.1 .int, 26, .inl fun _ => 0)), (q10, .inl (G.2.1 .int, 10, .inl fun _ => 0)), (q11, .inl (G.2.1 .int, 10, .inl fun _ => 0)), (q12, .inl (G.2.1 .int, 10, .inl fun _ => 0)), (q13, .inl (G.2.1 .int, 10, .inl fun _ => 0)), (q14, .inl (G.2.1 .int, 8, .inl fun _ => 0)), (q15, .inl (G.2.1 .int, 8, .inl fun _ => 0)), (q16, .inl (G.2.1 .int, 8, .inl fun _ => 0))]) ff_X8_28 rfl rfl rfl ?_
  refine i_aload_n C (pc := 45) dX8_init_45 0 rfl ?_
  refine i_new C (pc := 46) dX8_init_46 (ws' := fun q => [(h0, .inr (8, [.ref q1, .ref q4, .ref q7, .null, .null, .null, .null, .null])), (q1, .inr (3, [.int 0, .ref q2, .ref q3])), (q2, .inl (G.2.1 .int, 45, .inl fun _ => 0)), (q3, .inl (G.2.1 .int, 10, .inl stF)), (q4, .inr (4, [.int 0, .int 0, .ref q5, .ref q6])), (q5, .inl (G.2.1 .int, 8, .inl fun _ => 0)), (q6, .inl (G.2.1 .int, 32, .inl fun _ => 0)), (q7, .inr (0, [.ref q1, .ref q4, .ref q8, .int 0, .ref q10, .ref q11, .ref q12, .ref q13, .ref q14, .ref q15, .ref q16])), (q8, .inr (1, [.int 0, .ref q9])), (q9, .inl (G.2.1 .int, 26, .inl fun _ => 0)), (q10, .inl (G.2.1 .int, 10, .inl fun _ => 0)), (q11, .inl (G.2.1 .int, 10, .inl fun _ => 0)), (q12, .inl (G.2.1 .int, 10, .inl fun _ => 0)), (q13, .inl (G.2.1 .int, 10, .inl fun _ => 0)), (q14, .inl (G.2.1 .int, 8, .inl fun _ => 0)), (q15, .inl (G.2.1 .int, 8, .inl fun _ => 0)), (q16, .inl (G.2.1 .int, 8, .inl fun _ => 0)), (q, .inr (5, [.null, .int 0, .int 0, .int 0, .int 0, .int 0, .int 0, .null, .null, .null, .null, .null, .null, .null, .null, .null, .null, .null]))]) nc_X8_32 rfl rfl (fun q => rfl) (fun q17 => ?_)
  refine i_dup C (pc := 49) dX8_init_49 rfl ?_
  refine i_aload_n C (pc := 50) dX8_init_50 0 rfl ?_
  refine i_getR C (pc := 51) dX8_init_51 (k := 0) ff_X8_10 rfl rfl ?_
  refine i_call C (pc := 54) dX8_init_54 (wr := [(h0, .inr (8, [.ref q1, .ref q4, .ref q7, .null, .null, .null, .null, .null])), (q1, .inr (3, [.int 0, .ref q2, .ref q3])), (q2, .inl (G.2.1 .int, 45, .inl fun _ => 0)), (q3, .inl (G.2.1 .int, 10, .inl stF)), (q4, .inr (4, [.int 0, .int 0, .ref q5, .ref q6])), (q5, .inl (G.2.1 .int, 8, .inl fun _ => 0)), (q6, .inl (G.2.1 .int, 32, .inl fun _ => 0)), (q7, .inr (0, [.ref q1, .ref q4, .ref q8, .int 0, .ref q10, .ref q11, .ref q12, .ref q13, .ref q14, .ref q15, .ref q16])), (q8, .inr (1, [.int 0, .ref q9])), (q9, .inl (G.2.1 .int, 26, .inl fun _ => 0)), (q10, .inl (G.2.1 .int, 10, .inl fun _ => 0)), (q11, .inl (G.2.1 .int, 10, .inl fun _ => 0)), (q12, .inl (G.2.1 .int, 10, .inl fun _ => 0)), (q13, .inl (G.2.1 .int, 10, .inl fun _ => 0)), (q14, .inl (G.2.1 .int, 8, .inl fun _ => 0)), (q15, .inl (G.2.1 .int, 8, .inl fun _ => 0)), (q16, .inl (G.2.1 .int, 8, .inl fun _ => 0))]) iy_X5_init ii_X5_init rfl mli_X8_34 rfl ⟨rfl, rfl⟩ rfl rfl [.ref q1] rfl rfl (Nat.le_of_ble_eq_true rfl) (nX5_init _ _ _) (fun w1 hp => ?_)
  obtain ⟨q18, q19, q20, q21, q22, q23, q24, q25, q26, q27, q28, rfl⟩ := hp
  change Wi K _ G A _ [(h0, .inr (8, [.ref q1, .ref q4, .ref q7, .null, .null, .null, .null, .null])), (q1, .inr (3, [.int 0, .ref q2, .ref q3])), (q2, .inl (G.2.1 .int, 45, .inl fun _ => 0)), (q3, .inl (G.2.1 .int, 10, .inl stF)), (q4, .inr (4, [.int 0, .int 0, .ref q5, .ref q6])), (q5, .inl (G.2.1 .int, 8, .inl fun _ => 0)), (q6, .inl (G.2.1 .int, 32, .inl fun _ => 0)), (q7, .inr (0, [.ref q1, .ref q4, .ref q8, .int 0, .ref q10, .ref q11, .ref q12, .ref q13, .ref q14, .ref q15, .ref q16])), (q8, .inr (1, [.int 0, .ref q9])), (q9, .inl (G.2.1 .int, 26, .inl fun _ => 0)), (q10, .inl (G.2.1 .int, 10, .inl fun _ => 0)), (q11, .inl (G.2.1 .int, 10, .inl fun _ => 0)), (q12, .inl (G.2.1 .int, 10, .inl fun _ => 0)), (q13, .inl (G.2.1 .int, 10, .inl fun _ => 0)), (q14, .inl (G.2.1 .int, 8, .inl fun _ => 0)), (q15, .inl (G.2.1 .int, 8, .inl fun _ => 0)), (q16, .inl (G.2.1 .int, 8, .inl fun _ => 0)), (q17, .inr (5, [.ref q1, .int 0, .int 0, .int 0, .int 0, .int 0, .int 0, .ref q18, .ref q19, .ref q20, .ref q21, .ref q22, .ref q23, .ref q24, .ref q25, .ref q26, .ref q27, .ref q28])), (q18, .inl (G.2.1 .int, 81, .inl fun _ => 0)), (q19, .inl (G.2.1 .int, 81, .inl fun _ => 0)), (q20, .inl (G.2.1 .int, 9, .inl fun _ => 0)), (q21, .inl (G.2.1 .boolean, 9, .inl fun _ => 0)), (q22, .inl (G.2.1 .int, 10, .inl fun _ => 0)), (q23, .inl (G.2.1 .int, 10, .inl fun _ => 0)), (q24, .inl (G.2.1 .int, 10, .inl fun _ => 0)), (q25, .inl (G.2.1 .int, 10, .inl fun _ => 0)), (q26, .inl (G.2.1 .int, 10, .inl fun _ => 0)), (q27, .inl (G.2.1 .int, 10, .inl fun _ => 0)), (q28, .inl (G.2.1 .int, 10, .inl fun _ => 0))] _ _ _ _ _
  refine i_putF C (pc := 57) dX8_init_57 (k := 0) (ws' := [(h0, .inr (8, [.ref q1, .ref q4, .ref q7, .ref q17, .null, .null, .null, .null])), (q1, .inr (3, [.int 0, .ref q2, .ref q3])), (q2, .inl (G.2.1 .int, 45, .inl fun _ => 0)), (q3, .inl (G.2.1 .int, 10, .inl stF)), (q4, .inr (4, [.int 0, .int 0, .ref q5, .ref q6])), (q5, .inl (G.2.1 .int, 8, .inl fun _ => 0)), (q6, .inl (G.2.1 .int, 32, .inl fun _ => 0)), (q7, .inr (0, [.ref q1, .ref q4, .ref q8, .int 0, .ref q10, .ref q11, .ref q12, .ref q13, .ref q14, .ref q15, .ref q16])), (q8, .inr (1, [.int 0, .ref q9])), (q9, .inl (G.2.1 .int, 26, .inl fun _ => 0)), (q10, .inl (G.2.1 .int, 10, .inl fun _ => 0)), (q11, .inl (G.2.1 .int, 10, .inl fun _ => 0)), (q12, .inl (G.2.1 .int, 10, .inl fun _ => 0)), (q13, .inl (G.2.1 .int, 10, .inl fun _ => 0)), (q14, .inl (G.2.1 .int, 8, .inl fun _ => 0)), (q15, .inl (G.2.1 .int, 8, .inl fun _ => 0)), (q16, .inl (G.2.1 .int, 8, .inl fun _ => 0)), (q17, .inr (5, [.ref q1, .int 0, .int 0, .int 0, .int 0, .int 0, .int 0, .ref q18, .ref q19, .ref q20, .ref q21, .ref q22, .ref q23, .ref q24, .ref q25, .ref q26, .ref q27, .ref q28])), (q18, .inl (G.2.1 .int, 81, .inl fun _ => 0)), (q19, .inl (G.2.1 .int, 81, .inl fun _ => 0)), (q20, .inl (G.2.1 .int, 9, .inl fun _ => 0)), (q21, .inl (G.2.1 .boolean, 9, .inl fun _ => 0)), (q22, .inl (G.2.1 .int, 10, .inl fun _ => 0)), (q23, .inl (G.2.1 .int, 10, .inl fun _ => 0)), (q24, .inl (G.2.1 .int, 10, .inl fun _ => 0)), (q25, .inl (G.2.1 .int, 10, .inl fun _ => 0)), (q26, .inl (G.2.1 .int, 10, .inl fun _ => 0)), (q27, .inl (G.2.1 .int, 10, .inl fun _ => 0)), (q28, .inl (G.2.1 .int, 10, .inl fun _ => 0))]) ff_X8_37 rfl rfl rfl ?_
  refine i_aload_n C (pc := 60) dX8_init_60 0 rfl ?_
  refine i_new C (pc := 61) dX8_init_61 (ws' := fun q => [(h0, .inr (8, [.ref q1, .ref q4, .ref q7, .ref q17, .null, .null, .null, .null])), (q1, .inr (3, [.int 0, .ref q2, .ref q3])), (q2, .inl (G.2.1 .int, 45, .inl fun _ => 0)), (q3, .inl (G.2.1 .int, 10, .inl stF)), (q4, .inr (4, [.int 0, .int 0, .ref q5, .ref q6])), (q5, .inl (G.2.1 .int, 8, .inl fun _ => 0)), (q6, .inl (G.2.1 .int, 32, .inl fun _ => 0)), (q7, .inr (0, [.ref q1, .ref q4, .ref q8, .int 0, .ref q10, .ref q11, .ref q12, .ref q13, .ref q14, .ref q15, .ref q16])), (q8, .inr (1, [.int 0, .ref q9])), (q9, .inl (G.2.1 .int, 26, .inl fun _ => 0)), (q10, .inl (G.2.1 .int, 10, .inl fun _ => 0)), (q11, .inl (G.2.1 .int, 10, .inl fun _ => 0)), (q12, .inl (G.2.1 .int, 10, .inl fun _ => 0)), (q13, .inl (G.2.1 .int, 10, .inl fun _ => 0)), (q14, .inl (G.2.1 .int, 8, .inl fun _ => 0)), (q15, .inl (G.2.1 .int, 8, .inl fun _ => 0)), (q16, .inl (G.2.1 .int, 8, .inl fun _ => 0)), (q17, .inr (5, [.ref q1, .int 0, .int 0, .int 0, .int 0, .int 0, .int 0, .ref q18, .ref q19, .ref q20, .ref q21, .ref q22, .ref q23, .ref q24, .ref q25, .ref q26, .ref q27, .ref q28])), (q18, .inl (G.2.1 .int, 81, .inl fun _ => 0)), (q19, .inl (G.2.1 .int, 81, .inl fun _ => 0)), (q20, .inl (G.2.1 .int, 9, .inl fun _ => 0)), (q21, .inl (G.2.1 .boolean, 9, .inl fun _ => 0)), (q22, .inl (G.2.1 .int, 10, .inl fun _ => 0)), (q23, .inl (G.2.1 .int, 10, .inl fun _ => 0)), (q24, .inl (G.2.1 .int, 10, .inl fun _ => 0)), (q25, .inl (G.2.1 .int, 10, .inl fun _ => 0)), (q26, .inl (G.2.1 .int, 10, .inl fun _ => 0)), (q27, .inl (G.2.1 .int, 10, .inl fun _ => 0)), (q28, .inl (G.2.1 .int, 10, .inl fun _ => 0)), (q, .inr (6, [.int 0, .null]))]) nc_X8_41 rfl rfl (fun q => rfl) (fun q29 => ?_)
  refine i_dup C (pc := 64) dX8_init_64 rfl ?_
  refine i_call C (pc := 65) dX8_init_65 (wr := [(h0, .inr (8, [.ref q1, .ref q4, .ref q7, .ref q17, .null, .null, .null, .null])), (q1, .inr (3, [.int 0, .ref q2, .ref q3])), (q2, .inl (G.2.1 .int, 45, .inl fun _ => 0)), (q3, .inl (G.2.1 .int, 10, .inl stF)), (q4, .inr (4, [.int 0, .int 0, .ref q5, .ref q6])), (q5, .inl (G.2.1 .int, 8, .inl fun _ => 0)), (q6, .inl (G.2.1 .int, 32, .inl fun _ => 0)), (q7, .inr (0, [.ref q1, .ref q4, .ref q8, .int 0, .ref q10, .ref q11, .ref q12, .ref q13, .ref q14, .ref q15, .ref q16])), (q8, .inr (1, [.int 0, .ref q9])), (q9, .inl (G.2.1 .int, 26, .inl fun _ => 0)), (q10, .inl (G.2.1 .int, 10, .inl fun _ => 0)), (q11, .inl (G.2.1 .int, 10, .inl fun _ => 0)), (q12, .inl (G.2.1 .int, 10, .inl fun _ => 0)), (q13, .inl (G.2.1 .int, 10, .inl fun _ => 0)), (q14, .inl (G.2.1 .int, 8, .inl fun _ => 0)), (q15, .inl (G.2.1 .int, 8, .inl fun _ => 0)), (q16, .inl (G.2.1 .int, 8, .inl fun _ => 0)), (q17, .inr (5, [.ref q1, .int 0, .int 0, .int 0, .int 0, .int 0, .int 0, .ref q18, .ref q19, .ref q20, .ref q21, .ref q22, .ref q23, .ref q24, .ref q25, .ref q26, .ref q27, .ref q28])), (q18, .inl (G.2.1 .int, 81, .inl fun _ => 0)), (q19, .inl (G.2.1 .int, 81, .inl fun _ => 0)), (q20, .inl (G.2.1 .int, 9, .inl fun _ => 0)), (q21, .inl (G.2.1 .boolean, 9, .inl fun _ => 0)), (q22, .inl (G.2.1 .int, 10, .inl fun _ => 0)), (q23, .inl (G.2.1 .int, 10, .inl fun _ => 0)), (q24, .inl (G.2.1 .int, 10, .inl fun _ => 0)), (q25, .inl (G.2.1 .int, 10, .inl fun _ => 0)), (q26, .inl (G.2.1 .int, 10, .inl fun _ => 0)), (q27, .inl (G.2.1 .int, 10, .inl fun _ => 0)), (q28, .inl (G.2.1 .int, 10, .inl fun _ => 0))]) iy_X6_init ii_X6_init rfl mli_X8_43 rfl ⟨rfl, rfl⟩ rfl rfl [] rfl rfl (Nat.le_of_ble_eq_true rfl) (nX6_init _ _) (fun w1 hp => ?_)
  obtain ⟨q30, rfl⟩ := hp
  change Wi K _ G A _ [(h0, .inr (8, [.ref q1, .ref q4, .ref q7, .ref q17, .null, .null, .null, .null])), (q1, .inr (3, [.int 0, .ref q2, .ref q3])), (q2, .inl (G.2.1 .int, 45, .inl fun _ => 0)), (q3, .inl (G.2.1 .int, 10, .inl stF)), (q4, .inr (4, [.int 0, .int 0, .ref q5, .ref q6])), (q5, .inl (G.2.1 .int, 8, .inl fun _ => 0)), (q6, .inl (G.2.1 .int, 32, .inl fun _ => 0)), (q7, .inr (0, [.ref q1, .ref q4, .ref q8, .int 0, .ref q10, .ref q11, .ref q12, .ref q13, .ref q14, .ref q15, .ref q16])), (q8, .inr (1, [.int 0, .ref q9])), (q9, .inl (G.2.1 .int, 26, .inl fun _ => 0)), (q10, .inl (G.2.1 .int, 10, .inl fun _ => 0)), (q11, .inl (G.2.1 .int, 10, .inl fun _ => 0)), (q12, .inl (G.2.1 .int, 10, .inl fun _ => 0)), (q13, .inl (G.2.1 .int, 10, .inl fun _ => 0)), (q14, .inl (G.2.1 .int, 8, .inl fun _ => 0)), (q15, .inl (G.2.1 .int, 8, .inl fun _ => 0)), (q16, .inl (G.2.1 .int, 8, .inl fun _ => 0)), (q17, .inr (5, [.ref q1, .int 0, .int 0, .int 0, .int 0, .int 0, .int 0, .ref q18, .ref q19, .ref q20, .ref q21, .ref q22, .ref q23, .ref q24, .ref q25, .ref q26, .ref q27, .ref q28])), (q18, .inl (G.2.1 .int, 81, .inl fun _ => 0)), (q19, .inl (G.2.1 .int, 81, .inl fun _ => 0)), (q20, .inl (G.2.1 .int, 9, .inl fun _ => 0)), (q21, .inl (G.2.1 .boolean, 9, .inl fun _ => 0)), (q22, .inl (G.2.1 .int, 10, .inl fun _ => 0)), (q23, .inl (G.2.1 .int, 10, .inl fun _ => 0)), (q24, .inl (G.2.1 .int, 10, .inl fun _ => 0)), (q25, .inl (G.2.1 .int, 10, .inl fun _ => 0)), (q26, .inl (G.2.1 .int, 10, .inl fun _ => 0)), (q27, .inl (G.2.1 .int, 10, .inl fun _ => 0)), (q28, .inl (G.2.1 .int, 10, .inl fun _ => 0)), (q29, .inr (6, [.int 0, .ref q30])), (q30, .inl (G.2.1 .int, 300, .inl fun _ => 0))] _ _ _ _ _
  refine i_putF C (pc := 68) dX8_init_68 (k := 0) (ws' := [(h0, .inr (8, [.ref q1, .ref q4, .ref q7, .ref q17, .ref q29, .null, .null, .null])), (q1, .inr (3, [.int 0, .ref q2, .ref q3])), (q2, .inl (G.2.1 .int, 45, .inl fun _ => 0)), (q3, .inl (G.2.1 .int, 10, .inl stF)), (q4, .inr (4, [.int 0, .int 0, .ref q5, .ref q6])), (q5, .inl (G.2.1 .int, 8, .inl fun _ => 0)), (q6, .inl (G.2.1 .int, 32, .inl fun _ => 0)), (q7, .inr (0, [.ref q1, .ref q4, .ref q8, .int 0, .ref q10, .ref q11, .ref q12, .ref q13, .ref q14, .ref q15, .ref q16])), (q8, .inr (1, [.int 0, .ref q9])), (q9, .inl (G.2.1 .int, 26, .inl fun _ => 0)), (q10, .inl (G.2.1 .int, 10, .inl fun _ => 0)), (q11, .inl (G.2.1 .int, 10, .inl fun _ => 0)), (q12, .inl (G.2.1 .int, 10, .inl fun _ => 0)), (q13, .inl (G.2.1 .int, 10, .inl fun _ => 0)), (q14, .inl (G.2.1 .int, 8, .inl fun _ => 0)), (q15, .inl (G.2.1 .int, 8, .inl fun _ => 0)), (q16, .inl (G.2.1 .int, 8, .inl fun _ => 0)), (q17, .inr (5, [.ref q1, .int 0, .int 0, .int 0, .int 0, .int 0, .int 0, .ref q18, .ref q19, .ref q20, .ref q21, .ref q22, .ref q23, .ref q24, .ref q25, .ref q26, .ref q27, .ref q28])), (q18, .inl (G.2.1 .int, 81, .inl fun _ => 0)), (q19, .inl (G.2.1 .int, 81, .inl fun _ => 0)), (q20, .inl (G.2.1 .int, 9, .inl fun _ => 0)), (q21, .inl (G.2.1 .boolean, 9, .inl fun _ => 0)), (q22, .inl (G.2.1 .int, 10, .inl fun _ => 0)), (q23, .inl (G.2.1 .int, 10, .inl fun _ => 0)), (q24, .inl (G.2.1 .int, 10, .inl fun _ => 0)), (q25, .inl (G.2.1 .int, 10, .inl fun _ => 0)), (q26, .inl (G.2.1 .int, 10, .inl fun _ => 0)), (q27, .inl (G.2.1 .int, 10, .inl fun _ => 0)), (q28, .inl (G.2.1 .int, 10, .inl fun _ => 0)), (q29, .inr (6, [.int 0, .ref q30])), (q30, .inl (G.2.1 .int, 300, .inl fun _ => 0))]) ff_X8_44 rfl rfl rfl ?_
  refine i_aload_n C (pc := 71) dX8_init_71 0 rfl ?_
  refine i_new C (pc := 72) dX8_init_72 (ws' := fun q => [(h0, .inr (8, [.ref q1, .ref q4, .ref q7, .ref q17, .ref q29, .null, .null, .null])), (q1, .inr (3, [.int 0, .ref q2, .ref q3])), (q2, .inl (G.2.1 .int, 45, .inl fun _ => 0)), (q3, .inl (G.2.1 .int, 10, .inl stF)), (q4, .inr (4, [.int 0, .int 0, .ref q5, .ref q6])), (q5, .inl (G.2.1 .int, 8, .inl fun _ => 0)), (q6, .inl (G.2.1 .int, 32, .inl fun _ => 0)), (q7, .inr (0, [.ref q1, .ref q4, .ref q8, .int 0, .ref q10, .ref q11, .ref q12, .ref q13, .ref q14, .ref q15, .ref q16])), (q8, .inr (1, [.int 0, .ref q9])), (q9, .inl (G.2.1 .int, 26, .inl fun _ => 0)), (q10, .inl (G.2.1 .int, 10, .inl fun _ => 0)), (q11, .inl (G.2.1 .int, 10, .inl fun _ => 0)), (q12, .inl (G.2.1 .int, 10, .inl fun _ => 0)), (q13, .inl (G.2.1 .int, 10, .inl fun _ => 0)), (q14, .inl (G.2.1 .int, 8, .inl fun _ => 0)), (q15, .inl (G.2.1 .int, 8, .inl fun _ => 0)), (q16, .inl (G.2.1 .int, 8, .inl fun _ => 0)), (q17, .inr (5, [.ref q1, .int 0, .int 0, .int 0, .int 0, .int 0, .int 0, .ref q18, .ref q19, .ref q20, .ref q21, .ref q22, .ref q23, .ref q24, .ref q25, .ref q26, .ref q27, .ref q28])), (q18, .inl (G.2.1 .int, 81, .inl fun _ => 0)), (q19, .inl (G.2.1 .int, 81, .inl fun _ => 0)), (q20, .inl (G.2.1 .int, 9, .inl fun _ => 0)), (q21, .inl (G.2.1 .boolean, 9, .inl fun _ => 0)), (q22, .inl (G.2.1 .int, 10, .inl fun _ => 0)), (q23, .inl (G.2.1 .int, 10, .inl fun _ => 0)), (q24, .inl (G.2.1 .int, 10, .inl fun _ => 0)), (q25, .inl (G.2.1 .int, 10, .inl fun _ => 0)), (q26, .inl (G.2.1 .int, 10, .inl fun _ => 0)), (q27, .inl (G.2.1 .int, 10, .inl fun _ => 0)), (q28, .inl (G.2.1 .int, 10, .inl fun _ => 0)), (q29, .inr (6, [.int 0, .ref q30])), (q30, .inl (G.2.1 .int, 300, .inl fun _ => 0)), (q, .inr (7, [.null, .null, .null, .null, .int 0, .int 0, .int 0, .int 0, .int 0, .int 0]))]) nc_X8_48 rfl rfl (fun q => rfl) (fun q31 => ?_)
  refine i_dup C (pc := 75) dX8_init_75 rfl ?_
  refine i_aload_n C (pc := 76) dX8_init_76 0 rfl ?_
  refine i_getR C (pc := 77) dX8_init_77 (k := 0) ff_X8_44 rfl rfl ?_
  refine i_call C (pc := 80) dX8_init_80 (wr := [(h0, .inr (8, [.ref q1, .ref q4, .ref q7, .ref q17, .ref q29, .null, .null, .null])), (q1, .inr (3, [.int 0, .ref q2, .ref q3])), (q2, .inl (G.2.1 .int, 45, .inl fun _ => 0)), (q3, .inl (G.2.1 .int, 10, .inl stF)), (q4, .inr (4, [.int 0, .int 0, .ref q5, .ref q6])), (q5, .inl (G.2.1 .int, 8, .inl fun _ => 0)), (q6, .inl (G.2.1 .int, 32, .inl fun _ => 0)), (q7, .inr (0, [.ref q1, .ref q4, .ref q8, .int 0, .ref q10, .ref q11, .ref q12, .ref q13, .ref q14, .ref q15, .ref q16])), (q8, .inr (1, [.int 0, .ref q9])), (q9, .inl (G.2.1 .int, 26, .inl fun _ => 0)), (q10, .inl (G.2.1 .int, 10, .inl fun _ => 0)), (q11, .inl (G.2.1 .int, 10, .inl fun _ => 0)), (q12, .inl (G.2.1 .int, 10, .inl fun _ => 0)), (q13, .inl (G.2.1 .int, 10, .inl fun _ => 0)), (q14, .inl (G.2.1 .int, 8, .inl fun _ => 0)), (q15, .inl (G.2.1 .int, 8, .inl fun _ => 0)), (q16, .inl (G.2.1 .int, 8, .inl fun _ => 0)), (q17, .inr (5, [.ref q1, .int 0, .int 0, .int 0, .int 0, .int 0, .int 0, .ref q18, .ref q19, .ref q20, .ref q21, .ref q22, .ref q23, .ref q24, .ref q25, .ref q26, .ref q27, .ref q28])), (q18, .inl (G.2.1 .int, 81, .inl fun _ => 0)), (q19, .inl (G.2.1 .int, 81, .inl fun _ => 0)), (q20, .inl (G.2.1 .int, 9, .inl fun _ => 0)), (q21, .inl (G.2.1 .boolean, 9, .inl fun _ => 0)), (q22, .inl (G.2.1 .int, 10, .inl fun _ => 0)), (q23, .inl (G.2.1 .int, 10, .inl fun _ => 0)), (q24, .inl (G.2.1 .int, 10, .inl fun _ => 0)), (q25, .inl (G.2.1 .int, 10, .inl fun _ => 0)), (q26, .inl (G.2.1 .int, 10, .inl fun _ => 0)), (q27, .inl (G.2.1 .int, 10, .inl fun _ => 0)), (q28, .inl (G.2.1 .int, 10, .inl fun _ => 0)), (q29, .inr (6, [.int 0, .ref q30])), (q30, .inl (G.2.1 .int, 300, .inl fun _ => 0))]) iy_X7_init ii_X7_init rfl mli_X8_50 rfl ⟨rfl, rfl⟩ rfl rfl [.ref q29] rfl rfl (Nat.le_of_ble_eq_true rfl) (nX7_init _ _ _) (fun w1 hp => ?_)
  obtain ⟨q32, q33, q34, q35, q36, q37, q38, rfl⟩ := hp
  change Wi K _ G A _ [(h0, .inr (8, [.ref q1, .ref q4, .ref q7, .ref q17, .ref q29, .null, .null, .null])), (q1, .inr (3, [.int 0, .ref q2, .ref q3])), (q2, .inl (G.2.1 .int, 45, .inl fun _ => 0)), (q3, .inl (G.2.1 .int, 10, .inl stF)), (q4, .inr (4, [.int 0, .int 0, .ref q5, .ref q6])), (q5, .inl (G.2.1 .int, 8, .inl fun _ => 0)), (q6, .inl (G.2.1 .int, 32, .inl fun _ => 0)), (q7, .inr (0, [.ref q1, .ref q4, .ref q8, .int 0, .ref q10, .ref q11, .ref q12, .ref q13, .ref q14, .ref q15, .ref q16])), (q8, .inr (1, [.int 0, .ref q9])), (q9, .inl (G.2.1 .int, 26, .inl fun _ => 0)), (q10, .inl (G.2.1 .int, 10, .inl fun _ => 0)), (q11, .inl (G.2.1 .int, 10, .inl fun _ => 0)), (q12, .inl (G.2.1 .int, 10, .inl fun _ => 0)), (q13, .inl (G.2.1 .int, 10, .inl fun _ => 0)), (q14, .inl (G.2.1 .int, 8, .inl fun _ => 0)), (q15, .inl (G.2.1 .int, 8, .inl fun _ => 0)), (q16, .inl (G.2.1 .int, 8, .inl fun _ => 0)), (q17, .inr (5, [.ref q1, .int 0, .int 0, .int 0, .int 0, .int 0, .int 0, .ref q18, .ref q19, .ref q20, .ref q21, .ref q22, .ref q23, .ref q24, .ref q25, .ref q26, .ref q27, .ref q28])), (q18, .inl (G.2.1 .int, 81, .inl fun _ => 0)), (q19, .inl (G.2.1 .int, 81, .inl fun _ => 0)), (q20, .inl (G.2.1 .int, 9, .inl fun _ => 0)), (q21, .inl (G.2.1 .boolean, 9, .inl fun _ => 0)), (q22, .inl (G.2.1 .int, 10, .inl fun _ => 0)), (q23, .inl (G.2.1 .int, 10, .inl fun _ => 0)), (q24, .inl (G.2.1 .int, 10, .inl fun _ => 0)), (q25, .inl (G.2.1 .int, 10, .inl fun _ => 0)), (q26, .inl (G.2.1 .int, 10, .inl fun _ => 0)), (q27, .inl (G.2.1 .int, 10, .inl fun _ => 0)), (q28, .inl (G.2.1 .int, 10, .inl fun _ => 0)), (q29, .inr (6, [.int 0, .ref q30])), (q30, .inl (G.2.1 .int, 300, .inl fun _ => 0)), (q31, .inr (7, [.ref q29, .ref q32, .ref q35, .ref q38, .int 0, .int 0, .int 0, .int 0, .int 0, .int 0])), (q32, .inr (3, [.int 0, .ref q33, .ref q34])), (q33, .inl (G.2.1 .int, 45, .inl fun _ => 0)), (q34, .inl (G.2.1 .int, 10, .inl stF)), (q35, .inr (4, [.int 0, .int 0, .ref q36, .ref q37])), (q36, .inl (G.2.1 .int, 8, .inl fun _ => 0)), (q37, .inl (G.2.1 .int, 32, .inl fun _ => 0)), (q38, .inl (G.2.1 .int, 8, .inl fun _ => 0))] _ _ _ _ _
  refine i_putF C (pc := 83) dX8_init_83 (k := 0) (ws' := [(h0, .inr (8, [.ref q1, .ref q4, .ref q7, .ref q17, .ref q29, .ref q31, .null, .null])), (q1, .inr (3, [.int 0, .ref q2, .ref q3])), (q2, .inl (G.2.1 .int, 45, .inl fun _ => 0)), (q3, .inl (G.2.1 .int, 10, .inl stF)), (q4, .inr (4, [.int 0, .int 0, .ref q5, .ref q6])), (q5, .inl (G.2.1 .int, 8, .inl fun _ => 0)), (q6, .inl (G.2.1 .int, 32, .inl fun _ => 0)), (q7, .inr (0, [.ref q1, .ref q4, .ref q8, .int 0, .ref q10, .ref q11, .ref q12, .ref q13, .ref q14, .ref q15, .ref q16])), (q8, .inr (1, [.int 0, .ref q9])), (q9, .inl (G.2.1 .int, 26, .inl fun _ => 0)), (q10, .inl (G.2.1 .int, 10, .inl fun _ => 0)), (q11, .inl (G.2.1 .int, 10, .inl fun _ => 0)), (q12, .inl (G.2.1 .int, 10, .inl fun _ => 0)), (q13, .inl (G.2.1 .int, 10, .inl fun _ => 0)), (q14, .inl (G.2.1 .int, 8, .inl fun _ => 0)), (q15, .inl (G.2.1 .int, 8, .inl fun _ => 0)), (q16, .inl (G.2.1 .int, 8, .inl fun _ => 0)), (q17, .inr (5, [.ref q1, .int 0, .int 0, .int 0, .int 0, .int 0, .int 0, .ref q18, .ref q19, .ref q20, .ref q21, .ref q22, .ref q23, .ref q24, .ref q25, .ref q26, .ref q27, .ref q28])), (q18, .inl (G.2.1 .int, 81, .inl fun _ => 0)), (q19, .inl (G.2.1 .int, 81, .inl fun _ => 0)), (q20, .inl (G.2.1 .int, 9, .inl fun _ => 0)), (q21, .inl (G.2.1 .boolean, 9, .inl fun _ => 0)), (q22, .inl (G.2.1 .int, 10, .inl fun _ => 0)), (q23, .inl (G.2.1 .int, 10, .inl fun _ => 0)), (q24, .inl (G.2.1 .int, 10, .inl fun _ => 0)), (q25, .inl (G.2.1 .int, 10, .inl fun _ => 0)), (q26, .inl (G.2.1 .int, 10, .inl fun _ => 0)), (q27, .inl (G.2.1 .int, 10, .inl fun _ => 0)), (q28, .inl (G.2.1 .int, 10, .inl fun _ => 0)), (q29, .inr (6, [.int 0, .ref q30])), (q30, .inl (G.2.1 .int, 300, .inl fun _ => 0)), (q31, .inr (7, [.ref q29, .ref q32, .ref q35, .ref q38, .int 0, .int 0, .int 0, .int 0, .int 0, .int 0])), (q32, .inr (3, [.int 0, .ref q33, .ref q34])), (q33, .inl (G.2.1 .int, 45, .inl fun _ => 0)), (q34, .inl (G.2.1 .int, 10, .inl stF)), (q35, .inr (4, [.int 0, .int 0, .ref q36, .ref q37])), (q36, .inl (G.2.1 .int, 8, .inl fun _ => 0)), (q37, .inl (G.2.1 .int, 32, .inl fun _ => 0)), (q38, .inl (G.2.1 .int, 8, .inl fun _ => 0))]) ff_X8_53 rfl rfl rfl ?_
  refine i_aload_n C (pc := 86) dX8_init_86 0 rfl ?_
  refine i_new C (pc := 87) dX8_init_87 (ws' := fun q => [(h0, .inr (8, [.ref q1, .ref q4, .ref q7, .ref q17, .ref q29, .ref q31, .null, .null])), (q1, .inr (3, [.int 0, .ref q2, .ref q3])), (q2, .inl (G.2.1 .int, 45, .inl fun _ => 0)), (q3, .inl (G.2.1 .int, 10, .inl stF)), (q4, .inr (4, [.int 0, .int 0, .ref q5, .ref q6])), (q5, .inl (G.2.1 .int, 8, .inl fun _ => 0)), (q6, .inl (G.2.1 .int, 32, .inl fun _ => 0)), (q7, .inr (0, [.ref q1, .ref q4, .ref q8, .int 0, .ref q10, .ref q11, .ref q12, .ref q13, .ref q14, .ref q15, .ref q16])), (q8, .inr (1, [.int 0, .ref q9])), (q9, .inl (G.2.1 .int, 26, .inl fun _ => 0)), (q10, .inl (G.2.1 .int, 10, .inl fun _ => 0)), (q11, .inl (G.2.1 .int, 10, .inl fun _ => 0)), (q12, .inl (G.2.1 .int, 10, .inl fun _ => 0)), (q13, .inl (G.2.1 .int, 10, .inl fun _ => 0)), (q14, .inl (G.2.1 .int, 8, .inl fun _ => 0)), (q15, .inl (G.2.1 .int, 8, .inl fun _ => 0)), (q16, .inl (G.2.1 .int, 8, .inl fun _ => 0)), (q17, .inr (5, [.ref q1, .int 0, .int 0, .int 0, .int 0, .int 0, .int 0, .ref q18, .ref q19, .ref q20, .ref q21, .ref q22, .ref q23, .ref q24, .ref q25, .ref q26, .ref q27, .ref q28])), (q18, .inl (G.2.1 .int, 81, .inl fun _ => 0)), (q19, .inl (G.2.1 .int, 81, .inl fun _ => 0)), (q20, .inl (G.2.1 .int, 9, .inl fun _ => 0)), (q21, .inl (G.2.1 .boolean, 9, .inl fun _ => 0)), (q22, .inl (G.2.1 .int, 10, .inl fun _ => 0)), (q23, .inl (G.2.1 .int, 10, .inl fun _ => 0)), (q24, .inl (G.2.1 .int, 10, .inl fun _ => 0)), (q25, .inl (G.2.1 .int, 10, .inl fun _ => 0)), (q26, .inl (G.2.1 .int, 10, .inl fun _ => 0)), (q27, .inl (G.2.1 .int, 10, .inl fun _ => 0)), (q28, .inl (G.2.1 .int, 10, .inl fun _ => 0)), (q29, .inr (6, [.int 0, .ref q30])), (q30, .inl (G.2.1 .int, 300, .inl fun _ => 0)), (q31, .inr (7, [.ref q29, .ref q32, .ref q35, .ref q38, .int 0, .int 0, .int 0, .int 0, .int 0, .int 0])), (q32, .inr (3, [.int 0, .ref q33, .ref q34])), (q33, .inl (G.2.1 .int, 45, .inl fun _ => 0)), (q34, .inl (G.2.1 .int, 10, .inl stF)), (q35, .inr (4, [.int 0, .int 0, .ref q36, .ref q37])), (q36, .inl (G.2.1 .int, 8, .inl fun _ => 0)), (q37, .inl (G.2.1 .int, 32, .inl fun _ => 0)), (q38, .inl (G.2.1 .int, 8, .inl fun _ => 0)), (q, .inr (2, [.int 0, .int 0, .int 0]))]) nc_X8_57 rfl rfl (fun q => rfl) (fun q39 => ?_)
  refine i_dup C (pc := 90) dX8_init_90 rfl ?_
  refine i_call C (pc := 91) dX8_init_91 (wr := [(h0, .inr (8, [.ref q1, .ref q4, .ref q7, .ref q17, .ref q29, .ref q31, .null, .null])), (q1, .inr (3, [.int 0, .ref q2, .ref q3])), (q2, .inl (G.2.1 .int, 45, .inl fun _ => 0)), (q3, .inl (G.2.1 .int, 10, .inl stF)), (q4, .inr (4, [.int 0, .int 0, .ref q5, .ref q6])), (q5, .inl (G.2.1 .int, 8, .inl fun _ => 0)), (q6, .inl (G.2.1 .int, 32, .inl fun _ => 0)), (q7, .inr (0, [.ref q1, .ref q4, .ref q8, .int 0, .ref q10, .ref q11, .ref q12, .ref q13, .ref q14, .ref q15, .ref q16])), (q8, .inr (1, [.int 0, .ref q9])), (q9, .inl (G.2.1 .int, 26, .inl fun _ => 0)), (q10, .inl (G.2.1 .int, 10, .inl fun _ => 0)), (q11, .inl (G.2.1 .int, 10, .inl fun _ => 0)), (q12, .inl (G.2.1 .int, 10, .inl fun _ => 0)), (q13, .inl (G.2.1 .int, 10, .inl fun _ => 0)), (q14, .inl (G.2.1 .int, 8, .inl fun _ => 0)), (q15, .inl (G.2.1 .int, 8, .inl fun _ => 0)), (q16, .inl (G.2.1 .int, 8, .inl fun _ => 0)), (q17, .inr (5, [.ref q1, .int 0, .int 0, .int 0, .int 0, .int 0, .int 0, .ref q18, .ref q19, .ref q20, .ref q21, .ref q22, .ref q23, .ref q24, .ref q25, .ref q26, .ref q27, .ref q28])), (q18, .inl (G.2.1 .int, 81, .inl fun _ => 0)), (q19, .inl (G.2.1 .int, 81, .inl fun _ => 0)), (q20, .inl (G.2.1 .int, 9, .inl fun _ => 0)), (q21, .inl (G.2.1 .boolean, 9, .inl fun _ => 0)), (q22, .inl (G.2.1 .int, 10, .inl fun _ => 0)), (q23, .inl (G.2.1 .int, 10, .inl fun _ => 0)), (q24, .inl (G.2.1 .int, 10, .inl fun _ => 0)), (q25, .inl (G.2.1 .int, 10, .inl fun _ => 0)), (q26, .inl (G.2.1 .int, 10, .inl fun _ => 0)), (q27, .inl (G.2.1 .int, 10, .inl fun _ => 0)), (q28, .inl (G.2.1 .int, 10, .inl fun _ => 0)), (q29, .inr (6, [.int 0, .ref q30])), (q30, .inl (G.2.1 .int, 300, .inl fun _ => 0)), (q31, .inr (7, [.ref q29, .ref q32, .ref q35, .ref q38, .int 0, .int 0, .int 0, .int 0, .int 0, .int 0])), (q32, .inr (3, [.int 0, .ref q33, .ref q34])), (q33, .inl (G.2.1 .int, 45, .inl fun _ => 0)), (q34, .inl (G.2.1 .int, 10, .inl stF)), (q35, .inr (4, [.int 0, .int 0, .ref q36, .ref q37])), (q36, .inl (G.2.1 .int, 8, .inl fun _ => 0)), (q37, .inl (G.2.1 .int, 32, .inl fun _ => 0)), (q38, .inl (G.2.1 .int, 8, .inl fun _ => 0))]) iy_X2_init ii_X2_init rfl mli_X8_59 rfl ⟨rfl, rfl⟩ rfl rfl [] rfl rfl (Nat.le_of_ble_eq_true rfl) (nX2_init _ _) (fun w1 hp => ?_)
  obtain rfl := hp
  change Wi K _ G A _ [(h0, .inr (8, [.ref q1, .ref q4, .ref q7, .ref q17, .ref q29, .ref q31, .null, .null])), (q1, .inr (3, [.int 0, .ref q2, .ref q3])), (q2, .inl (G.2.1 .int, 45, .inl fun _ => 0)), (q3, .inl (G.2.1 .int, 10, .inl stF)), (q4, .inr (4, [.int 0, .int 0, .ref q5, .ref q6])), (q5, .inl (G.2.1 .int, 8, .inl fun _ => 0)), (q6, .inl (G.2.1 .int, 32, .inl fun _ => 0)), (q7, .inr (0, [.ref q1, .ref q4, .ref q8, .int 0, .ref q10, .ref q11, .ref q12, .ref q13, .ref q14, .ref q15, .ref q16])), (q8, .inr (1, [.int 0, .ref q9])), (q9, .inl (G.2.1 .int, 26, .inl fun _ => 0)), (q10, .inl (G.2.1 .int, 10, .inl fun _ => 0)), (q11, .inl (G.2.1 .int, 10, .inl fun _ => 0)), (q12, .inl (G.2.1 .int, 10, .inl fun _ => 0)), (q13, .inl (G.2.1 .int, 10, .inl fun _ => 0)), (q14, .inl (G.2.1 .int, 8, .inl fun _ => 0)), (q15, .inl (G.2.1 .int, 8, .inl fun _ => 0)), (q16, .inl (G.2.1 .int, 8, .inl fun _ => 0)), (q17, .inr (5, [.ref q1, .int 0, .int 0, .int 0, .int 0, .int 0, .int 0, .ref q18, .ref q19, .ref q20, .ref q21, .ref q22, .ref q23, .ref q24, .ref q25, .ref q26, .ref q27, .ref q28])), (q18, .inl (G.2.1 .int, 81, .inl fun _ => 0)), (q19, .inl (G.2.1 .int, 81, .inl fun _ => 0)), (q20, .inl (G.2.1 .int, 9, .inl fun _ => 0)), (q21, .inl (G.2.1 .boolean, 9, .inl fun _ => 0)), (q22, .inl (G.2.1 .int, 10, .inl fun _ => 0)), (q23, .inl (G.2.1 .int, 10, .inl fun _ => 0)), (q24, .inl (G.2.1 .int, 10, .inl fun _ => 0)), (q25, .inl (G.2.1 .int, 10, .inl fun _ => 0)), (q26, .inl (G.2.1 .int, 10, .inl fun _ => 0)), (q27, .inl (G.2.1 .int, 10, .inl fun _ => 0)), (q28, .inl (G.2.1 .int, 10, .inl fun _ => 0)), (q29, .inr (6, [.int 0, .ref q30])), (q30, .inl (G.2.1 .int, 300, .inl fun _ => 0)), (q31, .inr (7, [.ref q29, .ref q32, .ref q35, .ref q38, .int 0, .int 0, .int 0, .int 0, .int 0, .int 0])), (q32, .inr (3, [.int 0, .ref q33, .ref q34])), (q33, .inl (G.2.1 .int, 45, .inl fun _ => 0)), (q34, .inl (G.2.1 .int, 10, .inl stF)), (q35, .inr (4, [.int 0, .int 0, .ref q36, .ref q37])), (q36, .inl (G.2.1 .int, 8, .inl fun _ => 0)), (q37, .inl (G.2.1 .int, 32, .inl fun _ => 0)), (q38, .inl (G.2.1 .int, 8, .inl fun _ => 0)), (q39, .inr (2, [.int 0, .int 0, .int 0]))] _ _ _ _ _
  refine i_putF C (pc := 94) dX8_init_94 (k := 0) (ws' := [(h0, .inr (8, [.ref q1, .ref q4, .ref q7, .ref q17, .ref q29, .ref q31, .ref q39, .null])), (q1, .inr (3, [.int 0, .ref q2, .ref q3])), (q2, .inl (G.2.1 .int, 45, .inl fun _ => 0)), (q3, .inl (G.2.1 .int, 10, .inl stF)), (q4, .inr (4, [.int 0, .int 0, .ref q5, .ref q6])), (q5, .inl (G.2.1 .int, 8, .inl fun _ => 0)), (q6, .inl (G.2.1 .int, 32, .inl fun _ => 0)), (q7, .inr (0, [.ref q1, .ref q4, .ref q8, .int 0, .ref q10, .ref q11, .ref q12, .ref q13, .ref q14, .ref q15, .ref q16])), (q8, .inr (1, [.int 0, .ref q9])), (q9, .inl (G.2.1 .int, 26, .inl fun _ => 0)), (q10, .inl (G.2.1 .int, 10, .inl fun _ => 0)), (q11, .inl (G.2.1 .int, 10, .inl fun _ => 0)), (q12, .inl (G.2.1 .int, 10, .inl fun _ => 0)), (q13, .inl (G.2.1 .int, 10, .inl fun _ => 0)), (q14, .inl (G.2.1 .int, 8, .inl fun _ => 0)), (q15, .inl (G.2.1 .int, 8, .inl fun _ => 0)), (q16, .inl (G.2.1 .int, 8, .inl fun _ => 0)), (q17, .inr (5, [.ref q1, .int 0, .int 0, .int 0, .int 0, .int 0, .int 0, .ref q18, .ref q19, .ref q20, .ref q21, .ref q22, .ref q23, .ref q24, .ref q25, .ref q26, .ref q27, .ref q28])), (q18, .inl (G.2.1 .int, 81, .inl fun _ => 0)), (q19, .inl (G.2.1 .int, 81, .inl fun _ => 0)), (q20, .inl (G.2.1 .int, 9, .inl fun _ => 0)), (q21, .inl (G.2.1 .boolean, 9, .inl fun _ => 0)), (q22, .inl (G.2.1 .int, 10, .inl fun _ => 0)), (q23, .inl (G.2.1 .int, 10, .inl fun _ => 0)), (q24, .inl (G.2.1 .int, 10, .inl fun _ => 0)), (q25, .inl (G.2.1 .int, 10, .inl fun _ => 0)), (q26, .inl (G.2.1 .int, 10, .inl fun _ => 0)), (q27, .inl (G.2.1 .int, 10, .inl fun _ => 0)), (q28, .inl (G.2.1 .int, 10, .inl fun _ => 0)), (q29, .inr (6, [.int 0, .ref q30])), (q30, .inl (G.2.1 .int, 300, .inl fun _ => 0)), (q31, .inr (7, [.ref q29, .ref q32, .ref q35, .ref q38, .int 0, .int 0, .int 0, .int 0, .int 0, .int 0])), (q32, .inr (3, [.int 0, .ref q33, .ref q34])), (q33, .inl (G.2.1 .int, 45, .inl fun _ => 0)), (q34, .inl (G.2.1 .int, 10, .inl stF)), (q35, .inr (4, [.int 0, .int 0, .ref q36, .ref q37])), (q36, .inl (G.2.1 .int, 8, .inl fun _ => 0)), (q37, .inl (G.2.1 .int, 32, .inl fun _ => 0)), (q38, .inl (G.2.1 .int, 8, .inl fun _ => 0)), (q39, .inr (2, [.int 0, .int 0, .int 0]))]) ff_X8_60 rfl rfl rfl ?_
  refine i_aload_n C (pc := 97) dX8_init_97 0 rfl ?_
  refine i_new C (pc := 98) dX8_init_98 (ws' := fun q => [(h0, .inr (8, [.ref q1, .ref q4, .ref q7, .ref q17, .ref q29, .ref q31, .ref q39, .null])), (q1, .inr (3, [.int 0, .ref q2, .ref q3])), (q2, .inl (G.2.1 .int, 45, .inl fun _ => 0)), (q3, .inl (G.2.1 .int, 10, .inl stF)), (q4, .inr (4, [.int 0, .int 0, .ref q5, .ref q6])), (q5, .inl (G.2.1 .int, 8, .inl fun _ => 0)), (q6, .inl (G.2.1 .int, 32, .inl fun _ => 0)), (q7, .inr (0, [.ref q1, .ref q4, .ref q8, .int 0, .ref q10, .ref q11, .ref q12, .ref q13, .ref q14, .ref q15, .ref q16])), (q8, .inr (1, [.int 0, .ref q9])), (q9, .inl (G.2.1 .int, 26, .inl fun _ => 0)), (q10, .inl (G.2.1 .int, 10, .inl fun _ => 0)), (q11, .inl (G.2.1 .int, 10, .inl fun _ => 0)), (q12, .inl (G.2.1 .int, 10, .inl fun _ => 0)), (q13, .inl (G.2.1 .int, 10, .inl fun _ => 0)), (q14, .inl (G.2.1 .int, 8, .inl fun _ => 0)), (q15, .inl (G.2.1 .int, 8, .inl fun _ => 0)), (q16, .inl (G.2.1 .int, 8, .inl fun _ => 0)), (q17, .inr (5, [.ref q1, .int 0, .int 0, .int 0, .int 0, .int 0, .int 0, .ref q18, .ref q19, .ref q20, .ref q21, .ref q22, .ref q23, .ref q24, .ref q25, .ref q26, .ref q27, .ref q28])), (q18, .inl (G.2.1 .int, 81, .inl fun _ => 0)), (q19, .inl (G.2.1 .int, 81, .inl fun _ => 0)), (q20, .inl (G.2.1 .int, 9, .inl fun _ => 0)), (q21, .inl (G.2.1 .boolean, 9, .inl fun _ => 0)), (q22, .inl (G.2.1 .int, 10, .inl fun _ => 0)), (q23, .inl (G.2.1 .int, 10, .inl fun _ => 0)), (q24, .inl (G.2.1 .int, 10, .inl fun _ => 0)), (q25, .inl (G.2.1 .int, 10, .inl fun _ => 0)), (q26, .inl (G.2.1 .int, 10, .inl fun _ => 0)), (q27, .inl (G.2.1 .int, 10, .inl fun _ => 0)), (q28, .inl (G.2.1 .int, 10, .inl fun _ => 0)), (q29, .inr (6, [.int 0, .ref q30])), (q30, .inl (G.2.1 .int, 300, .inl fun _ => 0)), (q31, .inr (7, [.ref q29, .ref q32, .ref q35, .ref q38, .int 0, .int 0, .int 0, .int 0, .int 0, .int 0])), (q32, .inr (3, [.int 0, .ref q33, .ref q34])), (q33, .inl (G.2.1 .int, 45, .inl fun _ => 0)), (q34, .inl (G.2.1 .int, 10, .inl stF)), (q35, .inr (4, [.int 0, .int 0, .ref q36, .ref q37])), (q36, .inl (G.2.1 .int, 8, .inl fun _ => 0)), (q37, .inl (G.2.1 .int, 32, .inl fun _ => 0)), (q38, .inl (G.2.1 .int, 8, .inl fun _ => 0)), (q39, .inr (2, [.int 0, .int 0, .int 0])), (q, .inr (2, [.int 0, .int 0, .int 0]))]) nc_X8_57 rfl rfl (fun q => rfl) (fun q40 => ?_)
  refine i_dup C (pc := 101) dX8_init_101 rfl ?_
  refine i_call C (pc := 102) dX8_init_102 (wr := [(h0, .inr (8, [.ref q1, .ref q4, .ref q7, .ref q17, .ref q29, .ref q31, .ref q39, .null])), (q1, .inr (3, [.int 0, .ref q2, .ref q3])), (q2, .inl (G.2.1 .int, 45, .inl fun _ => 0)), (q3, .inl (G.2.1 .int, 10, .inl stF)), (q4, .inr (4, [.int 0, .int 0, .ref q5, .ref q6])), (q5, .inl (G.2.1 .int, 8, .inl fun _ => 0)), (q6, .inl (G.2.1 .int, 32, .inl fun _ => 0)), (q7, .inr (0, [.ref q1, .ref q4, .ref q8, .int 0, .ref q10, .ref q11, .ref q12, .ref q13, .ref q14, .ref q15, .ref q16])), (q8, .inr (1, [.int 0, .ref q9])), (q9, .inl (G.2.1 .int, 26, .inl fun _ => 0)), (q10, .inl (G.2.1 .int, 10, .inl fun _ => 0)), (q11, .inl (G.2.1 .int, 10, .inl fun _ => 0)), (q12, .inl (G.2.1 .int, 10, .inl fun _ => 0)), (q13, .inl (G.2.1 .int, 10, .inl fun _ => 0)), (q14, .inl (G.2.1 .int, 8, .inl fun _ => 0)), (q15, .inl (G.2.1 .int, 8, .inl fun _ => 0)), (q16, .inl (G.2.1 .int, 8, .inl fun _ => 0)), (q17, .inr (5, [.ref q1, .int 0, .int 0, .int 0, .int 0, .int 0, .int 0, .ref q18, .ref q19, .ref q20, .ref q21, .ref q22, .ref q23, .ref q24, .ref q25, .ref q26, .ref q27, .ref q28])), (q18, .inl (G.2.1 .int, 81, .inl fun _ => 0)), (q19, .inl (G.2.1 .int, 81, .inl fun _ => 0)), (q20, .inl (G.2.1 .int, 9, .inl fun _ => 0)), (q21, .inl (G.2.1 .boolean, 9, .inl fun _ => 0)), (q22, .inl (G.2.1 .int, 10, .inl fun _ => 0)), (q23, .inl (G.2.1 .int, 10, .inl fun _ => 0)), (q24, .inl (G.2.1 .int, 10, .inl fun _ => 0)), (q25, .inl (G.2.1 .int, 10, .inl fun _ => 0)), (q26, .inl (G.2.1 .int, 10, .inl fun _ => 0)), (q27, .inl (G.2.1 .int, 10, .inl fun _ => 0)), (q28, .inl (G.2.1 .int, 10, .inl fun _ => 0)), (q29, .inr (6, [.int 0, .ref q30])), (q30, .inl (G.2.1 .int, 300, .inl fun _ => 0)), (q31, .inr (7, [.ref q29, .ref q32, .ref q35, .ref q38, .int 0, .int 0, .int 0, .int 0, .int 0, .int 0])), (q32, .inr (3, [.int 0, .ref q33, .ref q34])), (q33, .inl (G.2.1 .int, 45, .inl fun _ => 0)), (q34, .inl (G.2.1 .int, 10, .inl stF)), (q35, .inr (4, [.int 0, .int 0, .ref q36, .ref q37])), (q36, .inl (G.2.1 .int, 8, .inl fun _ => 0)), (q37, .inl (G.2.1 .int, 32, .inl fun _ => 0)), (q38, .inl (G.2.1 .int, 8, .inl fun _ => 0)), (q39, .inr (2, [.int 0, .int 0, .int 0]))]) iy_X2_init ii_X2_init rfl mli_X8_59 rfl ⟨rfl, rfl⟩ rfl rfl [] rfl rfl (Nat.le_of_ble_eq_true rfl) (nX2_init _ _) (fun w1 hp => ?_)
  obtain rfl := hp
  change Wi K _ G A _ [(h0, .inr (8, [.ref q1, .ref q4, .ref q7, .ref q17, .ref q29, .ref q31, .ref q39, .null])), (q1, .inr (3, [.int 0, .ref q2, .ref q3])), (q2, .inl (G.2.1 .int, 45, .inl fun _ => 0)), (q3, .inl (G.2.1 .int, 10, .inl stF)), (q4, .inr (4, [.int 0, .int 0, .ref q5, .ref q6])), (q5, .inl (G.2.1 .int, 8, .inl fun _ => 0)), (q6, .inl (G.2.1 .int, 32, .inl fun _ => 0)), (q7, .inr (0, [.ref q1, .ref q4, .ref q8, .int 0, .ref q10, .ref q11, .ref q12, .ref q13, .ref q14, .ref q15, .ref q16])), (q8, .inr (1, [.int 0, .ref q9])), (q9, .inl (G.2.1 .int, 26, .inl fun _ => 0)), (q10, .inl (G.2.1 .int, 10, .inl fun _ => 0)), (q11, .inl (G.2.1 .int, 10, .inl fun _ => 0)), (q12, .inl (G.2.1 .int, 10, .inl fun _ => 0)), (q13, .inl (G.2.1 .int, 10, .inl fun _ => 0)), (q14, .inl (G.2.1 .int, 8, .inl fun _ => 0)), (q15, .inl (G.2.1 .int, 8, .inl fun _ => 0)), (q16, .inl (G.2.1 .int, 8, .inl fun _ => 0)), (q17, .inr (5, [.ref q1, .int 0, .int 0, .int 0, .int 0, .int 0, .int 0, .ref q18, .ref q19, .ref q20, .ref q21, .ref q22, .ref q23, .ref q24, .ref q25, .ref q26, .ref q27, .ref q28])), (q18, .inl (G.2.1 .int, 81, .inl fun _ => 0)), (q19, .inl (G.2.1 .int, 81, .inl fun _ => 0)), (q20, .inl (G.2.1 .int, 9, .inl fun _ => 0)), (q21, .inl (G.2.1 .boolean, 9, .inl fun _ => 0)), (q22, .inl (G.2.1 .int, 10, .inl fun _ => 0)), (q23, .inl (G.2.1 .int, 10, .inl fun _ => 0)), (q24, .inl (G.2.1 .int, 10, .inl fun _ => 0)), (q25, .inl (G.2.1 .int, 10, .inl fun _ => 0)), (q26, .inl (G.2.1 .int, 10, .inl fun _ => 0)), (q27, .inl (G.2.1 .int, 10, .inl fun _ => 0)), (q28, .inl (G.2.1 .int, 10, .inl fun _ => 0)), (q29, .inr (6, [.int 0, .ref q30])), (q30, .inl (G.2.1 .int, 300, .inl fun _ => 0)), (q31, .inr (7, [.ref q29, .ref q32, .ref q35, .ref q38, .int 0, .int 0, .int 0, .int 0, .int 0, .int 0])), (q32, .inr (3, [.int 0, .ref q33, .ref q34])), (q33, .inl (G.2.1 .int, 45, .inl fun _ => 0)), (q34, .inl (G.2.1 .int, 10, .inl stF)), (q35, .inr (4, [.int 0, .int 0, .ref q36, .ref q37])), (q36, .inl (G.2.1 .int, 8, .inl fun _ => 0)), (q37, .inl (G.2.1 .int, 32, .inl fun _ => 0)), (q38, .inl (G.2.1 .int, 8, .inl fun _ => 0)), (q39, .inr (2, [.int 0, .int 0, .int 0])), (q40, .inr (2, [.int 0, .int 0, .int 0]))] _ _ _ _ _
  refine i_putF C (pc := 105) dX8_init_105 (k := 0) (ws' := [(h0, .inr (8, [.ref q1, .ref q4, .ref q7, .ref q17, .ref q29, .ref q31, .ref q39, .ref q40])), (q1, .inr (3, [.int 0, .ref q2, .ref q3])), (q2, .inl (G.2.1 .int, 45, .inl fun _ => 0)), (q3, .inl (G.2.1 .int, 10, .inl stF)), (q4, .inr (4, [.int 0, .int 0, .ref q5, .ref q6])), (q5, .inl (G.2.1 .int, 8, .inl fun _ => 0)), (q6, .inl (G.2.1 .int, 32, .inl fun _ => 0)), (q7, .inr (0, [.ref q1, .ref q4, .ref q8, .int 0, .ref q10, .ref q11, .ref q12, .ref q13, .ref q14, .ref q15, .ref q16])), (q8, .inr (1, [.int 0, .ref q9])), (q9, .inl (G.2.1 .int, 26, .inl fun _ => 0)), (q10, .inl (G.2.1 .int, 10, .inl fun _ => 0)), (q11, .inl (G.2.1 .int, 10, .inl fun _ => 0)), (q12, .inl (G.2.1 .int, 10, .inl fun _ => 0)), (q13, .inl (G.2.1 .int, 10, .inl fun _ => 0)), (q14, .inl (G.2.1 .int, 8, .inl fun _ => 0)), (q15, .inl (G.2.1 .int, 8, .inl fun _ => 0)), (q16, .inl (G.2.1 .int, 8, .inl fun _ => 0)), (q17, .inr (5, [.ref q1, .int 0, .int 0, .int 0, .int 0, .int 0, .int 0, .ref q18, .ref q19, .ref q20, .ref q21, .ref q22, .ref q23, .ref q24, .ref q25, .ref q26, .ref q27, .ref q28])), (q18, .inl (G.2.1 .int, 81, .inl fun _ => 0)), (q19, .inl (G.2.1 .int, 81, .inl fun _ => 0)), (q20, .inl (G.2.1 .int, 9, .inl fun _ => 0)), (q21, .inl (G.2.1 .boolean, 9, .inl fun _ => 0)), (q22, .inl (G.2.1 .int, 10, .inl fun _ => 0)), (q23, .inl (G.2.1 .int, 10, .inl fun _ => 0)), (q24, .inl (G.2.1 .int, 10, .inl fun _ => 0)), (q25, .inl (G.2.1 .int, 10, .inl fun _ => 0)), (q26, .inl (G.2.1 .int, 10, .inl fun _ => 0)), (q27, .inl (G.2.1 .int, 10, .inl fun _ => 0)), (q28, .inl (G.2.1 .int, 10, .inl fun _ => 0)), (q29, .inr (6, [.int 0, .ref q30])), (q30, .inl (G.2.1 .int, 300, .inl fun _ => 0)), (q31, .inr (7, [.ref q29, .ref q32, .ref q35, .ref q38, .int 0, .int 0, .int 0, .int 0, .int 0, .int 0])), (q32, .inr (3, [.int 0, .ref q33, .ref q34])), (q33, .inl (G.2.1 .int, 45, .inl fun _ => 0)), (q34, .inl (G.2.1 .int, 10, .inl stF)), (q35, .inr (4, [.int 0, .int 0, .ref q36, .ref q37])), (q36, .inl (G.2.1 .int, 8, .inl fun _ => 0)), (q37, .inl (G.2.1 .int, 32, .inl fun _ => 0)), (q38, .inl (G.2.1 .int, 8, .inl fun _ => 0)), (q39, .inr (2, [.int 0, .int 0, .int 0])), (q40, .inr (2, [.int 0, .int 0, .int 0]))]) ff_X8_64 rfl rfl rfl ?_
  exact i_ret C (pc := 108) hA dX8_init_108 rfl rfl ⟨q1, q2, q3, q4, q5, q6, q7, q8, q9, q10, q11, q12, q13, q14, q15, q16, q17, q18, q19, q20, q21, q22, q23, q24, q25, q26, q27, q28, q29, q30, q31, q32, q33, q34, q35, q36, q37, q38, q39, q40, rfl⟩
theorem dX9_init_0 : decode cX9_init 0 = .ok (.aload_n 0, 1) := by decide +kernel
theorem dX9_init_1 : decode cX9_init 1 = .ok (.invokespecial 1, 3) := by decide +kernel
theorem dX9_init_4 : decode cX9_init 4 = .ok (.aload_n 0, 1) := by decide +kernel
theorem dX9_init_5 : decode cX9_init 5 = .ok (.sipush 160, 3) := by decide +kernel
theorem dX9_init_8 : decode cX9_init 8 = .ok (.newarray .int, 2) := by decide +kernel
theorem dX9_init_10 : decode cX9_init 10 = .ok (.putfield 7, 3) := by decide +kernel
theorem dX9_init_13 : decode cX9_init 13 = .ok (.aload_n 0, 1) := by decide +kernel
theorem dX9_init_14 : decode cX9_init 14 = .ok (.sipush 160, 3) := by decide +kernel
theorem dX9_init_17 : decode cX9_init 17 = .ok (.newarray .int, 2) := by decide +kernel
theorem dX9_init_19 : decode cX9_init 19 = .ok (.putfield 13, 3) := by decide +kernel
theorem dX9_init_22 : decode cX9_init 22 = .ok (.aload_n 0, 1) := by decide +kernel
theorem dX9_init_23 : decode cX9_init 23 = .ok (.sipush 300, 3) := by decide +kernel
theorem dX9_init_26 : decode cX9_init 26 = .ok (.newarray .byte, 2) := by decide +kernel
theorem dX9_init_28 : decode cX9_init 28 = .ok (.putfield 16, 3) := by decide +kernel
theorem dX9_init_31 : decode cX9_init 31 = .ok (.aload_n 0, 1) := by decide +kernel
theorem dX9_init_32 : decode cX9_init 32 = .ok (.bipush 10, 2) := by decide +kernel
theorem dX9_init_34 : decode cX9_init 34 = .ok (.newarray .int, 2) := by decide +kernel
theorem dX9_init_36 : decode cX9_init 36 = .ok (.putfield 20, 3) := by decide +kernel
theorem dX9_init_39 : decode cX9_init 39 = .ok (.aload_n 0, 1) := by decide +kernel
theorem dX9_init_40 : decode cX9_init 40 = .ok (.bipush 10, 2) := by decide +kernel
theorem dX9_init_42 : decode cX9_init 42 = .ok (.newarray .int, 2) := by decide +kernel
theorem dX9_init_44 : decode cX9_init 44 = .ok (.putfield 23, 3) := by decide +kernel
theorem dX9_init_47 : decode cX9_init 47 = .ok (.aload_n 0, 1) := by decide +kernel
theorem dX9_init_48 : decode cX9_init 48 = .ok (.bipush 10, 2) := by decide +kernel
theorem dX9_init_50 : decode cX9_init 50 = .ok (.newarray .int, 2) := by decide +kernel
theorem dX9_init_52 : decode cX9_init 52 = .ok (.putfield 26, 3) := by decide +kernel
theorem dX9_init_55 : decode cX9_init 55 = .ok (.aload_n 0, 1) := by decide +kernel
theorem dX9_init_56 : decode cX9_init 56 = .ok (.bipush 10, 2) := by decide +kernel
theorem dX9_init_58 : decode cX9_init 58 = .ok (.newarray .int, 2) := by decide +kernel
theorem dX9_init_60 : decode cX9_init 60 = .ok (.putfield 29, 3) := by decide +kernel
theorem dX9_init_63 : decode cX9_init 63 = .ok (.aload_n 0, 1) := by decide +kernel
theorem dX9_init_64 : decode cX9_init 64 = .ok (.bipush 8, 2) := by decide +kernel
theorem dX9_init_66 : decode cX9_init 66 = .ok (.newarray .int, 2) := by decide +kernel
theorem dX9_init_68 : decode cX9_init 68 = .ok (.putfield 32, 3) := by decide +kernel
theorem dX9_init_71 : decode cX9_init 71 = .ok (.aload_n 0, 1) := by decide +kernel
theorem dX9_init_72 : decode cX9_init 72 = .ok (.bipush 8, 2) := by decide +kernel
theorem dX9_init_74 : decode cX9_init 74 = .ok (.newarray .int, 2) := by decide +kernel
theorem dX9_init_76 : decode cX9_init 76 = .ok (.putfield 35, 3) := by decide +kernel
theorem dX9_init_79 : decode cX9_init 79 = .ok (.aload_n 0, 1) := by decide +kernel
theorem dX9_init_80 : decode cX9_init 80 = .ok (.bipush 8, 2) := by decide +kernel
theorem dX9_init_82 : decode cX9_init 82 = .ok (.newarray .int, 2) := by decide +kernel
theorem dX9_init_84 : decode cX9_init 84 = .ok (.putfield 38, 3) := by decide +kernel
theorem dX9_init_87 : decode cX9_init 87 = .ok (.aload_n 0, 1) := by decide +kernel
theorem dX9_init_88 : decode cX9_init 88 = .ok (.bipush 8, 2) := by decide +kernel
theorem dX9_init_90 : decode cX9_init 90 = .ok (.newarray .boolean, 2) := by decide +kernel
theorem dX9_init_92 : decode cX9_init 92 = .ok (.putfield 41, 3) := by decide +kernel
theorem dX9_init_95 : decode cX9_init 95 = .ok (.aload_n 0, 1) := by decide +kernel
theorem dX9_init_96 : decode cX9_init 96 = .ok (.sipush 200, 3) := by decide +kernel
theorem dX9_init_99 : decode cX9_init 99 = .ok (.newarray .int, 2) := by decide +kernel
theorem dX9_init_101 : decode cX9_init 101 = .ok (.putfield 45, 3) := by decide +kernel
theorem dX9_init_104 : decode cX9_init 104 = .ok (.aload_n 0, 1) := by decide +kernel
theorem dX9_init_105 : decode cX9_init 105 = .ok (.bipush 10, 2) := by decide +kernel
theorem dX9_init_107 : decode cX9_init 107 = .ok (.newarray .int, 2) := by decide +kernel
theorem dX9_init_109 : decode cX9_init 109 = .ok (.putfield 48, 3) := by decide +kernel
theorem dX9_init_112 : decode cX9_init 112 = .ok (.aload_n 0, 1) := by decide +kernel
theorem dX9_init_113 : decode cX9_init 113 = .ok (.bipush 10, 2) := by decide +kernel
theorem dX9_init_115 : decode cX9_init 115 = .ok (.newarray .int, 2) := by decide +kernel
theorem dX9_init_117 : decode cX9_init 117 = .ok (.putfield 51, 3) := by decide +kernel
theorem dX9_init_120 : decode cX9_init 120 = .ok (.aload_n 0, 1) := by decide +kernel
theorem dX9_init_121 : decode cX9_init 121 = .ok (.bipush 10, 2) := by decide +kernel
theorem dX9_init_123 : decode cX9_init 123 = .ok (.newarray .int, 2) := by decide +kernel
theorem dX9_init_125 : decode cX9_init 125 = .ok (.putfield 54, 3) := by decide +kernel
theorem dX9_init_128 : decode cX9_init 128 = .ok (.aload_n 0, 1) := by decide +kernel
theorem dX9_init_129 : decode cX9_init 129 = .ok (.bipush 10, 2) := by decide +kernel
theorem dX9_init_131 : decode cX9_init 131 = .ok (.newarray .int, 2) := by decide +kernel
theorem dX9_init_133 : decode cX9_init 133 = .ok (.putfield 57, 3) := by decide +kernel
theorem dX9_init_136 : decode cX9_init 136 = .ok (.aload_n 0, 1) := by decide +kernel
theorem dX9_init_137 : decode cX9_init 137 = .ok (.bipush 10, 2) := by decide +kernel
theorem dX9_init_139 : decode cX9_init 139 = .ok (.newarray .int, 2) := by decide +kernel
theorem dX9_init_141 : decode cX9_init 141 = .ok (.putfield 60, 3) := by decide +kernel
theorem dX9_init_144 : decode cX9_init 144 = .ok (.aload_n 0, 1) := by decide +kernel
theorem dX9_init_145 : decode cX9_init 145 = .ok (.bipush 10, 2) := by decide +kernel
theorem dX9_init_147 : decode cX9_init 147 = .ok (.newarray .boolean, 2) := by decide +kernel
theorem dX9_init_149 : decode cX9_init 149 = .ok (.putfield 63, 3) := by decide +kernel
theorem dX9_init_152 : decode cX9_init 152 = .ok (.aload_n 0, 1) := by decide +kernel
theorem dX9_init_153 : decode cX9_init 153 = .ok (.getfield 7, 3) := by decide +kernel
theorem dX9_init_156 : decode cX9_init 156 = .ok (.bipush 50, 2) := by decide +kernel
theorem dX9_init_158 : decode cX9_init 158 = .ok (.iconst 3, 1) := by decide +kernel
theorem dX9_init_159 : decode cX9_init 159 = .ok (.iastore, 1) := by decide +kernel
theorem dX9_init_160 : decode cX9_init 160 = .ok (.aload_n 0, 1) := by decide +kernel
theorem dX9_init_161 : decode cX9_init 161 = .ok (.getfield 7, 3) := by decide +kernel
theorem dX9_init_164 : decode cX9_init 164 = .ok (.bipush 51, 2) := by decide +kernel
theorem dX9_init_166 : decode cX9_init 166 = .ok (.iconst 2, 1) := by decide +kernel
theorem dX9_init_167 : decode cX9_init 167 = .ok (.iastore, 1) := by decide +kernel
theorem dX9_init_168 : decode cX9_init 168 = .ok (.aload_n 0, 1) := by decide +kernel
theorem dX9_init_169 : decode cX9_init 169 = .ok (.getfield 7, 3) := by decide +kernel
theorem dX9_init_172 : decode cX9_init 172 = .ok (.bipush 54, 2) := by decide +kernel
theorem dX9_init_174 : decode cX9_init 174 = .ok (.bipush 50, 2) := by decide +kernel
theorem dX9_init_176 : decode cX9_init 176 = .ok (.iastore, 1) := by decide +kernel
theorem dX9_init_177 : decode cX9_init 177 = .ok (.aload_n 0, 1) := by decide +kernel
theorem dX9_init_178 : decode cX9_init 178 = .ok (.getfield 7, 3) := by decide +kernel
theorem dX9_init_181 : decode cX9_init 181 = .ok (.bipush 55, 2) := by decide +kernel
theorem dX9_init_183 : decode cX9_init 183 = .ok (.bipush 100, 2) := by decide +kernel
theorem dX9_init_185 : decode cX9_init 185 = .ok (.iastore, 1) := by decide +kernel
theorem dX9_init_186 : decode cX9_init 186 = .ok (.aload_n 0, 1) := by decide +kernel
theorem dX9_init_187 : decode cX9_init 187 = .ok (.getfield 7, 3) := by decide +kernel
theorem dX9_init_190 : decode cX9_init 190 = .ok (.bipush 56, 2) := by decide +kernel
theorem dX9_init_192 : decode cX9_init 192 = .ok (.iconst 1, 1) := by decide +kernel
theorem dX9_init_193 : decode cX9_init 193 = .ok (.iastore, 1) := by decide +kernel
theorem dX9_init_194 : decode cX9_init 194 = .ok (.aload_n 0, 1) := by decide +kernel
theorem dX9_init_195 : decode cX9_init 195 = .ok (.getfield 7, 3) := by decide +kernel
theorem dX9_init_198 : decode cX9_init 198 = .ok (.bipush 57, 2) := by decide +kernel
theorem dX9_init_200 : decode cX9_init 200 = .ok (.iconst 1, 1) := by decide +kernel
theorem dX9_init_201 : decode cX9_init 201 = .ok (.iastore, 1) := by decide +kernel
theorem dX9_init_202 : decode cX9_init 202 = .ok (.aload_n 0, 1) := by decide +kernel
theorem dX9_init_203 : decode cX9_init 203 = .ok (.getfield 7, 3) := by decide +kernel
theorem dX9_init_206 : decode cX9_init 206 = .ok (.bipush 58, 2) := by decide +kernel
theorem dX9_init_208 : decode cX9_init 208 = .ok (.iconst 1, 1) := by decide +kernel
theorem dX9_init_209 : decode cX9_init 209 = .ok (.iastore, 1) := by decide +kernel
theorem dX9_init_210 : decode cX9_init 210 = .ok (.aload_n 0, 1) := by decide +kernel
theorem dX9_init_211 : decode cX9_init 211 = .ok (.getfield 7, 3) := by decide +kernel
theorem dX9_init_214 : decode cX9_init 214 = .ok (.bipush 59, 2) := by decide +kernel
theorem dX9_init_216 : decode cX9_init 216 = .ok (.iconst 1, 1) := by decide +kernel
theorem dX9_init_217 : decode cX9_init 217 = .ok (.iastore, 1) := by decide +kernel
theorem dX9_init_218 : decode cX9_init 218 = .ok (.return_, 1) := by decide +kernel
set_option maxRecDepth 20000 in
theorem ff_X9_7 : FF RX9 7 9 1 := ⟨TX9, 27, tyX9, .array .int, rfl, by decide, inWX9, gw_mem (tb5 23 rfl) rfl, tyX9_ok, nmX9, rfl, rfl, by decide +kernel, fun q => ⟨rfl, rfl⟩⟩
set_option maxRecDepth 20000 in
theorem ff_X9_13 : FF RX9 13 9 2 := ⟨TX9, 27, tyX9, .array .int, rfl, by decide, inWX9, gw_mem (tb5 24 rfl) rfl, tyX9_ok, nmX9, rfl, rfl, by decide +kernel, fun q => ⟨rfl, rfl⟩⟩
set_option maxRecDepth 20000 in
theorem ff_X9_16 : FF RX9 16 9 3 := ⟨TX9, 27, tyX9, .array .byte, rfl, by decide, inWX9, gw_mem (tb5 25 rfl) rfl, tyX9_ok, nmX9, rfl, rfl, by decide +kernel, fun q => ⟨rfl, rfl⟩⟩
set_option maxRecDepth 20000 in
theorem ff_X9_20 : FF RX9 20 9 9 := ⟨TX9, 27, tyX9, .array .int, rfl, by decide, inWX9, gw_mem (tb5 31 rfl) rfl, tyX9_ok, nmX9, rfl, rfl, by decide +kernel, fun q => ⟨rfl, rfl⟩⟩
set_option maxRecDepth 20000 in
theorem ff_X9_23 : FF RX9 23 9 10 := ⟨TX9, 27, tyX9, .array .int, rfl, by decide, inWX9, gw_mem (tb5 32 rfl) rfl, tyX9_ok, nmX9, rfl, rfl, by decide +kernel, fun q => ⟨rfl, rfl⟩⟩
set_option maxRecDepth 20000 in
theorem ff_X9_26 : FF RX9 26 9 11 := ⟨TX9, 27, tyX9, .array .int, rfl, by decide, inWX9, gw_mem (tb5 33 rfl) rfl, tyX9_ok, nmX9, rfl, rfl, by decide +kernel, fun q => ⟨rfl, rfl⟩⟩
set_option maxRecDepth 20000 in
theorem ff_X9_29 : FF RX9 29 9 12 := ⟨TX9, 27, tyX9, .array .int, rfl, by decide, inWX9, gw_mem (tb5 34 rfl) rfl, tyX9_ok, nmX9, rfl, rfl, by decide +kernel, fun q => ⟨rfl, rfl⟩⟩
set_option maxRecDepth 20000 in
theorem ff_X9_32 : FF RX9 32 9 13 := ⟨TX9, 27, tyX9, .array .int, rfl, by decide, inWX9, gw_mem (tb5 35 rfl) rfl, tyX9_ok, nmX9, rfl, rfl, by decide +kernel, fun q => ⟨rfl, rfl⟩⟩
set_option maxRecDepth 20000 in
theorem ff_X9_35 : FF RX9 35 9 14 := ⟨TX9, 27, tyX9, .array .int, rfl, by decide, inWX9, gw_mem (tb5 36 rfl) rfl, tyX9_ok, nmX9, rfl, rfl, by decide +kernel, fun q => ⟨rfl, rfl⟩⟩
set_option maxRecDepth 20000 in
theorem ff_X9_38 : FF RX9 38 9 15 := ⟨TX9, 27, tyX9, .array .int, rfl, by decide, inWX9, gw_mem (tb5 37 rfl) rfl, tyX9_ok, nmX9, rfl, rfl, by decide +kernel, fun q => ⟨rfl, rfl⟩⟩
set_option maxRecDepth 20000 in
theorem ff_X9_41 : FF RX9 41 9 16 := ⟨TX9, 27, tyX9, .array .boolean, rfl, by decide, inWX9, gw_mem (tb5 38 rfl) rfl, tyX9_ok, nmX9, rfl, rfl, by decide +kernel, fun q => ⟨rfl, rfl⟩⟩
set_option maxRecDepth 20000 in
theorem ff_X9_45 : FF RX9 45 9 17 := ⟨TX9, 27, tyX9, .array .int, rfl, by decide, inWX9, gw_mem (tb5 39 rfl) rfl, tyX9_ok, nmX9, rfl, rfl, by decide +kernel, fun q => ⟨rfl, rfl⟩⟩
set_option maxRecDepth 20000 in
theorem ff_X9_48 : FF RX9 48 9 19 := ⟨TX9, 27, tyX9, .array .int, rfl, by decide, inWX9, gw_mem (tb5 41 rfl) rfl, tyX9_ok, nmX9, rfl, rfl, by decide +kernel, fun q => ⟨rfl, rfl⟩⟩
set_option maxRecDepth 20000 in
theorem ff_X9_51 : FF RX9 51 9 20 := ⟨TX9, 27, tyX9, .array .int, rfl, by decide, inWX9, gw_mem (tb5 42 rfl) rfl, tyX9_ok, nmX9, rfl, rfl, by decide +kernel, fun q => ⟨rfl, rfl⟩⟩
set_option maxRecDepth 20000 in
theorem ff_X9_54 : FF RX9 54 9 21 := ⟨TX9, 27, tyX9, .array .int, rfl, by decide, inWX9, gw_mem (tb5 43 rfl) rfl, tyX9_ok, nmX9, rfl, rfl, by decide +kernel, fun q => ⟨rfl, rfl⟩⟩
set_option maxRecDepth 20000 in
theorem ff_X9_57 : FF RX9 57 9 22 := ⟨TX9, 27, tyX9, .array .int, rfl, by decide, inWX9, gw_mem (tb5 44 rfl) rfl, tyX9_ok, nmX9, rfl, rfl, by decide +kernel, fun q => ⟨rfl, rfl⟩⟩
set_option maxRecDepth 20000 in
theorem ff_X9_60 : FF RX9 60 9 23 := ⟨TX9, 27, tyX9, .array .int, rfl, by decide, inWX9, gw_mem (tb5 45 rfl) rfl, tyX9_ok, nmX9, rfl, rfl, by decide +kernel, fun q => ⟨rfl, rfl⟩⟩
set_option maxRecDepth 20000 in
theorem ff_X9_63 : FF RX9 63 9 24 := ⟨TX9, 27, tyX9, .array .boolean, rfl, by decide, inWX9, gw_mem (tb5 46 rfl) rfl, tyX9_ok, nmX9, rfl, rfl, by decide +kernel, fun q => ⟨rfl, rfl⟩⟩
set_option maxRecDepth 20000 in
theorem oi_X9_1 : Cond.methodLink RX9 1 objectInit ∈ gw := gw_mem (tb5 21 rfl) rfl
set_option maxRecDepth 20000 in
theorem iy_X9_init : MY yX9_init cX9_init 1 none 0 := ⟨gw_mem (tb5 20 rfl) rfl, gw_mem (tb1 10 rfl) rfl, by decide +kernel⟩
set_option maxRecDepth 20000 in
theorem ii_X9_init : Cond.instanceMethod yX9_init ∈ gw := gw_mem (tb5 19 rfl) rfl
set_option maxRecDepth 100000 in
set_option maxHeartbeats 4000000 in
theorem nX9_init {l : Launch} (G : Gx) (h0 : Nat) : Cn l G yX9_init cX9_init 1 1 18 952 [.ref h0] h0 (.inr (9, [.int 0, .null, .null, .null, .int 0, .int 0, .int 0, .int 0, .int 0, .null, .null, .null, .null, .null, .null, .null, .null, .null, .int 0, .null, .null, .null, .null, .null, .null, .int 0, .int 0])) (fun w1 => ∃ q1 q2 q3 q4 q5 q6 q7 q8 q9 q10 q11 q12 q13 q14 q15 q16 q17 q18 : Nat, w1 = [(h0, .inr (9, [.int 0, .ref q1, .ref q2, .ref q3, .int 0, .int 0, .int 0, .int 0, .int 0, .ref q4, .ref q5, .ref q6, .ref q7, .ref q8, .ref q9, .ref q10, .ref q11, .ref q12, .int 0, .ref q13, .ref q14, .ref q15, .ref q16, .ref q17, .ref q18, .int 0, .int 0])), (q1, .inl (G.2.1 .int, 160, .inl (upd ((upd ((upd ((upd ((upd ((upd ((upd ((upd (fun _ => 0) 50 3)) 51 2)) 54 50)) 55 100)) 56 1)) 57 1)) 58 1)) 59 1))), (q2, .inl (G.2.1 .int, 160, .inl fun _ => 0)), (q3, .inl (G.2.1 .byte, 300, .inl fun _ => 0)), (q4, .inl (G.2.1 .int, 10, .inl fun _ => 0)), (q5, .inl (G.2.1 .int, 10, .inl fun _ => 0)), (q6, .inl (G.2.1 .int, 10, .inl fun _ => 0)), (q7, .inl (G.2.1 .int, 10, .inl fun _ => 0)), (q8, .inl (G.2.1 .int, 8, .inl fun _ => 0)), (q9, .inl (G.2.1 .int, 8, .inl fun _ => 0)), (q10, .inl (G.2.1 .int, 8, .inl fun _ => 0)), (q11, .inl (G.2.1 .boolean, 8, .inl fun _ => 0)), (q12, .inl (G.2.1 .int, 200, .inl fun _ => 0)), (q13, .inl (G.2.1 .int, 10, .inl fun _ => 0)), (q14, .inl (G.2.1 .int, 10, .inl fun _ => 0)), (q15, .inl (G.2.1 .int, 10, .inl fun _ => 0)), (q16, .inl (G.2.1 .int, 10, .inl fun _ => 0)), (q17, .inl (G.2.1 .int, 10, .inl fun _ => 0)), (q18, .inl (G.2.1 .boolean, 10, .inl fun _ => 0))]) := by
  refine Cn.of (by decide) rfl rfl (lv := [(0, .ref h0)]) rfl ?_
  intro K A hA hkl C
  change Ck K (cX9_init, RX9, 1, rmi0 1 18 952) G A at C
  subst hkl
  change Wi K (cX9_init, RX9, 1, rmi0 1 18 952) G A _ [(h0, .inr (9, [.int 0, .null, .null, .null, .int 0, .int 0, .int 0, .int 0, .int 0, .null, .null, .null, .null, .null, .null, .null, .null, .null, .int 0, .null, .null, .null, .null, .null, .null, .int 0, .int 0]))] 0 0 0 _ _
  refine i_aload_n C (pc := 0) dX9_init_0 0 rfl ?_
  refine i_obj C (pc := 1) dX9_init_1 oi_X9_1 oi_inst oi_code ⟨rfl, rfl⟩ ?_
  refine i_aload_n C (pc := 4) dX9_init_4 0 rfl ?_
  refine i_sipush C (pc := 5) dX9_init_5 (v := 160) (by decide) ?_
  refine i_newa C (pc := 8) dX9_init_8 (ty := .int) (N := 160) (t0 := 0) (ws' := fun q => [(h0, .inr (9, [.int 0, .null, .null, .null, .int 0, .int 0, .int 0, .int 0, .int 0, .null, .null, .null, .null, .null, .null, .null, .null, .null, .int 0, .null, .null, .null, .null, .null, .null, .int 0, .int 0])), (q, .inl (G.2.1 .int, 160, .inl fun _ => 0))]) rfl arc_int rfl rfl (fun c => Iff.rfl) (by decide) (by decide) (by decide) rfl rfl (fun q => rfl) (fun q1 => ?_)
  refine i_putF C (pc := 10) dX9_init_10 (k := 0) (ws' := [(h0, .inr (9, [.int 0, .ref q1, .null, .null, .int 0, .int 0, .int 0, .int 0, .int 0, .null, .null, .null, .null, .null, .null, .null, .null, .null, .int 0, .null, .null, .null, .null, .null, .null, .int 0, .int 0])), (q1, .inl (G.2.1 .int, 160, .inl fun _ => 0))]) ff_X9_7 rfl rfl rfl ?_
  refine i_aload_n C (pc := 13) dX9_init_13 0 rfl ?_
  refine i_sipush C (pc := 14) dX9_init_14 (v := 160) (by decide) ?_
  refine i_newa C (pc := 17) dX9_init_17 (ty := .int) (N := 160) (t0 := 0) (ws' := fun q => [(h0, .inr (9, [.int 0, .ref q1, .null, .null, .int 0, .int 0, .int 0, .int 0, .int 0, .null, .null, .null, .null, .null, .null, .null, .null, .null, .int 0, .null, .null, .null, .null, .null, .null, .int 0, .int 0])), (q1, .inl (G.2.1 .int, 160, .inl fun _ => 0)), (q, .inl (G.2.1 .int, 160, .inl fun _ => 0))]) rfl arc_int rfl rfl (fun c => Iff.rfl) (by decide) (by decide) (by decide) rfl rfl (fun q => rfl) (fun q2 => ?_)
  refine i_putF C (pc := 19) dX9_init_19 (k := 0) (ws' := [(h0, .inr (9, [.int 0, .ref q1, .ref q2, .null, .int 0, .int 0, .int 0, .int 0, .int 0, .null, .null, .null, .null, .null, .null, .null, .null, .null, .int 0, .null, .null, .null, .null, .null, .null, .int 0, .int 0])), (q1, .inl (G.2.1 .int, 160, .inl fun _ => 0)), (q2, .inl (G.2.1 .int, 160, .inl fun _ => 0))]) ff_X9_13 rfl rfl rfl ?_
  refine i_aload_n C (pc := 22) dX9_init_22 0 rfl ?_
  refine i_sipush C (pc := 23) dX9_init_23 (v := 300) (by decide) ?_
  refine i_newa C (pc := 26) dX9_init_26 (ty := .byte) (N := 300) (t0 := 2) (ws' := fun q => [(h0, .inr (9, [.int 0, .ref q1, .ref q2, .null, .int 0, .int 0, .int 0, .int 0, .int 0, .null, .null, .null, .null, .null, .null, .null, .null, .null, .int 0, .null, .null, .null, .null, .null, .null, .int 0, .int 0])), (q1, .inl (G.2.1 .int, 160, .inl fun _ => 0)), (q2, .inl (G.2.1 .int, 160, .inl fun _ => 0)), (q, .inl (G.2.1 .byte, 300, .inl fun _ => 0))]) rfl arc_byte rfl rfl (fun c => Iff.rfl) (by decide) (by decide) (by decide) rfl rfl (fun q => rfl) (fun q3 => ?_)
  refine i_putF C (pc := 28) dX9_init_28 (k := 0) (ws' := [(h0, .inr (9, [.int 0, .ref q1, .ref q2, .ref q3, .int 0, .int 0, .int 0, .int 0, .int 0, .null, .null, .null, .null, .null, .null, .null, .null, .null, .int 0, .null, .null, .null, .null, .null, .null, .int 0, .int 0])), (q1, .inl (G.2.1 .int, 160, .inl fun _ => 0)), (q2, .inl (G.2.1 .int, 160, .inl fun _ => 0)), (q3, .inl (G.2.1 .byte, 300, .inl fun _ => 0))]) ff_X9_16 rfl rfl rfl ?_
  refine i_aload_n C (pc := 31) dX9_init_31 0 rfl ?_
  refine i_bipush C (pc := 32) dX9_init_32 (v := 10) (by decide) ?_
  refine i_newa C (pc := 34) dX9_init_34 (ty := .int) (N := 10) (t0 := 0) (ws' := fun q => [(h0, .inr (9, [.int 0, .ref q1, .ref q2, .ref q3, .int 0, .int 0, .int 0, .int 0, .int 0, .null, .null, .null, .null, .null, .null, .null, .null, .null, .int 0, .null, .null, .null, .null, .null, .null, .int 0, .int 0])), (q1, .inl (G.2.1 .int, 160, .inl fun _ => 0)), (q2, .inl (G.2.1 .int, 160, .inl fun _ => 0)), (q3, .inl (G.2.1 .byte, 300, .inl fun _ => 0)), (q, .inl (G.2.1 .int, 10, .inl fun _ => 0))]) rfl arc_int rfl rfl (fun c => Iff.rfl) (by decide) (by decide) (by decide) rfl rfl (fun q => rfl) (fun q4 => ?_)
  refine i_putF C (pc := 36) dX9_init_36 (k := 0) (ws' := [(h0, .inr (9, [.int 0, .ref q1, .ref q2, .ref q3, .int 0, .int 0, .int 0, .int 0, .int 0, .ref q4, .null, .null, .null, .null, .null, .null, .null, .null, .int 0, .null, .null, .null, .null, .null, .null, .int 0, .int 0])), (q1, .inl (G.2.1 .int, 160, .inl fun _ => 0)), (q2, .inl (G.2.1 .int, 160, .inl fun _ => 0)), (q3, .inl (G.2.1 .byte, 300, .inl fun _ => 0)), (q4, .inl (G.2.1 .int, 10, .inl fun _ => 0))]) ff_X9_20 rfl rfl rfl ?_
  refine i_aload_n C (pc := 39) dX9_init_39 0 rfl ?_
  refine i_bipush C (pc := 40) dX9_init_40 (v := 10) (by decide) ?_
  refine i_newa C (pc := 42) dX9_init_42 (ty := .int) (N := 10) (t0 := 0) (ws' := fun q => [(h0, .inr (9, [.int 0, .ref q1, .ref q2, .ref q3, .int 0, .int 0, .int 0, .int 0, .int 0, .ref q4, .null, .null, .null, .null, .null, .null, .null, .null, .int 0, .null, .null, .null, .null, .null, .null, .int 0, .int 0])), (q1, .inl (G.2.1 .int, 160, .inl fun _ => 0)), (q2, .inl (G.2.1 .int, 160, .inl fun _ => 0)), (q3, .inl (G.2.1 .byte, 300, .inl fun _ => 0)), (q4, .inl (G.2.1 .int, 10, .inl fun _ => 0)), (q, .inl (G.2.1 .int, 10, .inl fun _ => 0))]) rfl arc_int rfl rfl (fun c => Iff.rfl) (by decide) (by decide) (by decide) rfl rfl (fun q => rfl) (fun q5 => ?_)
  refine i_putF C (pc := 44) dX9_init_44 (k := 0) (ws' := [(h0, .inr (9, [.int 0, .ref q1, .ref q2, .ref q3, .int 0, .int 0, .int 0, .int 0, .int 0, .ref q4, .ref q5, .null, .null, .null, .null, .null, .null, .null, .int 0, .null, .null, .null, .null, .null, .null, .int 0, .int 0])), (q1, .inl (G.2.1 .int, 160, .inl fun _ => 0)), (q2, .inl (G.2.1 .int, 160, .inl fun _ => 0)), (q3, .inl (G.2.1 .byte, 300, .inl fun _ => 0)), (q4, .inl (G.2.1 .int, 10, .inl fun _ => 0)), (q5, .inl (G.2.1 .int, 10, .inl fun _ => 0))]) ff_X9_23 rfl rfl rfl ?_
  refine i_aload_n C (pc := 47) dX9_init_47 0 rfl ?_
  refine i_bipush C (pc := 48) dX9_init_48 (v := 10) (by decide) ?_
  refine i_newa C (pc := 50) dX9_init_50 (ty := .int) (N := 10) (t0 := 0) (ws' := fun q => [(h0, .inr (9, [.int 0, .ref q1, .ref q2, .ref q3, .int 0, .int 0, .int 0, .int 0, .int 0, .ref q4, .ref q5, .null, .null, .null, .null, .null, .null, .null, .int 0, .null, .null, .null, .null, .null, .null, .int 0, .int 0])), (q1, .inl (G.2.1 .int, 160, .inl fun _ => 0)), (q2, .inl (G.2.1 .int, 160, .inl fun _ => 0)), (q3, .inl (G.2.1 .byte, 300, .inl fun _ => 0)), (q4, .inl (G.2.1 .int, 10, .inl fun _ => 0)), (q5, .inl (G.2.1 .int, 10, .inl fun _ => 0)), (q, .inl (G.2.1 .int, 10, .inl fun _ => 0))]) rfl arc_int rfl rfl (fun c => Iff.rfl) (by decide) (by decide) (by decide) rfl rfl (fun q => rfl) (fun q6 => ?_)
  refine i_putF C (pc := 52) dX9_init_52 (k := 0) (ws' := [(h0, .inr (9, [.int 0, .ref q1, .ref q2, .ref q3, .int 0, .int 0, .int 0, .int 0, .int 0, .ref q4, .ref q5, .ref q6, .null, .null, .null, .null, .null, .null, .int 0, .null, .null, .null, .null, .null, .null, .int 0, .int 0])), (q1, .inl (G.2.1 .int, 160, .inl fun _ => 0)), (q2, .inl (G.2.1 .int, 160, .inl fun _ => 0)), (q3, .inl (G.2.1 .byte, 300, .inl fun _ => 0)), (q4, .inl (G.2.1 .int, 10, .inl fun _ => 0)), (q5, .inl (G.2.1 .int, 10, .inl fun _ => 0)), (q6, .inl (G.2.1 .int, 10, .inl fun _ => 0))]) ff_X9_26 rfl rfl rfl ?_
  refine i_aload_n C (pc := 55) dX9_init_55 0 rfl ?_
  refine i_bipush C (pc := 56) dX9_init_56 (v := 10) (by decide) ?_
  refine i_newa C (pc := 58) dX9_init_58 (ty := .int) (N := 10) (t0 := 0) (ws' := fun q => [(h0, .inr (9, [.int 0, .ref q1, .ref q2, .ref q3, .int 0, .int 0, .int 0, .int 0, .int 0, .ref q4, .ref q5, .ref q6, .null, .null, .null, .null, .null, .null, .int 0, .null, .null, .null, .null, .null, .null, .int 0, .int 0])), (q1, .inl (G.2.1 .int, 160, .inl fun _ => 0)), (q2, .inl (G.2.1 .int, 160, .inl fun _ => 0)), (q3, .inl (G.2.1 .byte, 300, .inl fun _ => 0)), (q4, .inl (G.2.1 .int, 10, .inl fun _ => 0)), (q5, .inl (G.2.1 .int, 10, .inl fun _ => 0)), (q6, .inl (G.2.1 .int, 10, .inl fun _ => 0)), (q, .inl (G.2.1 .int, 10, .inl fun _ => 0))]) rfl arc_int rfl rfl (fun c => Iff.rfl) (by decide) (by decide) (by decide) rfl rfl (fun q => rfl) (fun q7 => ?_)
  refine i_putF C (pc := 60) dX9_init_60 (k := 0) (ws' := [(h0, .inr (9, [.int 0, .ref q1, .ref q2, .ref q3, .int 0, .int 0, .int 0, .int 0, .int 0, .ref q4, .ref q5, .ref q6, .ref q7, .null, .null, .null, .null, .null, .int 0, .null, .null, .null, .null, .null, .null, .int 0, .int 0])), (q1, .inl (G.2.1 .int, 160, .inl fun _ => 0)), (q2, .inl (G.2.1 .int, 160, .inl fun _ => 0)), (q3, .inl (G.2.1 .byte, 300, .inl fun _ => 0)), (q4, .inl (G.2.1 .int, 10, .inl fun _ => 0)), (q5, .inl (G.2.1 .int, 10, .inl fun _ => 0)), (q6, .inl (G.2.1 .int, 10, .inl fun _ => 0)), (q7, .inl (G.2.1 .int, 10, .inl fun _ => 0))]) ff_X9_29 rfl rfl rfl ?_
  refine i_aload_n C (pc := 63) dX9_init_63 0 rfl ?_
  refine i_bipush C (pc := 64) dX9_init_64 (v := 8) (by decide) ?_
  refine i_newa C (pc := 66) dX9_init_66 (ty := .int) (N := 8) (t0 := 0) (ws' := fun q => [(h0, .inr (9, [.int 0, .ref q1, .ref q2, .ref q3, .int 0, .int 0, .int 0, .int 0, .int 0, .ref q4, .ref q5, .ref q6, .ref q7, .null, .null, .null, .null, .null, .int 0, .null, .null, .null, .null, .null, .null, .int 0, .int 0])), (q1, .inl (G.2.1 .int, 160, .inl fun _ => 0)), (q2, .inl (G.2.1 .int, 160, .inl fun _ => 0)), (q3, .inl (G.2.1 .byte, 300, .inl fun _ => 0)), (q4, .inl (G.2.1 .int, 10, .inl fun _ => 0)), (q5, .inl (G.2.1 .int, 10, .inl fun _ => 0)), (q6, .inl (G.2.1 .int, 10, .inl fun _ => 0)), (q7, .inl (G.2.1 .int, 10, .inl fun _ => 0)), (q, .inl (G.2.1 .int, 8, .inl fun _ => 0))]) rfl arc_int rfl rfl (fun c => Iff.rfl) (by decide) (by decide) (by decide) rfl rfl (fun q => rfl) (fun q8 => ?_)
  refine i_putF C (pc := 68) dX9_init_68 (k := 0) (ws' := [(h0, .inr (9, [.int 0, .ref q1, .ref q2, .ref q3, .int 0, .int 0, .int 0, .int 0, .int 0, .ref q4, .ref q5, .ref q6, .ref q7, .ref q8, .null, .null, .null, .null, .int 0, .null, .null, .null, .null, .null, .null, .int 0, .int 0])), (q1, .inl (G.2.1 .int, 160, .inl fun _ => 0)), (q2, .inl (G.2.1 .int, 160, .inl fun _ => 0)), (q3, .inl (G.2.1 .byte, 300, .inl fun _ => 0)), (q4, .inl (G.2.1 .int, 10, .inl fun _ => 0)), (q5, .inl (G.2.1 .int, 10, .inl fun _ => 0)), (q6, .inl (G.2.1 .int, 10, .inl fun _ => 0)), (q7, .inl (G.2.1 .int, 10, .inl fun _ => 0)), (q8, .inl (G.2.1 .int, 8, .inl fun _ => 0))]) ff_X9_32 rfl rfl rfl ?_
  refine i_aload_n C (pc := 71) dX9_init_71 0 rfl ?_
  refine i_bipush C (pc := 72) dX9_init_72 (v := 8) (by decide) ?_
  refine i_newa C (pc := 74) dX9_init_74 (ty := .int) (N := 8) (t0 := 0) (ws' := fun q => [(h0, .inr (9, [.int 0, .ref q1, .ref q2, .ref q3, .int 0, .int 0, .int 0, .int 0, .int 0, .ref q4, .ref q5, .ref q6, .ref q7, .ref q8, .null, .null, .null, .null, .int 0, .null, .null, .null, .null, .null, .null, .int 0, .int 0])), (q1, .inl (G.2.1 .int, 160, .inl fun _ => 0)), (q2, .inl (G.2.1 .int, 160, .inl fun _ => 0)), (q3, .inl (G.2.1 .byte, 300, .inl fun _ => 0)), (q4, .inl (G.2.1 .int, 10, .inl fun _ => 0)), (q5, .inl (G.2.1 .int, 10, .inl fun _ => 0)), (q6, .inl (G.2.1 .int, 10, .inl fun _ => 0)), (q7, .inl (G.2.1 .int, 10, .inl fun _ => 0)), (q8, .inl (G.2.1 .int, 8, .inl fun _ => 0)), (q, .inl (G.2.1 .int, 8, .inl fun _ => 0))]) rfl arc_int rfl rfl (fun c => Iff.rfl) (by decide) (by decide) (by decide) rfl rfl (fun q => rfl) (fun q9 => ?_)
  refine i_putF C (pc := 76) dX9_init_76 (k := 0) (ws' := [(h0, .inr (9, [.int 0, .ref q1, .ref q2, .ref q3, .int 0, .int 0, .int 0, .int 0, .int 0, .ref q4, .ref q5, .ref q6, .ref q7, .ref q8, .ref q9, .null, .null, .null, .int 0, .null, .null, .null, .null, .null, .null, .int 0, .int 0])), (q1, .inl (G.2.1 .int, 160, .inl fun _ => 0)), (q2, .inl (G.2.1 .int, 160, .inl fun _ => 0)), (q3, .inl (G.2.1 .byte, 300, .inl fun _ => 0)), (q4, .inl (G.2.1 .int, 10, .inl fun _ => 0)), (q5, .inl (G.2.1 .int, 10, .inl fun _ => 0)), (q6, .inl (G.2.1 .int, 10, .inl fun _ => 0)), (q7, .inl (G.2.1 .int, 10, .inl fun _ => 0)), (q8, .inl (G.2.1 .int, 8, .inl fun _ => 0)), (q9, .inl (G.2.1 .int, 8, .inl fun _ => 0))]) ff_X9_35 rfl rfl rfl ?_
  refine i_aload_n C (pc := 79) dX9_init_79 0 rfl ?_
  refine i_bipush C (pc := 80) dX9_init_80 (v := 8) (by decide) ?_
  refine i_newa C (pc := 82) dX9_init_82 (ty := .int) (N := 8) (t0 := 0) (ws' := fun q => [(h0, .inr (9, [.int 0, .ref q1, .ref q2, .ref q3, .int 0, .int 0, .int 0, .int 0, .int 0, .ref q4, .ref q5, .ref q6, .ref q7, .ref q8, .ref q9, .null, .null, .null, .int 0, .null, .null, .null, .null, .null, .null, .int 0, .int 0])), (q1, .inl (G.2.1 .int, 160, .inl fun _ => 0)), (q2, .inl (G.2.1 .int, 160, .inl fun _ => 0)), (q3, .inl (G.2.1 .byte, 300, .inl fun _ => 0)), (q4, .inl (G.2.1 .int, 10, .inl fun _ => 0)), (q5, .inl (G.2.1 .int, 10, .inl fun _ => 0)), (q6, .inl (G.2.1 .int, 10, .inl fun _ => 0)), (q7, .inl (G.2.1 .int, 10, .inl fun _ => 0)), (q8, .inl (G.2.1 .int, 8, .inl fun _ => 0)), (q9, .inl (G.2.1 .int, 8, .inl fun _ => 0)), (q, .inl (G.2.1 .int, 8, .inl fun _ => 0))]) rfl arc_int rfl rfl (fun c => Iff.rfl) (by decide) (by decide) (by decide) rfl rfl (fun q => rfl) (fun q10 => ?_)
  refine i_putF C (pc := 84) dX9_init_84 (k := 0) (ws' := [(h0, .inr (9, [.int 0, .ref q1, .ref q2, .ref q3, .int 0, .int 0, .int 0, .int 0, .int 0, .ref q4, .ref q5, .ref q6, .ref q7, .ref q8, .ref q9, .ref q10, .null, .null, .int 0, .null, .null, .null, .null, .null, .null, .int 0, .int 0])), (q1, .inl (G.2.1 .int, 160, .inl fun _ => 0)), (q2, .inl (G.2.1 .int, 160, .inl fun _ => 0)), (q3, .inl (G.2.1 .byte, 300, .inl fun _ => 0)), (q4, .inl (G.2.1 .int, 10, .inl fun _ => 0)), (q5, .inl (G.2.1 .int, 10, .inl fun _ => 0)), (q6, .inl (G.2.1 .int, 10, .inl fun _ => 0)), (q7, .inl (G.2.1 .int, 10, .inl fun _ => 0)), (q8, .inl (G.2.1 .int, 8, .inl fun _ => 0)), (q9, .inl (G.2.1 .int, 8, .inl fun _ => 0)), (q10, .inl (G.2.1 .int, 8, .inl fun _ => 0))]) ff_X9_38 rfl rfl rfl ?_
  refine i_aload_n C (pc := 87) dX9_init_87 0 rfl ?_
  refine i_bipush C (pc := 88) dX9_init_88 (v := 8) (by decide) ?_
  refine i_newa C (pc := 90) dX9_init_90 (ty := .boolean) (N := 8) (t0 := 1) (ws' := fun q => [(h0, .inr (9, [.int 0, .ref q1, .ref q2, .ref q3, .int 0, .int 0, .int 0, .int 0, .int 0, .ref q4, .ref q5, .ref q6, .ref q7, .ref q8, .ref q9, .ref q10, .null, .null, .int 0, .null, .null, .null, .null, .null, .null, .int 0, .int 0])), (q1, .inl (G.2.1 .int, 160, .inl fun _ => 0)), (q2, .inl (G.2.1 .int, 160, .inl fun _ => 0)), (q3, .inl (G.2.1 .byte, 300, .inl fun _ => 0)), (q4, .inl (G.2.1 .int, 10, .inl fun _ => 0)), (q5, .inl (G.2.1 .int, 10, .inl fun _ => 0)), (q6, .inl (G.2.1 .int, 10, .inl fun _ => 0)), (q7, .inl (G.2.1 .int, 10, .inl fun _ => 0)), (q8, .inl (G.2.1 .int, 8, .inl fun _ => 0)), (q9, .inl (G.2.1 .int, 8, .inl fun _ => 0)), (q10, .inl (G.2.1 .int, 8, .inl fun _ => 0)), (q, .inl (G.2.1 .boolean, 8, .inl fun _ => 0))]) rfl arc_boolean rfl rfl (fun c => Iff.rfl) (by decide) (by decide) (by decide) rfl rfl (fun q => rfl) (fun q11 => ?_)
  refine i_putF C (pc := 92) dX9_init_92 (k := 0) (ws' := [(h0, .inr (9, [.int 0, .ref q1, .ref q2, .ref q3, .int 0, .int 0, .int 0, .int 0, .int 0, .ref q4, .ref q5, .ref q6, .ref q7, .ref q8, .ref q9, .ref q10, .ref q11, .null, .int 0, .null, .null, .null, .null, .null, .null, .int 0, .int 0])), (q1, .inl (G.2.1 .int, 160, .inl fun _ => 0)), (q2, .inl (G.2.1 .int, 160, .inl fun _ => 0)), (q3, .inl (G.2.1 .byte, 300, .inl fun _ => 0)), (q4, .inl (G.2.1 .int, 10, .inl fun _ => 0)), (q5, .inl (G.2.1 .int, 10, .inl fun _ => 0)), (q6, .inl (G.2.1 .int, 10, .inl fun _ => 0)), (q7, .inl (G.2.1 .int, 10, .inl fun _ => 0)), (q8, .inl (G.2.1 .int, 8, .inl fun _ => 0)), (q9, .inl (G.2.1 .int, 8, .inl fun _ => 0)), (q10, .inl (G.2.1 .int, 8, .inl fun _ => 0)), (q11, .inl (G.2.1 .boolean, 8, .inl fun _ => 0))]) ff_X9_41 rfl rfl rfl ?_
  refine i_aload_n C (pc := 95) dX9_init_95 0 rfl ?_
  refine i_sipush C (pc := 96) dX9_init_96 (v := 200) (by decide) ?_
  refine i_newa C (pc := 99) dX9_init_99 (ty := .int) (N := 200) (t0 := 0) (ws' := fun q => [(h0, .inr (9, [.int 0, .ref q1, .ref q2, .ref q3, .int 0, .int 0, .int 0, .int 0, .int 0, .ref q4, .ref q5, .ref q6, .ref q7, .ref q8, .ref q9, .ref q10, .ref q11, .null, .int 0, .null, .null, .null, .null, .null, .null, .int 0, .int 0])), (q1, .inl (G.2.1 .int, 160, .inl fun _ => 0)), (q2, .inl (G.2.1 .int, 160, .inl fun _ => 0)), (q3, .inl (G.2.1 .byte, 300, .inl fun _ => 0)), (q4, .inl (G.2.1 .int, 10, .inl fun _ => 0)), (q5, .inl (G.2.1 .int, 10, .inl fun _ => 0)), (q6, .inl (G.2.1 .int, 10, .inl fun _ => 0)), (q7, .inl (G.2.1 .int, 10, .inl fun _ => 0)), (q8, .inl (G.2.1 .int, 8, .inl fun _ => 0)), (q9, .inl (G.2.1 .int, 8, .inl fun _ => 0)), (q10, .inl (G.2.1 .int, 8, .inl fun _ => 0)), (q11, .inl (G.2.1 .boolean, 8, .inl fun _ => 0)), (q, .inl (G.2.1 .int, 200, .inl fun _ => 0))]) rfl arc_int rfl rfl (fun c => Iff.rfl) (by decide) (by decide) (by decide) rfl rfl (fun q => rfl) (fun q12 => ?_)
  refine i_putF C (pc := 101) dX9_init_101 (k := 0) (ws' := [(h0, .inr (9, [.int 0, .ref q1, .ref q2, .ref q3, .int 0, .int 0, .int 0, .int 0, .int 0, .ref q4, .ref q5, .ref q6, .ref q7, .ref q8, .ref q9, .ref q10, .ref q11, .ref q12, .int 0, .null, .null, .null, .null, .null, .null, .int 0, .int 0])), (q1, .inl (G.2.1 .int, 160, .inl fun _ => 0)), (q2, .inl (G.2.1 .int, 160, .inl fun _ => 0)), (q3, .inl (G.2.1 .byte, 300, .inl fun _ => 0)), (q4, .inl (G.2.1 .int, 10, .inl fun _ => 0)), (q5, .inl (G.2.1 .int, 10, .inl fun _ => 0)), (q6, .inl (G.2.1 .int, 10, .inl fun _ => 0)), (q7, .inl (G.2.1 .int, 10, .inl fun _ => 0)), (q8, .inl (G.2.1 .int, 8, .inl fun _ => 0)), (q9, .inl (G.2.1 .int, 8, .inl fun _ => 0)), (q10, .inl (G.2.1 .int, 8, .inl fun _ => 0)), (q11, .inl (G.2.1 .boolean, 8, .inl fun _ => 0)), (q12, .inl (G.2.1 .int, 200, .inl fun _ => 0))]) ff_X9_45 rfl rfl rfl ?_
  refine i_aload_n C (pc := 104) dX9_init_104 0 rfl ?_
  refine i_bipush C (pc := 105) dX9_init_105 (v := 10) (by decide) ?_
  refine i_newa C (pc := 107) dX9_init_107 (ty := .int) (N := 10) (t0 := 0) (ws' := fun q => [(h0, .inr (9, [.int 0, .ref q1, .ref q2, .ref q3, .int 0, .int 0, .int 0, .int 0, .int 0, .ref q4, .ref q5, .ref q6, .ref q7, .ref q8, .ref q9, .ref q10, .ref q11, .ref q12, .int 0, .null, .null, .null, .null, .null, .null, .int 0, .int 0])), (q1, .inl (G.2.1 .int, 160, .inl fun _ => 0)), (q2, .inl (G.2.1 .int, 160, .inl fun _ => 0)), (q3, .inl (G.2.1 .byte, 300, .inl fun _ => 0)), (q4, .inl (G.2.1 .int, 10, .inl fun _ => 0)), (q5, .inl (G.2.1 .int, 10, .inl fun _ => 0)), (q6, .inl (G.2.1 .int, 10, .inl fun _ => 0)), (q7, .inl (G.2.1 .int, 10, .inl fun _ => 0)), (q8, .inl (G.2.1 .int, 8, .inl fun _ => 0)), (q9, .inl (G.2.1 .int, 8, .inl fun _ => 0)), (q10, .inl (G.2.1 .int, 8, .inl fun _ => 0)), (q11, .inl (G.2.1 .boolean, 8, .inl fun _ => 0)), (q12, .inl (G.2.1 .int, 200, .inl fun _ => 0)), (q, .inl (G.2.1 .int, 10, .inl fun _ => 0))]) rfl arc_int rfl rfl (fun c => Iff.rfl) (by decide) (by decide) (by decide) rfl rfl (fun q => rfl) (fun q13 => ?_)
  refine i_putF C (pc := 109) dX9_init_109 (k := 0) (ws' := [(h0, .inr (9, [.int 0, .ref q1, .ref q2, .ref q3, .int 0, .int 0, .int 0, .int 0, .int 0, .ref q4, .ref q5, .ref q6, .ref q7, .ref q8, .ref q9, .ref q10, .ref q11, .ref q12, .int 0, .ref q13, .null, .null, .null, .null, .null, .int 0, .int 0])), (q1, .inl (G.2.1 .int, 160, .inl fun _ => 0)), (q2, .inl (G.2.1 .int, 160, .inl fun _ => 0)), (q3, .inl (G.2.1 .byte, 300, .inl fun _ => 0)), (q4, .inl (G.2.1 .int, 10, .inl fun _ => 0)), (q5, .inl (G.2.1 .int, 10, .inl fun _ => 0)), (q6, .inl (G.2.1 .int, 10, .inl fun _ => 0)), (q7, .inl (G.2.1 .int, 10, .inl fun _ => 0)), (q8, .inl (G.2.1 .int, 8, .inl fun _ => 0)), (q9, .inl (G.2.1 .int, 8, .inl fun _ => 0)), (q10, .inl (G.2.1 .int, 8, .inl fun _ => 0)), (q11, .inl (G.2.1 .boolean, 8, .inl fun _ => 0)), (q12, .inl (G.2.1 .int, 200, .inl fun _ => 0)), (q13, .inl (G.2.1 .int, 10, .inl fun _ => 0))]) ff_X9_48 rfl rfl rfl ?_
  refine i_aload_n C (pc := 112) dX9_init_112 0 rfl ?_
  refine i_bipush C (pc := 113) dX9_init_113 (v := 10) (by decide) ?_
  refine i_newa C (pc := 115) dX9_init_115 (ty := .int) (N := 10) (t0 := 0) (ws' := fun q => [(h0, .inr (9, [.int 0, .ref q1, .ref q2, .ref q3, .int 0, .int 0, .int 0, .int 0, .int 0, .ref q4, .ref q5, .ref q6, .ref q7, .ref q8, .ref q9, .ref q10, .ref q11, .ref q12, .int 0, .ref q13, .null, .null, .null, .null, .null, .int 0, .int 0])), (q1, .inl (G.2.1 .int, 160, .inl fun _ => 0)), (q2, .inl (G.2.1 .int, 160, .inl fun _ => 0)), (q3, .inl (G.2.1 .byte, 300, .inl fun _ => 0)), (q4, .inl (G.2.1 .int, 10, .inl fun _ => 0)), (q5, .inl (G.2.1 .int, 10, .inl fun _ => 0)), (q6, .inl (G.2.1 .int, 10, .inl fun _ => 0)), (q7, .inl (G.2.1 .int, 10, .inl fun _ => 0)), (q8, .inl (G.2.1 .int, 8, .inl fun _ => 0)), (q9, .inl (G.2.1 .int, 8, .inl fun _ => 0)), (q10, .inl (G.2.1 .int, 8, .inl fun _ => 0)), (q11, .inl (G.2.1 .boolean, 8, .inl fun _ => 0)), (q12, .inl (G.2.1 .int, 200, .inl fun _ => 0)), (q13, .inl (G.2.1 .int, 10, .inl fun _ => 0)), (q, .inl (G.2.1 .int, 10, .inl fun _ => 0))]) rfl arc_int rfl rfl (fun c => Iff.rfl) (by decide) (by decide) (by decide) rfl rfl (fun q => rfl) (fun q14 => ?_)
  refine i_putF C (pc := 117) dX9_init_117 (k := 0) (ws' := [(h0, .inr (9, [.int 0, .ref q1, .ref q2, .ref q3, .int 0, .int 0, .int 0, .int 0, .int 0, .ref q4, .ref q5, .ref q6, .ref q7, .ref q8, .ref q9, .ref q10, .ref q11, .ref q12, .int 0, .ref q13, .ref q14, .null, .null, .null, .null, .int 0, .int 0])), (q1, .inl (G.2.1 .int, 160, .inl fun _ => 0)), (q2, .inl (G.2.1 .int, 160, .inl fun _ => 0)), (q3, .inl (G.2.1 .byte, 300, .inl fun _ => 0)), (q4, .inl (G.2.1 .int, 10, .inl fun _ => 0)), (q5, .inl (G.2.1 .int, 10, .inl fun _ => 0)), (q6, .inl (G.2.1 .int, 10, .inl fun _ => 0)), (q7, .inl (G.2.1 .int, 10, .inl fun _ => 0)), (q8, .inl (G.2.1 .int, 8, .inl fun _ => 0)), (q9, .inl (G.2.1 .int, 8, .inl fun _ => 0)), (q10, .inl (G.2.1 .int, 8, .inl fun _ => 0)), (q11, .inl (G.2.1 .boolean, 8, .inl fun _ => 0)), (q12, .inl (G.2.1 .int, 200, .inl fun _ => 0)), (q13, .inl (G.2.1 .int, 10, .inl fun _ => 0)), (q14, .inl (G.2.1 .int, 10, .inl fun _ => 0))]) ff_X9_51 rfl rfl rfl ?_
  refine i_aload_n C (pc := 120) dX9_init_120 0 rfl ?_
  refine i_bipush C (pc := 121) dX9_init_121 (v := 10) (by decide) ?_
  refine i_newa C (pc := 123) dX9_init_123 (ty := .int) (N := 10) (t0 := 0) (ws' := fun q => [(h0, .inr (9, [.int 0, .ref q1, .ref q2, .ref q3, .int 0, .int 0, .int 0, .int 0, .int 0, .ref q4, .ref q5, .ref q6, .ref q7, .ref q8, .ref q9, .ref q10, .ref q11, .ref q12, .int 0, .ref q13, .ref q14, .null, .null, .null, .null, .int 0, .int 0])), (q1, .inl (G.2.1 .int, 160, .inl fun _ => 0)), (q2, .inl (G.2.1 .int, 160, .inl fun _ => 0)), (q3, .inl (G.2.1 .byte, 300, .inl fun _ => 0)), (q4, .inl (G.2.1 .int, 10, .inl fun _ => 0)), (q5, .inl (G.2.1 .int, 10, .inl fun _ => 0)), (q6, .inl (G.2.1 .int, 10, .inl fun _ => 0)), (q7, .inl (G.2.1 .int, 10, .inl fun _ => 0)), (q8, .inl (G.2.1 .int, 8, .inl fun _ => 0)), (q9, .inl (G.2.1 .int, 8, .inl fun _ => 0)), (q10, .inl (G.2.1 .int, 8, .inl fun _ => 0)), (q11, .inl (G.2.1 .boolean, 8, .inl fun _ => 0)), (q12, .inl (G.2.1 .int, 200, .inl fun _ => 0)), (q13, .inl (G.2.1 .int, 10, .inl fun _ => 0)), (q14, .inl (G.2.1 .int, 10, .inl fun _ => 0)), (q, .inl (G.2.1 .int, 10, .inl fun _ => 0))]) rfl arc_int rfl rfl (fun c => Iff.rfl) (by decide) (by decide) (by decide) rfl rfl (fun q => rfl) (fun q15 => ?_)
  refine i_putF C (pc := 125) dX9_init_125 (k := 0) (ws' := [(h0, .inr (9, [.int 0, .ref q1, .ref q2, .ref q3, .int 0, .int 0, .int 0, .int 0, .int 0, .ref q4, .ref q5, .ref q6, .ref q7, .ref q8, .ref q9, .ref q10, .ref q11, .ref q12, .int 0, .ref q13, .ref q14, .ref q15, .null, .null, .null, .int 0, .int 0])), (q1, .inl (G.2.1 .int, 160, .inl fun _ => 0)), (q2, .inl (G.2.1 .int, 160, .inl fun _ => 0)), (q3, .inl (G.2.1 .byte, 300, .inl fun _ => 0)), (q4, .inl (G.2.1 .int, 10, .inl fun _ => 0)), (q5, .inl (G.2.1 .int, 10, .inl fun _ => 0)), (q6, .inl (G.2.1 .int, 10, .inl fun _ => 0)), (q7, .inl (G.2.1 .int, 10, .inl fun _ => 0)), (q8, .inl (G.2.1 .int, 8, .inl fun _ => 0)), (q9, .inl (G.2.1 .int, 8, .inl fun _ => 0)), (q10, .inl (G.2.1 .int, 8, .inl fun _ => 0)), (q11, .inl (G.2.1 .boolean, 8, .inl fun _ => 0)), (q12, .inl (G.2.1 .int, 200, .inl fun _ => 0)), (q13, .inl (G.2.1 .int, 10, .inl fun _ => 0)), (q14, .inl (G.2.1 .int, 10, .inl fun _ => 0)), (q15, .inl (G.2.1 .int, 10, .inl fun _ => 0))]) ff_X9_54 rfl rfl rfl ?_
  refine i_aload_n C (pc := 128) dX9_init_128 0 rfl ?_
  refine i_bipush C (pc := 129) dX9_init_129 (v := 10) (by decide) ?_
  refine i_newa C (pc := 131) dX9_init_131 (ty := .int) (N := 10) (t0 := 0) (ws' := fun q => [(h0, .inr (9, [.int 0, .ref q1, .ref q2, .ref q3, .int 0, .int 0, .int 0, .int 0, .int 0, .ref q4, .ref q5, .ref q6, .ref q7, .ref q8, .ref q9, .ref q10, .ref q11, .ref q12, .int 0, .ref q13, .ref q14, .ref q15, .null, .null, .null, .int 0, .int 0])), (q1, .inl (G.2.1 .int, 160, .inl fun _ => 0)), (q2, .inl (G.2.1 .int, 160, .inl fun _ => 0)), (q3, .inl (G.2.1 .byte, 300, .inl fun _ => 0)), (q4, .inl (G.2.1 .int, 10, .inl fun _ => 0)), (q5, .inl (G.2.1 .int, 10, .inl fun _ => 0)), (q6, .inl (G.2.1 .int, 10, .inl fun _ => 0)), (q7, .inl (G.2.1 .int, 10, .inl fun _ => 0)), (q8, .inl (G.2.1 .int, 8, .inl fun _ => 0)), (q9, .inl (G.2.1 .int, 8, .inl fun _ => 0)), (q10, .inl (G.2.1 .int, 8, .inl fun _ => 0)), (q11, .inl (G.2.1 .boolean, 8, .inl fun _ => 0)), (q12, .inl (G.2.1 .int, 200, .inl fun _ => 0)), (q13, .inl (G.2.1 .int, 10, .inl fun _ => 0)), (q14, .inl (G.2.1 .int, 10, .inl fun _ => 0)), (q15, .inl (G.2.1 .int, 10, .inl fun _ => 0)), (q, .inl (G.2.1 .int, 10, .inl fun _ => 0))]) rfl arc_int rfl rfl (fun c => Iff.rfl) (by decide) (by decide) (by decide) rfl rfl (fun q => rfl) (fun q16 => ?_)
  refine i_putF C (pc := 133) dX9_init_133 (k := 0) (ws' := [(h0, .inr (9, [.int 0, .ref q1, .ref q2, .ref q3, .int 0, .int 0, .int 0, .int 0, .int 0, .ref q4, .ref q5, .ref q6, .ref q7, .ref q8, .ref q9, .ref q10, .ref q11, .ref q12, .int 0, .ref q13, .ref q14, .ref q15, .ref q16, .null, .null, .int 0, .int 0])), (q1, .inl (G.2.1 .int, 160, .inl fun _ => 0)), (q2, .inl (G.2.1 .int, 160, .inl fun _ => 0)), (q3, .inl (G.2.1 .byte, 300, .inl fun _ => 0)), (q4, .inl (G.2.1 .int, 10, .inl fun _ => 0)), (q5, .inl (G.2.1 .int, 10, .inl fun _ => 0)), (q6, .inl (G.2.1 .int, 10, .inl fun _ => 0)), (q7, .inl (G.2.1 .int, 10, .inl fun _ => 0)), (q8, .inl (G.2.1 .int, 8, .inl fun _ => 0)), (q9, .inl (G.2.1 .int, 8, .inl fun _ => 0)), (q10, .inl (G.2.1 .int, 8, .inl fun _ => 0)), (q11, .inl (G.2.1 .boolean, 8, .inl fun _ => 0)), (q12, .inl (G.2.1 .int, 200, .inl fun _ => 0)), (q13, .inl (G.2.1 .int, 10, .inl fun _ => 0)), (q14, .inl (G.2.1 .int, 10, .inl fun _ => 0)), (q15, .inl (G.2.1 .int, 10, .inl fun _ => 0)), (q16, .inl (G.2.1 .int, 10, .inl fun _ => 0))]) ff_X9_57 rfl rfl rfl ?_
  refine i_aload_n C (pc := 136) dX9_init_136 0 rfl ?_
  refine i_bipush C (pc := 137) dX9_init_137 (v := 10) (by decide) ?_
  refine i_newa C (pc := 139) dX9_init_139 (ty := .int) (N := 10) (t0 := 0) (ws' := fun q => [(h0, .inr (9, [.int 0, .ref q1, .ref q2, .ref q3, .int 0, .int 0, .int 0, .int 0, .int 0, .ref q4, .ref q5, .ref q6, .ref q7, .ref q8, .ref q9, .ref q10, .ref q11, .ref q12, .int 0, .ref q13, .ref q14, .ref q15, .ref q16, .null, .null, .int 0, .int 0])), (q1, .inl (G.2.1 .int, 160, .inl fun _ => 0)), (q2, .inl (G.2.1 .int, 160, .inl fun _ => 0)), (q3, .inl (G.2.1 .byte, 300, .inl fun _ => 0)), (q4, .inl (G.2.1 .int, 10, .inl fun _ => 0)), (q5, .inl (G.2.1 .int, 10, .inl fun _ => 0)), (q6, .inl (G.2.1 .int, 10, .inl fun _ => 0)), (q7, .inl (G.2.1 .int, 10, .inl fun _ => 0)), (q8, .inl (G.2.1 .int, 8, .inl fun _ => 0)), (q9, .inl (G.2.1 .int, 8, .inl fun _ => 0)), (q10, .inl (G.2.1 .int, 8, .inl fun _ => 0)), (q11, .inl (G.2.1 .boolean, 8, .inl fun _ => 0)), (q12, .inl (G.2.1 .int, 200, .inl fun _ => 0)), (q13, .inl (G.2.1 .int, 10, .inl fun _ => 0)), (q14, .inl (G.2.1 .int, 10, .inl fun _ => 0)), (q15, .inl (G.2.1 .int, 10, .inl fun _ => 0)), (q16, .inl (G.2.1 .int, 10, .inl fun _ => 0)), (q, .inl (G.2.1 .int, 10, .inl fun _ => 0))]) rfl arc_int rfl rfl (fun c => Iff.rfl) (by decide) (by decide) (by decide) rfl rfl (fun q => rfl) (fun q17 => ?_)
  refine i_putF C (pc := 141) dX9_init_141 (k := 0) (ws' := [(h0, .inr (9, [.int 0, .ref q1, .ref q2, .ref q3, .int 0, .int 0, .int 0, .int 0, .int 0, .ref q4, .ref q5, .ref q6, .ref q7, .ref q8, .ref q9, .ref q10, .ref q11, .ref q12, .int 0, .ref q13, .ref q14, .ref q15, .ref q16, .ref q17, .null, .int 0, .int 0])), (q1, .inl (G.2.1 .int, 160, .inl fun _ => 0)), (q2, .inl (G.2.1 .int, 160, .inl fun _ => 0)), (q3, .inl (G.2.1 .byte, 300, .inl fun _ => 0)), (q4, .inl (G.2.1 .int, 10, .inl fun _ => 0)), (q5, .inl (G.2.1 .int, 10, .inl fun _ => 0)), (q6, .inl (G.2.1 .int, 10, .inl fun _ => 0)), (q7, .inl (G.2.1 .int, 10, .inl fun _ => 0)), (q8, .inl (G.2.1 .int, 8, .inl fun _ => 0)), (q9, .inl (G.2.1 .int, 8, .inl fun _ => 0)), (q10, .inl (G.2.1 .int, 8, .inl fun _ => 0)), (q11, .inl (G.2.1 .boolean, 8, .inl fun _ => 0)), (q12, .inl (G.2.1 .int, 200, .inl fun _ => 0)), (q13, .inl (G.2.1 .int, 10, .inl fun _ => 0)), (q14, .inl (G.2.1 .int, 10, .inl fun _ => 0)), (q15, .inl (G.2.1 .int, 10, .inl fun _ => 0)), (q16, .inl (G.2.1 .int, 10, .inl fun _ => 0)), (q17, .inl (G.2.1 .int, 10, .inl fun _ => 0))]) ff_X9_60 rfl rfl rfl ?_
  refine i_aload_n C (pc := 144) dX9_init_144 0 rfl ?_
  refine i_bipush C (pc := 145) dX9_init_145 (v := 10) (by decide) ?_
  refine i_newa C (pc := 147) dX9_init_147 (ty := .boolean) (N := 10) (t0 := 1) (ws' := fun q => [(h0, .inr (9, [.int 0, .ref q1, .ref q2, .ref q3, .int 0, .int 0, .int 0, .int 0, .int 0, .ref q4, .ref q5, .ref q6, .ref q7, .ref q8, .ref q9, .ref q10, .ref q11, .ref q12, .int 0, .ref q13, .ref q14, .ref q15, .ref q16, .ref q17, .null, .int 0, .int 0])), (q1, .inl (G.2.1 .int, 160, .inl fun _ => 0)), (q2, .inl (G.2.1 .int, 160, .inl fun _ => 0)), (q3, .inl (G.2.1 .byte, 300, .inl fun _ => 0)), (q4, .inl (G.2.1 .int, 10, .inl fun _ => 0)), (q5, .inl (G.2.1 .int, 10, .inl fun _ => 0)), (q6, .inl (G.2.1 .int, 10, .inl fun _ => 0)), (q7, .inl (G.2.1 .int, 10, .inl fun _ => 0)), (q8, .inl (G.2.1 .int, 8, .inl fun _ => 0)), (q9, .inl (G.2.1 .int, 8, .inl fun _ => 0)), (q10, .inl (G.2.1 .int, 8, .inl fun _ => 0)), (q11, .inl (G.2.1 .boolean, 8, .inl fun _ => 0)), (q12, .inl (G.2.1 .int, 200, .inl fun _ => 0)), (q13, .inl (G.2.1 .int, 10, .inl fun _ => 0)), (q14, .inl (G.2.1 .int, 10, .inl fun _ => 0)), (q15, .inl (G.2.1 .int, 10, .inl fun _ => 0)), (q16, .inl (G.2.1 .int, 10, .inl fun _ => 0)), (q17, .inl (G.2.1 .int, 10, .inl fun _ => 0)), (q, .inl (G.2.1 .boolean, 10, .inl fun _ => 0))]) rfl arc_boolean rfl rfl (fun c => Iff.rfl) (by decide) (by decide) (by decide) rfl rfl (fun q => rfl) (fun q18 => ?_)
  refine i_putF C (pc := 149) dX9_init_149 (k := 0) (ws' := [(h0, .inr (9, [.int 0, .ref q1, .ref q2, .ref q3, .int 0, .int 0, .int 0, .int 0, .int 0, .ref q4, .ref q5, .ref q6, .ref q7, .ref q8, .ref q9, .ref q10, .ref q11, .ref q12, .int 0, .ref q13, .ref q14, .ref q15, .ref q16, .ref q17, .ref q18, .int 0, .int 0])), (q1, .inl (G.2.1 .int, 160, .inl fun _ => 0)), (q2, .inl (G.2.1 .int, 160, .inl fun _ => 0)), (q3, .inl (G.2.1 .byte, 300, .inl fun _ => 0)), (q4, .inl (G.2.1 .int, 10, .inl fun _ => 0)), (q5, .inl (G.2.1 .int, 10, .inl fun _ => 0)), (q6, .inl (G.2.1 .int, 10, .inl fun _ => 0)), (q7, .inl (G.2.1 .int, 10, .inl fun _ => 0)), (q8, .inl (G.2.1 .int, 8, .inl fun _ => 0)), (q9, .inl (G.2.1 .int, 8, .inl fun _ => 0)), (q10, .inl (G.2.1 .int, 8, .inl fun _ => 0)), (q11, .inl (G.2.1 .boolean, 8, .inl fun _ => 0)), (q12, .inl (G.2.1 .int, 200, .inl fun _ => 0)), (q13, .inl (G.2.1 .int, 10, .inl fun _ => 0)), (q14, .inl (G.2.1 .int, 10, .inl fun _ => 0)), (q15, .inl (G.2.1 .int, 10, .inl fun _ => 0)), (q16, .inl (G.2.1 .int, 10, .inl fun _ => 0)), (q17, .inl (G.2.1 .int, 10, .inl fun _ => 0)), (q18, .inl (G.2.1 .boolean, 10, .inl fun _ => 0))]) ff_X9_63 rfl rfl rfl ?_
  refine i_aload_n C (pc := 152) dX9_init_152 0 rfl ?_
  refine i_getR C (pc := 153) dX9_init_153 (k := 0) ff_X9_7 rfl rfl ?_
  refine i_bipush C (pc := 156) dX9_init_156 (v := 50) (by decide) ?_
  refine i_iconst C (pc := 158) dX9_init_158 (v := 3) (by decide) ?_
  refine i_iast C (pc := 159) dX9_init_159 (k := 1) (ws' := [(h0, .inr (9, [.int 0, .ref q1, .ref q2, .ref q3, .int 0, .int 0, .int 0, .int 0, .int 0, .ref q4, .ref q5, .ref q6, .ref q7, .ref q8, .ref q9, .ref q10, .ref q11, .ref q12, .int 0, .ref q13, .ref q14, .ref q15, .ref q16, .ref q17, .ref q18, .int 0, .int 0])), (q1, .inl (G.2.1 .int, 160, .inl (upd (fun _ => 0) 50 3))), (q2, .inl (G.2.1 .int, 160, .inl fun _ => 0)), (q3, .inl (G.2.1 .byte, 300, .inl fun _ => 0)), (q4, .inl (G.2.1 .int, 10, .inl fun _ => 0)), (q5, .inl (G.2.1 .int, 10, .inl fun _ => 0)), (q6, .inl (G.2.1 .int, 10, .inl fun _ => 0)), (q7, .inl (G.2.1 .int, 10, .inl fun _ => 0)), (q8, .inl (G.2.1 .int, 8, .inl fun _ => 0)), (q9, .inl (G.2.1 .int, 8, .inl fun _ => 0)), (q10, .inl (G.2.1 .int, 8, .inl fun _ => 0)), (q11, .inl (G.2.1 .boolean, 8, .inl fun _ => 0)), (q12, .inl (G.2.1 .int, 200, .inl fun _ => 0)), (q13, .inl (G.2.1 .int, 10, .inl fun _ => 0)), (q14, .inl (G.2.1 .int, 10, .inl fun _ => 0)), (q15, .inl (G.2.1 .int, 10, .inl fun _ => 0)), (q16, .inl (G.2.1 .int, 10, .inl fun _ => 0)), (q17, .inl (G.2.1 .int, 10, .inl fun _ => 0)), (q18, .inl (G.2.1 .boolean, 10, .inl fun _ => 0))]) rfl (by decide) rfl ?_
  refine i_aload_n C (pc := 160) dX9_init_160 0 rfl ?_
  refine i_getR C (pc := 161) dX9_init_161 (k := 0) ff_X9_7 rfl rfl ?_
  refine i_bipush C (pc := 164) dX9_init_164 (v := 51) (by decide) ?_
  refine i_iconst C (pc := 166) dX9_init_166 (v := 2) (by decide) ?_
  refine i_iast C (pc := 167) dX9_init_167 (k := 1) (ws' := [(h0, .inr (9, [.int 0, .ref q1, .ref q2, .ref q3, .int 0, .int 0, .int 0, .int 0, .int 0, .ref q4, .ref q5, .ref q6, .ref q7, .ref q8, .ref q9, .ref q10, .ref q11, .ref q12, .int 0, .ref q13, .ref q14, .ref q15, .ref q16, .ref q17, .ref q18, .int 0, .int 0])), (q1, .inl (G.2.1 .int, 160, .inl (upd ((upd (fun _ => 0) 50 3)) 51 2))), (q2, .inl (G.2.1 .int, 160, .inl fun _ => 0)), (q3, .inl (G.2.1 .byte, 300, .inl fun _ => 0)), (q4, .inl (G.2.1 .int, 10, .inl fun _ => 0)), (q5, .inl (G.2.1 .int, 10, .inl fun _ => 0)), (q6, .inl (G.2.1 .int, 10, .inl fun _ => 0)), (q7, .inl (G.2.1 .int, 10, .inl fun _ => 0)), (q8, .inl (G.2.1 .int, 8, .inl fun _ => 0)), (q9, .inl (G.2.1 .int, 8, .inl fun _ => 0)), (q10, .inl (G.2.1 .int, 8, .inl fun _ => 0)), (q11, .inl (G.2.1 .boolean, 8, .inl fun _ => 0)), (q12, .inl (G.2.1 .int, 200, .inl fun _ => 0)), (q13, .inl (G.2.1 .int, 10, .inl fun _ => 0)), (q14, .inl (G.2.1 .int, 10, .inl fun _ => 0)), (q15, .inl (G.2.1 .int, 10, .inl fun _ => 0)), (q16, .inl (G.2.1 .int, 10, .inl fun _ => 0)), (q17, .inl (G.2.1 .int, 10, .inl fun _ => 0)), (q18, .inl (G.2.1 .boolean, 10, .inl fun _ => 0))]) rfl (by decide) rfl ?_
  refine i_aload_n C (pc := 168) dX9_init_168 0 rfl ?_
  refine i_getR C (pc := 169) dX9_init_169 (k := 0) ff_X9_7 rfl rfl ?_
  refine i_bipush C (pc := 172) dX9_init_172 (v := 54) (by decide) ?_
  refine i_bipush C (pc := 174) dX9_init_174 (v := 50) (by decide) ?_
  refine i_iast C (pc := 176) dX9_init_176 (k := 1) (ws' := [(h0, .inr (9, [.int 0, .ref q1, .ref q2, .ref q3, .int 0, .int 0, .int 0, .int 0, .int 0, .ref q4, .ref q5, .ref q6, .ref q7, .ref q8, .ref q9, .ref q10, .ref q11, .ref q12, .int 0, .ref q13, .ref q14, .ref q15, .ref q16, .ref q17, .ref q18, .int 0, .int 0])), (q1, .inl (G.2.1 .int, 160, .inl (upd ((upd ((upd (fun _ => 0) 50 3)) 51 2)) 54 50))), (q2, .inl (G.2.1 .int, 160, .inl fun _ => 0)), (q3, .inl (G.2.1 .byte, 300, .inl fun _ => 0)), (q4, .inl (G.2.1 .int, 10, .inl fun _ => 0)), (q5, .inl (G.2.1 .int, 10, .inl fun _ => 0)), (q6, .inl (G.2.1 .int, 10, .inl fun _ => 0)), (q7, .inl (G.2.1 .int, 10, .inl fun _ => 0)), (q8, .inl (G.2.1 .int, 8, .inl fun _ => 0)), (q9, .inl (G.2.1 .int, 8, .inl fun _ => 0)), (q10, .inl (G.2.1 .int, 8, .inl fun _ => 0)), (q11, .inl (G.2.1 .boolean, 8, .inl fun _ => 0)), (q12, .inl (G.2.1 .int, 200, .inl fun _ => 0)), (q13, .inl (G.2.1 .int, 10, .inl fun _ => 0)), (q14, .inl (G.2.1 .int, 10, .inl fun _ => 0)), (q15, .inl (G.2.1 .int, 10, .inl fun _ => 0)), (q16, .inl (G.2.1 .int, 10, .inl fun _ => 0)), (q17, .inl (G.2.1 .int, 10, .inl fun _ => 0)), (q18, .inl (G.2.1 .boolean, 10, .inl fun _ => 0))]) rfl (by decide) rfl ?_
  refine i_aload_n C (pc := 177) dX9_init_177 0 rfl ?_
  refine i_getR C (pc := 178) dX9_init_178 (k := 0) ff_X9_7 rfl rfl ?_
  refine i_bipush C (pc := 181) dX9_init_181 (v := 55) (by decide) ?_
  refine i_bipush C (pc := 183) dX9_init_183 (v := 100) (by decide) ?_
  refine i_iast C (pc := 185) dX9_init_185 (k := 1) (ws' := [(h0, .inr (9, [.int 0, .ref q1, .ref q2, .ref q3, .int 0, .int 0, .int 0, .int 0, .int 0, .ref q4, .ref q5, .ref q6, .ref q7, .ref q8, .ref q9, .ref q10, .ref q11, .ref q12, .int 0, .ref q13, .ref q14, .ref q15, .ref q16, .ref q17, .ref q18, .int 0, .int 0])), (q1, .inl (G.2.1 .int, 160, .inl (upd ((upd ((upd ((upd (fun _ => 0) 50 3)) 51 2)) 54 50)) 55 100))), (q2, .inl (G.2.1 .int, 160, .inl fun _ => 0)), (q3, .inl (G.2.1 .byte, 300, .inl fun _ => 0)), (q4, .inl (G.2.1 .int, 10, .inl fun _ => 0)), (q5, .inl (G.2.1 .int, 10, .inl fun _ => 0)), (q6, .inl (G.2.1 .int, 10, .inl fun _ => 0)), (q7, .inl (G.2.1 .int, 10, .inl fun _ => 0)), (q8, .inl (G.2.1 .int, 8, .inl fun _ => 0)), (q9, .inl (G.2.1 .int, 8, .inl fun _ => 0)), (q10, .inl (G.2.1 .int, 8, .inl fun _ => 0)), (q11, .inl (G.2.1 .boolean, 8, .inl fun _ => 0)), (q12, .inl (G.2.1 .int, 200, .inl fun _ => 0)), (q13, .inl (G.2.1 .int, 10, .inl fun _ => 0)), (q14, .inl (G.2.1 .int, 10, .inl fun _ => 0)), (q15, .inl (G.2.1 .int, 10, .inl fun _ => 0)), (q16, .inl (G.2.1 .int, 10, .inl fun _ => 0)), (q17, .inl (G.2.1 .int, 10, .inl fun _ => 0)), (q18, .inl (G.2.1 .boolean, 10, .inl fun _ => 0))]) rfl (by decide) rfl ?_
  refine i_aload_n C (pc := 186) dX9_init_186 0 rfl ?_
  refine i_getR C (pc := 187) dX9_init_187 (k := 0) ff_X9_7 rfl rfl ?_
  refine i_bipush C (pc := 190) dX9_init_190 (v := 56) (by decide) ?_
  refine i_iconst C (pc := 192) dX9_init_192 (v := 1) (by decide) ?_
  refine i_iast C (pc := 193) dX9_init_193 (k := 1) (ws' := [(h0, .inr (9, [.int 0, .ref q1, .ref q2, .ref q3, .int 0, .int 0, .int 0, .int 0, .int 0, .ref q4, .ref q5, .ref q6, .ref q7, .ref q8, .ref q9, .ref q10, .ref q11, .ref q12, .int 0, .ref q13, .ref q14, .ref q15, .ref q16, .ref q17, .ref q18, .int 0, .int 0])), (q1, .inl (G.2.1 .int, 160, .inl (upd ((upd ((upd ((upd ((upd (fun _ => 0) 50 3)) 51 2)) 54 50)) 55 100)) 56 1))), (q2, .inl (G.2.1 .int, 160, .inl fun _ => 0)), (q3, .inl (G.2.1 .byte, 300, .inl fun _ => 0)), (q4, .inl (G.2.1 .int, 10, .inl fun _ => 0)), (q5, .inl (G.2.1 .int, 10, .inl fun _ => 0)), (q6, .inl (G.2.1 .int, 10, .inl fun _ => 0)), (q7, .inl (G.2.1 .int, 10, .inl fun _ => 0)), (q8, .inl (G.2.1 .int, 8, .inl fun _ => 0)), (q9, .inl (G.2.1 .int, 8, .inl fun _ => 0)), (q10, .inl (G.2.1 .int, 8, .inl fun _ => 0)), (q11, .inl (G.2.1 .boolean, 8, .inl fun _ => 0)), (q12, .inl (G.2.1 .int, 200, .inl fun _ => 0)), (q13, .inl (G.2.1 .int, 10, .inl fun _ => 0)), (q14, .inl (G.2.1 .int, 10, .inl fun _ => 0)), (q15, .inl (G.2.1 .int, 10, .inl fun _ => 0)), (q16, .inl (G.2.1 .int, 10, .inl fun _ => 0)), (q17, .inl (G.2.1 .int, 10, .inl fun _ => 0)), (q18, .inl (G.2.1 .boolean, 10, .inl fun _ => 0))]) rfl (by decide) rfl ?_
  refine i_aload_n C (pc := 194) dX9_init_194 0 rfl ?_
  refine i_getR C (pc := 195) dX9_init_195 (k := 0) ff_X9_7 rfl rfl ?_
  refine i_bipush C (pc := 198) dX9_init_198 (v := 57) (by decide) ?_
  refine i_iconst C (pc := 200) dX9_init_200 (v := 1) (by decide) ?_
  refine i_iast C (pc := 201) dX9_init_201 (k := 1) (ws' := [(h0, .inr (9, [.int 0, .ref q1, .ref q2, .ref q3, .int 0, .int 0, .int 0, .int 0, .int 0, .ref q4, .ref q5, .ref q6, .ref q7, .ref q8, .ref q9, .ref q10, .ref q11, .ref q12, .int 0, .ref q13, .ref q14, .ref q15, .ref q16, .ref q17, .ref q18, .int 0, .int 0])), (q1, .inl (G.2.1 .int, 160, .inl (upd ((upd ((upd ((upd ((upd ((upd (fun _ => 0) 50 3)) 51 2)) 54 50)) 55 100)) 56 1)) 57 1))), (q2, .inl (G.2.1 .int, 160, .inl fun _ => 0)), (q3, .inl (G.2.1 .byte, 300, .inl fun _ => 0)), (q4, .inl (G.2.1 .int, 10, .inl fun _ => 0)), (q5, .inl (G.2.1 .int, 10, .inl fun _ => 0)), (q6, .inl (G.2.1 .int, 10, .inl fun _ => 0)), (q7, .inl (G.2.1 .int, 10, .inl fun _ => 0)), (q8, .inl (G.2.1 .int, 8, .inl fun _ => 0)), (q9, .inl (G.2.1 .int, 8, .inl fun _ => 0)), (q10, .inl (G.2.1 .int, 8, .inl fun _ => 0)), (q11, .inl (G.2.1 .boolean, 8, .inl fun _ => 0)), (q12, .inl (G.2.1 .int, 200, .inl fun _ => 0)), (q13, .inl (G.2.1 .int, 10, .inl fun _ => 0)), (q14, .inl (G.2.1 .int, 10, .inl fun _ => 0)), (q15, .inl (G.2.1 .int, 10, .inl fun _ => 0)), (q16, .inl (G.2.1 .int, 10, .inl fun _ => 0)), (q17, .inl (G.2.1 .int, 10, .inl fun _ => 0)), (q18, .inl (G.2.1 .boolean, 10, .inl fun _ => 0))]) rfl (by decide) rfl ?_
  refine i_aload_n C (pc := 202) dX9_init_202 0 rfl ?_
  refine i_getR C (pc := 203) dX9_init_203 (k := 0) ff_X9_7 rfl rfl ?_
  refine i_bipush C (pc := 206) dX9_init_206 (v := 58) (by decide) ?_
  refine i_iconst C (pc := 208) dX9_init_208 (v := 1) (by decide) ?_
  refine i_iast C (pc := 209) dX9_init_209 (k := 1) (ws' := [(h0, .inr (9, [.int 0, .ref q1, .ref q2, .ref q3, .int 0, .int 0, .int 0, .int 0, .int 0, .ref q4, .ref q5, .ref q6, .ref q7, .ref q8, .ref q9, .ref q10, .ref q11, .ref q12, .int 0, .ref q13, .ref q14, .ref q15, .ref q16, .ref q17, .ref q18, .int 0, .int 0])), (q1, .inl (G.2.1 .int, 160, .inl (upd ((upd ((upd ((upd ((upd ((upd ((upd (fun _ => 0) 50 3)) 51 2)) 54 50)) 55 100)) 56 1)) 57 1)) 58 1))), (q2, .inl (G.2.1 .int, 160, .inl fun _ => 0)), (q3, .inl (G.2.1 .byte, 300, .inl fun _ => 0)), (q4, .inl (G.2.1 .int, 10, .inl fun _ => 0)), (q5, .inl (G.2.1 .int, 10, .inl fun _ => 0)), (q6, .inl (G.2.1 .int, 10, .inl fun _ => 0)), (q7, .inl (G.2.1 .int, 10, .inl fun _ => 0)), (q8, .inl (G.2.1 .int, 8, .inl fun _ => 0)), (q9, .inl (G.2.1 .int, 8, .inl fun _ => 0)), (q10, .inl (G.2.1 .int, 8, .inl fun _ => 0)), (q11, .inl (G.2.1 .boolean, 8, .inl fun _ => 0)), (q12, .inl (G.2.1 .int, 200, .inl fun _ => 0)), (q13, .inl (G.2.1 .int, 10, .inl fun _ => 0)), (q14, .inl (G.2.1 .int, 10, .inl fun _ => 0)), (q15, .inl (G.2.1 .int, 10, .inl fun _ => 0)), (q16, .inl (G.2.1 .int, 10, .inl fun _ => 0)), (q17, .inl (G.2.1 .int, 10, .inl fun _ => 0)), (q18, .inl (G.2.1 .boolean, 10, .inl fun _ => 0))]) rfl (by decide) rfl ?_
  refine i_aload_n C (pc := 210) dX9_init_210 0 rfl ?_
  refine i_getR C (pc := 211) dX9_init_211 (k := 0) ff_X9_7 rfl rfl ?_
  refine i_bipush C (pc := 214) dX9_init_214 (v := 59) (by decide) ?_
  refine i_iconst C (pc := 216) dX9_init_216 (v := 1) (by decide) ?_
  refine i_iast C (pc := 217) dX9_init_217 (k := 1) (ws' := [(h0, .inr (9, [.int 0, .ref q1, .ref q2, .ref q3, .int 0, .int 0, .int 0, .int 0, .int 0, .ref q4, .ref q5, .ref q6, .ref q7, .ref q8, .ref q9, .ref q10, .ref q11, .ref q12, .int 0, .ref q13, .ref q14, .ref q15, .ref q16, .ref q17, .ref q18, .int 0, .int 0])), (q1, .inl (G.2.1 .int, 160, .inl (upd ((upd ((upd ((upd ((upd ((upd ((upd ((upd (fun _ => 0) 50 3)) 51 2)) 54 50)) 55 100)) 56 1)) 57 1)) 58 1)) 59 1))), (q2, .inl (G.2.1 .int, 160, .inl fun _ => 0)), (q3, .inl (G.2.1 .byte, 300, .inl fun _ => 0)), (q4, .inl (G.2.1 .int, 10, .inl fun _ => 0)), (q5, .inl (G.2.1 .int, 10, .inl fun _ => 0)), (q6, .inl (G.2.1 .int, 10, .inl fun _ => 0)), (q7, .inl (G.2.1 .int, 10, .inl fun _ => 0)), (q8, .inl (G.2.1 .int, 8, .inl fun _ => 0)), (q9, .inl (G.2.1 .int, 8, .inl fun _ => 0)), (q10, .inl (G.2.1 .int, 8, .inl fun _ => 0)), (q11, .inl (G.2.1 .boolean, 8, .inl fun _ => 0)), (q12, .inl (G.2.1 .int, 200, .inl fun _ => 0)), (q13, .inl (G.2.1 .int, 10, .inl fun _ => 0)), (q14, .inl (G.2.1 .int, 10, .inl fun _ => 0)), (q15, .inl (G.2.1 .int, 10, .inl fun _ => 0)), (q16, .inl (G.2.1 .int, 10, .inl fun _ => 0)), (q17, .inl (G.2.1 .int, 10, .inl fun _ => 0)), (q18, .inl (G.2.1 .boolean, 10, .inl fun _ => 0))]) rfl (by decide) rfl ?_
  exact i_ret C (pc := 218) hA dX9_init_218 rfl rfl ⟨q1, q2, q3, q4, q5, q6, q7, q8, q9, q10, q11, q12, q13, q14, q15, q16, q17, q18, rfl⟩
