theorem dX4_addSortie_0 : decode cX4_addSortie 0 = .ok (.aload_n 0, 1) := by decide +kernel
theorem dX4_addSortie_1 : decode cX4_addSortie 1 = .ok (.getfield 22, 3) := by decide +kernel
theorem dX4_addSortie_4 : decode cX4_addSortie 4 = .ok (.bipush 8, 2) := by decide +kernel
theorem dX4_addSortie_6 : decode cX4_addSortie 6 = .ok (.if_icmp .lt 5, 3) := by decide +kernel
theorem dX4_addSortie_9 : decode cX4_addSortie 9 = .ok (.iconst 0, 1) := by decide +kernel
theorem dX4_addSortie_10 : decode cX4_addSortie 10 = .ok (.ireturn, 1) := by decide +kernel
theorem dX4_addSortie_11 : decode cX4_addSortie 11 = .ok (.aload_n 0, 1) := by decide +kernel
theorem dX4_addSortie_12 : decode cX4_addSortie 12 = .ok (.getfield 22, 3) := by decide +kernel
theorem dX4_addSortie_15 : decode cX4_addSortie 15 = .ok (.iconst 4, 1) := by decide +kernel
theorem dX4_addSortie_16 : decode cX4_addSortie 16 = .ok (.imul, 1) := by decide +kernel
theorem dX4_addSortie_17 : decode cX4_addSortie 17 = .ok (.istore 5, 2) := by decide +kernel
theorem dX4_addSortie_19 : decode cX4_addSortie 19 = .ok (.aload_n 0, 1) := by decide +kernel
theorem dX4_addSortie_20 : decode cX4_addSortie 20 = .ok (.getfield 15, 3) := by decide +kernel
theorem dX4_addSortie_23 : decode cX4_addSortie 23 = .ok (.iload 5, 2) := by decide +kernel
theorem dX4_addSortie_25 : decode cX4_addSortie 25 = .ok (.iconst 0, 1) := by decide +kernel
theorem dX4_addSortie_26 : decode cX4_addSortie 26 = .ok (.iadd, 1) := by decide +kernel
theorem dX4_addSortie_27 : decode cX4_addSortie 27 = .ok (.iload_n 1, 1) := by decide +kernel
theorem dX4_addSortie_28 : decode cX4_addSortie 28 = .ok (.iastore, 1) := by decide +kernel
theorem dX4_addSortie_29 : decode cX4_addSortie 29 = .ok (.aload_n 0, 1) := by decide +kernel
theorem dX4_addSortie_30 : decode cX4_addSortie 30 = .ok (.getfield 15, 3) := by decide +kernel
theorem dX4_addSortie_33 : decode cX4_addSortie 33 = .ok (.iload 5, 2) := by decide +kernel
theorem dX4_addSortie_35 : decode cX4_addSortie 35 = .ok (.iconst 1, 1) := by decide +kernel
theorem dX4_addSortie_36 : decode cX4_addSortie 36 = .ok (.iadd, 1) := by decide +kernel
theorem dX4_addSortie_37 : decode cX4_addSortie 37 = .ok (.iload_n 2, 1) := by decide +kernel
theorem dX4_addSortie_38 : decode cX4_addSortie 38 = .ok (.iastore, 1) := by decide +kernel
theorem dX4_addSortie_39 : decode cX4_addSortie 39 = .ok (.aload_n 0, 1) := by decide +kernel
theorem dX4_addSortie_40 : decode cX4_addSortie 40 = .ok (.getfield 15, 3) := by decide +kernel
theorem dX4_addSortie_43 : decode cX4_addSortie 43 = .ok (.iload 5, 2) := by decide +kernel
theorem dX4_addSortie_45 : decode cX4_addSortie 45 = .ok (.iconst 2, 1) := by decide +kernel
theorem dX4_addSortie_46 : decode cX4_addSortie 46 = .ok (.iadd, 1) := by decide +kernel
theorem dX4_addSortie_47 : decode cX4_addSortie 47 = .ok (.iload_n 3, 1) := by decide +kernel
theorem dX4_addSortie_48 : decode cX4_addSortie 48 = .ok (.iastore, 1) := by decide +kernel
theorem dX4_addSortie_49 : decode cX4_addSortie 49 = .ok (.aload_n 0, 1) := by decide +kernel
theorem dX4_addSortie_50 : decode cX4_addSortie 50 = .ok (.getfield 15, 3) := by decide +kernel
theorem dX4_addSortie_53 : decode cX4_addSortie 53 = .ok (.iload 5, 2) := by decide +kernel
theorem dX4_addSortie_55 : decode cX4_addSortie 55 = .ok (.iconst 3, 1) := by decide +kernel
theorem dX4_addSortie_56 : decode cX4_addSortie 56 = .ok (.iadd, 1) := by decide +kernel
theorem dX4_addSortie_57 : decode cX4_addSortie 57 = .ok (.iload 4, 2) := by decide +kernel
theorem dX4_addSortie_59 : decode cX4_addSortie 59 = .ok (.iastore, 1) := by decide +kernel
theorem dX4_addSortie_60 : decode cX4_addSortie 60 = .ok (.aload_n 0, 1) := by decide +kernel
theorem dX4_addSortie_61 : decode cX4_addSortie 61 = .ok (.dup, 1) := by decide +kernel
theorem dX4_addSortie_62 : decode cX4_addSortie 62 = .ok (.getfield 22, 3) := by decide +kernel
theorem dX4_addSortie_65 : decode cX4_addSortie 65 = .ok (.iconst 1, 1) := by decide +kernel
theorem dX4_addSortie_66 : decode cX4_addSortie 66 = .ok (.iadd, 1) := by decide +kernel
theorem dX4_addSortie_67 : decode cX4_addSortie 67 = .ok (.putfield 22, 3) := by decide +kernel
theorem dX4_addSortie_70 : decode cX4_addSortie 70 = .ok (.iconst 1, 1) := by decide +kernel
theorem dX4_addSortie_71 : decode cX4_addSortie 71 = .ok (.ireturn, 1) := by decide +kernel
def pX4_addSortie (b : Nat) (x1 : Int32) (x2 : Int32) (x3 : Int32) (x4 : Int32) (M : Mm) : Option (Int32 × Mm) :=
if (M b 1) < 8 then
(bnd ((M b 1) * 4) fun v1 =>
(ast M (b + 2) 32 (v1 + 0) x1).bind fun M2 =>
(ast M2 (b + 2) 32 (v1 + 1) x2).bind fun M4 =>
(ast M4 (b + 2) 32 (v1 + 2) x3).bind fun M6 =>
(ast M6 (b + 2) 32 (v1 + 3) x4).bind fun M8 =>
bnd (mset M8 b 1 ((M8 b 1) + 1)) fun M10 =>
some (1, M10))
else
(some (0, M))
abbrev zX4_addSortie : Zx := (cX4_addSortie, RX4, 6, 0, (some .boolean))
set_option maxRecDepth 100000 in
set_option maxHeartbeats 4000000 in
theorem tX4_addSortie {l : Launch} {Y : Sx} {M : Mm} {b : Nat} {x1 : Int32} {x2 : Int32} {x3 : Int32} {x4 : Int32} {q : Int32 × Mm} (h_b : isPlan Y b) (h : pX4_addSortie b x1 x2 x3 x4 M = some q) : Ct l Y yX4_addSortie cX4_addSortie 6 (some .boolean) 0 [.ref (adr Y b), .int x1, .int x2, .int x3, .int x4] M (some q.1) q.2 := by
  refine Ct.of (by decide) rfl (lv := [(0, .ref (adr Y b)), (1, .int x1), (2, .int x2), (3, .int x3), (4, .int x4)]) rfl ?_
  intro K hkl C
  change Cx K zX4_addSortie Y at C
  subst hkl
  unfold pX4_addSortie at h
  show Wp K zX4_addSortie Y (Qm K Y (some q.1) q.2) M 0 [(0, .ref (adr Y b)), (1, .int x1), (2, .int x2), (3, .int x3), (4, .int x4)] []
  refine w_aload_n C (pc := 0) dX4_addSortie_0 0 rfl ?_
  refine w_getI C (pc := 1) dX4_addSortie_1 f_X4_22 h_b.1 rfl ?_
  refine w_bipush C (pc := 4) dX4_addSortie_4 (v := 8) (by decide) ?_
  refine w_iclt C (pc := 6) 11 dX4_addSortie_6 (by decide) (fun c => ?_) (fun c => ?_)
  · have h := it_t h c
    refine w_aload_n C (pc := 11) dX4_addSortie_11 0 rfl ?_
    refine w_getI C (pc := 12) dX4_addSortie_12 f_X4_22 h_b.1 rfl ?_
    refine w_iconst C (pc := 15) dX4_addSortie_15 (v := 4) (by decide) ?_
    refine w_imul C (pc := 16) dX4_addSortie_16 ?_
    refine w_bnd h (fun v1 h => ?_)
    refine w_istore C (pc := 17) dX4_addSortie_17 (lv' := [(0, .ref (adr Y b)), (1, .int x1), (2, .int x2), (3, .int x3), (4, .int x4), (5, .int v1)]) rfl rfl rfl ?_
    refine w_aload_n C (pc := 19) dX4_addSortie_19 0 rfl ?_
    refine w_getR C (pc := 20) dX4_addSortie_20 f_X4_15 h_b.1 rfl ?_
    refine w_iload C (pc := 23) dX4_addSortie_23 5 rfl ?_
    refine w_iconst C (pc := 25) dX4_addSortie_25 (v := 0) (by decide) ?_
    refine w_iadd C (pc := 26) dX4_addSortie_26 ?_
    refine w_iload_n C (pc := 27) dX4_addSortie_27 1 rfl ?_
    obtain ⟨M2, e3, h⟩ := ob h
    refine w_iast C (pc := 28) dX4_addSortie_28 h_b.2.2 e3 ?_
    refine w_aload_n C (pc := 29) dX4_addSortie_29 0 rfl ?_
    refine w_getR C (pc := 30) dX4_addSortie_30 f_X4_15 h_b.1 rfl ?_
    refine w_iload C (pc := 33) dX4_addSortie_33 5 rfl ?_
    refine w_iconst C (pc := 35) dX4_addSortie_35 (v := 1) (by decide) ?_
    refine w_iadd C (pc := 36) dX4_addSortie_36 ?_
    refine w_iload_n C (pc := 37) dX4_addSortie_37 2 rfl ?_
    obtain ⟨M4, e5, h⟩ := ob h
    refine w_iast C (pc := 38) dX4_addSortie_38 h_b.2.2 e5 ?_
    refine w_aload_n C (pc := 39) dX4_addSortie_39 0 rfl ?_
    refine w_getR C (pc := 40) dX4_addSortie_40 f_X4_15 h_b.1 rfl ?_
    refine w_iload C (pc := 43) dX4_addSortie_43 5 rfl ?_
    refine w_iconst C (pc := 45) dX4_addSortie_45 (v := 2) (by decide) ?_
    refine w_iadd C (pc := 46) dX4_addSortie_46 ?_
    refine w_iload_n C (pc := 47) dX4_addSortie_47 3 rfl ?_
    obtain ⟨M6, e7, h⟩ := ob h
    refine w_iast C (pc := 48) dX4_addSortie_48 h_b.2.2 e7 ?_
    refine w_aload_n C (pc := 49) dX4_addSortie_49 0 rfl ?_
    refine w_getR C (pc := 50) dX4_addSortie_50 f_X4_15 h_b.1 rfl ?_
    refine w_iload C (pc := 53) dX4_addSortie_53 5 rfl ?_
    refine w_iconst C (pc := 55) dX4_addSortie_55 (v := 3) (by decide) ?_
    refine w_iadd C (pc := 56) dX4_addSortie_56 ?_
    refine w_iload C (pc := 57) dX4_addSortie_57 4 rfl ?_
    obtain ⟨M8, e9, h⟩ := ob h
    refine w_iast C (pc := 59) dX4_addSortie_59 h_b.2.2 e9 ?_
    refine w_aload_n C (pc := 60) dX4_addSortie_60 0 rfl ?_
    refine w_dup C (pc := 61) dX4_addSortie_61 rfl ?_
    refine w_getI C (pc := 62) dX4_addSortie_62 f_X4_22 h_b.1 rfl ?_
    refine w_iconst C (pc := 65) dX4_addSortie_65 (v := 1) (by decide) ?_
    refine w_iadd C (pc := 66) dX4_addSortie_66 ?_
    obtain ⟨M10, e11, h⟩ := bn h
    refine w_putI C (pc := 67) dX4_addSortie_67 fp_X4_22 h_b.1 rfl ?_
    rw [e11]
    refine w_iconst C (pc := 70) dX4_addSortie_70 (v := 1) (by decide) ?_
    exact w_retz C (pc := 71) dX4_addSortie_71 rfl (by decide) (Option.some.inj h)
  · have h := it_f h c
    refine w_iconst C (pc := 9) dX4_addSortie_9 (v := 0) (by decide) ?_
    exact w_retz C (pc := 10) dX4_addSortie_10 rfl (by decide) (Option.some.inj h)
theorem dX4_addStop_0 : decode cX4_addStop 0 = .ok (.aload_n 0, 1) := by decide +kernel
theorem dX4_addStop_1 : decode cX4_addStop 1 = .ok (.getfield 18, 3) := by decide +kernel
theorem dX4_addStop_4 : decode cX4_addStop 4 = .ok (.bipush 8, 2) := by decide +kernel
theorem dX4_addStop_6 : decode cX4_addStop 6 = .ok (.if_icmp .lt 5, 3) := by decide +kernel
theorem dX4_addStop_9 : decode cX4_addStop 9 = .ok (.iconst 0, 1) := by decide +kernel
theorem dX4_addStop_10 : decode cX4_addStop 10 = .ok (.ireturn, 1) := by decide +kernel
theorem dX4_addStop_11 : decode cX4_addStop 11 = .ok (.aload_n 0, 1) := by decide +kernel
theorem dX4_addStop_12 : decode cX4_addStop 12 = .ok (.getfield 9, 3) := by decide +kernel
theorem dX4_addStop_15 : decode cX4_addStop 15 = .ok (.aload_n 0, 1) := by decide +kernel
theorem dX4_addStop_16 : decode cX4_addStop 16 = .ok (.getfield 18, 3) := by decide +kernel
theorem dX4_addStop_19 : decode cX4_addStop 19 = .ok (.iload_n 1, 1) := by decide +kernel
theorem dX4_addStop_20 : decode cX4_addStop 20 = .ok (.iastore, 1) := by decide +kernel
theorem dX4_addStop_21 : decode cX4_addStop 21 = .ok (.aload_n 0, 1) := by decide +kernel
theorem dX4_addStop_22 : decode cX4_addStop 22 = .ok (.dup, 1) := by decide +kernel
theorem dX4_addStop_23 : decode cX4_addStop 23 = .ok (.getfield 18, 3) := by decide +kernel
theorem dX4_addStop_26 : decode cX4_addStop 26 = .ok (.iconst 1, 1) := by decide +kernel
theorem dX4_addStop_27 : decode cX4_addStop 27 = .ok (.iadd, 1) := by decide +kernel
theorem dX4_addStop_28 : decode cX4_addStop 28 = .ok (.putfield 18, 3) := by decide +kernel
theorem dX4_addStop_31 : decode cX4_addStop 31 = .ok (.iconst 1, 1) := by decide +kernel
theorem dX4_addStop_32 : decode cX4_addStop 32 = .ok (.ireturn, 1) := by decide +kernel
def pX4_addStop (b : Nat) (x1 : Int32) (M : Mm) : Option (Int32 × Mm) :=
if (M b 0) < 8 then
((ast M (b + 1) 8 (M b 0) x1).bind fun M1 =>
bnd (mset M1 b 0 ((M1 b 0) + 1)) fun M3 =>
some (1, M3))
else
(some (0, M))
abbrev zX4_addStop : Zx := (cX4_addStop, RX4, 2, 0, (some .boolean))
set_option maxRecDepth 100000 in
set_option maxHeartbeats 4000000 in
theorem tX4_addStop {l : Launch} {Y : Sx} {M : Mm} {b : Nat} {x1 : Int32} {q : Int32 × Mm} (h_b : isPlan Y b) (h : pX4_addStop b x1 M = some q) : Ct l Y yX4_addStop cX4_addStop 2 (some .boolean) 0 [.ref (adr Y b), .int x1] M (some q.1) q.2 := by
  refine Ct.of (by decide) rfl (lv := [(0, .ref (adr Y b)), (1, .int x1)]) rfl ?_
  intro K hkl C
  change Cx K zX4_addStop Y at C
  subst hkl
  unfold pX4_addStop at h
  show Wp K zX4_addStop Y (Qm K Y (some q.1) q.2) M 0 [(0, .ref (adr Y b)), (1, .int x1)] []
  refine w_aload_n C (pc := 0) dX4_addStop_0 0 rfl ?_
  refine w_getI C (pc := 1) dX4_addStop_1 f_X4_18 h_b.1 rfl ?_
  refine w_bipush C (pc := 4) dX4_addStop_4 (v := 8) (by decide) ?_
  refine w_iclt C (pc := 6) 11 dX4_addStop_6 (by decide) (fun c => ?_) (fun c => ?_)
  · have h := it_t h c
    refine w_aload_n C (pc := 11) dX4_addStop_11 0 rfl ?_
    refine w_getR C (pc := 12) dX4_addStop_12 f_X4_9 h_b.1 rfl ?_
    refine w_aload_n C (pc := 15) dX4_addStop_15 0 rfl ?_
    refine w_getI C (pc := 16) dX4_addStop_16 f_X4_18 h_b.1 rfl ?_
    refine w_iload_n C (pc := 19) dX4_addStop_19 1 rfl ?_
    obtain ⟨M1, e2, h⟩ := ob h
    refine w_iast C (pc := 20) dX4_addStop_20 h_b.2.1 e2 ?_
    refine w_aload_n C (pc := 21) dX4_addStop_21 0 rfl ?_
    refine w_dup C (pc := 22) dX4_addStop_22 rfl ?_
    refine w_getI C (pc := 23) dX4_addStop_23 f_X4_18 h_b.1 rfl ?_
    refine w_iconst C (pc := 26) dX4_addStop_26 (v := 1) (by decide) ?_
    refine w_iadd C (pc := 27) dX4_addStop_27 ?_
    obtain ⟨M3, e4, h⟩ := bn h
    refine w_putI C (pc := 28) dX4_addStop_28 fp_X4_18 h_b.1 rfl ?_
    rw [e4]
    refine w_iconst C (pc := 31) dX4_addStop_31 (v := 1) (by decide) ?_
    exact w_retz C (pc := 32) dX4_addStop_32 rfl (by decide) (Option.some.inj h)
  · have h := it_f h c
    refine w_iconst C (pc := 9) dX4_addStop_9 (v := 0) (by decide) ?_
    exact w_retz C (pc := 10) dX4_addStop_10 rfl (by decide) (Option.some.inj h)
theorem dX4_copyOf_0 : decode cX4_copyOf 0 = .ok (.aload_n 0, 1) := by decide +kernel
theorem dX4_copyOf_1 : decode cX4_copyOf 1 = .ok (.aload_n 1, 1) := by decide +kernel
theorem dX4_copyOf_2 : decode cX4_copyOf 2 = .ok (.getfield 18, 3) := by decide +kernel
theorem dX4_copyOf_5 : decode cX4_copyOf 5 = .ok (.putfield 18, 3) := by decide +kernel
theorem dX4_copyOf_8 : decode cX4_copyOf 8 = .ok (.aload_n 0, 1) := by decide +kernel
theorem dX4_copyOf_9 : decode cX4_copyOf 9 = .ok (.aload_n 1, 1) := by decide +kernel
theorem dX4_copyOf_10 : decode cX4_copyOf 10 = .ok (.getfield 22, 3) := by decide +kernel
theorem dX4_copyOf_13 : decode cX4_copyOf 13 = .ok (.putfield 22, 3) := by decide +kernel
theorem dX4_copyOf_16 : decode cX4_copyOf 16 = .ok (.aload_n 1, 1) := by decide +kernel
theorem dX4_copyOf_17 : decode cX4_copyOf 17 = .ok (.getfield 9, 3) := by decide +kernel
theorem dX4_copyOf_20 : decode cX4_copyOf 20 = .ok (.iconst 0, 1) := by decide +kernel
theorem dX4_copyOf_21 : decode cX4_copyOf 21 = .ok (.aload_n 0, 1) := by decide +kernel
theorem dX4_copyOf_22 : decode cX4_copyOf 22 = .ok (.getfield 9, 3) := by decide +kernel
theorem dX4_copyOf_25 : decode cX4_copyOf 25 = .ok (.iconst 0, 1) := by decide +kernel
theorem dX4_copyOf_26 : decode cX4_copyOf 26 = .ok (.aload_n 0, 1) := by decide +kernel
theorem dX4_copyOf_27 : decode cX4_copyOf 27 = .ok (.getfield 9, 3) := by decide +kernel
theorem dX4_copyOf_30 : decode cX4_copyOf 30 = .ok (.arraylength, 1) := by decide +kernel
theorem dX4_copyOf_31 : decode cX4_copyOf 31 = .ok (.invokestatic 25, 3) := by decide +kernel
theorem dX4_copyOf_34 : decode cX4_copyOf 34 = .ok (.aload_n 1, 1) := by decide +kernel
theorem dX4_copyOf_35 : decode cX4_copyOf 35 = .ok (.getfield 15, 3) := by decide +kernel
theorem dX4_copyOf_38 : decode cX4_copyOf 38 = .ok (.iconst 0, 1) := by decide +kernel
theorem dX4_copyOf_39 : decode cX4_copyOf 39 = .ok (.aload_n 0, 1) := by decide +kernel
theorem dX4_copyOf_40 : decode cX4_copyOf 40 = .ok (.getfield 15, 3) := by decide +kernel
theorem dX4_copyOf_43 : decode cX4_copyOf 43 = .ok (.iconst 0, 1) := by decide +kernel
theorem dX4_copyOf_44 : decode cX4_copyOf 44 = .ok (.aload_n 0, 1) := by decide +kernel
theorem dX4_copyOf_45 : decode cX4_copyOf 45 = .ok (.getfield 15, 3) := by decide +kernel
theorem dX4_copyOf_48 : decode cX4_copyOf 48 = .ok (.arraylength, 1) := by decide +kernel
theorem dX4_copyOf_49 : decode cX4_copyOf 49 = .ok (.invokestatic 25, 3) := by decide +kernel
theorem dX4_copyOf_52 : decode cX4_copyOf 52 = .ok (.return_, 1) := by decide +kernel
def pX4_copyOf (b : Nat) (o : Nat) (M : Mm) : Mm :=
bnd (mset M b 0 (M o 0)) fun M1 =>
bnd (mset M1 b 1 (M1 o 1)) fun M3 =>
bnd (mrow M3 (b + 1) (va_cpy (M3 (o + 1)) (M3 (b + 1)) 0 0 8)) fun M5 =>
bnd (mrow M5 (b + 2) (va_cpy (M5 (o + 2)) (M5 (b + 2)) 0 0 32)) fun M7 =>
M7
abbrev zX4_copyOf : Zx := (cX4_copyOf, RX4, 2, 1, none)
set_option maxRecDepth 100000 in
set_option maxHeartbeats 4000000 in
theorem tX4_copyOf {l : Launch} {Y : Sx} {M : Mm} {b : Nat} {o : Nat} {q : Mm} (h_b : isPlan Y b) (h_o : isPlan Y o) (h : pX4_copyOf b o M = q) : Ct l Y yX4_copyOf cX4_copyOf 2 none 1 [.ref (adr Y b), .ref (adr Y o)] M none q := by
  refine Ct.of (by decide) rfl (lv := [(0, .ref (adr Y b)), (1, .ref (adr Y o))]) rfl ?_
  intro K hkl C
  change Cx K zX4_copyOf Y at C
  subst hkl
  unfold pX4_copyOf at h
  show Wp K zX4_copyOf Y (Qm K Y none q) M 0 [(0, .ref (adr Y b)), (1, .ref (adr Y o))] []
  refine w_aload_n C (pc := 0) dX4_copyOf_0 0 rfl ?_
  refine w_aload_n C (pc := 1) dX4_copyOf_1 1 rfl ?_
  refine w_getI C (pc := 2) dX4_copyOf_2 f_X4_18 h_o.1 rfl ?_
  obtain ⟨M1, e2, h⟩ := bn h
  refine w_putI C (pc := 5) dX4_copyOf_5 fp_X4_18 h_b.1 rfl ?_
  rw [e2]
  refine w_aload_n C (pc := 8) dX4_copyOf_8 0 rfl ?_
  refine w_aload_n C (pc := 9) dX4_copyOf_9 1 rfl ?_
  refine w_getI C (pc := 10) dX4_copyOf_10 f_X4_22 h_o.1 rfl ?_
  obtain ⟨M3, e4, h⟩ := bn h
  refine w_putI C (pc := 13) dX4_copyOf_13 fp_X4_22 h_b.1 rfl ?_
  rw [e4]
  refine w_aload_n C (pc := 16) dX4_copyOf_16 1 rfl ?_
  refine w_getR C (pc := 17) dX4_copyOf_17 f_X4_9 h_o.1 rfl ?_
  refine w_iconst C (pc := 20) dX4_copyOf_20 (v := 0) (by decide) ?_
  refine w_aload_n C (pc := 21) dX4_copyOf_21 0 rfl ?_
  refine w_getR C (pc := 22) dX4_copyOf_22 f_X4_9 h_b.1 rfl ?_
  refine w_iconst C (pc := 25) dX4_copyOf_25 (v := 0) (by decide) ?_
  refine w_aload_n C (pc := 26) dX4_copyOf_26 0 rfl ?_
  refine w_getR C (pc := 27) dX4_copyOf_27 f_X4_9 h_b.1 rfl ?_
  refine w_alenI C (pc := 30) dX4_copyOf_30 h_b.2.1 (v := 8) (by decide) ?_
  obtain ⟨M5, e6, h⟩ := bn h
  refine w_copy C (pc := 31) dX4_copyOf_31 mcopy_X4_25 rfl (Nat.le_of_ble_eq_true rfl) h_o.2.1 h_b.2.1 rfl rfl ?_
  rw [e6]
  refine w_aload_n C (pc := 34) dX4_copyOf_34 1 rfl ?_
  refine w_getR C (pc := 35) dX4_copyOf_35 f_X4_15 h_o.1 rfl ?_
  refine w_iconst C (pc := 38) dX4_copyOf_38 (v := 0) (by decide) ?_
  refine w_aload_n C (pc := 39) dX4_copyOf_39 0 rfl ?_
  refine w_getR C (pc := 40) dX4_copyOf_40 f_X4_15 h_b.1 rfl ?_
  refine w_iconst C (pc := 43) dX4_copyOf_43 (v := 0) (by decide) ?_
  refine w_aload_n C (pc := 44) dX4_copyOf_44 0 rfl ?_
  refine w_getR C (pc := 45) dX4_copyOf_45 f_X4_15 h_b.1 rfl ?_
  refine w_alenI C (pc := 48) dX4_copyOf_48 h_b.2.2 (v := 32) (by decide) ?_
  obtain ⟨M7, e8, h⟩ := bn h
  refine w_copy C (pc := 49) dX4_copyOf_49 mcopy_X4_25 rfl (Nat.le_of_ble_eq_true rfl) h_o.2.2 h_b.2.2 rfl rfl ?_
  rw [e8]
  exact w_retV C (pc := 52) dX4_copyOf_52 rfl h
theorem dX4_empty_0 : decode cX4_empty 0 = .ok (.aload_n 0, 1) := by decide +kernel
theorem dX4_empty_1 : decode cX4_empty 1 = .ok (.iconst 0, 1) := by decide +kernel
theorem dX4_empty_2 : decode cX4_empty 2 = .ok (.putfield 18, 3) := by decide +kernel
theorem dX4_empty_5 : decode cX4_empty 5 = .ok (.aload_n 0, 1) := by decide +kernel
theorem dX4_empty_6 : decode cX4_empty 6 = .ok (.iconst 0, 1) := by decide +kernel
theorem dX4_empty_7 : decode cX4_empty 7 = .ok (.putfield 22, 3) := by decide +kernel
theorem dX4_empty_10 : decode cX4_empty 10 = .ok (.return_, 1) := by decide +kernel
def pX4_empty (b : Nat) (M : Mm) : Mm :=
bnd (mset M b 0 0) fun M1 =>
bnd (mset M1 b 1 0) fun M3 =>
M3
abbrev zX4_empty : Zx := (cX4_empty, RX4, 1, 0, none)
set_option maxRecDepth 100000 in
set_option maxHeartbeats 4000000 in
theorem tX4_empty {l : Launch} {Y : Sx} {M : Mm} {b : Nat} {q : Mm} (h_b : isPlan Y b) (h : pX4_empty b M = q) : Ct l Y yX4_empty cX4_empty 1 none 0 [.ref (adr Y b)] M none q := by
  refine Ct.of (by decide) rfl (lv := [(0, .ref (adr Y b))]) rfl ?_
  intro K hkl C
  change Cx K zX4_empty Y at C
  subst hkl
  unfold pX4_empty at h
  show Wp K zX4_empty Y (Qm K Y none q) M 0 [(0, .ref (adr Y b))] []
  refine w_aload_n C (pc := 0) dX4_empty_0 0 rfl ?_
  refine w_iconst C (pc := 1) dX4_empty_1 (v := 0) (by decide) ?_
  obtain ⟨M1, e2, h⟩ := bn h
  refine w_putI C (pc := 2) dX4_empty_2 fp_X4_18 h_b.1 rfl ?_
  rw [e2]
  refine w_aload_n C (pc := 5) dX4_empty_5 0 rfl ?_
  refine w_iconst C (pc := 6) dX4_empty_6 (v := 0) (by decide) ?_
  obtain ⟨M3, e4, h⟩ := bn h
  refine w_putI C (pc := 7) dX4_empty_7 fp_X4_22 h_b.1 rfl ?_
  rw [e4]
  exact w_retV C (pc := 10) dX4_empty_10 rfl h
theorem dX4_hasSortie_0 : decode cX4_hasSortie 0 = .ok (.iload_n 1, 1) := by decide +kernel
theorem dX4_hasSortie_1 : decode cX4_hasSortie 1 = .ok (.ifCond .lt 15, 3) := by decide +kernel
theorem dX4_hasSortie_4 : decode cX4_hasSortie 4 = .ok (.iload_n 1, 1) := by decide +kernel
theorem dX4_hasSortie_5 : decode cX4_hasSortie 5 = .ok (.aload_n 0, 1) := by decide +kernel
theorem dX4_hasSortie_6 : decode cX4_hasSortie 6 = .ok (.getfield 22, 3) := by decide +kernel
theorem dX4_hasSortie_9 : decode cX4_hasSortie 9 = .ok (.if_icmp .ge 7, 3) := by decide +kernel
theorem dX4_hasSortie_12 : decode cX4_hasSortie 12 = .ok (.iconst 1, 1) := by decide +kernel
theorem dX4_hasSortie_13 : decode cX4_hasSortie 13 = .ok (.goto 4, 3) := by decide +kernel
theorem dX4_hasSortie_16 : decode cX4_hasSortie 16 = .ok (.iconst 0, 1) := by decide +kernel
theorem dX4_hasSortie_17 : decode cX4_hasSortie 17 = .ok (.ireturn, 1) := by decide +kernel
def pX4_hasSortie (b : Nat) (x1 : Int32) (M : Mm) : Int32 :=
if x1 < 0 then
(0)
else
(if (M b 1) ≤ x1 then
(0)
else
(1))
abbrev zX4_hasSortie : Zx := (cX4_hasSortie, RX4, 2, 0, (some .boolean))
set_option maxRecDepth 100000 in
set_option maxHeartbeats 4000000 in
theorem tX4_hasSortie {l : Launch} {Y : Sx} {M : Mm} {b : Nat} {x1 : Int32} {q : Int32} (h_b : isPlan Y b) (h : pX4_hasSortie b x1 M = q) : Ct l Y yX4_hasSortie cX4_hasSortie 2 (some .boolean) 0 [.ref (adr Y b), .int x1] M (some q) M := by
  refine Ct.of (by decide) rfl (lv := [(0, .ref (adr Y b)), (1, .int x1)]) rfl ?_
  intro K hkl C
  change Cx K zX4_hasSortie Y at C
  subst hkl
  unfold pX4_hasSortie at h
  show Wp K zX4_hasSortie Y (Qm K Y (some q) M) M 0 [(0, .ref (adr Y b)), (1, .int x1)] []
  refine w_iload_n C (pc := 0) dX4_hasSortie_0 1 rfl ?_
  refine w_iflt C (pc := 1) 16 dX4_hasSortie_1 (by decide) (fun c => ?_) (fun c => ?_)
  · have h := it_t h c
    refine w_iconst C (pc := 16) dX4_hasSortie_16 (v := 0) (by decide) ?_
    exact w_retzR C (pc := 17) dX4_hasSortie_17 rfl (by decide) h
  · have h := it_f h c
    refine w_iload_n C (pc := 4) dX4_hasSortie_4 1 rfl ?_
    refine w_aload_n C (pc := 5) dX4_hasSortie_5 0 rfl ?_
    refine w_getI C (pc := 6) dX4_hasSortie_6 f_X4_22 h_b.1 rfl ?_
    refine w_icge C (pc := 9) 16 dX4_hasSortie_9 (by decide) (fun c => ?_) (fun c => ?_)
    · have h := it_t h c
      refine w_iconst C (pc := 16) dX4_hasSortie_16 (v := 0) (by decide) ?_
      exact w_retzR C (pc := 17) dX4_hasSortie_17 rfl (by decide) h
    · have h := it_f h c
      refine w_iconst C (pc := 12) dX4_hasSortie_12 (v := 1) (by decide) ?_
      refine w_goto C (pc := 13) 17 dX4_hasSortie_13 (by decide) ?_
      exact w_retzR C (pc := 17) dX4_hasSortie_17 rfl (by decide) h
theorem dX4_mayBeFlyer_0 : decode cX4_mayBeFlyer 0 = .ok (.iload_n 0, 1) := by decide +kernel
theorem dX4_mayBeFlyer_1 : decode cX4_mayBeFlyer 1 = .ok (.ifCond .eq 8, 3) := by decide +kernel
theorem dX4_mayBeFlyer_4 : decode cX4_mayBeFlyer 4 = .ok (.iload_n 0, 1) := by decide +kernel
theorem dX4_mayBeFlyer_5 : decode cX4_mayBeFlyer 5 = .ok (.iconst 1, 1) := by decide +kernel
theorem dX4_mayBeFlyer_6 : decode cX4_mayBeFlyer 6 = .ok (.if_icmp .ne 7, 3) := by decide +kernel
theorem dX4_mayBeFlyer_9 : decode cX4_mayBeFlyer 9 = .ok (.iconst 1, 1) := by decide +kernel
theorem dX4_mayBeFlyer_10 : decode cX4_mayBeFlyer 10 = .ok (.goto 4, 3) := by decide +kernel
theorem dX4_mayBeFlyer_13 : decode cX4_mayBeFlyer 13 = .ok (.iconst 0, 1) := by decide +kernel
theorem dX4_mayBeFlyer_14 : decode cX4_mayBeFlyer 14 = .ok (.ireturn, 1) := by decide +kernel
def pX4_mayBeFlyer (x0 : Int32) : Int32 :=
if x0 = 0 then
(1)
else
(if x0 = 1 then
(1)
else
(0))
abbrev zX4_mayBeFlyer : Zx := (cX4_mayBeFlyer, RX4, 1, 0, (some .boolean))
set_option maxRecDepth 100000 in
set_option maxHeartbeats 4000000 in
theorem tX4_mayBeFlyer {l : Launch} {Y : Sx} {M : Mm} {x0 : Int32} {q : Int32} (h : pX4_mayBeFlyer x0 = q) : Ct l Y yX4_mayBeFlyer cX4_mayBeFlyer 1 (some .boolean) 0 [.int x0] M (some q) M := by
  refine Ct.of (by decide) rfl (lv := [(0, .int x0)]) rfl ?_
  intro K hkl C
  change Cx K zX4_mayBeFlyer Y at C
  subst hkl
  unfold pX4_mayBeFlyer at h
  show Wp K zX4_mayBeFlyer Y (Qm K Y (some q) M) M 0 [(0, .int x0)] []
  refine w_iload_n C (pc := 0) dX4_mayBeFlyer_0 0 rfl ?_
  refine w_ifeq C (pc := 1) 9 dX4_mayBeFlyer_1 (by decide) (fun c => ?_) (fun c => ?_)
  · have h := it_t h c
    refine w_iconst C (pc := 9) dX4_mayBeFlyer_9 (v := 1) (by decide) ?_
    refine w_goto C (pc := 10) 14 dX4_mayBeFlyer_10 (by decide) ?_
    exact w_retzR C (pc := 14) dX4_mayBeFlyer_14 rfl (by decide) h
  · have h := it_f h c
    refine w_iload_n C (pc := 4) dX4_mayBeFlyer_4 0 rfl ?_
    refine w_iconst C (pc := 5) dX4_mayBeFlyer_5 (v := 1) (by decide) ?_
    refine w_icne C (pc := 6) 13 dX4_mayBeFlyer_6 (by decide) (fun c => ?_) (fun c => ?_)
    · have h := it_t h c
      refine w_iconst C (pc := 9) dX4_mayBeFlyer_9 (v := 1) (by decide) ?_
      refine w_goto C (pc := 10) 14 dX4_mayBeFlyer_10 (by decide) ?_
      exact w_retzR C (pc := 14) dX4_mayBeFlyer_14 rfl (by decide) h
    · have h := it_f h c
      refine w_iconst C (pc := 13) dX4_mayBeFlyer_13 (v := 0) (by decide) ?_
      exact w_retzR C (pc := 14) dX4_mayBeFlyer_14 rfl (by decide) h
theorem dX4_mayBeIndex_0 : decode cX4_mayBeIndex 0 = .ok (.iload_n 0, 1) := by decide +kernel
theorem dX4_mayBeIndex_1 : decode cX4_mayBeIndex 1 = .ok (.ifCond .lt 13, 3) := by decide +kernel
theorem dX4_mayBeIndex_4 : decode cX4_mayBeIndex 4 = .ok (.iload_n 0, 1) := by decide +kernel
theorem dX4_mayBeIndex_5 : decode cX4_mayBeIndex 5 = .ok (.bipush 10, 2) := by decide +kernel
theorem dX4_mayBeIndex_7 : decode cX4_mayBeIndex 7 = .ok (.if_icmp .ge 7, 3) := by decide +kernel
theorem dX4_mayBeIndex_10 : decode cX4_mayBeIndex 10 = .ok (.iconst 1, 1) := by decide +kernel
theorem dX4_mayBeIndex_11 : decode cX4_mayBeIndex 11 = .ok (.goto 4, 3) := by decide +kernel
theorem dX4_mayBeIndex_14 : decode cX4_mayBeIndex 14 = .ok (.iconst 0, 1) := by decide +kernel
theorem dX4_mayBeIndex_15 : decode cX4_mayBeIndex 15 = .ok (.ireturn, 1) := by decide +kernel
def pX4_mayBeIndex (x0 : Int32) : Int32 :=
if x0 < 0 then
(0)
else
(if 10 ≤ x0 then
(0)
else
(1))
abbrev zX4_mayBeIndex : Zx := (cX4_mayBeIndex, RX4, 1, 0, (some .boolean))
set_option maxRecDepth 100000 in
set_option maxHeartbeats 4000000 in
theorem tX4_mayBeIndex {l : Launch} {Y : Sx} {M : Mm} {x0 : Int32} {q : Int32} (h : pX4_mayBeIndex x0 = q) : Ct l Y yX4_mayBeIndex cX4_mayBeIndex 1 (some .boolean) 0 [.int x0] M (some q) M := by
  refine Ct.of (by decide) rfl (lv := [(0, .int x0)]) rfl ?_
  intro K hkl C
  change Cx K zX4_mayBeIndex Y at C
  subst hkl
  unfold pX4_mayBeIndex at h
  show Wp K zX4_mayBeIndex Y (Qm K Y (some q) M) M 0 [(0, .int x0)] []
  refine w_iload_n C (pc := 0) dX4_mayBeIndex_0 0 rfl ?_
  refine w_iflt C (pc := 1) 14 dX4_mayBeIndex_1 (by decide) (fun c => ?_) (fun c => ?_)
  · have h := it_t h c
    refine w_iconst C (pc := 14) dX4_mayBeIndex_14 (v := 0) (by decide) ?_
    exact w_retzR C (pc := 15) dX4_mayBeIndex_15 rfl (by decide) h
  · have h := it_f h c
    refine w_iload_n C (pc := 4) dX4_mayBeIndex_4 0 rfl ?_
    refine w_bipush C (pc := 5) dX4_mayBeIndex_5 (v := 10) (by decide) ?_
    refine w_icge C (pc := 7) 14 dX4_mayBeIndex_7 (by decide) (fun c => ?_) (fun c => ?_)
    · have h := it_t h c
      refine w_iconst C (pc := 14) dX4_mayBeIndex_14 (v := 0) (by decide) ?_
      exact w_retzR C (pc := 15) dX4_mayBeIndex_15 rfl (by decide) h
    · have h := it_f h c
      refine w_iconst C (pc := 10) dX4_mayBeIndex_10 (v := 1) (by decide) ?_
      refine w_goto C (pc := 11) 15 dX4_mayBeIndex_11 (by decide) ?_
      exact w_retzR C (pc := 15) dX4_mayBeIndex_15 rfl (by decide) h
theorem dX4_part_0 : decode cX4_part 0 = .ok (.iload_n 1, 1) := by decide +kernel
theorem dX4_part_1 : decode cX4_part 1 = .ok (.ifCond .lt 24, 3) := by decide +kernel
theorem dX4_part_4 : decode cX4_part 4 = .ok (.iload_n 1, 1) := by decide +kernel
theorem dX4_part_5 : decode cX4_part 5 = .ok (.aload_n 0, 1) := by decide +kernel
theorem dX4_part_6 : decode cX4_part 6 = .ok (.getfield 22, 3) := by decide +kernel
theorem dX4_part_9 : decode cX4_part 9 = .ok (.if_icmp .ge 16, 3) := by decide +kernel
theorem dX4_part_12 : decode cX4_part 12 = .ok (.iload_n 2, 1) := by decide +kernel
theorem dX4_part_13 : decode cX4_part 13 = .ok (.ifCond .lt 12, 3) := by decide +kernel
theorem dX4_part_16 : decode cX4_part 16 = .ok (.iload_n 2, 1) := by decide +kernel
theorem dX4_part_17 : decode cX4_part 17 = .ok (.iconst 4, 1) := by decide +kernel
theorem dX4_part_18 : decode cX4_part 18 = .ok (.if_icmp .ge 7, 3) := by decide +kernel
theorem dX4_part_21 : decode cX4_part 21 = .ok (.iconst 1, 1) := by decide +kernel
theorem dX4_part_22 : decode cX4_part 22 = .ok (.goto 4, 3) := by decide +kernel
theorem dX4_part_25 : decode cX4_part 25 = .ok (.iconst 0, 1) := by decide +kernel
theorem dX4_part_26 : decode cX4_part 26 = .ok (.istore_n 3, 1) := by decide +kernel
theorem dX4_part_27 : decode cX4_part 27 = .ok (.iload_n 3, 1) := by decide +kernel
theorem dX4_part_28 : decode cX4_part 28 = .ok (.ifCond .eq 16, 3) := by decide +kernel
theorem dX4_part_31 : decode cX4_part 31 = .ok (.aload_n 0, 1) := by decide +kernel
theorem dX4_part_32 : decode cX4_part 32 = .ok (.getfield 15, 3) := by decide +kernel
theorem dX4_part_35 : decode cX4_part 35 = .ok (.iload_n 1, 1) := by decide +kernel
theorem dX4_part_36 : decode cX4_part 36 = .ok (.iconst 4, 1) := by decide +kernel
theorem dX4_part_37 : decode cX4_part 37 = .ok (.imul, 1) := by decide +kernel
theorem dX4_part_38 : decode cX4_part 38 = .ok (.iload_n 2, 1) := by decide +kernel
theorem dX4_part_39 : decode cX4_part 39 = .ok (.iadd, 1) := by decide +kernel
theorem dX4_part_40 : decode cX4_part 40 = .ok (.iaload, 1) := by decide +kernel
theorem dX4_part_41 : decode cX4_part 41 = .ok (.goto 4, 3) := by decide +kernel
theorem dX4_part_44 : decode cX4_part 44 = .ok (.iconst (-1), 1) := by decide +kernel
theorem dX4_part_45 : decode cX4_part 45 = .ok (.ireturn, 1) := by decide +kernel
def pX4_part (b : Nat) (x1 : Int32) (x2 : Int32) (M : Mm) : Option (Int32) :=
if x1 < 0 then
(some (-1))
else
(if (M b 1) ≤ x1 then
(some (-1))
else
(if x2 < 0 then
(some (-1))
else
(if 4 ≤ x2 then
(some (-1))
else
((ald M (b + 2) 32 ((x1 * 4) + x2)).bind fun v1 =>
some v1))))
abbrev zX4_part : Zx := (cX4_part, RX4, 4, 0, (some .int))
set_option maxRecDepth 100000 in
set_option maxHeartbeats 4000000 in
theorem tX4_part {l : Launch} {Y : Sx} {M : Mm} {b : Nat} {x1 : Int32} {x2 : Int32} {q : Int32} (h_b : isPlan Y b) (h : pX4_part b x1 x2 M = some q) : Ct l Y yX4_part cX4_part 4 (some .int) 0 [.ref (adr Y b), .int x1, .int x2] M (some q) M := by
  refine Ct.of (by decide) rfl (lv := [(0, .ref (adr Y b)), (1, .int x1), (2, .int x2)]) rfl ?_
  intro K hkl C
  change Cx K zX4_part Y at C
  subst hkl
  unfold pX4_part at h
  show Wp K zX4_part Y (Qm K Y (some q) M) M 0 [(0, .ref (adr Y b)), (1, .int x1), (2, .int x2)] []
  refine w_iload_n C (pc := 0) dX4_part_0 1 rfl ?_
  refine w_iflt C (pc := 1) 25 dX4_part_1 (by decide) (fun c => ?_) (fun c => ?_)
  · have h := it_t h c
    refine w_iconst C (pc := 25) dX4_part_25 (v := 0) (by decide) ?_
    refine w_istore_n C (pc := 26) dX4_part_26 (lv' := [(0, .ref (adr Y b)), (1, .int x1), (2, .int x2), (3, .int 0)]) rfl rfl rfl ?_
    refine w_iload_n C (pc := 27) dX4_part_27 3 rfl ?_
    refine w_ifeq C (pc := 28) 44 dX4_part_28 (by decide) (fun c => ?_) (fun c => ?_)
    · skip
      refine w_iconst C (pc := 44) dX4_part_44 (v := (-1)) (by decide) ?_
      exact w_retR C (pc := 45) dX4_part_45 rfl (Option.some.inj h)
    · exact absurd (by decide) c
  · have h := it_f h c
    refine w_iload_n C (pc := 4) dX4_part_4 1 rfl ?_
    refine w_aload_n C (pc := 5) dX4_part_5 0 rfl ?_
    refine w_getI C (pc := 6) dX4_part_6 f_X4_22 h_b.1 rfl ?_
    refine w_icge C (pc := 9) 25 dX4_part_9 (by decide) (fun c => ?_) (fun c => ?_)
    · have h := it_t h c
      refine w_iconst C (pc := 25) dX4_part_25 (v := 0) (by decide) ?_
      refine w_istore_n C (pc := 26) dX4_part_26 (lv' := [(0, .ref (adr Y b)), (1, .int x1), (2, .int x2), (3, .int 0)]) rfl rfl rfl ?_
      refine w_iload_n C (pc := 27) dX4_part_27 3 rfl ?_
      refine w_ifeq C (pc := 28) 44 dX4_part_28 (by decide) (fun c => ?_) (fun c => ?_)
      · skip
        refine w_iconst C (pc := 44) dX4_part_44 (v := (-1)) (by decide) ?_
        exact w_retR C (pc := 45) dX4_part_45 rfl (Option.some.inj h)
      · exact absurd (by decide) c
    · have h := it_f h c
      refine w_iload_n C (pc := 12) dX4_part_12 2 rfl ?_
      refine w_iflt C (pc := 13) 25 dX4_part_13 (by decide) (fun c => ?_) (fun c => ?_)
      · have h := it_t h c
        refine w_iconst C (pc := 25) dX4_part_25 (v := 0) (by decide) ?_
        refine w_istore_n C (pc := 26) dX4_part_26 (lv' := [(0, .ref (adr Y b)), (1, .int x1), (2, .int x2), (3, .int 0)]) rfl rfl rfl ?_
        refine w_iload_n C (pc := 27) dX4_part_27 3 rfl ?_
        refine w_ifeq C (pc := 28) 44 dX4_part_28 (by decide) (fun c => ?_) (fun c => ?_)
        · skip
          refine w_iconst C (pc := 44) dX4_part_44 (v := (-1)) (by decide) ?_
          exact w_retR C (pc := 45) dX4_part_45 rfl (Option.some.inj h)
        · exact absurd (by decide) c
      · have h := it_f h c
        refine w_iload_n C (pc := 16) dX4_part_16 2 rfl ?_
        refine w_iconst C (pc := 17) dX4_part_17 (v := 4) (by decide) ?_
        refine w_icge C (pc := 18) 25 dX4_part_18 (by decide) (fun c => ?_) (fun c => ?_)
        · have h := it_t h c
          refine w_iconst C (pc := 25) dX4_part_25 (v := 0) (by decide) ?_
          refine w_istore_n C (pc := 26) dX4_part_26 (lv' := [(0, .ref (adr Y b)), (1, .int x1), (2, .int x2), (3, .int 0)]) rfl rfl rfl ?_
          refine w_iload_n C (pc := 27) dX4_part_27 3 rfl ?_
          refine w_ifeq C (pc := 28) 44 dX4_part_28 (by decide) (fun c => ?_) (fun c => ?_)
          · skip
            refine w_iconst C (pc := 44) dX4_part_44 (v := (-1)) (by decide) ?_
            exact w_retR C (pc := 45) dX4_part_45 rfl (Option.some.inj h)
          · exact absurd (by decide) c
        · have h := it_f h c
          refine w_iconst C (pc := 21) dX4_part_21 (v := 1) (by decide) ?_
          refine w_goto C (pc := 22) 26 dX4_part_22 (by decide) ?_
          refine w_istore_n C (pc := 26) dX4_part_26 (lv' := [(0, .ref (adr Y b)), (1, .int x1), (2, .int x2), (3, .int 1)]) rfl rfl rfl ?_
          refine w_iload_n C (pc := 27) dX4_part_27 3 rfl ?_
          refine w_ifeq C (pc := 28) 44 dX4_part_28 (by decide) (fun c => ?_) (fun c => ?_)
          · exact absurd c (by decide)
          · skip
            refine w_aload_n C (pc := 31) dX4_part_31 0 rfl ?_
            refine w_getR C (pc := 32) dX4_part_32 f_X4_15 h_b.1 rfl ?_
            refine w_iload_n C (pc := 35) dX4_part_35 1 rfl ?_
            refine w_iconst C (pc := 36) dX4_part_36 (v := 4) (by decide) ?_
            refine w_imul C (pc := 37) dX4_part_37 ?_
            refine w_iload_n C (pc := 38) dX4_part_38 2 rfl ?_
            refine w_iadd C (pc := 39) dX4_part_39 ?_
            obtain ⟨v1, e2, h⟩ := ob h
            refine w_iald C (pc := 40) dX4_part_40 h_b.2.2 e2 ?_
            refine w_goto C (pc := 41) 45 dX4_part_41 (by decide) ?_
            exact w_retR C (pc := 45) dX4_part_45 rfl (Option.some.inj h)
theorem dX4_placeAt_0 : decode cX4_placeAt 0 = .ok (.iload_n 1, 1) := by decide +kernel
theorem dX4_placeAt_1 : decode cX4_placeAt 1 = .ok (.iconst 1, 1) := by decide +kernel
theorem dX4_placeAt_2 : decode cX4_placeAt 2 = .ok (.if_icmp .lt 22, 3) := by decide +kernel
theorem dX4_placeAt_5 : decode cX4_placeAt 5 = .ok (.iload_n 1, 1) := by decide +kernel
theorem dX4_placeAt_6 : decode cX4_placeAt 6 = .ok (.aload_n 0, 1) := by decide +kernel
theorem dX4_placeAt_7 : decode cX4_placeAt 7 = .ok (.getfield 18, 3) := by decide +kernel
theorem dX4_placeAt_10 : decode cX4_placeAt 10 = .ok (.if_icmp .gt 14, 3) := by decide +kernel
theorem dX4_placeAt_13 : decode cX4_placeAt 13 = .ok (.aload_n 0, 1) := by decide +kernel
theorem dX4_placeAt_14 : decode cX4_placeAt 14 = .ok (.getfield 9, 3) := by decide +kernel
theorem dX4_placeAt_17 : decode cX4_placeAt 17 = .ok (.iload_n 1, 1) := by decide +kernel
theorem dX4_placeAt_18 : decode cX4_placeAt 18 = .ok (.iconst 1, 1) := by decide +kernel
theorem dX4_placeAt_19 : decode cX4_placeAt 19 = .ok (.isub, 1) := by decide +kernel
theorem dX4_placeAt_20 : decode cX4_placeAt 20 = .ok (.iaload, 1) := by decide +kernel
theorem dX4_placeAt_21 : decode cX4_placeAt 21 = .ok (.goto 4, 3) := by decide +kernel
theorem dX4_placeAt_24 : decode cX4_placeAt 24 = .ok (.iconst 0, 1) := by decide +kernel
theorem dX4_placeAt_25 : decode cX4_placeAt 25 = .ok (.ireturn, 1) := by decide +kernel
def pX4_placeAt (b : Nat) (x1 : Int32) (M : Mm) : Option (Int32) :=
if x1 < 1 then
(some 0)
else
(if (M b 0) < x1 then
(some 0)
else
((ald M (b + 1) 8 (x1 - 1)).bind fun v1 =>
some v1))
abbrev zX4_placeAt : Zx := (cX4_placeAt, RX4, 2, 0, (some .int))
set_option maxRecDepth 100000 in
set_option maxHeartbeats 4000000 in
theorem tX4_placeAt {l : Launch} {Y : Sx} {M : Mm} {b : Nat} {x1 : Int32} {q : Int32} (h_b : isPlan Y b) (h : pX4_placeAt b x1 M = some q) : Ct l Y yX4_placeAt cX4_placeAt 2 (some .int) 0 [.ref (adr Y b), .int x1] M (some q) M := by
  refine Ct.of (by decide) rfl (lv := [(0, .ref (adr Y b)), (1, .int x1)]) rfl ?_
  intro K hkl C
  change Cx K zX4_placeAt Y at C
  subst hkl
  unfold pX4_placeAt at h
  show Wp K zX4_placeAt Y (Qm K Y (some q) M) M 0 [(0, .ref (adr Y b)), (1, .int x1)] []
  refine w_iload_n C (pc := 0) dX4_placeAt_0 1 rfl ?_
  refine w_iconst C (pc := 1) dX4_placeAt_1 (v := 1) (by decide) ?_
  refine w_iclt C (pc := 2) 24 dX4_placeAt_2 (by decide) (fun c => ?_) (fun c => ?_)
  · have h := it_t h c
    refine w_iconst C (pc := 24) dX4_placeAt_24 (v := 0) (by decide) ?_
    exact w_retR C (pc := 25) dX4_placeAt_25 rfl (Option.some.inj h)
  · have h := it_f h c
    refine w_iload_n C (pc := 5) dX4_placeAt_5 1 rfl ?_
    refine w_aload_n C (pc := 6) dX4_placeAt_6 0 rfl ?_
    refine w_getI C (pc := 7) dX4_placeAt_7 f_X4_18 h_b.1 rfl ?_
    refine w_icgt C (pc := 10) 24 dX4_placeAt_10 (by decide) (fun c => ?_) (fun c => ?_)
    · have h := it_t h c
      refine w_iconst C (pc := 24) dX4_placeAt_24 (v := 0) (by decide) ?_
      exact w_retR C (pc := 25) dX4_placeAt_25 rfl (Option.some.inj h)
    · have h := it_f h c
      refine w_aload_n C (pc := 13) dX4_placeAt_13 0 rfl ?_
      refine w_getR C (pc := 14) dX4_placeAt_14 f_X4_9 h_b.1 rfl ?_
      refine w_iload_n C (pc := 17) dX4_placeAt_17 1 rfl ?_
      refine w_iconst C (pc := 18) dX4_placeAt_18 (v := 1) (by decide) ?_
      refine w_isub C (pc := 19) dX4_placeAt_19 ?_
      obtain ⟨v1, e2, h⟩ := ob h
      refine w_iald C (pc := 20) dX4_placeAt_20 h_b.2.1 e2 ?_
      refine w_goto C (pc := 21) 25 dX4_placeAt_21 (by decide) ?_
      exact w_retR C (pc := 25) dX4_placeAt_25 rfl (Option.some.inj h)
theorem dX4_stops_0 : decode cX4_stops 0 = .ok (.aload_n 0, 1) := by decide +kernel
theorem dX4_stops_1 : decode cX4_stops 1 = .ok (.getfield 18, 3) := by decide +kernel
theorem dX4_stops_4 : decode cX4_stops 4 = .ok (.iconst 2, 1) := by decide +kernel
theorem dX4_stops_5 : decode cX4_stops 5 = .ok (.iadd, 1) := by decide +kernel
theorem dX4_stops_6 : decode cX4_stops 6 = .ok (.ireturn, 1) := by decide +kernel
def pX4_stops (b : Nat) (M : Mm) : Int32 :=
(M b 0) + 2
abbrev zX4_stops : Zx := (cX4_stops, RX4, 1, 0, (some .int))
set_option maxRecDepth 100000 in
set_option maxHeartbeats 4000000 in
theorem tX4_stops {l : Launch} {Y : Sx} {M : Mm} {b : Nat} {q : Int32} (h_b : isPlan Y b) (h : pX4_stops b M = q) : Ct l Y yX4_stops cX4_stops 1 (some .int) 0 [.ref (adr Y b)] M (some q) M := by
  refine Ct.of (by decide) rfl (lv := [(0, .ref (adr Y b))]) rfl ?_
  intro K hkl C
  change Cx K zX4_stops Y at C
  subst hkl
  unfold pX4_stops at h
  show Wp K zX4_stops Y (Qm K Y (some q) M) M 0 [(0, .ref (adr Y b))] []
  refine w_aload_n C (pc := 0) dX4_stops_0 0 rfl ?_
  refine w_getI C (pc := 1) dX4_stops_1 f_X4_18 h_b.1 rfl ?_
  refine w_iconst C (pc := 4) dX4_stops_4 (v := 2) (by decide) ?_
  refine w_iadd C (pc := 5) dX4_stops_5 ?_
  exact w_retR C (pc := 6) dX4_stops_6 rfl h
