theorem dX3_addCustomer_0 : decode cX3_addCustomer 0 = .ok (.aload_n 0, 1) := by decide +kernel
theorem dX3_addCustomer_1 : decode cX3_addCustomer 1 = .ok (.getfield 35, 3) := by decide +kernel
theorem dX3_addCustomer_4 : decode cX3_addCustomer 4 = .ok (.bipush 8, 2) := by decide +kernel
theorem dX3_addCustomer_6 : decode cX3_addCustomer 6 = .ok (.if_icmp .ge 13, 3) := by decide +kernel
theorem dX3_addCustomer_9 : decode cX3_addCustomer 9 = .ok (.aload_n 0, 1) := by decide +kernel
theorem dX3_addCustomer_10 : decode cX3_addCustomer 10 = .ok (.dup, 1) := by decide +kernel
theorem dX3_addCustomer_11 : decode cX3_addCustomer 11 = .ok (.getfield 35, 3) := by decide +kernel
theorem dX3_addCustomer_14 : decode cX3_addCustomer 14 = .ok (.iconst 1, 1) := by decide +kernel
theorem dX3_addCustomer_15 : decode cX3_addCustomer 15 = .ok (.iadd, 1) := by decide +kernel
theorem dX3_addCustomer_16 : decode cX3_addCustomer 16 = .ok (.putfield 35, 3) := by decide +kernel
theorem dX3_addCustomer_19 : decode cX3_addCustomer 19 = .ok (.return_, 1) := by decide +kernel
def pX3_addCustomer (b : Nat) (M : Mm) : Mm :=
if 8 ≤ (M b 0) then
(M)
else
(bnd (mset M b 0 ((M b 0) + 1)) fun M1 =>
M1)
abbrev zX3_addCustomer : Zx := (cX3_addCustomer, RX3, 1, 0, none)
set_option maxRecDepth 100000 in
set_option maxHeartbeats 4000000 in
theorem tX3_addCustomer {l : Launch} {Y : Sx} {M : Mm} {b : Nat} {q : Mm} (h_b : isLand Y b) (h : pX3_addCustomer b M = q) : Ct l Y yX3_addCustomer cX3_addCustomer 1 none 0 [.ref (adr Y b)] M none q := by
  refine Ct.of (by decide) rfl (lv := [(0, .ref (adr Y b))]) rfl ?_
  intro K hkl C
  change Cx K zX3_addCustomer Y at C
  subst hkl
  unfold pX3_addCustomer at h
  show Wp K zX3_addCustomer Y (Qm K Y none q) M 0 [(0, .ref (adr Y b))] []
  refine w_aload_n C (pc := 0) dX3_addCustomer_0 0 rfl ?_
  refine w_getI C (pc := 1) dX3_addCustomer_1 f_X3_35 h_b.1 rfl ?_
  refine w_bipush C (pc := 4) dX3_addCustomer_4 (v := 8) (by decide) ?_
  refine w_icge C (pc := 6) 19 dX3_addCustomer_6 (by decide) (fun c => ?_) (fun c => ?_)
  · have h := it_t h c
    exact w_retV C (pc := 19) dX3_addCustomer_19 rfl h
  · have h := it_f h c
    refine w_aload_n C (pc := 9) dX3_addCustomer_9 0 rfl ?_
    refine w_dup C (pc := 10) dX3_addCustomer_10 rfl ?_
    refine w_getI C (pc := 11) dX3_addCustomer_11 f_X3_35 h_b.1 rfl ?_
    refine w_iconst C (pc := 14) dX3_addCustomer_14 (v := 1) (by decide) ?_
    refine w_iadd C (pc := 15) dX3_addCustomer_15 ?_
    obtain ⟨M1, e2, h⟩ := bn h
    refine w_putI C (pc := 16) dX3_addCustomer_16 fp_X3_35 h_b.1 rfl ?_
    rw [e2]
    exact w_retV C (pc := 19) dX3_addCustomer_19 rfl h
theorem dX3_copyOf_0 : decode cX3_copyOf 0 = .ok (.aload_n 0, 1) := by decide +kernel
theorem dX3_copyOf_1 : decode cX3_copyOf 1 = .ok (.aload_n 1, 1) := by decide +kernel
theorem dX3_copyOf_2 : decode cX3_copyOf 2 = .ok (.getfield 35, 3) := by decide +kernel
theorem dX3_copyOf_5 : decode cX3_copyOf 5 = .ok (.putfield 35, 3) := by decide +kernel
theorem dX3_copyOf_8 : decode cX3_copyOf 8 = .ok (.aload_n 1, 1) := by decide +kernel
theorem dX3_copyOf_9 : decode cX3_copyOf 9 = .ok (.getfield 9, 3) := by decide +kernel
theorem dX3_copyOf_12 : decode cX3_copyOf 12 = .ok (.iconst 0, 1) := by decide +kernel
theorem dX3_copyOf_13 : decode cX3_copyOf 13 = .ok (.aload_n 0, 1) := by decide +kernel
theorem dX3_copyOf_14 : decode cX3_copyOf 14 = .ok (.getfield 9, 3) := by decide +kernel
theorem dX3_copyOf_17 : decode cX3_copyOf 17 = .ok (.iconst 0, 1) := by decide +kernel
theorem dX3_copyOf_18 : decode cX3_copyOf 18 = .ok (.aload_n 0, 1) := by decide +kernel
theorem dX3_copyOf_19 : decode cX3_copyOf 19 = .ok (.getfield 9, 3) := by decide +kernel
theorem dX3_copyOf_22 : decode cX3_copyOf 22 = .ok (.arraylength, 1) := by decide +kernel
theorem dX3_copyOf_23 : decode cX3_copyOf 23 = .ok (.invokestatic 39, 3) := by decide +kernel
theorem dX3_copyOf_26 : decode cX3_copyOf 26 = .ok (.aload_n 1, 1) := by decide +kernel
theorem dX3_copyOf_27 : decode cX3_copyOf 27 = .ok (.getfield 23, 3) := by decide +kernel
theorem dX3_copyOf_30 : decode cX3_copyOf 30 = .ok (.iconst 0, 1) := by decide +kernel
theorem dX3_copyOf_31 : decode cX3_copyOf 31 = .ok (.aload_n 0, 1) := by decide +kernel
theorem dX3_copyOf_32 : decode cX3_copyOf 32 = .ok (.getfield 23, 3) := by decide +kernel
theorem dX3_copyOf_35 : decode cX3_copyOf 35 = .ok (.iconst 0, 1) := by decide +kernel
theorem dX3_copyOf_36 : decode cX3_copyOf 36 = .ok (.aload_n 0, 1) := by decide +kernel
theorem dX3_copyOf_37 : decode cX3_copyOf 37 = .ok (.getfield 23, 3) := by decide +kernel
theorem dX3_copyOf_40 : decode cX3_copyOf 40 = .ok (.arraylength, 1) := by decide +kernel
theorem dX3_copyOf_41 : decode cX3_copyOf 41 = .ok (.invokestatic 39, 3) := by decide +kernel
theorem dX3_copyOf_44 : decode cX3_copyOf 44 = .ok (.return_, 1) := by decide +kernel
def pX3_copyOf (b : Nat) (o : Nat) (M : Mm) : Mm :=
bnd (mset M b 0 (M o 0)) fun M1 =>
bnd (mrow M1 (b + 1) (va_cpy (M1 (o + 1)) (M1 (b + 1)) 0 0 45)) fun M3 =>
bnd (mrow M3 (b + 2) (va_cpy (M3 (o + 2)) (M3 (b + 2)) 0 0 10)) fun M5 =>
M5
abbrev zX3_copyOf : Zx := (cX3_copyOf, RX3, 2, 1, none)
set_option maxRecDepth 100000 in
set_option maxHeartbeats 4000000 in
theorem tX3_copyOf {l : Launch} {Y : Sx} {M : Mm} {b : Nat} {o : Nat} {q : Mm} (h_b : isLand Y b) (h_o : isLand Y o) (h : pX3_copyOf b o M = q) : Ct l Y yX3_copyOf cX3_copyOf 2 none 1 [.ref (adr Y b), .ref (adr Y o)] M none q := by
  refine Ct.of (by decide) rfl (lv := [(0, .ref (adr Y b)), (1, .ref (adr Y o))]) rfl ?_
  intro K hkl C
  change Cx K zX3_copyOf Y at C
  subst hkl
  unfold pX3_copyOf at h
  show Wp K zX3_copyOf Y (Qm K Y none q) M 0 [(0, .ref (adr Y b)), (1, .ref (adr Y o))] []
  refine w_aload_n C (pc := 0) dX3_copyOf_0 0 rfl ?_
  refine w_aload_n C (pc := 1) dX3_copyOf_1 1 rfl ?_
  refine w_getI C (pc := 2) dX3_copyOf_2 f_X3_35 h_o.1 rfl ?_
  obtain ⟨M1, e2, h⟩ := bn h
  refine w_putI C (pc := 5) dX3_copyOf_5 fp_X3_35 h_b.1 rfl ?_
  rw [e2]
  refine w_aload_n C (pc := 8) dX3_copyOf_8 1 rfl ?_
  refine w_getR C (pc := 9) dX3_copyOf_9 f_X3_9 h_o.1 rfl ?_
  refine w_iconst C (pc := 12) dX3_copyOf_12 (v := 0) (by decide) ?_
  refine w_aload_n C (pc := 13) dX3_copyOf_13 0 rfl ?_
  refine w_getR C (pc := 14) dX3_copyOf_14 f_X3_9 h_b.1 rfl ?_
  refine w_iconst C (pc := 17) dX3_copyOf_17 (v := 0) (by decide) ?_
  refine w_aload_n C (pc := 18) dX3_copyOf_18 0 rfl ?_
  refine w_getR C (pc := 19) dX3_copyOf_19 f_X3_9 h_b.1 rfl ?_
  refine w_alenI C (pc := 22) dX3_copyOf_22 h_b.2.1 (v := 45) (by decide) ?_
  obtain ⟨M3, e4, h⟩ := bn h
  refine w_copy C (pc := 23) dX3_copyOf_23 mcopy_X3_39 rfl (Nat.le_of_ble_eq_true rfl) h_o.2.1 h_b.2.1 rfl rfl ?_
  rw [e4]
  refine w_aload_n C (pc := 26) dX3_copyOf_26 1 rfl ?_
  refine w_getR C (pc := 27) dX3_copyOf_27 f_X3_23 h_o.1 rfl ?_
  refine w_iconst C (pc := 30) dX3_copyOf_30 (v := 0) (by decide) ?_
  refine w_aload_n C (pc := 31) dX3_copyOf_31 0 rfl ?_
  refine w_getR C (pc := 32) dX3_copyOf_32 f_X3_23 h_b.1 rfl ?_
  refine w_iconst C (pc := 35) dX3_copyOf_35 (v := 0) (by decide) ?_
  refine w_aload_n C (pc := 36) dX3_copyOf_36 0 rfl ?_
  refine w_getR C (pc := 37) dX3_copyOf_37 f_X3_23 h_b.1 rfl ?_
  refine w_alenI C (pc := 40) dX3_copyOf_40 h_b.2.2 (v := 10) (by decide) ?_
  obtain ⟨M5, e6, h⟩ := bn h
  refine w_copy C (pc := 41) dX3_copyOf_41 mcopy_X3_39 rfl (Nat.le_of_ble_eq_true rfl) h_o.2.2 h_b.2.2 rfl rfl ?_
  rw [e6]
  exact w_retV C (pc := 44) dX3_copyOf_44 rfl h
theorem dX3_fact_0 : decode cX3_fact 0 = .ok (.iload_n 1, 1) := by decide +kernel
theorem dX3_fact_1 : decode cX3_fact 1 = .ok (.ifCond .lt 24, 3) := by decide +kernel
theorem dX3_fact_4 : decode cX3_fact 4 = .ok (.iload_n 1, 1) := by decide +kernel
theorem dX3_fact_5 : decode cX3_fact 5 = .ok (.aload_n 0, 1) := by decide +kernel
theorem dX3_fact_6 : decode cX3_fact 6 = .ok (.getfield 35, 3) := by decide +kernel
theorem dX3_fact_9 : decode cX3_fact 9 = .ok (.if_icmp .gt 16, 3) := by decide +kernel
theorem dX3_fact_12 : decode cX3_fact 12 = .ok (.iload_n 2, 1) := by decide +kernel
theorem dX3_fact_13 : decode cX3_fact 13 = .ok (.ifCond .lt 12, 3) := by decide +kernel
theorem dX3_fact_16 : decode cX3_fact 16 = .ok (.iload_n 2, 1) := by decide +kernel
theorem dX3_fact_17 : decode cX3_fact 17 = .ok (.iconst 5, 1) := by decide +kernel
theorem dX3_fact_18 : decode cX3_fact 18 = .ok (.if_icmp .ge 7, 3) := by decide +kernel
theorem dX3_fact_21 : decode cX3_fact 21 = .ok (.iconst 1, 1) := by decide +kernel
theorem dX3_fact_22 : decode cX3_fact 22 = .ok (.goto 4, 3) := by decide +kernel
theorem dX3_fact_25 : decode cX3_fact 25 = .ok (.iconst 0, 1) := by decide +kernel
theorem dX3_fact_26 : decode cX3_fact 26 = .ok (.istore_n 3, 1) := by decide +kernel
theorem dX3_fact_27 : decode cX3_fact 27 = .ok (.iload_n 3, 1) := by decide +kernel
theorem dX3_fact_28 : decode cX3_fact 28 = .ok (.ifCond .eq 16, 3) := by decide +kernel
theorem dX3_fact_31 : decode cX3_fact 31 = .ok (.aload_n 0, 1) := by decide +kernel
theorem dX3_fact_32 : decode cX3_fact 32 = .ok (.getfield 9, 3) := by decide +kernel
theorem dX3_fact_35 : decode cX3_fact 35 = .ok (.iload_n 1, 1) := by decide +kernel
theorem dX3_fact_36 : decode cX3_fact 36 = .ok (.iconst 5, 1) := by decide +kernel
theorem dX3_fact_37 : decode cX3_fact 37 = .ok (.imul, 1) := by decide +kernel
theorem dX3_fact_38 : decode cX3_fact 38 = .ok (.iload_n 2, 1) := by decide +kernel
theorem dX3_fact_39 : decode cX3_fact 39 = .ok (.iadd, 1) := by decide +kernel
theorem dX3_fact_40 : decode cX3_fact 40 = .ok (.iaload, 1) := by decide +kernel
theorem dX3_fact_41 : decode cX3_fact 41 = .ok (.goto 4, 3) := by decide +kernel
theorem dX3_fact_44 : decode cX3_fact 44 = .ok (.iconst (-1), 1) := by decide +kernel
theorem dX3_fact_45 : decode cX3_fact 45 = .ok (.ireturn, 1) := by decide +kernel
def pX3_fact (b : Nat) (x1 : Int32) (x2 : Int32) (M : Mm) : Option (Int32) :=
if x1 < 0 then
(some (-1))
else
(if (M b 0) < x1 then
(some (-1))
else
(if x2 < 0 then
(some (-1))
else
(if 5 ≤ x2 then
(some (-1))
else
((ald M (b + 1) 45 ((x1 * 5) + x2)).bind fun v1 =>
some v1))))
abbrev zX3_fact : Zx := (cX3_fact, RX3, 4, 0, (some .int))
set_option maxRecDepth 100000 in
set_option maxHeartbeats 4000000 in
theorem tX3_fact {l : Launch} {Y : Sx} {M : Mm} {b : Nat} {x1 : Int32} {x2 : Int32} {q : Int32} (h_b : isLand Y b) (h : pX3_fact b x1 x2 M = some q) : Ct l Y yX3_fact cX3_fact 4 (some .int) 0 [.ref (adr Y b), .int x1, .int x2] M (some q) M := by
  refine Ct.of (by decide) rfl (lv := [(0, .ref (adr Y b)), (1, .int x1), (2, .int x2)]) rfl ?_
  intro K hkl C
  change Cx K zX3_fact Y at C
  subst hkl
  unfold pX3_fact at h
  show Wp K zX3_fact Y (Qm K Y (some q) M) M 0 [(0, .ref (adr Y b)), (1, .int x1), (2, .int x2)] []
  refine w_iload_n C (pc := 0) dX3_fact_0 1 rfl ?_
  refine w_iflt C (pc := 1) 25 dX3_fact_1 (by decide) (fun c => ?_) (fun c => ?_)
  · have h := it_t h c
    refine w_iconst C (pc := 25) dX3_fact_25 (v := 0) (by decide) ?_
    refine w_istore_n C (pc := 26) dX3_fact_26 (lv' := [(0, .ref (adr Y b)), (1, .int x1), (2, .int x2), (3, .int 0)]) rfl rfl rfl ?_
    refine w_iload_n C (pc := 27) dX3_fact_27 3 rfl ?_
    refine w_ifeq C (pc := 28) 44 dX3_fact_28 (by decide) (fun c => ?_) (fun c => ?_)
    · skip
      refine w_iconst C (pc := 44) dX3_fact_44 (v := (-1)) (by decide) ?_
      exact w_retR C (pc := 45) dX3_fact_45 rfl (Option.some.inj h)
    · exact absurd (by decide) c
  · have h := it_f h c
    refine w_iload_n C (pc := 4) dX3_fact_4 1 rfl ?_
    refine w_aload_n C (pc := 5) dX3_fact_5 0 rfl ?_
    refine w_getI C (pc := 6) dX3_fact_6 f_X3_35 h_b.1 rfl ?_
    refine w_icgt C (pc := 9) 25 dX3_fact_9 (by decide) (fun c => ?_) (fun c => ?_)
    · have h := it_t h c
      refine w_iconst C (pc := 25) dX3_fact_25 (v := 0) (by decide) ?_
      refine w_istore_n C (pc := 26) dX3_fact_26 (lv' := [(0, .ref (adr Y b)), (1, .int x1), (2, .int x2), (3, .int 0)]) rfl rfl rfl ?_
      refine w_iload_n C (pc := 27) dX3_fact_27 3 rfl ?_
      refine w_ifeq C (pc := 28) 44 dX3_fact_28 (by decide) (fun c => ?_) (fun c => ?_)
      · skip
        refine w_iconst C (pc := 44) dX3_fact_44 (v := (-1)) (by decide) ?_
        exact w_retR C (pc := 45) dX3_fact_45 rfl (Option.some.inj h)
      · exact absurd (by decide) c
    · have h := it_f h c
      refine w_iload_n C (pc := 12) dX3_fact_12 2 rfl ?_
      refine w_iflt C (pc := 13) 25 dX3_fact_13 (by decide) (fun c => ?_) (fun c => ?_)
      · have h := it_t h c
        refine w_iconst C (pc := 25) dX3_fact_25 (v := 0) (by decide) ?_
        refine w_istore_n C (pc := 26) dX3_fact_26 (lv' := [(0, .ref (adr Y b)), (1, .int x1), (2, .int x2), (3, .int 0)]) rfl rfl rfl ?_
        refine w_iload_n C (pc := 27) dX3_fact_27 3 rfl ?_
        refine w_ifeq C (pc := 28) 44 dX3_fact_28 (by decide) (fun c => ?_) (fun c => ?_)
        · skip
          refine w_iconst C (pc := 44) dX3_fact_44 (v := (-1)) (by decide) ?_
          exact w_retR C (pc := 45) dX3_fact_45 rfl (Option.some.inj h)
        · exact absurd (by decide) c
      · have h := it_f h c
        refine w_iload_n C (pc := 16) dX3_fact_16 2 rfl ?_
        refine w_iconst C (pc := 17) dX3_fact_17 (v := 5) (by decide) ?_
        refine w_icge C (pc := 18) 25 dX3_fact_18 (by decide) (fun c => ?_) (fun c => ?_)
        · have h := it_t h c
          refine w_iconst C (pc := 25) dX3_fact_25 (v := 0) (by decide) ?_
          refine w_istore_n C (pc := 26) dX3_fact_26 (lv' := [(0, .ref (adr Y b)), (1, .int x1), (2, .int x2), (3, .int 0)]) rfl rfl rfl ?_
          refine w_iload_n C (pc := 27) dX3_fact_27 3 rfl ?_
          refine w_ifeq C (pc := 28) 44 dX3_fact_28 (by decide) (fun c => ?_) (fun c => ?_)
          · skip
            refine w_iconst C (pc := 44) dX3_fact_44 (v := (-1)) (by decide) ?_
            exact w_retR C (pc := 45) dX3_fact_45 rfl (Option.some.inj h)
          · exact absurd (by decide) c
        · have h := it_f h c
          refine w_iconst C (pc := 21) dX3_fact_21 (v := 1) (by decide) ?_
          refine w_goto C (pc := 22) 26 dX3_fact_22 (by decide) ?_
          refine w_istore_n C (pc := 26) dX3_fact_26 (lv' := [(0, .ref (adr Y b)), (1, .int x1), (2, .int x2), (3, .int 1)]) rfl rfl rfl ?_
          refine w_iload_n C (pc := 27) dX3_fact_27 3 rfl ?_
          refine w_ifeq C (pc := 28) 44 dX3_fact_28 (by decide) (fun c => ?_) (fun c => ?_)
          · exact absurd c (by decide)
          · skip
            refine w_aload_n C (pc := 31) dX3_fact_31 0 rfl ?_
            refine w_getR C (pc := 32) dX3_fact_32 f_X3_9 h_b.1 rfl ?_
            refine w_iload_n C (pc := 35) dX3_fact_35 1 rfl ?_
            refine w_iconst C (pc := 36) dX3_fact_36 (v := 5) (by decide) ?_
            refine w_imul C (pc := 37) dX3_fact_37 ?_
            refine w_iload_n C (pc := 38) dX3_fact_38 2 rfl ?_
            refine w_iadd C (pc := 39) dX3_fact_39 ?_
            obtain ⟨v1, e2, h⟩ := ob h
            refine w_iald C (pc := 40) dX3_fact_40 h_b.2.1 e2 ?_
            refine w_goto C (pc := 41) 45 dX3_fact_41 (by decide) ?_
            exact w_retR C (pc := 45) dX3_fact_45 rfl (Option.some.inj h)
theorem dX3_setting_0 : decode cX3_setting 0 = .ok (.iload_n 1, 1) := by decide +kernel
theorem dX3_setting_1 : decode cX3_setting 1 = .ok (.ifCond .lt 18, 3) := by decide +kernel
theorem dX3_setting_4 : decode cX3_setting 4 = .ok (.iload_n 1, 1) := by decide +kernel
theorem dX3_setting_5 : decode cX3_setting 5 = .ok (.bipush 10, 2) := by decide +kernel
theorem dX3_setting_7 : decode cX3_setting 7 = .ok (.if_icmp .ge 12, 3) := by decide +kernel
theorem dX3_setting_10 : decode cX3_setting 10 = .ok (.aload_n 0, 1) := by decide +kernel
theorem dX3_setting_11 : decode cX3_setting 11 = .ok (.getfield 23, 3) := by decide +kernel
theorem dX3_setting_14 : decode cX3_setting 14 = .ok (.iload_n 1, 1) := by decide +kernel
theorem dX3_setting_15 : decode cX3_setting 15 = .ok (.iaload, 1) := by decide +kernel
theorem dX3_setting_16 : decode cX3_setting 16 = .ok (.goto 4, 3) := by decide +kernel
theorem dX3_setting_19 : decode cX3_setting 19 = .ok (.iconst (-1), 1) := by decide +kernel
theorem dX3_setting_20 : decode cX3_setting 20 = .ok (.ireturn, 1) := by decide +kernel
def pX3_setting (b : Nat) (x1 : Int32) (M : Mm) : Option (Int32) :=
if x1 < 0 then
(some (-1))
else
(if 10 ≤ x1 then
(some (-1))
else
((ald M (b + 2) 10 x1).bind fun v1 =>
some v1))
abbrev zX3_setting : Zx := (cX3_setting, RX3, 2, 0, (some .int))
set_option maxRecDepth 100000 in
set_option maxHeartbeats 4000000 in
theorem tX3_setting {l : Launch} {Y : Sx} {M : Mm} {b : Nat} {x1 : Int32} {q : Int32} (h_b : isLand Y b) (h : pX3_setting b x1 M = some q) : Ct l Y yX3_setting cX3_setting 2 (some .int) 0 [.ref (adr Y b), .int x1] M (some q) M := by
  refine Ct.of (by decide) rfl (lv := [(0, .ref (adr Y b)), (1, .int x1)]) rfl ?_
  intro K hkl C
  change Cx K zX3_setting Y at C
  subst hkl
  unfold pX3_setting at h
  show Wp K zX3_setting Y (Qm K Y (some q) M) M 0 [(0, .ref (adr Y b)), (1, .int x1)] []
  refine w_iload_n C (pc := 0) dX3_setting_0 1 rfl ?_
  refine w_iflt C (pc := 1) 19 dX3_setting_1 (by decide) (fun c => ?_) (fun c => ?_)
  · have h := it_t h c
    refine w_iconst C (pc := 19) dX3_setting_19 (v := (-1)) (by decide) ?_
    exact w_retR C (pc := 20) dX3_setting_20 rfl (Option.some.inj h)
  · have h := it_f h c
    refine w_iload_n C (pc := 4) dX3_setting_4 1 rfl ?_
    refine w_bipush C (pc := 5) dX3_setting_5 (v := 10) (by decide) ?_
    refine w_icge C (pc := 7) 19 dX3_setting_7 (by decide) (fun c => ?_) (fun c => ?_)
    · have h := it_t h c
      refine w_iconst C (pc := 19) dX3_setting_19 (v := (-1)) (by decide) ?_
      exact w_retR C (pc := 20) dX3_setting_20 rfl (Option.some.inj h)
    · have h := it_f h c
      refine w_aload_n C (pc := 10) dX3_setting_10 0 rfl ?_
      refine w_getR C (pc := 11) dX3_setting_11 f_X3_23 h_b.1 rfl ?_
      refine w_iload_n C (pc := 14) dX3_setting_14 1 rfl ?_
      obtain ⟨v1, e2, h⟩ := ob h
      refine w_iald C (pc := 15) dX3_setting_15 h_b.2.2 e2 ?_
      refine w_goto C (pc := 16) 20 dX3_setting_16 (by decide) ?_
      exact w_retR C (pc := 20) dX3_setting_20 rfl (Option.some.inj h)
theorem dX3_drive_0 : decode cX3_drive 0 = .ok (.aload_n 0, 1) := by decide +kernel
theorem dX3_drive_1 : decode cX3_drive 1 = .ok (.iload_n 2, 1) := by decide +kernel
theorem dX3_drive_2 : decode cX3_drive 2 = .ok (.iconst 0, 1) := by decide +kernel
theorem dX3_drive_3 : decode cX3_drive 3 = .ok (.invokevirtual 56, 3) := by decide +kernel
theorem dX3_drive_6 : decode cX3_drive 6 = .ok (.aload_n 0, 1) := by decide +kernel
theorem dX3_drive_7 : decode cX3_drive 7 = .ok (.iload_n 1, 1) := by decide +kernel
theorem dX3_drive_8 : decode cX3_drive 8 = .ok (.iconst 0, 1) := by decide +kernel
theorem dX3_drive_9 : decode cX3_drive 9 = .ok (.invokevirtual 56, 3) := by decide +kernel
theorem dX3_drive_12 : decode cX3_drive 12 = .ok (.isub, 1) := by decide +kernel
theorem dX3_drive_13 : decode cX3_drive 13 = .ok (.invokestatic 64, 3) := by decide +kernel
theorem dX3_drive_16 : decode cX3_drive 16 = .ok (.istore_n 3, 1) := by decide +kernel
theorem dX3_drive_17 : decode cX3_drive 17 = .ok (.aload_n 0, 1) := by decide +kernel
theorem dX3_drive_18 : decode cX3_drive 18 = .ok (.iload_n 2, 1) := by decide +kernel
theorem dX3_drive_19 : decode cX3_drive 19 = .ok (.iconst 1, 1) := by decide +kernel
theorem dX3_drive_20 : decode cX3_drive 20 = .ok (.invokevirtual 56, 3) := by decide +kernel
theorem dX3_drive_23 : decode cX3_drive 23 = .ok (.aload_n 0, 1) := by decide +kernel
theorem dX3_drive_24 : decode cX3_drive 24 = .ok (.iload_n 1, 1) := by decide +kernel
theorem dX3_drive_25 : decode cX3_drive 25 = .ok (.iconst 1, 1) := by decide +kernel
theorem dX3_drive_26 : decode cX3_drive 26 = .ok (.invokevirtual 56, 3) := by decide +kernel
theorem dX3_drive_29 : decode cX3_drive 29 = .ok (.isub, 1) := by decide +kernel
theorem dX3_drive_30 : decode cX3_drive 30 = .ok (.invokestatic 64, 3) := by decide +kernel
theorem dX3_drive_33 : decode cX3_drive 33 = .ok (.istore 4, 2) := by decide +kernel
theorem dX3_drive_35 : decode cX3_drive 35 = .ok (.aload_n 0, 1) := by decide +kernel
theorem dX3_drive_36 : decode cX3_drive 36 = .ok (.iconst 0, 1) := by decide +kernel
theorem dX3_drive_37 : decode cX3_drive 37 = .ok (.invokevirtual 60, 3) := by decide +kernel
theorem dX3_drive_40 : decode cX3_drive 40 = .ok (.iload_n 3, 1) := by decide +kernel
theorem dX3_drive_41 : decode cX3_drive 41 = .ok (.iload 4, 2) := by decide +kernel
theorem dX3_drive_43 : decode cX3_drive 43 = .ok (.iadd, 1) := by decide +kernel
theorem dX3_drive_44 : decode cX3_drive 44 = .ok (.imul, 1) := by decide +kernel
theorem dX3_drive_45 : decode cX3_drive 45 = .ok (.ireturn, 1) := by decide +kernel
def pX3_drive (b : Nat) (x1 : Int32) (x2 : Int32) (M : Mm) : Option (Int32) :=
(pX3_fact b x2 0 M).bind fun v1 =>
(pX3_fact b x1 0 M).bind fun v3 =>
bnd (mabs (v1 - v3)) fun v5 =>
(pX3_fact b x2 1 M).bind fun v6 =>
(pX3_fact b x1 1 M).bind fun v8 =>
bnd (mabs (v6 - v8)) fun v10 =>
(pX3_setting b 0 M).bind fun v11 =>
some (v11 * (v5 + v10))
abbrev zX3_drive : Zx := (cX3_drive, RX3, 5, 1, (some .int))
set_option maxRecDepth 100000 in
set_option maxHeartbeats 4000000 in
theorem tX3_drive {l : Launch} {Y : Sx} {M : Mm} {b : Nat} {x1 : Int32} {x2 : Int32} {q : Int32} (h_b : isLand Y b) (h : pX3_drive b x1 x2 M = some q) : Ct l Y yX3_drive cX3_drive 5 (some .int) 1 [.ref (adr Y b), .int x1, .int x2] M (some q) M := by
  refine Ct.of (by decide) rfl (lv := [(0, .ref (adr Y b)), (1, .int x1), (2, .int x2)]) rfl ?_
  intro K hkl C
  change Cx K zX3_drive Y at C
  subst hkl
  unfold pX3_drive at h
  show Wp K zX3_drive Y (Qm K Y (some q) M) M 0 [(0, .ref (adr Y b)), (1, .int x1), (2, .int x2)] []
  refine w_aload_n C (pc := 0) dX3_drive_0 0 rfl ?_
  refine w_iload_n C (pc := 1) dX3_drive_1 2 rfl ?_
  refine w_iconst C (pc := 2) dX3_drive_2 (v := 0) (by decide) ?_
  obtain ⟨v1, e2, h⟩ := ob h
  refine w_cVi C (pc := 3) dX3_drive_3 my_X3_fact mi_X3_fact ml_X3_56 h_b.1 rfl rfl rfl [.int x2, .int 0] rfl rfl (Nat.le_of_ble_eq_true rfl) (tX3_fact h_b e2) ?_
  refine w_aload_n C (pc := 6) dX3_drive_6 0 rfl ?_
  refine w_iload_n C (pc := 7) dX3_drive_7 1 rfl ?_
  refine w_iconst C (pc := 8) dX3_drive_8 (v := 0) (by decide) ?_
  obtain ⟨v3, e4, h⟩ := ob h
  refine w_cVi C (pc := 9) dX3_drive_9 my_X3_fact mi_X3_fact ml_X3_56 h_b.1 rfl rfl rfl [.int x1, .int 0] rfl rfl (Nat.le_of_ble_eq_true rfl) (tX3_fact h_b e4) ?_
  refine w_isub C (pc := 12) dX3_drive_12 ?_
  refine w_abs C (pc := 13) dX3_drive_13 mabs_X3_64 rfl (Nat.le_of_ble_eq_true rfl) ?_
  refine w_bnd h (fun v5 h => ?_)
  refine w_istore_n C (pc := 16) dX3_drive_16 (lv' := [(0, .ref (adr Y b)), (1, .int x1), (2, .int x2), (3, .int v5)]) rfl rfl rfl ?_
  refine w_aload_n C (pc := 17) dX3_drive_17 0 rfl ?_
  refine w_iload_n C (pc := 18) dX3_drive_18 2 rfl ?_
  refine w_iconst C (pc := 19) dX3_drive_19 (v := 1) (by decide) ?_
  obtain ⟨v6, e7, h⟩ := ob h
  refine w_cVi C (pc := 20) dX3_drive_20 my_X3_fact mi_X3_fact ml_X3_56 h_b.1 rfl rfl rfl [.int x2, .int 1] rfl rfl (Nat.le_of_ble_eq_true rfl) (tX3_fact h_b e7) ?_
  refine w_aload_n C (pc := 23) dX3_drive_23 0 rfl ?_
  refine w_iload_n C (pc := 24) dX3_drive_24 1 rfl ?_
  refine w_iconst C (pc := 25) dX3_drive_25 (v := 1) (by decide) ?_
  obtain ⟨v8, e9, h⟩ := ob h
  refine w_cVi C (pc := 26) dX3_drive_26 my_X3_fact mi_X3_fact ml_X3_56 h_b.1 rfl rfl rfl [.int x1, .int 1] rfl rfl (Nat.le_of_ble_eq_true rfl) (tX3_fact h_b e9) ?_
  refine w_isub C (pc := 29) dX3_drive_29 ?_
  refine w_abs C (pc := 30) dX3_drive_30 mabs_X3_64 rfl (Nat.le_of_ble_eq_true rfl) ?_
  refine w_bnd h (fun v10 h => ?_)
  refine w_istore C (pc := 33) dX3_drive_33 (lv' := [(0, .ref (adr Y b)), (1, .int x1), (2, .int x2), (3, .int v5), (4, .int v10)]) rfl rfl rfl ?_
  refine w_aload_n C (pc := 35) dX3_drive_35 0 rfl ?_
  refine w_iconst C (pc := 36) dX3_drive_36 (v := 0) (by decide) ?_
  obtain ⟨v11, e12, h⟩ := ob h
  refine w_cVi C (pc := 37) dX3_drive_37 my_X3_setting mi_X3_setting ml_X3_60 h_b.1 rfl rfl rfl [.int 0] rfl rfl (Nat.le_of_ble_eq_true rfl) (tX3_setting h_b e12) ?_
  refine w_iload_n C (pc := 40) dX3_drive_40 3 rfl ?_
  refine w_iload C (pc := 41) dX3_drive_41 4 rfl ?_
  refine w_iadd C (pc := 43) dX3_drive_43 ?_
  refine w_imul C (pc := 44) dX3_drive_44 ?_
  exact w_retR C (pc := 45) dX3_drive_45 rfl (Option.some.inj h)
theorem dX3_flight_0 : decode cX3_flight 0 = .ok (.iload_n 1, 1) := by decide +kernel
theorem dX3_flight_1 : decode cX3_flight 1 = .ok (.iload_n 2, 1) := by decide +kernel
theorem dX3_flight_2 : decode cX3_flight 2 = .ok (.if_icmp .ne 5, 3) := by decide +kernel
theorem dX3_flight_5 : decode cX3_flight 5 = .ok (.iconst 0, 1) := by decide +kernel
theorem dX3_flight_6 : decode cX3_flight 6 = .ok (.ireturn, 1) := by decide +kernel
theorem dX3_flight_7 : decode cX3_flight 7 = .ok (.aload_n 0, 1) := by decide +kernel
theorem dX3_flight_8 : decode cX3_flight 8 = .ok (.iload_n 2, 1) := by decide +kernel
theorem dX3_flight_9 : decode cX3_flight 9 = .ok (.iconst 0, 1) := by decide +kernel
theorem dX3_flight_10 : decode cX3_flight 10 = .ok (.invokevirtual 56, 3) := by decide +kernel
theorem dX3_flight_13 : decode cX3_flight 13 = .ok (.aload_n 0, 1) := by decide +kernel
theorem dX3_flight_14 : decode cX3_flight 14 = .ok (.iload_n 1, 1) := by decide +kernel
theorem dX3_flight_15 : decode cX3_flight 15 = .ok (.iconst 0, 1) := by decide +kernel
theorem dX3_flight_16 : decode cX3_flight 16 = .ok (.invokevirtual 56, 3) := by decide +kernel
theorem dX3_flight_19 : decode cX3_flight 19 = .ok (.isub, 1) := by decide +kernel
theorem dX3_flight_20 : decode cX3_flight 20 = .ok (.istore 5, 2) := by decide +kernel
theorem dX3_flight_22 : decode cX3_flight 22 = .ok (.aload_n 0, 1) := by decide +kernel
theorem dX3_flight_23 : decode cX3_flight 23 = .ok (.iload_n 2, 1) := by decide +kernel
theorem dX3_flight_24 : decode cX3_flight 24 = .ok (.iconst 1, 1) := by decide +kernel
theorem dX3_flight_25 : decode cX3_flight 25 = .ok (.invokevirtual 56, 3) := by decide +kernel
theorem dX3_flight_28 : decode cX3_flight 28 = .ok (.aload_n 0, 1) := by decide +kernel
theorem dX3_flight_29 : decode cX3_flight 29 = .ok (.iload_n 1, 1) := by decide +kernel
theorem dX3_flight_30 : decode cX3_flight 30 = .ok (.iconst 1, 1) := by decide +kernel
theorem dX3_flight_31 : decode cX3_flight 31 = .ok (.invokevirtual 56, 3) := by decide +kernel
theorem dX3_flight_34 : decode cX3_flight 34 = .ok (.isub, 1) := by decide +kernel
theorem dX3_flight_35 : decode cX3_flight 35 = .ok (.istore 6, 2) := by decide +kernel
theorem dX3_flight_37 : decode cX3_flight 37 = .ok (.aload_n 0, 1) := by decide +kernel
theorem dX3_flight_38 : decode cX3_flight 38 = .ok (.iconst 1, 1) := by decide +kernel
theorem dX3_flight_39 : decode cX3_flight 39 = .ok (.invokevirtual 60, 3) := by decide +kernel
theorem dX3_flight_42 : decode cX3_flight 42 = .ok (.iload 5, 2) := by decide +kernel
theorem dX3_flight_44 : decode cX3_flight 44 = .ok (.invokestatic 64, 3) := by decide +kernel
theorem dX3_flight_47 : decode cX3_flight 47 = .ok (.iload 6, 2) := by decide +kernel
theorem dX3_flight_49 : decode cX3_flight 49 = .ok (.invokestatic 64, 3) := by decide +kernel
theorem dX3_flight_52 : decode cX3_flight 52 = .ok (.invokestatic 69, 3) := by decide +kernel
theorem dX3_flight_55 : decode cX3_flight 55 = .ok (.imul, 1) := by decide +kernel
theorem dX3_flight_56 : decode cX3_flight 56 = .ok (.istore 7, 2) := by decide +kernel
theorem dX3_flight_58 : decode cX3_flight 58 = .ok (.iconst 1, 1) := by decide +kernel
theorem dX3_flight_59 : decode cX3_flight 59 = .ok (.iload 7, 2) := by decide +kernel
theorem dX3_flight_61 : decode cX3_flight 61 = .ok (.iload_n 3, 1) := by decide +kernel
theorem dX3_flight_62 : decode cX3_flight 62 = .ok (.iload 5, 2) := by decide +kernel
theorem dX3_flight_64 : decode cX3_flight 64 = .ok (.imul, 1) := by decide +kernel
theorem dX3_flight_65 : decode cX3_flight 65 = .ok (.isub, 1) := by decide +kernel
theorem dX3_flight_66 : decode cX3_flight 66 = .ok (.iload 4, 2) := by decide +kernel
theorem dX3_flight_68 : decode cX3_flight 68 = .ok (.iload 6, 2) := by decide +kernel
theorem dX3_flight_70 : decode cX3_flight 70 = .ok (.imul, 1) := by decide +kernel
theorem dX3_flight_71 : decode cX3_flight 71 = .ok (.isub, 1) := by decide +kernel
theorem dX3_flight_72 : decode cX3_flight 72 = .ok (.invokestatic 69, 3) := by decide +kernel
theorem dX3_flight_75 : decode cX3_flight 75 = .ok (.ireturn, 1) := by decide +kernel
def pX3_flight (b : Nat) (x1 : Int32) (x2 : Int32) (x3 : Int32) (x4 : Int32) (M : Mm) : Option (Int32) :=
if x1 = x2 then
(some 0)
else
((pX3_fact b x2 0 M).bind fun v1 =>
(pX3_fact b x1 0 M).bind fun v3 =>
bnd (v1 - v3) fun v5 =>
(pX3_fact b x2 1 M).bind fun v6 =>
(pX3_fact b x1 1 M).bind fun v8 =>
bnd (v6 - v8) fun v10 =>
(pX3_setting b 1 M).bind fun v11 =>
bnd (v11 * (mmax (mabs v5) (mabs v10))) fun v13 =>
some (mmax 1 ((v13 - (x3 * v5)) - (x4 * v10))))
abbrev zX3_flight : Zx := (cX3_flight, RX3, 8, 1, (some .int))
set_option maxRecDepth 100000 in
set_option maxHeartbeats 4000000 in
theorem tX3_flight {l : Launch} {Y : Sx} {M : Mm} {b : Nat} {x1 : Int32} {x2 : Int32} {x3 : Int32} {x4 : Int32} {q : Int32} (h_b : isLand Y b) (h : pX3_flight b x1 x2 x3 x4 M = some q) : Ct l Y yX3_flight cX3_flight 8 (some .int) 1 [.ref (adr Y b), .int x1, .int x2, .int x3, .int x4] M (some q) M := by
  refine Ct.of (by decide) rfl (lv := [(0, .ref (adr Y b)), (1, .int x1), (2, .int x2), (3, .int x3), (4, .int x4)]) rfl ?_
  intro K hkl C
  change Cx K zX3_flight Y at C
  subst hkl
  unfold pX3_flight at h
  show Wp K zX3_flight Y (Qm K Y (some q) M) M 0 [(0, .ref (adr Y b)), (1, .int x1), (2, .int x2), (3, .int x3), (4, .int x4)] []
  refine w_iload_n C (pc := 0) dX3_flight_0 1 rfl ?_
  refine w_iload_n C (pc := 1) dX3_flight_1 2 rfl ?_
  refine w_icne C (pc := 2) 7 dX3_flight_2 (by decide) (fun c => ?_) (fun c => ?_)
  · have h := it_t h c
    refine w_iconst C (pc := 5) dX3_flight_5 (v := 0) (by decide) ?_
    exact w_retR C (pc := 6) dX3_flight_6 rfl (Option.some.inj h)
  · have h := it_f h c
    refine w_aload_n C (pc := 7) dX3_flight_7 0 rfl ?_
    refine w_iload_n C (pc := 8) dX3_flight_8 2 rfl ?_
    refine w_iconst C (pc := 9) dX3_flight_9 (v := 0) (by decide) ?_
    obtain ⟨v1, e2, h⟩ := ob h
    refine w_cVi C (pc := 10) dX3_flight_10 my_X3_fact mi_X3_fact ml_X3_56 h_b.1 rfl rfl rfl [.int x2, .int 0] rfl rfl (Nat.le_of_ble_eq_true rfl) (tX3_fact h_b e2) ?_
    refine w_aload_n C (pc := 13) dX3_flight_13 0 rfl ?_
    refine w_iload_n C (pc := 14) dX3_flight_14 1 rfl ?_
    refine w_iconst C (pc := 15) dX3_flight_15 (v := 0) (by decide) ?_
    obtain ⟨v3, e4, h⟩ := ob h
    refine w_cVi C (pc := 16) dX3_flight_16 my_X3_fact mi_X3_fact ml_X3_56 h_b.1 rfl rfl rfl [.int x1, .int 0] rfl rfl (Nat.le_of_ble_eq_true rfl) (tX3_fact h_b e4) ?_
    refine w_isub C (pc := 19) dX3_flight_19 ?_
    refine w_bnd h (fun v5 h => ?_)
    refine w_istore C (pc := 20) dX3_flight_20 (lv' := [(0, .ref (adr Y b)), (1, .int x1), (2, .int x2), (3, .int x3), (4, .int x4), (5, .int v5)]) rfl rfl rfl ?_
    refine w_aload_n C (pc := 22) dX3_flight_22 0 rfl ?_
    refine w_iload_n C (pc := 23) dX3_flight_23 2 rfl ?_
    refine w_iconst C (pc := 24) dX3_flight_24 (v := 1) (by decide) ?_
    obtain ⟨v6, e7, h⟩ := ob h
    refine w_cVi C (pc := 25) dX3_flight_25 my_X3_fact mi_X3_fact ml_X3_56 h_b.1 rfl rfl rfl [.int x2, .int 1] rfl rfl (Nat.le_of_ble_eq_true rfl) (tX3_fact h_b e7) ?_
    refine w_aload_n C (pc := 28) dX3_flight_28 0 rfl ?_
    refine w_iload_n C (pc := 29) dX3_flight_29 1 rfl ?_
    refine w_iconst C (pc := 30) dX3_flight_30 (v := 1) (by decide) ?_
    obtain ⟨v8, e9, h⟩ := ob h
    refine w_cVi C (pc := 31) dX3_flight_31 my_X3_fact mi_X3_fact ml_X3_56 h_b.1 rfl rfl rfl [.int x1, .int 1] rfl rfl (Nat.le_of_ble_eq_true rfl) (tX3_fact h_b e9) ?_
    refine w_isub C (pc := 34) dX3_flight_34 ?_
    refine w_bnd h (fun v10 h => ?_)
    refine w_istore C (pc := 35) dX3_flight_35 (lv' := [(0, .ref (adr Y b)), (1, .int x1), (2, .int x2), (3, .int x3), (4, .int x4), (5, .int v5), (6, .int v10)]) rfl rfl rfl ?_
    refine w_aload_n C (pc := 37) dX3_flight_37 0 rfl ?_
    refine w_iconst C (pc := 38) dX3_flight_38 (v := 1) (by decide) ?_
    obtain ⟨v11, e12, h⟩ := ob h
    refine w_cVi C (pc := 39) dX3_flight_39 my_X3_setting mi_X3_setting ml_X3_60 h_b.1 rfl rfl rfl [.int 1] rfl rfl (Nat.le_of_ble_eq_true rfl) (tX3_setting h_b e12) ?_
    refine w_iload C (pc := 42) dX3_flight_42 5 rfl ?_
    refine w_abs C (pc := 44) dX3_flight_44 mabs_X3_64 rfl (Nat.le_of_ble_eq_true rfl) ?_
    refine w_iload C (pc := 47) dX3_flight_47 6 rfl ?_
    refine w_abs C (pc := 49) dX3_flight_49 mabs_X3_64 rfl (Nat.le_of_ble_eq_true rfl) ?_
    refine w_max C (pc := 52) dX3_flight_52 mmax_X3_69 rfl (Nat.le_of_ble_eq_true rfl) ?_
    refine w_imul C (pc := 55) dX3_flight_55 ?_
    refine w_bnd h (fun v13 h => ?_)
    refine w_istore C (pc := 56) dX3_flight_56 (lv' := [(0, .ref (adr Y b)), (1, .int x1), (2, .int x2), (3, .int x3), (4, .int x4), (5, .int v5), (6, .int v10), (7, .int v13)]) rfl rfl rfl ?_
    refine w_iconst C (pc := 58) dX3_flight_58 (v := 1) (by decide) ?_
    refine w_iload C (pc := 59) dX3_flight_59 7 rfl ?_
    refine w_iload_n C (pc := 61) dX3_flight_61 3 rfl ?_
    refine w_iload C (pc := 62) dX3_flight_62 5 rfl ?_
    refine w_imul C (pc := 64) dX3_flight_64 ?_
    refine w_isub C (pc := 65) dX3_flight_65 ?_
    refine w_iload C (pc := 66) dX3_flight_66 4 rfl ?_
    refine w_iload C (pc := 68) dX3_flight_68 6 rfl ?_
    refine w_imul C (pc := 70) dX3_flight_70 ?_
    refine w_isub C (pc := 71) dX3_flight_71 ?_
    refine w_max C (pc := 72) dX3_flight_72 mmax_X3_69 rfl (Nat.le_of_ble_eq_true rfl) ?_
    exact w_retR C (pc := 75) dX3_flight_75 rfl (Option.some.inj h)
theorem dX3_isCustomer_0 : decode cX3_isCustomer 0 = .ok (.iload_n 1, 1) := by decide +kernel
theorem dX3_isCustomer_1 : decode cX3_isCustomer 1 = .ok (.iconst 1, 1) := by decide +kernel
theorem dX3_isCustomer_2 : decode cX3_isCustomer 2 = .ok (.if_icmp .lt 15, 3) := by decide +kernel
theorem dX3_isCustomer_5 : decode cX3_isCustomer 5 = .ok (.iload_n 1, 1) := by decide +kernel
theorem dX3_isCustomer_6 : decode cX3_isCustomer 6 = .ok (.aload_n 0, 1) := by decide +kernel
theorem dX3_isCustomer_7 : decode cX3_isCustomer 7 = .ok (.getfield 35, 3) := by decide +kernel
theorem dX3_isCustomer_10 : decode cX3_isCustomer 10 = .ok (.if_icmp .gt 7, 3) := by decide +kernel
theorem dX3_isCustomer_13 : decode cX3_isCustomer 13 = .ok (.iconst 1, 1) := by decide +kernel
theorem dX3_isCustomer_14 : decode cX3_isCustomer 14 = .ok (.goto 4, 3) := by decide +kernel
theorem dX3_isCustomer_17 : decode cX3_isCustomer 17 = .ok (.iconst 0, 1) := by decide +kernel
theorem dX3_isCustomer_18 : decode cX3_isCustomer 18 = .ok (.ireturn, 1) := by decide +kernel
def pX3_isCustomer (b : Nat) (x1 : Int32) (M : Mm) : Int32 :=
if x1 < 1 then
(0)
else
(if (M b 0) < x1 then
(0)
else
(1))
abbrev zX3_isCustomer : Zx := (cX3_isCustomer, RX3, 2, 0, (some .boolean))
set_option maxRecDepth 100000 in
set_option maxHeartbeats 4000000 in
theorem tX3_isCustomer {l : Launch} {Y : Sx} {M : Mm} {b : Nat} {x1 : Int32} {q : Int32} (h_b : isLand Y b) (h : pX3_isCustomer b x1 M = q) : Ct l Y yX3_isCustomer cX3_isCustomer 2 (some .boolean) 0 [.ref (adr Y b), .int x1] M (some q) M := by
  refine Ct.of (by decide) rfl (lv := [(0, .ref (adr Y b)), (1, .int x1)]) rfl ?_
  intro K hkl C
  change Cx K zX3_isCustomer Y at C
  subst hkl
  unfold pX3_isCustomer at h
  show Wp K zX3_isCustomer Y (Qm K Y (some q) M) M 0 [(0, .ref (adr Y b)), (1, .int x1)] []
  refine w_iload_n C (pc := 0) dX3_isCustomer_0 1 rfl ?_
  refine w_iconst C (pc := 1) dX3_isCustomer_1 (v := 1) (by decide) ?_
  refine w_iclt C (pc := 2) 17 dX3_isCustomer_2 (by decide) (fun c => ?_) (fun c => ?_)
  · have h := it_t h c
    refine w_iconst C (pc := 17) dX3_isCustomer_17 (v := 0) (by decide) ?_
    exact w_retzR C (pc := 18) dX3_isCustomer_18 rfl (by decide) h
  · have h := it_f h c
    refine w_iload_n C (pc := 5) dX3_isCustomer_5 1 rfl ?_
    refine w_aload_n C (pc := 6) dX3_isCustomer_6 0 rfl ?_
    refine w_getI C (pc := 7) dX3_isCustomer_7 f_X3_35 h_b.1 rfl ?_
    refine w_icgt C (pc := 10) 17 dX3_isCustomer_10 (by decide) (fun c => ?_) (fun c => ?_)
    · have h := it_t h c
      refine w_iconst C (pc := 17) dX3_isCustomer_17 (v := 0) (by decide) ?_
      exact w_retzR C (pc := 18) dX3_isCustomer_18 rfl (by decide) h
    · have h := it_f h c
      refine w_iconst C (pc := 13) dX3_isCustomer_13 (v := 1) (by decide) ?_
      refine w_goto C (pc := 14) 18 dX3_isCustomer_14 (by decide) ?_
      exact w_retzR C (pc := 18) dX3_isCustomer_18 rfl (by decide) h
theorem dX3_isLight_0 : decode cX3_isLight 0 = .ok (.aload_n 0, 1) := by decide +kernel
theorem dX3_isLight_1 : decode cX3_isLight 1 = .ok (.iload_n 1, 1) := by decide +kernel
theorem dX3_isLight_2 : decode cX3_isLight 2 = .ok (.iconst 4, 1) := by decide +kernel
theorem dX3_isLight_3 : decode cX3_isLight 3 = .ok (.invokevirtual 56, 3) := by decide +kernel
theorem dX3_isLight_6 : decode cX3_isLight 6 = .ok (.aload_n 0, 1) := by decide +kernel
theorem dX3_isLight_7 : decode cX3_isLight 7 = .ok (.iconst 4, 1) := by decide +kernel
theorem dX3_isLight_8 : decode cX3_isLight 8 = .ok (.invokevirtual 60, 3) := by decide +kernel
theorem dX3_isLight_11 : decode cX3_isLight 11 = .ok (.if_icmp .gt 7, 3) := by decide +kernel
theorem dX3_isLight_14 : decode cX3_isLight 14 = .ok (.iconst 1, 1) := by decide +kernel
theorem dX3_isLight_15 : decode cX3_isLight 15 = .ok (.goto 4, 3) := by decide +kernel
theorem dX3_isLight_18 : decode cX3_isLight 18 = .ok (.iconst 0, 1) := by decide +kernel
theorem dX3_isLight_19 : decode cX3_isLight 19 = .ok (.ireturn, 1) := by decide +kernel
def pX3_isLight (b : Nat) (x1 : Int32) (M : Mm) : Option (Int32) :=
(pX3_fact b x1 4 M).bind fun v1 =>
(pX3_setting b 4 M).bind fun v3 =>
if v3 < v1 then
(some 0)
else
(some 1)
abbrev zX3_isLight : Zx := (cX3_isLight, RX3, 2, 1, (some .boolean))
set_option maxRecDepth 100000 in
set_option maxHeartbeats 4000000 in
theorem tX3_isLight {l : Launch} {Y : Sx} {M : Mm} {b : Nat} {x1 : Int32} {q : Int32} (h_b : isLand Y b) (h : pX3_isLight b x1 M = some q) : Ct l Y yX3_isLight cX3_isLight 2 (some .boolean) 1 [.ref (adr Y b), .int x1] M (some q) M := by
  refine Ct.of (by decide) rfl (lv := [(0, .ref (adr Y b)), (1, .int x1)]) rfl ?_
  intro K hkl C
  change Cx K zX3_isLight Y at C
  subst hkl
  unfold pX3_isLight at h
  show Wp K zX3_isLight Y (Qm K Y (some q) M) M 0 [(0, .ref (adr Y b)), (1, .int x1)] []
  refine w_aload_n C (pc := 0) dX3_isLight_0 0 rfl ?_
  refine w_iload_n C (pc := 1) dX3_isLight_1 1 rfl ?_
  refine w_iconst C (pc := 2) dX3_isLight_2 (v := 4) (by decide) ?_
  obtain ⟨v1, e2, h⟩ := ob h
  refine w_cVi C (pc := 3) dX3_isLight_3 my_X3_fact mi_X3_fact ml_X3_56 h_b.1 rfl rfl rfl [.int x1, .int 4] rfl rfl (Nat.le_of_ble_eq_true rfl) (tX3_fact h_b e2) ?_
  refine w_aload_n C (pc := 6) dX3_isLight_6 0 rfl ?_
  refine w_iconst C (pc := 7) dX3_isLight_7 (v := 4) (by decide) ?_
  obtain ⟨v3, e4, h⟩ := ob h
  refine w_cVi C (pc := 8) dX3_isLight_8 my_X3_setting mi_X3_setting ml_X3_60 h_b.1 rfl rfl rfl [.int 4] rfl rfl (Nat.le_of_ble_eq_true rfl) (tX3_setting h_b e4) ?_
  refine w_icgt C (pc := 11) 18 dX3_isLight_11 (by decide) (fun c => ?_) (fun c => ?_)
  · have h := it_t h c
    refine w_iconst C (pc := 18) dX3_isLight_18 (v := 0) (by decide) ?_
    exact w_retzR C (pc := 19) dX3_isLight_19 rfl (by decide) (Option.some.inj h)
  · have h := it_f h c
    refine w_iconst C (pc := 14) dX3_isLight_14 (v := 1) (by decide) ?_
    refine w_goto C (pc := 15) 19 dX3_isLight_15 (by decide) ?_
    exact w_retzR C (pc := 19) dX3_isLight_19 rfl (by decide) (Option.some.inj h)
theorem dX3_isPlace_0 : decode cX3_isPlace 0 = .ok (.iload_n 1, 1) := by decide +kernel
theorem dX3_isPlace_1 : decode cX3_isPlace 1 = .ok (.ifCond .lt 15, 3) := by decide +kernel
theorem dX3_isPlace_4 : decode cX3_isPlace 4 = .ok (.iload_n 1, 1) := by decide +kernel
theorem dX3_isPlace_5 : decode cX3_isPlace 5 = .ok (.aload_n 0, 1) := by decide +kernel
theorem dX3_isPlace_6 : decode cX3_isPlace 6 = .ok (.getfield 35, 3) := by decide +kernel
theorem dX3_isPlace_9 : decode cX3_isPlace 9 = .ok (.if_icmp .gt 7, 3) := by decide +kernel
theorem dX3_isPlace_12 : decode cX3_isPlace 12 = .ok (.iconst 1, 1) := by decide +kernel
theorem dX3_isPlace_13 : decode cX3_isPlace 13 = .ok (.goto 4, 3) := by decide +kernel
theorem dX3_isPlace_16 : decode cX3_isPlace 16 = .ok (.iconst 0, 1) := by decide +kernel
theorem dX3_isPlace_17 : decode cX3_isPlace 17 = .ok (.ireturn, 1) := by decide +kernel
def pX3_isPlace (b : Nat) (x1 : Int32) (M : Mm) : Int32 :=
if x1 < 0 then
(0)
else
(if (M b 0) < x1 then
(0)
else
(1))
abbrev zX3_isPlace : Zx := (cX3_isPlace, RX3, 2, 0, (some .boolean))
set_option maxRecDepth 100000 in
set_option maxHeartbeats 4000000 in
theorem tX3_isPlace {l : Launch} {Y : Sx} {M : Mm} {b : Nat} {x1 : Int32} {q : Int32} (h_b : isLand Y b) (h : pX3_isPlace b x1 M = q) : Ct l Y yX3_isPlace cX3_isPlace 2 (some .boolean) 0 [.ref (adr Y b), .int x1] M (some q) M := by
  refine Ct.of (by decide) rfl (lv := [(0, .ref (adr Y b)), (1, .int x1)]) rfl ?_
  intro K hkl C
  change Cx K zX3_isPlace Y at C
  subst hkl
  unfold pX3_isPlace at h
  show Wp K zX3_isPlace Y (Qm K Y (some q) M) M 0 [(0, .ref (adr Y b)), (1, .int x1)] []
  refine w_iload_n C (pc := 0) dX3_isPlace_0 1 rfl ?_
  refine w_iflt C (pc := 1) 16 dX3_isPlace_1 (by decide) (fun c => ?_) (fun c => ?_)
  · have h := it_t h c
    refine w_iconst C (pc := 16) dX3_isPlace_16 (v := 0) (by decide) ?_
    exact w_retzR C (pc := 17) dX3_isPlace_17 rfl (by decide) h
  · have h := it_f h c
    refine w_iload_n C (pc := 4) dX3_isPlace_4 1 rfl ?_
    refine w_aload_n C (pc := 5) dX3_isPlace_5 0 rfl ?_
    refine w_getI C (pc := 6) dX3_isPlace_6 f_X3_35 h_b.1 rfl ?_
    refine w_icgt C (pc := 9) 16 dX3_isPlace_9 (by decide) (fun c => ?_) (fun c => ?_)
    · have h := it_t h c
      refine w_iconst C (pc := 16) dX3_isPlace_16 (v := 0) (by decide) ?_
      exact w_retzR C (pc := 17) dX3_isPlace_17 rfl (by decide) h
    · have h := it_f h c
      refine w_iconst C (pc := 12) dX3_isPlace_12 (v := 1) (by decide) ?_
      refine w_goto C (pc := 13) 17 dX3_isPlace_13 (by decide) ?_
      exact w_retzR C (pc := 17) dX3_isPlace_17 rfl (by decide) h
theorem dX3_mayBeFact_0 : decode cX3_mayBeFact 0 = .ok (.iload_n 0, 1) := by decide +kernel
theorem dX3_mayBeFact_1 : decode cX3_mayBeFact 1 = .ok (.ifCond .lt 25, 3) := by decide +kernel
theorem dX3_mayBeFact_4 : decode cX3_mayBeFact 4 = .ok (.iload_n 0, 1) := by decide +kernel
theorem dX3_mayBeFact_5 : decode cX3_mayBeFact 5 = .ok (.iconst 5, 1) := by decide +kernel
theorem dX3_mayBeFact_6 : decode cX3_mayBeFact 6 = .ok (.if_icmp .ge 20, 3) := by decide +kernel
theorem dX3_mayBeFact_9 : decode cX3_mayBeFact 9 = .ok (.iload_n 1, 1) := by decide +kernel
theorem dX3_mayBeFact_10 : decode cX3_mayBeFact 10 = .ok (.ifCond .lt 16, 3) := by decide +kernel
theorem dX3_mayBeFact_13 : decode cX3_mayBeFact 13 = .ok (.iload_n 1, 1) := by decide +kernel
theorem dX3_mayBeFact_14 : decode cX3_mayBeFact 14 = .ok (.getstatic 26, 3) := by decide +kernel
theorem dX3_mayBeFact_17 : decode cX3_mayBeFact 17 = .ok (.iload_n 0, 1) := by decide +kernel
theorem dX3_mayBeFact_18 : decode cX3_mayBeFact 18 = .ok (.iaload, 1) := by decide +kernel
theorem dX3_mayBeFact_19 : decode cX3_mayBeFact 19 = .ok (.if_icmp .gt 7, 3) := by decide +kernel
theorem dX3_mayBeFact_22 : decode cX3_mayBeFact 22 = .ok (.iconst 1, 1) := by decide +kernel
theorem dX3_mayBeFact_23 : decode cX3_mayBeFact 23 = .ok (.goto 4, 3) := by decide +kernel
theorem dX3_mayBeFact_26 : decode cX3_mayBeFact 26 = .ok (.iconst 0, 1) := by decide +kernel
theorem dX3_mayBeFact_27 : decode cX3_mayBeFact 27 = .ok (.ireturn, 1) := by decide +kernel
def pX3_mayBeFact (x0 : Int32) (x1 : Int32) (M : Mm) : Option (Int32) :=
if x0 < 0 then
(some 0)
else
(if 5 ≤ x0 then
(some 0)
else
(if x1 < 0 then
(some 0)
else
((sld stL0 x0).bind fun v1 =>
if v1 < x1 then
(some 0)
else
(some 1))))
abbrev zX3_mayBeFact : Zx := (cX3_mayBeFact, RX3, 2, 0, (some .boolean))
set_option maxRecDepth 100000 in
set_option maxHeartbeats 4000000 in
theorem tX3_mayBeFact {l : Launch} {Y : Sx} {M : Mm} {x0 : Int32} {x1 : Int32} {q : Int32} (h : pX3_mayBeFact x0 x1 M = some q) : Ct l Y yX3_mayBeFact cX3_mayBeFact 2 (some .boolean) 0 [.int x0, .int x1] M (some q) M := by
  refine Ct.of (by decide) rfl (lv := [(0, .int x0), (1, .int x1)]) rfl ?_
  intro K hkl C
  change Cx K zX3_mayBeFact Y at C
  subst hkl
  unfold pX3_mayBeFact at h
  show Wp K zX3_mayBeFact Y (Qm K Y (some q) M) M 0 [(0, .int x0), (1, .int x1)] []
  refine w_iload_n C (pc := 0) dX3_mayBeFact_0 0 rfl ?_
  refine w_iflt C (pc := 1) 26 dX3_mayBeFact_1 (by decide) (fun c => ?_) (fun c => ?_)
  · have h := it_t h c
    refine w_iconst C (pc := 26) dX3_mayBeFact_26 (v := 0) (by decide) ?_
    exact w_retzR C (pc := 27) dX3_mayBeFact_27 rfl (by decide) (Option.some.inj h)
  · have h := it_f h c
    refine w_iload_n C (pc := 4) dX3_mayBeFact_4 0 rfl ?_
    refine w_iconst C (pc := 5) dX3_mayBeFact_5 (v := 5) (by decide) ?_
    refine w_icge C (pc := 6) 26 dX3_mayBeFact_6 (by decide) (fun c => ?_) (fun c => ?_)
    · have h := it_t h c
      refine w_iconst C (pc := 26) dX3_mayBeFact_26 (v := 0) (by decide) ?_
      exact w_retzR C (pc := 27) dX3_mayBeFact_27 rfl (by decide) (Option.some.inj h)
    · have h := it_f h c
      refine w_iload_n C (pc := 9) dX3_mayBeFact_9 1 rfl ?_
      refine w_iflt C (pc := 10) 26 dX3_mayBeFact_10 (by decide) (fun c => ?_) (fun c => ?_)
      · have h := it_t h c
        refine w_iconst C (pc := 26) dX3_mayBeFact_26 (v := 0) (by decide) ?_
        exact w_retzR C (pc := 27) dX3_mayBeFact_27 rfl (by decide) (Option.some.inj h)
      · have h := it_f h c
        refine w_iload_n C (pc := 13) dX3_mayBeFact_13 1 rfl ?_
        refine w_gets C (pc := 14) dX3_mayBeFact_14 g_X3_26 ?_
        refine w_iload_n C (pc := 17) dX3_mayBeFact_17 0 rfl ?_
        obtain ⟨v1, e2, h⟩ := ob h
        refine w_sald C (pc := 18) dX3_mayBeFact_18 (l := stL0) rfl rfl e2 ?_
        refine w_icgt C (pc := 19) 26 dX3_mayBeFact_19 (by decide) (fun c => ?_) (fun c => ?_)
        · have h := it_t h c
          refine w_iconst C (pc := 26) dX3_mayBeFact_26 (v := 0) (by decide) ?_
          exact w_retzR C (pc := 27) dX3_mayBeFact_27 rfl (by decide) (Option.some.inj h)
        · have h := it_f h c
          refine w_iconst C (pc := 22) dX3_mayBeFact_22 (v := 1) (by decide) ?_
          refine w_goto C (pc := 23) 27 dX3_mayBeFact_23 (by decide) ?_
          exact w_retzR C (pc := 27) dX3_mayBeFact_27 rfl (by decide) (Option.some.inj h)
theorem dX3_mayBeSetting_0 : decode cX3_mayBeSetting 0 = .ok (.iload_n 0, 1) := by decide +kernel
theorem dX3_mayBeSetting_1 : decode cX3_mayBeSetting 1 = .ok (.ifCond .lt 31, 3) := by decide +kernel
theorem dX3_mayBeSetting_4 : decode cX3_mayBeSetting 4 = .ok (.iload_n 0, 1) := by decide +kernel
theorem dX3_mayBeSetting_5 : decode cX3_mayBeSetting 5 = .ok (.bipush 10, 2) := by decide +kernel
theorem dX3_mayBeSetting_7 : decode cX3_mayBeSetting 7 = .ok (.if_icmp .ge 25, 3) := by decide +kernel
theorem dX3_mayBeSetting_10 : decode cX3_mayBeSetting 10 = .ok (.iload_n 1, 1) := by decide +kernel
theorem dX3_mayBeSetting_11 : decode cX3_mayBeSetting 11 = .ok (.getstatic 29, 3) := by decide +kernel
theorem dX3_mayBeSetting_14 : decode cX3_mayBeSetting 14 = .ok (.iload_n 0, 1) := by decide +kernel
theorem dX3_mayBeSetting_15 : decode cX3_mayBeSetting 15 = .ok (.iaload, 1) := by decide +kernel
theorem dX3_mayBeSetting_16 : decode cX3_mayBeSetting 16 = .ok (.if_icmp .lt 16, 3) := by decide +kernel
theorem dX3_mayBeSetting_19 : decode cX3_mayBeSetting 19 = .ok (.iload_n 1, 1) := by decide +kernel
theorem dX3_mayBeSetting_20 : decode cX3_mayBeSetting 20 = .ok (.getstatic 32, 3) := by decide +kernel
theorem dX3_mayBeSetting_23 : decode cX3_mayBeSetting 23 = .ok (.iload_n 0, 1) := by decide +kernel
theorem dX3_mayBeSetting_24 : decode cX3_mayBeSetting 24 = .ok (.iaload, 1) := by decide +kernel
theorem dX3_mayBeSetting_25 : decode cX3_mayBeSetting 25 = .ok (.if_icmp .gt 7, 3) := by decide +kernel
theorem dX3_mayBeSetting_28 : decode cX3_mayBeSetting 28 = .ok (.iconst 1, 1) := by decide +kernel
theorem dX3_mayBeSetting_29 : decode cX3_mayBeSetting 29 = .ok (.goto 4, 3) := by decide +kernel
theorem dX3_mayBeSetting_32 : decode cX3_mayBeSetting 32 = .ok (.iconst 0, 1) := by decide +kernel
theorem dX3_mayBeSetting_33 : decode cX3_mayBeSetting 33 = .ok (.ireturn, 1) := by decide +kernel
def pX3_mayBeSetting (x0 : Int32) (x1 : Int32) (M : Mm) : Option (Int32) :=
if x0 < 0 then
(some 0)
else
(if 10 ≤ x0 then
(some 0)
else
((sld stL1 x0).bind fun v1 =>
if x1 < v1 then
(some 0)
else
((sld stL2 x0).bind fun v3 =>
if v3 < x1 then
(some 0)
else
(some 1))))
abbrev zX3_mayBeSetting : Zx := (cX3_mayBeSetting, RX3, 2, 0, (some .boolean))
set_option maxRecDepth 100000 in
set_option maxHeartbeats 4000000 in
theorem tX3_mayBeSetting {l : Launch} {Y : Sx} {M : Mm} {x0 : Int32} {x1 : Int32} {q : Int32} (h : pX3_mayBeSetting x0 x1 M = some q) : Ct l Y yX3_mayBeSetting cX3_mayBeSetting 2 (some .boolean) 0 [.int x0, .int x1] M (some q) M := by
  refine Ct.of (by decide) rfl (lv := [(0, .int x0), (1, .int x1)]) rfl ?_
  intro K hkl C
  change Cx K zX3_mayBeSetting Y at C
  subst hkl
  unfold pX3_mayBeSetting at h
  show Wp K zX3_mayBeSetting Y (Qm K Y (some q) M) M 0 [(0, .int x0), (1, .int x1)] []
  refine w_iload_n C (pc := 0) dX3_mayBeSetting_0 0 rfl ?_
  refine w_iflt C (pc := 1) 32 dX3_mayBeSetting_1 (by decide) (fun c => ?_) (fun c => ?_)
  · have h := it_t h c
    refine w_iconst C (pc := 32) dX3_mayBeSetting_32 (v := 0) (by decide) ?_
    exact w_retzR C (pc := 33) dX3_mayBeSetting_33 rfl (by decide) (Option.some.inj h)
  · have h := it_f h c
    refine w_iload_n C (pc := 4) dX3_mayBeSetting_4 0 rfl ?_
    refine w_bipush C (pc := 5) dX3_mayBeSetting_5 (v := 10) (by decide) ?_
    refine w_icge C (pc := 7) 32 dX3_mayBeSetting_7 (by decide) (fun c => ?_) (fun c => ?_)
    · have h := it_t h c
      refine w_iconst C (pc := 32) dX3_mayBeSetting_32 (v := 0) (by decide) ?_
      exact w_retzR C (pc := 33) dX3_mayBeSetting_33 rfl (by decide) (Option.some.inj h)
    · have h := it_f h c
      refine w_iload_n C (pc := 10) dX3_mayBeSetting_10 1 rfl ?_
      refine w_gets C (pc := 11) dX3_mayBeSetting_11 g_X3_29 ?_
      refine w_iload_n C (pc := 14) dX3_mayBeSetting_14 0 rfl ?_
      obtain ⟨v1, e2, h⟩ := ob h
      refine w_sald C (pc := 15) dX3_mayBeSetting_15 (l := stL1) rfl rfl e2 ?_
      refine w_iclt C (pc := 16) 32 dX3_mayBeSetting_16 (by decide) (fun c => ?_) (fun c => ?_)
      · have h := it_t h c
        refine w_iconst C (pc := 32) dX3_mayBeSetting_32 (v := 0) (by decide) ?_
        exact w_retzR C (pc := 33) dX3_mayBeSetting_33 rfl (by decide) (Option.some.inj h)
      · have h := it_f h c
        refine w_iload_n C (pc := 19) dX3_mayBeSetting_19 1 rfl ?_
        refine w_gets C (pc := 20) dX3_mayBeSetting_20 g_X3_32 ?_
        refine w_iload_n C (pc := 23) dX3_mayBeSetting_23 0 rfl ?_
        obtain ⟨v3, e4, h⟩ := ob h
        refine w_sald C (pc := 24) dX3_mayBeSetting_24 (l := stL2) rfl rfl e4 ?_
        refine w_icgt C (pc := 25) 32 dX3_mayBeSetting_25 (by decide) (fun c => ?_) (fun c => ?_)
        · have h := it_t h c
          refine w_iconst C (pc := 32) dX3_mayBeSetting_32 (v := 0) (by decide) ?_
          exact w_retzR C (pc := 33) dX3_mayBeSetting_33 rfl (by decide) (Option.some.inj h)
        · have h := it_f h c
          refine w_iconst C (pc := 28) dX3_mayBeSetting_28 (v := 1) (by decide) ?_
          refine w_goto C (pc := 29) 33 dX3_mayBeSetting_29 (by decide) ?_
          exact w_retzR C (pc := 33) dX3_mayBeSetting_33 rfl (by decide) (Option.some.inj h)
theorem dX3_putFact_0 : decode cX3_putFact 0 = .ok (.aload_n 0, 1) := by decide +kernel
theorem dX3_putFact_1 : decode cX3_putFact 1 = .ok (.iload_n 1, 1) := by decide +kernel
theorem dX3_putFact_2 : decode cX3_putFact 2 = .ok (.invokevirtual 45, 3) := by decide +kernel
theorem dX3_putFact_5 : decode cX3_putFact 5 = .ok (.ifCond .eq 22, 3) := by decide +kernel
theorem dX3_putFact_8 : decode cX3_putFact 8 = .ok (.iload_n 2, 1) := by decide +kernel
theorem dX3_putFact_9 : decode cX3_putFact 9 = .ok (.iload_n 3, 1) := by decide +kernel
theorem dX3_putFact_10 : decode cX3_putFact 10 = .ok (.invokestatic 49, 3) := by decide +kernel
theorem dX3_putFact_13 : decode cX3_putFact 13 = .ok (.ifCond .eq 14, 3) := by decide +kernel
theorem dX3_putFact_16 : decode cX3_putFact 16 = .ok (.aload_n 0, 1) := by decide +kernel
theorem dX3_putFact_17 : decode cX3_putFact 17 = .ok (.getfield 9, 3) := by decide +kernel
theorem dX3_putFact_20 : decode cX3_putFact 20 = .ok (.iload_n 1, 1) := by decide +kernel
theorem dX3_putFact_21 : decode cX3_putFact 21 = .ok (.iconst 5, 1) := by decide +kernel
theorem dX3_putFact_22 : decode cX3_putFact 22 = .ok (.imul, 1) := by decide +kernel
theorem dX3_putFact_23 : decode cX3_putFact 23 = .ok (.iload_n 2, 1) := by decide +kernel
theorem dX3_putFact_24 : decode cX3_putFact 24 = .ok (.iadd, 1) := by decide +kernel
theorem dX3_putFact_25 : decode cX3_putFact 25 = .ok (.iload_n 3, 1) := by decide +kernel
theorem dX3_putFact_26 : decode cX3_putFact 26 = .ok (.iastore, 1) := by decide +kernel
theorem dX3_putFact_27 : decode cX3_putFact 27 = .ok (.return_, 1) := by decide +kernel
def pX3_putFact (b : Nat) (x1 : Int32) (x2 : Int32) (x3 : Int32) (M : Mm) : Option (Mm) :=
if (pX3_isPlace b x1 M) = 0 then
(some M)
else
((pX3_mayBeFact x2 x3 M).bind fun v1 =>
if v1 = 0 then
(some M)
else
((ast M (b + 1) 45 ((x1 * 5) + x2) x3).bind fun M3 =>
some M3))
abbrev zX3_putFact : Zx := (cX3_putFact, RX3, 4, 1, none)
set_option maxRecDepth 100000 in
set_option maxHeartbeats 4000000 in
theorem tX3_putFact {l : Launch} {Y : Sx} {M : Mm} {b : Nat} {x1 : Int32} {x2 : Int32} {x3 : Int32} {q : Mm} (h_b : isLand Y b) (h : pX3_putFact b x1 x2 x3 M = some q) : Ct l Y yX3_putFact cX3_putFact 4 none 1 [.ref (adr Y b), .int x1, .int x2, .int x3] M none q := by
  refine Ct.of (by decide) rfl (lv := [(0, .ref (adr Y b)), (1, .int x1), (2, .int x2), (3, .int x3)]) rfl ?_
  intro K hkl C
  change Cx K zX3_putFact Y at C
  subst hkl
  unfold pX3_putFact at h
  show Wp K zX3_putFact Y (Qm K Y none q) M 0 [(0, .ref (adr Y b)), (1, .int x1), (2, .int x2), (3, .int x3)] []
  refine w_aload_n C (pc := 0) dX3_putFact_0 0 rfl ?_
  refine w_iload_n C (pc := 1) dX3_putFact_1 1 rfl ?_
  refine w_cVi C (pc := 2) dX3_putFact_2 my_X3_isPlace mi_X3_isPlace ml_X3_45 h_b.1 rfl rfl rfl [.int x1] rfl rfl (Nat.le_of_ble_eq_true rfl) (tX3_isPlace h_b rfl) ?_
  refine w_ifeq C (pc := 5) 27 dX3_putFact_5 (by decide) (fun c => ?_) (fun c => ?_)
  · have h := it_t h c
    exact w_retV C (pc := 27) dX3_putFact_27 rfl (Option.some.inj h)
  · have h := it_f h c
    refine w_iload_n C (pc := 8) dX3_putFact_8 2 rfl ?_
    refine w_iload_n C (pc := 9) dX3_putFact_9 3 rfl ?_
    obtain ⟨v1, e2, h⟩ := ob h
    refine w_cSi C (pc := 10) dX3_putFact_10 my_X3_mayBeFact ms_X3_mayBeFact ml_X3_49 rfl rfl [.int x2, .int x3] rfl rfl (Nat.le_of_ble_eq_true rfl) (tX3_mayBeFact  e2) ?_
    refine w_ifeq C (pc := 13) 27 dX3_putFact_13 (by decide) (fun c => ?_) (fun c => ?_)
    · have h := it_t h c
      exact w_retV C (pc := 27) dX3_putFact_27 rfl (Option.some.inj h)
    · have h := it_f h c
      refine w_aload_n C (pc := 16) dX3_putFact_16 0 rfl ?_
      refine w_getR C (pc := 17) dX3_putFact_17 f_X3_9 h_b.1 rfl ?_
      refine w_iload_n C (pc := 20) dX3_putFact_20 1 rfl ?_
      refine w_iconst C (pc := 21) dX3_putFact_21 (v := 5) (by decide) ?_
      refine w_imul C (pc := 22) dX3_putFact_22 ?_
      refine w_iload_n C (pc := 23) dX3_putFact_23 2 rfl ?_
      refine w_iadd C (pc := 24) dX3_putFact_24 ?_
      refine w_iload_n C (pc := 25) dX3_putFact_25 3 rfl ?_
      obtain ⟨M3, e4, h⟩ := ob h
      refine w_iast C (pc := 26) dX3_putFact_26 h_b.2.1 e4 ?_
      exact w_retV C (pc := 27) dX3_putFact_27 rfl (Option.some.inj h)
theorem dX3_putSetting_0 : decode cX3_putSetting 0 = .ok (.iload_n 1, 1) := by decide +kernel
theorem dX3_putSetting_1 : decode cX3_putSetting 1 = .ok (.iload_n 2, 1) := by decide +kernel
theorem dX3_putSetting_2 : decode cX3_putSetting 2 = .ok (.invokestatic 53, 3) := by decide +kernel
theorem dX3_putSetting_5 : decode cX3_putSetting 5 = .ok (.ifCond .eq 10, 3) := by decide +kernel
theorem dX3_putSetting_8 : decode cX3_putSetting 8 = .ok (.aload_n 0, 1) := by decide +kernel
theorem dX3_putSetting_9 : decode cX3_putSetting 9 = .ok (.getfield 23, 3) := by decide +kernel
theorem dX3_putSetting_12 : decode cX3_putSetting 12 = .ok (.iload_n 1, 1) := by decide +kernel
theorem dX3_putSetting_13 : decode cX3_putSetting 13 = .ok (.iload_n 2, 1) := by decide +kernel
theorem dX3_putSetting_14 : decode cX3_putSetting 14 = .ok (.iastore, 1) := by decide +kernel
theorem dX3_putSetting_15 : decode cX3_putSetting 15 = .ok (.return_, 1) := by decide +kernel
def pX3_putSetting (b : Nat) (x1 : Int32) (x2 : Int32) (M : Mm) : Option (Mm) :=
(pX3_mayBeSetting x1 x2 M).bind fun v1 =>
if v1 = 0 then
(some M)
else
((ast M (b + 2) 10 x1 x2).bind fun M3 =>
some M3)
abbrev zX3_putSetting : Zx := (cX3_putSetting, RX3, 3, 1, none)
set_option maxRecDepth 100000 in
set_option maxHeartbeats 4000000 in
theorem tX3_putSetting {l : Launch} {Y : Sx} {M : Mm} {b : Nat} {x1 : Int32} {x2 : Int32} {q : Mm} (h_b : isLand Y b) (h : pX3_putSetting b x1 x2 M = some q) : Ct l Y yX3_putSetting cX3_putSetting 3 none 1 [.ref (adr Y b), .int x1, .int x2] M none q := by
  refine Ct.of (by decide) rfl (lv := [(0, .ref (adr Y b)), (1, .int x1), (2, .int x2)]) rfl ?_
  intro K hkl C
  change Cx K zX3_putSetting Y at C
  subst hkl
  unfold pX3_putSetting at h
  show Wp K zX3_putSetting Y (Qm K Y none q) M 0 [(0, .ref (adr Y b)), (1, .int x1), (2, .int x2)] []
  refine w_iload_n C (pc := 0) dX3_putSetting_0 1 rfl ?_
  refine w_iload_n C (pc := 1) dX3_putSetting_1 2 rfl ?_
  obtain ⟨v1, e2, h⟩ := ob h
  refine w_cSi C (pc := 2) dX3_putSetting_2 my_X3_mayBeSetting ms_X3_mayBeSetting ml_X3_53 rfl rfl [.int x1, .int x2] rfl rfl (Nat.le_of_ble_eq_true rfl) (tX3_mayBeSetting  e2) ?_
  refine w_ifeq C (pc := 5) 15 dX3_putSetting_5 (by decide) (fun c => ?_) (fun c => ?_)
  · have h := it_t h c
    exact w_retV C (pc := 15) dX3_putSetting_15 rfl (Option.some.inj h)
  · have h := it_f h c
    refine w_aload_n C (pc := 8) dX3_putSetting_8 0 rfl ?_
    refine w_getR C (pc := 9) dX3_putSetting_9 f_X3_23 h_b.1 rfl ?_
    refine w_iload_n C (pc := 12) dX3_putSetting_12 1 rfl ?_
    refine w_iload_n C (pc := 13) dX3_putSetting_13 2 rfl ?_
    obtain ⟨M3, e4, h⟩ := ob h
    refine w_iast C (pc := 14) dX3_putSetting_14 h_b.2.2 e4 ?_
    exact w_retV C (pc := 15) dX3_putSetting_15 rfl (Option.some.inj h)
