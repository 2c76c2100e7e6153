theorem dX8_searchAlone_0 : decode cX8_searchAlone 0 = .ok (.aload_n 0, 1) := by decide +kernel
theorem dX8_searchAlone_1 : decode cX8_searchAlone 1 = .ok (.getfield 64, 3) := by decide +kernel
theorem dX8_searchAlone_4 : decode cX8_searchAlone 4 = .ok (.getfield 236, 3) := by decide +kernel
theorem dX8_searchAlone_7 : decode cX8_searchAlone 7 = .ok (.ifCond .ne 38, 3) := by decide +kernel
theorem dX8_searchAlone_10 : decode cX8_searchAlone 10 = .ok (.aload_n 0, 1) := by decide +kernel
theorem dX8_searchAlone_11 : decode cX8_searchAlone 11 = .ok (.getfield 37, 3) := by decide +kernel
theorem dX8_searchAlone_14 : decode cX8_searchAlone 14 = .ok (.iconst 0, 1) := by decide +kernel
theorem dX8_searchAlone_15 : decode cX8_searchAlone 15 = .ok (.aload_n 0, 1) := by decide +kernel
theorem dX8_searchAlone_16 : decode cX8_searchAlone 16 = .ok (.getfield 10, 3) := by decide +kernel
theorem dX8_searchAlone_19 : decode cX8_searchAlone 19 = .ok (.iconst 2, 1) := by decide +kernel
theorem dX8_searchAlone_20 : decode cX8_searchAlone 20 = .ok (.invokevirtual 113, 3) := by decide +kernel
theorem dX8_searchAlone_23 : decode cX8_searchAlone 23 = .ok (.aload_n 0, 1) := by decide +kernel
theorem dX8_searchAlone_24 : decode cX8_searchAlone 24 = .ok (.getfield 10, 3) := by decide +kernel
theorem dX8_searchAlone_27 : decode cX8_searchAlone 27 = .ok (.iconst 3, 1) := by decide +kernel
theorem dX8_searchAlone_28 : decode cX8_searchAlone 28 = .ok (.invokevirtual 113, 3) := by decide +kernel
theorem dX8_searchAlone_31 : decode cX8_searchAlone 31 = .ok (.invokevirtual 230, 3) := by decide +kernel
theorem dX8_searchAlone_34 : decode cX8_searchAlone 34 = .ok (.aload_n 0, 1) := by decide +kernel
theorem dX8_searchAlone_35 : decode cX8_searchAlone 35 = .ok (.getfield 37, 3) := by decide +kernel
theorem dX8_searchAlone_38 : decode cX8_searchAlone 38 = .ok (.aload_n 0, 1) := by decide +kernel
theorem dX8_searchAlone_39 : decode cX8_searchAlone 39 = .ok (.getfield 64, 3) := by decide +kernel
theorem dX8_searchAlone_42 : decode cX8_searchAlone 42 = .ok (.invokevirtual 240, 3) := by decide +kernel
theorem dX8_searchAlone_45 : decode cX8_searchAlone 45 = .ok (.return_, 1) := by decide +kernel
def pX8_searchAlone (M : Mm) : Option (Mm) :=
if (M 40 0) = 0 then
((pX3_setting 1 2 M).bind fun v1 =>
(pX3_setting 1 3 M).bind fun v3 =>
(pX5_prepare 0 v1 v3 M).bind fun v5 =>
(pX5_search 40 v5).bind fun v7 =>
some v7)
else
(some M)
abbrev zX8_searchAlone : Zx := (cX8_searchAlone, RX8, 1, 6, none)
set_option maxRecDepth 100000 in
set_option maxHeartbeats 4000000 in
theorem tX8_searchAlone {l : Launch} {Y : Sx} {M : Mm} {q : Mm} (hY : isA Y) (h : pX8_searchAlone M = some q) : Ct l Y yX8_searchAlone cX8_searchAlone 1 none 6 [.ref (adr Y 0)] M none q := by
  refine Ct.of (by decide) rfl (lv := [(0, .ref (adr Y 0))]) rfl ?_
  intro K hkl C
  change Cx K zX8_searchAlone Y at C
  subst hkl
  unfold pX8_searchAlone at h
  show Wp K zX8_searchAlone Y (Qm K Y none q) M 0 [(0, .ref (adr Y 0))] []
  refine w_aload_n C (pc := 0) dX8_searchAlone_0 0 rfl ?_
  refine w_getR C (pc := 1) dX8_searchAlone_1 f_X8_64 (sA_0 hY) rfl ?_
  refine w_getI C (pc := 4) dX8_searchAlone_4 f_X8_236 (sA_40 hY) rfl ?_
  refine w_ifne C (pc := 7) 45 dX8_searchAlone_7 (by decide) (fun c => ?_) (fun c => ?_)
  · have h := it_t h c
    refine w_aload_n C (pc := 10) dX8_searchAlone_10 0 rfl ?_
    refine w_getR C (pc := 11) dX8_searchAlone_11 f_X8_37 (sA_0 hY) rfl ?_
    refine w_iconst C (pc := 14) dX8_searchAlone_14 (v := 0) (by decide) ?_
    refine w_aload_n C (pc := 15) dX8_searchAlone_15 0 rfl ?_
    refine w_getR C (pc := 16) dX8_searchAlone_16 f_X8_10 (sA_0 hY) rfl ?_
    refine w_iconst C (pc := 19) dX8_searchAlone_19 (v := 2) (by decide) ?_
    obtain ⟨v1, e2, h⟩ := ob h
    refine w_cVi C (pc := 20) dX8_searchAlone_20 my_X3_setting mi_X3_setting ml_X8_113 (sA_1 hY) rfl rfl rfl [.int 2] rfl rfl (Nat.le_of_ble_eq_true rfl) (tX3_setting (kLand_1 hY) e2) ?_
    refine w_aload_n C (pc := 23) dX8_searchAlone_23 0 rfl ?_
    refine w_getR C (pc := 24) dX8_searchAlone_24 f_X8_10 (sA_0 hY) rfl ?_
    refine w_iconst C (pc := 27) dX8_searchAlone_27 (v := 3) (by decide) ?_
    obtain ⟨v3, e4, h⟩ := ob h
    refine w_cVi C (pc := 28) dX8_searchAlone_28 my_X3_setting mi_X3_setting ml_X8_113 (sA_1 hY) rfl rfl rfl [.int 3] rfl rfl (Nat.le_of_ble_eq_true rfl) (tX3_setting (kLand_1 hY) e4) ?_
    obtain ⟨v5, e6, h⟩ := ob h
    refine w_cVv C (pc := 31) dX8_searchAlone_31 my_X5_prepare mi_X5_prepare ml_X8_230 (sA_17 hY) rfl rfl rfl [.int 0, .int v1, .int v3] rfl rfl (Nat.le_of_ble_eq_true rfl) (tX5_prepare hY  e6) ?_
    refine w_aload_n C (pc := 34) dX8_searchAlone_34 0 rfl ?_
    refine w_getR C (pc := 35) dX8_searchAlone_35 f_X8_37 (sA_0 hY) rfl ?_
    refine w_aload_n C (pc := 38) dX8_searchAlone_38 0 rfl ?_
    refine w_getR C (pc := 39) dX8_searchAlone_39 f_X8_64 (sA_0 hY) rfl ?_
    obtain ⟨v7, e8, h⟩ := ob h
    refine w_cVv C (pc := 42) dX8_searchAlone_42 my_X5_search mi_X5_search ml_X8_240 (sA_17 hY) rfl rfl rfl [.ref (adr Y 40)] rfl rfl (Nat.le_of_ble_eq_true rfl) (tX5_search hY (kFound_40 hY) e8) ?_
    exact w_retV C (pc := 45) dX8_searchAlone_45 rfl (Option.some.inj h)
  · have h := it_f h c
    exact w_retV C (pc := 45) dX8_searchAlone_45 rfl (Option.some.inj h)
theorem dX8_alone_0 : decode cX8_alone 0 = .ok (.aload_n 0, 1) := by decide +kernel
theorem dX8_alone_1 : decode cX8_alone 1 = .ok (.getfield 10, 3) := by decide +kernel
theorem dX8_alone_4 : decode cX8_alone 4 = .ok (.getfield 97, 3) := by decide +kernel
theorem dX8_alone_7 : decode cX8_alone 7 = .ok (.bipush 7, 2) := by decide +kernel
theorem dX8_alone_9 : decode cX8_alone 9 = .ok (.if_icmp .gt 12, 3) := by decide +kernel
theorem dX8_alone_12 : decode cX8_alone 12 = .ok (.iload_n 1, 1) := by decide +kernel
theorem dX8_alone_13 : decode cX8_alone 13 = .ok (.ifCond .lt 8, 3) := by decide +kernel
theorem dX8_alone_16 : decode cX8_alone 16 = .ok (.iload_n 1, 1) := by decide +kernel
theorem dX8_alone_17 : decode cX8_alone 17 = .ok (.iconst 1, 1) := by decide +kernel
theorem dX8_alone_18 : decode cX8_alone 18 = .ok (.if_icmp .le 5, 3) := by decide +kernel
theorem dX8_alone_21 : decode cX8_alone 21 = .ok (.iconst (-1), 1) := by decide +kernel
theorem dX8_alone_22 : decode cX8_alone 22 = .ok (.ireturn, 1) := by decide +kernel
theorem dX8_alone_23 : decode cX8_alone 23 = .ok (.aload_n 0, 1) := by decide +kernel
theorem dX8_alone_24 : decode cX8_alone 24 = .ok (.invokevirtual 221, 3) := by decide +kernel
theorem dX8_alone_27 : decode cX8_alone 27 = .ok (.iload_n 1, 1) := by decide +kernel
theorem dX8_alone_28 : decode cX8_alone 28 = .ok (.ifCond .ne 13, 3) := by decide +kernel
theorem dX8_alone_31 : decode cX8_alone 31 = .ok (.aload_n 0, 1) := by decide +kernel
theorem dX8_alone_32 : decode cX8_alone 32 = .ok (.getfield 64, 3) := by decide +kernel
theorem dX8_alone_35 : decode cX8_alone 35 = .ok (.getfield 215, 3) := by decide +kernel
theorem dX8_alone_38 : decode cX8_alone 38 = .ok (.goto 10, 3) := by decide +kernel
theorem dX8_alone_41 : decode cX8_alone 41 = .ok (.aload_n 0, 1) := by decide +kernel
theorem dX8_alone_42 : decode cX8_alone 42 = .ok (.getfield 64, 3) := by decide +kernel
theorem dX8_alone_45 : decode cX8_alone 45 = .ok (.getfield 218, 3) := by decide +kernel
theorem dX8_alone_48 : decode cX8_alone 48 = .ok (.ireturn, 1) := by decide +kernel
def pX8_alone (x1 : Int32) (M : Mm) : Option (Int32 × Mm) :=
if 7 < (M 1 0) then
(some ((-1), M))
else
(if x1 < 0 then
(some ((-1), M))
else
(if x1 ≤ 1 then
((pX8_searchAlone M).bind fun v1 =>
if x1 = 0 then
(some (v1 40 1, v1))
else
(some (v1 40 2, v1)))
else
(some ((-1), M))))
abbrev zX8_alone : Zx := (cX8_alone, RX8, 2, 7, (some .int))
set_option maxRecDepth 100000 in
set_option maxHeartbeats 4000000 in
theorem tX8_alone {l : Launch} {Y : Sx} {M : Mm} {x1 : Int32} {q : Int32 × Mm} (hY : isA Y) (h : pX8_alone x1 M = some q) : Ct l Y yX8_alone cX8_alone 2 (some .int) 7 [.ref (adr Y 0), .int x1] M (some q.1) q.2 := by
  refine Ct.of (by decide) rfl (lv := [(0, .ref (adr Y 0)), (1, .int x1)]) rfl ?_
  intro K hkl C
  change Cx K zX8_alone Y at C
  subst hkl
  unfold pX8_alone at h
  show Wp K zX8_alone Y (Qm K Y (some q.1) q.2) M 0 [(0, .ref (adr Y 0)), (1, .int x1)] []
  refine w_aload_n C (pc := 0) dX8_alone_0 0 rfl ?_
  refine w_getR C (pc := 1) dX8_alone_1 f_X8_10 (sA_0 hY) rfl ?_
  refine w_getI C (pc := 4) dX8_alone_4 f_X8_97 (sA_1 hY) rfl ?_
  refine w_bipush C (pc := 7) dX8_alone_7 (v := 7) (by decide) ?_
  refine w_icgt C (pc := 9) 21 dX8_alone_9 (by decide) (fun c => ?_) (fun c => ?_)
  · have h := it_t h c
    refine w_iconst C (pc := 21) dX8_alone_21 (v := (-1)) (by decide) ?_
    exact w_ret C (pc := 22) dX8_alone_22 rfl (Option.some.inj h)
  · have h := it_f h c
    refine w_iload_n C (pc := 12) dX8_alone_12 1 rfl ?_
    refine w_iflt C (pc := 13) 21 dX8_alone_13 (by decide) (fun c => ?_) (fun c => ?_)
    · have h := it_t h c
      refine w_iconst C (pc := 21) dX8_alone_21 (v := (-1)) (by decide) ?_
      exact w_ret C (pc := 22) dX8_alone_22 rfl (Option.some.inj h)
    · have h := it_f h c
      refine w_iload_n C (pc := 16) dX8_alone_16 1 rfl ?_
      refine w_iconst C (pc := 17) dX8_alone_17 (v := 1) (by decide) ?_
      refine w_icle C (pc := 18) 23 dX8_alone_18 (by decide) (fun c => ?_) (fun c => ?_)
      · have h := it_t h c
        refine w_aload_n C (pc := 23) dX8_alone_23 0 rfl ?_
        obtain ⟨v1, e2, h⟩ := ob h
        refine w_cVv C (pc := 24) dX8_alone_24 my_X8_searchAlone mi_X8_searchAlone ml_X8_221 (sA_0 hY) rfl rfl rfl [] rfl rfl (Nat.le_of_ble_eq_true rfl) (tX8_searchAlone hY  e2) ?_
        refine w_iload_n C (pc := 27) dX8_alone_27 1 rfl ?_
        refine w_ifne C (pc := 28) 41 dX8_alone_28 (by decide) (fun c => ?_) (fun c => ?_)
        · have h := it_t h c
          refine w_aload_n C (pc := 31) dX8_alone_31 0 rfl ?_
          refine w_getR C (pc := 32) dX8_alone_32 f_X8_64 (sA_0 hY) rfl ?_
          refine w_getI C (pc := 35) dX8_alone_35 f_X8_215 (sA_40 hY) rfl ?_
          refine w_goto C (pc := 38) 48 dX8_alone_38 (by decide) ?_
          exact w_ret C (pc := 48) dX8_alone_48 rfl (Option.some.inj h)
        · have h := it_f h c
          refine w_aload_n C (pc := 41) dX8_alone_41 0 rfl ?_
          refine w_getR C (pc := 42) dX8_alone_42 f_X8_64 (sA_0 hY) rfl ?_
          refine w_getI C (pc := 45) dX8_alone_45 f_X8_218 (sA_40 hY) rfl ?_
          exact w_ret C (pc := 48) dX8_alone_48 rfl (Option.some.inj h)
      · have h := it_f h c
        refine w_iconst C (pc := 21) dX8_alone_21 (v := (-1)) (by decide) ?_
        exact w_ret C (pc := 22) dX8_alone_22 rfl (Option.some.inj h)
theorem dX8_searchBest_0 : decode cX8_searchBest 0 = .ok (.aload_n 0, 1) := by decide +kernel
theorem dX8_searchBest_1 : decode cX8_searchBest 1 = .ok (.getfield 60, 3) := by decide +kernel
theorem dX8_searchBest_4 : decode cX8_searchBest 4 = .ok (.getfield 236, 3) := by decide +kernel
theorem dX8_searchBest_7 : decode cX8_searchBest 7 = .ok (.ifCond .ne 46, 3) := by decide +kernel
theorem dX8_searchBest_10 : decode cX8_searchBest 10 = .ok (.aload_n 0, 1) := by decide +kernel
theorem dX8_searchBest_11 : decode cX8_searchBest 11 = .ok (.getfield 37, 3) := by decide +kernel
theorem dX8_searchBest_14 : decode cX8_searchBest 14 = .ok (.aload_n 0, 1) := by decide +kernel
theorem dX8_searchBest_15 : decode cX8_searchBest 15 = .ok (.getfield 10, 3) := by decide +kernel
theorem dX8_searchBest_18 : decode cX8_searchBest 18 = .ok (.bipush 8, 2) := by decide +kernel
theorem dX8_searchBest_20 : decode cX8_searchBest 20 = .ok (.invokevirtual 113, 3) := by decide +kernel
theorem dX8_searchBest_23 : decode cX8_searchBest 23 = .ok (.aload_n 0, 1) := by decide +kernel
theorem dX8_searchBest_24 : decode cX8_searchBest 24 = .ok (.getfield 10, 3) := by decide +kernel
theorem dX8_searchBest_27 : decode cX8_searchBest 27 = .ok (.iconst 2, 1) := by decide +kernel
theorem dX8_searchBest_28 : decode cX8_searchBest 28 = .ok (.invokevirtual 113, 3) := by decide +kernel
theorem dX8_searchBest_31 : decode cX8_searchBest 31 = .ok (.aload_n 0, 1) := by decide +kernel
theorem dX8_searchBest_32 : decode cX8_searchBest 32 = .ok (.getfield 10, 3) := by decide +kernel
theorem dX8_searchBest_35 : decode cX8_searchBest 35 = .ok (.iconst 3, 1) := by decide +kernel
theorem dX8_searchBest_36 : decode cX8_searchBest 36 = .ok (.invokevirtual 113, 3) := by decide +kernel
theorem dX8_searchBest_39 : decode cX8_searchBest 39 = .ok (.invokevirtual 230, 3) := by decide +kernel
theorem dX8_searchBest_42 : decode cX8_searchBest 42 = .ok (.aload_n 0, 1) := by decide +kernel
theorem dX8_searchBest_43 : decode cX8_searchBest 43 = .ok (.getfield 37, 3) := by decide +kernel
theorem dX8_searchBest_46 : decode cX8_searchBest 46 = .ok (.aload_n 0, 1) := by decide +kernel
theorem dX8_searchBest_47 : decode cX8_searchBest 47 = .ok (.getfield 60, 3) := by decide +kernel
theorem dX8_searchBest_50 : decode cX8_searchBest 50 = .ok (.invokevirtual 240, 3) := by decide +kernel
theorem dX8_searchBest_53 : decode cX8_searchBest 53 = .ok (.return_, 1) := by decide +kernel
def pX8_searchBest (M : Mm) : Option (Mm) :=
if (M 39 0) = 0 then
((pX3_setting 1 8 M).bind fun v1 =>
(pX3_setting 1 2 M).bind fun v3 =>
(pX3_setting 1 3 M).bind fun v5 =>
(pX5_prepare v1 v3 v5 M).bind fun v7 =>
(pX5_search 39 v7).bind fun v9 =>
some v9)
else
(some M)
abbrev zX8_searchBest : Zx := (cX8_searchBest, RX8, 1, 6, none)
set_option maxRecDepth 100000 in
set_option maxHeartbeats 4000000 in
theorem tX8_searchBest {l : Launch} {Y : Sx} {M : Mm} {q : Mm} (hY : isA Y) (h : pX8_searchBest M = some q) : Ct l Y yX8_searchBest cX8_searchBest 1 none 6 [.ref (adr Y 0)] M none q := by
  refine Ct.of (by decide) rfl (lv := [(0, .ref (adr Y 0))]) rfl ?_
  intro K hkl C
  change Cx K zX8_searchBest Y at C
  subst hkl
  unfold pX8_searchBest at h
  show Wp K zX8_searchBest Y (Qm K Y none q) M 0 [(0, .ref (adr Y 0))] []
  refine w_aload_n C (pc := 0) dX8_searchBest_0 0 rfl ?_
  refine w_getR C (pc := 1) dX8_searchBest_1 f_X8_60 (sA_0 hY) rfl ?_
  refine w_getI C (pc := 4) dX8_searchBest_4 f_X8_236 (sA_39 hY) rfl ?_
  refine w_ifne C (pc := 7) 53 dX8_searchBest_7 (by decide) (fun c => ?_) (fun c => ?_)
  · have h := it_t h c
    refine w_aload_n C (pc := 10) dX8_searchBest_10 0 rfl ?_
    refine w_getR C (pc := 11) dX8_searchBest_11 f_X8_37 (sA_0 hY) rfl ?_
    refine w_aload_n C (pc := 14) dX8_searchBest_14 0 rfl ?_
    refine w_getR C (pc := 15) dX8_searchBest_15 f_X8_10 (sA_0 hY) rfl ?_
    refine w_bipush C (pc := 18) dX8_searchBest_18 (v := 8) (by decide) ?_
    obtain ⟨v1, e2, h⟩ := ob h
    refine w_cVi C (pc := 20) dX8_searchBest_20 my_X3_setting mi_X3_setting ml_X8_113 (sA_1 hY) rfl rfl rfl [.int 8] rfl rfl (Nat.le_of_ble_eq_true rfl) (tX3_setting (kLand_1 hY) e2) ?_
    refine w_aload_n C (pc := 23) dX8_searchBest_23 0 rfl ?_
    refine w_getR C (pc := 24) dX8_searchBest_24 f_X8_10 (sA_0 hY) rfl ?_
    refine w_iconst C (pc := 27) dX8_searchBest_27 (v := 2) (by decide) ?_
    obtain ⟨v3, e4, h⟩ := ob h
    refine w_cVi C (pc := 28) dX8_searchBest_28 my_X3_setting mi_X3_setting ml_X8_113 (sA_1 hY) rfl rfl rfl [.int 2] rfl rfl (Nat.le_of_ble_eq_true rfl) (tX3_setting (kLand_1 hY) e4) ?_
    refine w_aload_n C (pc := 31) dX8_searchBest_31 0 rfl ?_
    refine w_getR C (pc := 32) dX8_searchBest_32 f_X8_10 (sA_0 hY) rfl ?_
    refine w_iconst C (pc := 35) dX8_searchBest_35 (v := 3) (by decide) ?_
    obtain ⟨v5, e6, h⟩ := ob h
    refine w_cVi C (pc := 36) dX8_searchBest_36 my_X3_setting mi_X3_setting ml_X8_113 (sA_1 hY) rfl rfl rfl [.int 3] rfl rfl (Nat.le_of_ble_eq_true rfl) (tX3_setting (kLand_1 hY) e6) ?_
    obtain ⟨v7, e8, h⟩ := ob h
    refine w_cVv C (pc := 39) dX8_searchBest_39 my_X5_prepare mi_X5_prepare ml_X8_230 (sA_17 hY) rfl rfl rfl [.int v1, .int v3, .int v5] rfl rfl (Nat.le_of_ble_eq_true rfl) (tX5_prepare hY  e8) ?_
    refine w_aload_n C (pc := 42) dX8_searchBest_42 0 rfl ?_
    refine w_getR C (pc := 43) dX8_searchBest_43 f_X8_37 (sA_0 hY) rfl ?_
    refine w_aload_n C (pc := 46) dX8_searchBest_46 0 rfl ?_
    refine w_getR C (pc := 47) dX8_searchBest_47 f_X8_60 (sA_0 hY) rfl ?_
    obtain ⟨v9, e10, h⟩ := ob h
    refine w_cVv C (pc := 50) dX8_searchBest_50 my_X5_search mi_X5_search ml_X8_240 (sA_17 hY) rfl rfl rfl [.ref (adr Y 39)] rfl rfl (Nat.le_of_ble_eq_true rfl) (tX5_search hY (kFound_39 hY) e10) ?_
    exact w_retV C (pc := 53) dX8_searchBest_53 rfl (Option.some.inj h)
  · have h := it_f h c
    exact w_retV C (pc := 53) dX8_searchBest_53 rfl (Option.some.inj h)
theorem dX8_best_0 : decode cX8_best 0 = .ok (.aload_n 0, 1) := by decide +kernel
theorem dX8_best_1 : decode cX8_best 1 = .ok (.getfield 10, 3) := by decide +kernel
theorem dX8_best_4 : decode cX8_best 4 = .ok (.getfield 97, 3) := by decide +kernel
theorem dX8_best_7 : decode cX8_best 7 = .ok (.bipush 7, 2) := by decide +kernel
theorem dX8_best_9 : decode cX8_best 9 = .ok (.if_icmp .le 5, 3) := by decide +kernel
theorem dX8_best_12 : decode cX8_best 12 = .ok (.iconst (-1), 1) := by decide +kernel
theorem dX8_best_13 : decode cX8_best 13 = .ok (.ireturn, 1) := by decide +kernel
theorem dX8_best_14 : decode cX8_best 14 = .ok (.aload_n 0, 1) := by decide +kernel
theorem dX8_best_15 : decode cX8_best 15 = .ok (.invokevirtual 212, 3) := by decide +kernel
theorem dX8_best_18 : decode cX8_best 18 = .ok (.aload_n 0, 1) := by decide +kernel
theorem dX8_best_19 : decode cX8_best 19 = .ok (.getfield 60, 3) := by decide +kernel
theorem dX8_best_22 : decode cX8_best 22 = .ok (.getfield 215, 3) := by decide +kernel
theorem dX8_best_25 : decode cX8_best 25 = .ok (.ireturn, 1) := by decide +kernel
def pX8_best (M : Mm) : Option (Int32 × Mm) :=
if (M 1 0) ≤ 7 then
((pX8_searchBest M).bind fun v1 =>
some (v1 39 1, v1))
else
(some ((-1), M))
abbrev zX8_best : Zx := (cX8_best, RX8, 1, 7, (some .int))
set_option maxRecDepth 100000 in
set_option maxHeartbeats 4000000 in
theorem tX8_best {l : Launch} {Y : Sx} {M : Mm} {q : Int32 × Mm} (hY : isA Y) (h : pX8_best M = some q) : Ct l Y yX8_best cX8_best 1 (some .int) 7 [.ref (adr Y 0)] M (some q.1) q.2 := by
  refine Ct.of (by decide) rfl (lv := [(0, .ref (adr Y 0))]) rfl ?_
  intro K hkl C
  change Cx K zX8_best Y at C
  subst hkl
  unfold pX8_best at h
  show Wp K zX8_best Y (Qm K Y (some q.1) q.2) M 0 [(0, .ref (adr Y 0))] []
  refine w_aload_n C (pc := 0) dX8_best_0 0 rfl ?_
  refine w_getR C (pc := 1) dX8_best_1 f_X8_10 (sA_0 hY) rfl ?_
  refine w_getI C (pc := 4) dX8_best_4 f_X8_97 (sA_1 hY) rfl ?_
  refine w_bipush C (pc := 7) dX8_best_7 (v := 7) (by decide) ?_
  refine w_icle C (pc := 9) 14 dX8_best_9 (by decide) (fun c => ?_) (fun c => ?_)
  · have h := it_t h c
    refine w_aload_n C (pc := 14) dX8_best_14 0 rfl ?_
    obtain ⟨v1, e2, h⟩ := ob h
    refine w_cVv C (pc := 15) dX8_best_15 my_X8_searchBest mi_X8_searchBest ml_X8_212 (sA_0 hY) rfl rfl rfl [] rfl rfl (Nat.le_of_ble_eq_true rfl) (tX8_searchBest hY  e2) ?_
    refine w_aload_n C (pc := 18) dX8_best_18 0 rfl ?_
    refine w_getR C (pc := 19) dX8_best_19 f_X8_60 (sA_0 hY) rfl ?_
    refine w_getI C (pc := 22) dX8_best_22 f_X8_215 (sA_39 hY) rfl ?_
    exact w_ret C (pc := 25) dX8_best_25 rfl (Option.some.inj h)
  · have h := it_f h c
    refine w_iconst C (pc := 12) dX8_best_12 (v := (-1)) (by decide) ?_
    exact w_ret C (pc := 13) dX8_best_13 rfl (Option.some.inj h)
theorem dX8_bestOrder_0 : decode cX8_bestOrder 0 = .ok (.aload_n 0, 1) := by decide +kernel
theorem dX8_bestOrder_1 : decode cX8_bestOrder 1 = .ok (.getfield 10, 3) := by decide +kernel
theorem dX8_bestOrder_4 : decode cX8_bestOrder 4 = .ok (.getfield 97, 3) := by decide +kernel
theorem dX8_bestOrder_7 : decode cX8_bestOrder 7 = .ok (.bipush 7, 2) := by decide +kernel
theorem dX8_bestOrder_9 : decode cX8_bestOrder 9 = .ok (.if_icmp .le 5, 3) := by decide +kernel
theorem dX8_bestOrder_12 : decode cX8_bestOrder 12 = .ok (.iconst (-1), 1) := by decide +kernel
theorem dX8_bestOrder_13 : decode cX8_bestOrder 13 = .ok (.ireturn, 1) := by decide +kernel
theorem dX8_bestOrder_14 : decode cX8_bestOrder 14 = .ok (.aload_n 0, 1) := by decide +kernel
theorem dX8_bestOrder_15 : decode cX8_bestOrder 15 = .ok (.invokevirtual 212, 3) := by decide +kernel
theorem dX8_bestOrder_18 : decode cX8_bestOrder 18 = .ok (.aload_n 0, 1) := by decide +kernel
theorem dX8_bestOrder_19 : decode cX8_bestOrder 19 = .ok (.getfield 60, 3) := by decide +kernel
theorem dX8_bestOrder_22 : decode cX8_bestOrder 22 = .ok (.getfield 218, 3) := by decide +kernel
theorem dX8_bestOrder_25 : decode cX8_bestOrder 25 = .ok (.ireturn, 1) := by decide +kernel
def pX8_bestOrder (M : Mm) : Option (Int32 × Mm) :=
if (M 1 0) ≤ 7 then
((pX8_searchBest M).bind fun v1 =>
some (v1 39 2, v1))
else
(some ((-1), M))
abbrev zX8_bestOrder : Zx := (cX8_bestOrder, RX8, 1, 7, (some .int))
set_option maxRecDepth 100000 in
set_option maxHeartbeats 4000000 in
theorem tX8_bestOrder {l : Launch} {Y : Sx} {M : Mm} {q : Int32 × Mm} (hY : isA Y) (h : pX8_bestOrder M = some q) : Ct l Y yX8_bestOrder cX8_bestOrder 1 (some .int) 7 [.ref (adr Y 0)] M (some q.1) q.2 := by
  refine Ct.of (by decide) rfl (lv := [(0, .ref (adr Y 0))]) rfl ?_
  intro K hkl C
  change Cx K zX8_bestOrder Y at C
  subst hkl
  unfold pX8_bestOrder at h
  show Wp K zX8_bestOrder Y (Qm K Y (some q.1) q.2) M 0 [(0, .ref (adr Y 0))] []
  refine w_aload_n C (pc := 0) dX8_bestOrder_0 0 rfl ?_
  refine w_getR C (pc := 1) dX8_bestOrder_1 f_X8_10 (sA_0 hY) rfl ?_
  refine w_getI C (pc := 4) dX8_bestOrder_4 f_X8_97 (sA_1 hY) rfl ?_
  refine w_bipush C (pc := 7) dX8_bestOrder_7 (v := 7) (by decide) ?_
  refine w_icle C (pc := 9) 14 dX8_bestOrder_9 (by decide) (fun c => ?_) (fun c => ?_)
  · have h := it_t h c
    refine w_aload_n C (pc := 14) dX8_bestOrder_14 0 rfl ?_
    obtain ⟨v1, e2, h⟩ := ob h
    refine w_cVv C (pc := 15) dX8_bestOrder_15 my_X8_searchBest mi_X8_searchBest ml_X8_212 (sA_0 hY) rfl rfl rfl [] rfl rfl (Nat.le_of_ble_eq_true rfl) (tX8_searchBest hY  e2) ?_
    refine w_aload_n C (pc := 18) dX8_bestOrder_18 0 rfl ?_
    refine w_getR C (pc := 19) dX8_bestOrder_19 f_X8_60 (sA_0 hY) rfl ?_
    refine w_getI C (pc := 22) dX8_bestOrder_22 f_X8_218 (sA_39 hY) rfl ?_
    exact w_ret C (pc := 25) dX8_bestOrder_25 rfl (Option.some.inj h)
  · have h := it_f h c
    refine w_iconst C (pc := 12) dX8_bestOrder_12 (v := (-1)) (by decide) ?_
    exact w_ret C (pc := 13) dX8_bestOrder_13 rfl (Option.some.inj h)
theorem dX8_endByWind_0 : decode cX8_endByWind 0 = .ok (.aload_n 0, 1) := by decide +kernel
theorem dX8_endByWind_1 : decode cX8_endByWind 1 = .ok (.getfield 37, 3) := by decide +kernel
theorem dX8_endByWind_4 : decode cX8_endByWind 4 = .ok (.aload_n 0, 1) := by decide +kernel
theorem dX8_endByWind_5 : decode cX8_endByWind 5 = .ok (.getfield 10, 3) := by decide +kernel
theorem dX8_endByWind_8 : decode cX8_endByWind 8 = .ok (.bipush 8, 2) := by decide +kernel
theorem dX8_endByWind_10 : decode cX8_endByWind 10 = .ok (.invokevirtual 113, 3) := by decide +kernel
theorem dX8_endByWind_13 : decode cX8_endByWind 13 = .ok (.iload_n 1, 1) := by decide +kernel
theorem dX8_endByWind_14 : decode cX8_endByWind 14 = .ok (.iconst 3, 1) := by decide +kernel
theorem dX8_endByWind_15 : decode cX8_endByWind 15 = .ok (.irem, 1) := by decide +kernel
theorem dX8_endByWind_16 : decode cX8_endByWind 16 = .ok (.iconst 1, 1) := by decide +kernel
theorem dX8_endByWind_17 : decode cX8_endByWind 17 = .ok (.isub, 1) := by decide +kernel
theorem dX8_endByWind_18 : decode cX8_endByWind 18 = .ok (.iload_n 1, 1) := by decide +kernel
theorem dX8_endByWind_19 : decode cX8_endByWind 19 = .ok (.iconst 3, 1) := by decide +kernel
theorem dX8_endByWind_20 : decode cX8_endByWind 20 = .ok (.idiv, 1) := by decide +kernel
theorem dX8_endByWind_21 : decode cX8_endByWind 21 = .ok (.iconst 1, 1) := by decide +kernel
theorem dX8_endByWind_22 : decode cX8_endByWind 22 = .ok (.isub, 1) := by decide +kernel
theorem dX8_endByWind_23 : decode cX8_endByWind 23 = .ok (.invokevirtual 230, 3) := by decide +kernel
theorem dX8_endByWind_26 : decode cX8_endByWind 26 = .ok (.aload_n 0, 1) := by decide +kernel
theorem dX8_endByWind_27 : decode cX8_endByWind 27 = .ok (.getfield 37, 3) := by decide +kernel
theorem dX8_endByWind_30 : decode cX8_endByWind 30 = .ok (.iconst 1, 1) := by decide +kernel
theorem dX8_endByWind_31 : decode cX8_endByWind 31 = .ok (.invokevirtual 233, 3) := by decide +kernel
theorem dX8_endByWind_34 : decode cX8_endByWind 34 = .ok (.aload_n 0, 1) := by decide +kernel
theorem dX8_endByWind_35 : decode cX8_endByWind 35 = .ok (.getfield 37, 3) := by decide +kernel
theorem dX8_endByWind_38 : decode cX8_endByWind 38 = .ok (.invokevirtual 206, 3) := by decide +kernel
theorem dX8_endByWind_41 : decode cX8_endByWind 41 = .ok (.ireturn, 1) := by decide +kernel
def pX8_endByWind (x1 : Int32) (M : Mm) : Option (Int32 × Mm) :=
(pX3_setting 1 8 M).bind fun v1 =>
(pX5_prepare v1 ((rmi x1 3) - 1) ((x1 / 3) - 1) M).bind fun v3 =>
(pX5_fill 1 v3).bind fun v5 =>
(pX5_lastEnd v5).bind fun v7 =>
some (v7, v5)
abbrev zX8_endByWind : Zx := (cX8_endByWind, RX8, 2, 5, (some .int))
set_option maxRecDepth 100000 in
set_option maxHeartbeats 4000000 in
theorem tX8_endByWind {l : Launch} {Y : Sx} {M : Mm} {x1 : Int32} {q : Int32 × Mm} (hY : isA Y) (h : pX8_endByWind x1 M = some q) : Ct l Y yX8_endByWind cX8_endByWind 2 (some .int) 5 [.ref (adr Y 0), .int x1] M (some q.1) q.2 := by
  refine Ct.of (by decide) rfl (lv := [(0, .ref (adr Y 0)), (1, .int x1)]) rfl ?_
  intro K hkl C
  change Cx K zX8_endByWind Y at C
  subst hkl
  unfold pX8_endByWind at h
  show Wp K zX8_endByWind Y (Qm K Y (some q.1) q.2) M 0 [(0, .ref (adr Y 0)), (1, .int x1)] []
  refine w_aload_n C (pc := 0) dX8_endByWind_0 0 rfl ?_
  refine w_getR C (pc := 1) dX8_endByWind_1 f_X8_37 (sA_0 hY) rfl ?_
  refine w_aload_n C (pc := 4) dX8_endByWind_4 0 rfl ?_
  refine w_getR C (pc := 5) dX8_endByWind_5 f_X8_10 (sA_0 hY) rfl ?_
  refine w_bipush C (pc := 8) dX8_endByWind_8 (v := 8) (by decide) ?_
  obtain ⟨v1, e2, h⟩ := ob h
  refine w_cVi C (pc := 10) dX8_endByWind_10 my_X3_setting mi_X3_setting ml_X8_113 (sA_1 hY) rfl rfl rfl [.int 8] rfl rfl (Nat.le_of_ble_eq_true rfl) (tX3_setting (kLand_1 hY) e2) ?_
  refine w_iload_n C (pc := 13) dX8_endByWind_13 1 rfl ?_
  refine w_iconst C (pc := 14) dX8_endByWind_14 (v := 3) (by decide) ?_
  refine w_irem C (pc := 15) dX8_endByWind_15 (by decide) ?_
  refine w_iconst C (pc := 16) dX8_endByWind_16 (v := 1) (by decide) ?_
  refine w_isub C (pc := 17) dX8_endByWind_17 ?_
  refine w_iload_n C (pc := 18) dX8_endByWind_18 1 rfl ?_
  refine w_iconst C (pc := 19) dX8_endByWind_19 (v := 3) (by decide) ?_
  refine w_idiv C (pc := 20) dX8_endByWind_20 (by decide) ?_
  refine w_iconst C (pc := 21) dX8_endByWind_21 (v := 1) (by decide) ?_
  refine w_isub C (pc := 22) dX8_endByWind_22 ?_
  obtain ⟨v3, e4, h⟩ := ob h
  refine w_cVv C (pc := 23) dX8_endByWind_23 my_X5_prepare mi_X5_prepare ml_X8_230 (sA_17 hY) rfl rfl rfl [.int v1, .int ((rmi x1 3) - 1), .int ((x1 / 3) - 1)] rfl rfl (Nat.le_of_ble_eq_true rfl) (tX5_prepare hY  e4) ?_
  refine w_aload_n C (pc := 26) dX8_endByWind_26 0 rfl ?_
  refine w_getR C (pc := 27) dX8_endByWind_27 f_X8_37 (sA_0 hY) rfl ?_
  refine w_iconst C (pc := 30) dX8_endByWind_30 (v := 1) (by decide) ?_
  obtain ⟨v5, e6, h⟩ := ob h
  refine w_cVv C (pc := 31) dX8_endByWind_31 my_X5_fill mi_X5_fill ml_X8_233 (sA_17 hY) rfl rfl rfl [.int 1] rfl rfl (Nat.le_of_ble_eq_true rfl) (tX5_fill hY  e6) ?_
  refine w_aload_n C (pc := 34) dX8_endByWind_34 0 rfl ?_
  refine w_getR C (pc := 35) dX8_endByWind_35 f_X8_37 (sA_0 hY) rfl ?_
  obtain ⟨v7, e8, h⟩ := ob h
  refine w_cVi C (pc := 38) dX8_endByWind_38 my_X5_lastEnd mi_X5_lastEnd ml_X8_206 (sA_17 hY) rfl rfl rfl [] rfl rfl (Nat.le_of_ble_eq_true rfl) (tX5_lastEnd hY  e8) ?_
  exact w_ret C (pc := 41) dX8_endByWind_41 rfl (Option.some.inj h)
theorem dX8_bestWind_0 : decode cX8_bestWind 0 = .ok (.iconst 0, 1) := by decide +kernel
theorem dX8_bestWind_1 : decode cX8_bestWind 1 = .ok (.istore_n 1, 1) := by decide +kernel
theorem dX8_bestWind_2 : decode cX8_bestWind 2 = .ok (.aload_n 0, 1) := by decide +kernel
theorem dX8_bestWind_3 : decode cX8_bestWind 3 = .ok (.iconst 0, 1) := by decide +kernel
theorem dX8_bestWind_4 : decode cX8_bestWind 4 = .ok (.invokevirtual 227, 3) := by decide +kernel
theorem dX8_bestWind_7 : decode cX8_bestWind 7 = .ok (.istore_n 2, 1) := by decide +kernel
theorem dX8_bestWind_8 : decode cX8_bestWind 8 = .ok (.iconst 1, 1) := by decide +kernel
theorem dX8_bestWind_9 : decode cX8_bestWind 9 = .ok (.istore_n 3, 1) := by decide +kernel
theorem dX8_bestWind_10 : decode cX8_bestWind 10 = .ok (.iload_n 3, 1) := by decide +kernel
theorem dX8_bestWind_11 : decode cX8_bestWind 11 = .ok (.bipush 9, 2) := by decide +kernel
theorem dX8_bestWind_13 : decode cX8_bestWind 13 = .ok (.if_icmp .ge 27, 3) := by decide +kernel
theorem dX8_bestWind_16 : decode cX8_bestWind 16 = .ok (.aload_n 0, 1) := by decide +kernel
theorem dX8_bestWind_17 : decode cX8_bestWind 17 = .ok (.iload_n 3, 1) := by decide +kernel
theorem dX8_bestWind_18 : decode cX8_bestWind 18 = .ok (.invokevirtual 227, 3) := by decide +kernel
theorem dX8_bestWind_21 : decode cX8_bestWind 21 = .ok (.istore 4, 2) := by decide +kernel
theorem dX8_bestWind_23 : decode cX8_bestWind 23 = .ok (.iload 4, 2) := by decide +kernel
theorem dX8_bestWind_25 : decode cX8_bestWind 25 = .ok (.iload_n 2, 1) := by decide +kernel
theorem dX8_bestWind_26 : decode cX8_bestWind 26 = .ok (.if_icmp .ge 8, 3) := by decide +kernel
theorem dX8_bestWind_29 : decode cX8_bestWind 29 = .ok (.iload 4, 2) := by decide +kernel
theorem dX8_bestWind_31 : decode cX8_bestWind 31 = .ok (.istore_n 2, 1) := by decide +kernel
theorem dX8_bestWind_32 : decode cX8_bestWind 32 = .ok (.iload_n 3, 1) := by decide +kernel
theorem dX8_bestWind_33 : decode cX8_bestWind 33 = .ok (.istore_n 1, 1) := by decide +kernel
theorem dX8_bestWind_34 : decode cX8_bestWind 34 = .ok (.iinc 3 1, 3) := by decide +kernel
theorem dX8_bestWind_37 : decode cX8_bestWind 37 = .ok (.goto (-27), 3) := by decide +kernel
theorem dX8_bestWind_40 : decode cX8_bestWind 40 = .ok (.iload_n 1, 1) := by decide +kernel
theorem dX8_bestWind_41 : decode cX8_bestWind 41 = .ok (.ireturn, 1) := by decide +kernel
def pX8_bestWind_L10 (s : Int32 × Int32 × Int32 × Mm) : Option ((Int32 × Int32 × Int32 × Mm) ⊕ (Int32 × Mm)) :=
if 9 ≤ s.2.2.1 then
(some (Sum.inr (s.1, s.2.2.2)))
else
((pX8_endByWind s.2.2.1 s.2.2.2).bind fun v4 =>
bnd (v4.1) fun v6 =>
if s.2.1 ≤ v6 then
(some (Sum.inl (s.1, s.2.1, s.2.2.1 + 1, v4.2)))
else
(bnd (s.2.2.1) fun v7 =>
some (Sum.inl (v7, v6, s.2.2.1 + 1, v4.2))))
def pX8_bestWind (M : Mm) : Option (Int32 × Mm) :=
(pX8_endByWind 0 M).bind fun v1 =>
bnd (v1.1) fun v3 =>
(itr (pX8_bestWind_L10) fuel (0, v3, 1, v1.2)).bind fun x8 =>
some (x8.1, x8.2)
abbrev zX8_bestWind : Zx := (cX8_bestWind, RX8, 5, 6, (some .int))
set_option maxRecDepth 100000 in
set_option maxHeartbeats 4000000 in
theorem tX8_bestWind {l : Launch} {Y : Sx} {M : Mm} {q : Int32 × Mm} (hY : isA Y) (h : pX8_bestWind M = some q) : Ct l Y yX8_bestWind cX8_bestWind 5 (some .int) 6 [.ref (adr Y 0)] M (some q.1) q.2 := by
  refine Ct.of (by decide) rfl (lv := [(0, .ref (adr Y 0))]) rfl ?_
  intro K hkl C
  change Cx K zX8_bestWind Y at C
  subst hkl
  unfold pX8_bestWind at h
  show Wp K zX8_bestWind Y (Qm K Y (some q.1) q.2) M 0 [(0, .ref (adr Y 0))] []
  refine w_iconst C (pc := 0) dX8_bestWind_0 (v := 0) (by decide) ?_
  refine w_istore_n C (pc := 1) dX8_bestWind_1 (lv' := [(0, .ref (adr Y 0)), (1, .int 0)]) rfl rfl rfl ?_
  refine w_aload_n C (pc := 2) dX8_bestWind_2 0 rfl ?_
  refine w_iconst C (pc := 3) dX8_bestWind_3 (v := 0) (by decide) ?_
  obtain ⟨v1, e2, h⟩ := ob h
  refine w_cVi C (pc := 4) dX8_bestWind_4 my_X8_endByWind mi_X8_endByWind ml_X8_227 (sA_0 hY) rfl rfl rfl [.int 0] rfl rfl (Nat.le_of_ble_eq_true rfl) (tX8_endByWind hY  e2) ?_
  refine w_bnd h (fun v3 h => ?_)
  refine w_istore_n C (pc := 7) dX8_bestWind_7 (lv' := [(0, .ref (adr Y 0)), (1, .int 0), (2, .int v3)]) rfl rfl rfl ?_
  refine w_iconst C (pc := 8) dX8_bestWind_8 (v := 1) (by decide) ?_
  refine w_istore_n C (pc := 9) dX8_bestWind_9 (lv' := [(0, .ref (adr Y 0)), (1, .int 0), (2, .int v3), (3, .int 1)]) rfl rfl rfl ?_
  obtain ⟨x8, e9, h⟩ := ob h
  refine itr_W (P := fun s10 => Wp K zX8_bestWind Y (Qm K Y (some q.1) q.2) s10.2.2.2 10 [(0, .ref (adr Y 0)), (1, .int s10.1), (2, .int s10.2.1), (3, .int s10.2.2.1)] []) (R := fun x8 => Wp K zX8_bestWind Y (Qm K Y (some q.1) q.2) x8.2 40 [(0, .ref (adr Y 0)), (1, .int x8.1)] []) ?_ fuel (0, v3, 1, v1.2) x8 e9 ?_
  · intro s10 r11 h14 ki12 kx13
    unfold pX8_bestWind_L10 at h14
    show Wp K zX8_bestWind Y (Qm K Y (some q.1) q.2) s10.2.2.2 10 [(0, .ref (adr Y 0)), (1, .int s10.1), (2, .int s10.2.1), (3, .int s10.2.2.1)] []
    refine w_iload_n C (pc := 10) dX8_bestWind_10 3 rfl ?_
    refine w_bipush C (pc := 11) dX8_bestWind_11 (v := 9) (by decide) ?_
    refine w_icge C (pc := 13) 40 dX8_bestWind_13 (by decide) (fun c => ?_) (fun c => ?_)
    · have h14 := it_t h14 c
      obtain rfl := Option.some.inj h14
      refine w_lv [0, 1] rfl ?_
      have k9 := kx13 (s10.1, s10.2.2.2) rfl
      try dsimp only at k9
      exact k9
    · have h14 := it_f h14 c
      refine w_aload_n C (pc := 16) dX8_bestWind_16 0 rfl ?_
      refine w_iload_n C (pc := 17) dX8_bestWind_17 3 rfl ?_
      obtain ⟨v15, e16, h14⟩ := ob h14
      refine w_cVi C (pc := 18) dX8_bestWind_18 my_X8_endByWind mi_X8_endByWind ml_X8_227 (sA_0 hY) rfl rfl rfl [.int s10.2.2.1] rfl rfl (Nat.le_of_ble_eq_true rfl) (tX8_endByWind hY  e16) ?_
      refine w_bnd h14 (fun v17 h14 => ?_)
      refine w_istore C (pc := 21) dX8_bestWind_21 (lv' := [(0, .ref (adr Y 0)), (1, .int s10.1), (2, .int s10.2.1), (3, .int s10.2.2.1), (4, .int v17)]) rfl rfl rfl ?_
      refine w_iload C (pc := 23) dX8_bestWind_23 4 rfl ?_
      refine w_iload_n C (pc := 25) dX8_bestWind_25 2 rfl ?_
      refine w_icge C (pc := 26) 34 dX8_bestWind_26 (by decide) (fun c => ?_) (fun c => ?_)
      · have h14 := it_t h14 c
        refine w_iinc C (pc := 34) dX8_bestWind_34 3 rfl (v := 1) (lv' := [(0, .ref (adr Y 0)), (1, .int s10.1), (2, .int s10.2.1), (3, .int (s10.2.2.1 + 1)), (4, .int v17)]) (by decide) rfl rfl rfl ?_
        refine w_goto C (pc := 37) 10 dX8_bestWind_37 (by decide) ?_
        obtain rfl := Option.some.inj h14
        refine w_lv [0, 1, 2, 3] rfl ?_
        have k9 := ki12 (s10.1, s10.2.1, s10.2.2.1 + 1, v15.2) rfl
        try dsimp only at k9
        exact k9
      · have h14 := it_f h14 c
        refine w_iload C (pc := 29) dX8_bestWind_29 4 rfl ?_
        refine w_istore_n C (pc := 31) dX8_bestWind_31 (lv' := [(0, .ref (adr Y 0)), (1, .int s10.1), (2, .int v17), (3, .int s10.2.2.1), (4, .int v17)]) rfl rfl rfl ?_
        refine w_iload_n C (pc := 32) dX8_bestWind_32 3 rfl ?_
        refine w_bnd h14 (fun v18 h14 => ?_)
        refine w_istore_n C (pc := 33) dX8_bestWind_33 (lv' := [(0, .ref (adr Y 0)), (1, .int v18), (2, .int v17), (3, .int s10.2.2.1), (4, .int v17)]) rfl rfl rfl ?_
        refine w_iinc C (pc := 34) dX8_bestWind_34 3 rfl (v := 1) (lv' := [(0, .ref (adr Y 0)), (1, .int v18), (2, .int v17), (3, .int (s10.2.2.1 + 1)), (4, .int v17)]) (by decide) rfl rfl rfl ?_
        refine w_goto C (pc := 37) 10 dX8_bestWind_37 (by decide) ?_
        obtain rfl := Option.some.inj h14
        refine w_lv [0, 1, 2, 3] rfl ?_
        have k9 := ki12 (v18, v17, s10.2.2.1 + 1, v15.2) rfl
        try dsimp only at k9
        exact k9
  · refine w_iload_n C (pc := 40) dX8_bestWind_40 1 rfl ?_
    exact w_ret C (pc := 41) dX8_bestWind_41 rfl (Option.some.inj h)
theorem dX8_clear_0 : decode cX8_clear 0 = .ok (.aload_n 0, 1) := by decide +kernel
theorem dX8_clear_1 : decode cX8_clear 1 = .ok (.getfield 19, 3) := by decide +kernel
theorem dX8_clear_4 : decode cX8_clear 4 = .ok (.invokevirtual 107, 3) := by decide +kernel
theorem dX8_clear_7 : decode cX8_clear 7 = .ok (.return_, 1) := by decide +kernel
def pX8_clear (M : Mm) : Mm :=
bnd (pX4_empty 4 M) fun v1 =>
v1
abbrev zX8_clear : Zx := (cX8_clear, RX8, 1, 1, none)
set_option maxRecDepth 100000 in
set_option maxHeartbeats 4000000 in
theorem tX8_clear {l : Launch} {Y : Sx} {M : Mm} {q : Mm} (hY : isA Y) (h : pX8_clear M = q) : Ct l Y yX8_clear cX8_clear 1 none 1 [.ref (adr Y 0)] M none q := by
  refine Ct.of (by decide) rfl (lv := [(0, .ref (adr Y 0))]) rfl ?_
  intro K hkl C
  change Cx K zX8_clear Y at C
  subst hkl
  unfold pX8_clear at h
  show Wp K zX8_clear Y (Qm K Y none q) M 0 [(0, .ref (adr Y 0))] []
  refine w_aload_n C (pc := 0) dX8_clear_0 0 rfl ?_
  refine w_getR C (pc := 1) dX8_clear_1 f_X8_19 (sA_0 hY) rfl ?_
  obtain ⟨v1, e2, h⟩ := bn h
  refine w_cVv C (pc := 4) dX8_clear_4 my_X4_empty mi_X4_empty ml_X8_107 (sA_4 hY) rfl rfl rfl [] rfl rfl (Nat.le_of_ble_eq_true rfl) (tX4_empty (kPlan_4 hY) e2) ?_
  exact w_retV C (pc := 7) dX8_clear_7 rfl h
theorem dX8_count_0 : decode cX8_count 0 = .ok (.iload_n 1, 1) := by decide +kernel
theorem dX8_count_1 : decode cX8_count 1 = .ok (.tableswitch 63 0 3 #[31, 39, 47, 55], 31) := by decide +kernel
theorem dX8_count_32 : decode cX8_count 32 = .ok (.aload_n 0, 1) := by decide +kernel
theorem dX8_count_33 : decode cX8_count 33 = .ok (.getfield 10, 3) := by decide +kernel
theorem dX8_count_36 : decode cX8_count 36 = .ok (.getfield 97, 3) := by decide +kernel
theorem dX8_count_39 : decode cX8_count 39 = .ok (.ireturn, 1) := by decide +kernel
theorem dX8_count_40 : decode cX8_count 40 = .ok (.aload_n 0, 1) := by decide +kernel
theorem dX8_count_41 : decode cX8_count 41 = .ok (.getfield 19, 3) := by decide +kernel
theorem dX8_count_44 : decode cX8_count 44 = .ok (.invokevirtual 128, 3) := by decide +kernel
theorem dX8_count_47 : decode cX8_count 47 = .ok (.ireturn, 1) := by decide +kernel
theorem dX8_count_48 : decode cX8_count 48 = .ok (.aload_n 0, 1) := by decide +kernel
theorem dX8_count_49 : decode cX8_count 49 = .ok (.getfield 19, 3) := by decide +kernel
theorem dX8_count_52 : decode cX8_count 52 = .ok (.getfield 142, 3) := by decide +kernel
theorem dX8_count_55 : decode cX8_count 55 = .ok (.ireturn, 1) := by decide +kernel
theorem dX8_count_56 : decode cX8_count 56 = .ok (.aload_n 0, 1) := by decide +kernel
theorem dX8_count_57 : decode cX8_count 57 = .ok (.getfield 44, 3) := by decide +kernel
theorem dX8_count_60 : decode cX8_count 60 = .ok (.getfield 67, 3) := by decide +kernel
theorem dX8_count_63 : decode cX8_count 63 = .ok (.ireturn, 1) := by decide +kernel
theorem dX8_count_64 : decode cX8_count 64 = .ok (.iload_n 1, 1) := by decide +kernel
theorem dX8_count_65 : decode cX8_count 65 = .ok (.bipush 10, 2) := by decide +kernel
theorem dX8_count_67 : decode cX8_count 67 = .ok (.if_icmp .lt 23, 3) := by decide +kernel
theorem dX8_count_70 : decode cX8_count 70 = .ok (.iload_n 1, 1) := by decide +kernel
theorem dX8_count_71 : decode cX8_count 71 = .ok (.bipush 20, 2) := by decide +kernel
theorem dX8_count_73 : decode cX8_count 73 = .ok (.if_icmp .ge 17, 3) := by decide +kernel
theorem dX8_count_76 : decode cX8_count 76 = .ok (.aload_n 0, 1) := by decide +kernel
theorem dX8_count_77 : decode cX8_count 77 = .ok (.getfield 10, 3) := by decide +kernel
theorem dX8_count_80 : decode cX8_count 80 = .ok (.iload_n 1, 1) := by decide +kernel
theorem dX8_count_81 : decode cX8_count 81 = .ok (.bipush 10, 2) := by decide +kernel
theorem dX8_count_83 : decode cX8_count 83 = .ok (.isub, 1) := by decide +kernel
theorem dX8_count_84 : decode cX8_count 84 = .ok (.invokevirtual 113, 3) := by decide +kernel
theorem dX8_count_87 : decode cX8_count 87 = .ok (.goto 5, 3) := by decide +kernel
theorem dX8_count_90 : decode cX8_count 90 = .ok (.bipush (-99), 2) := by decide +kernel
theorem dX8_count_92 : decode cX8_count 92 = .ok (.ireturn, 1) := by decide +kernel
def pX8_count (x1 : Int32) (M : Mm) : Option (Int32) :=
if x1 = 0 then
(some (M 1 0))
else
(if x1 = 1 then
(some (pX4_stops 4 M))
else
(if x1 = 2 then
(some (M 4 1))
else
(if x1 = 3 then
(some (M 29 0))
else
(if x1 < 10 then
(some (-99))
else
(if 20 ≤ x1 then
(some (-99))
else
((pX3_setting 1 (x1 - 10) M).bind fun v1 =>
some v1))))))
abbrev zX8_count : Zx := (cX8_count, RX8, 2, 1, (some .int))
set_option maxRecDepth 100000 in
set_option maxHeartbeats 4000000 in
theorem tX8_count {l : Launch} {Y : Sx} {M : Mm} {x1 : Int32} {q : Int32} (hY : isA Y) (h : pX8_count x1 M = some q) : Ct l Y yX8_count cX8_count 2 (some .int) 1 [.ref (adr Y 0), .int x1] M (some q) M := by
  refine Ct.of (by decide) rfl (lv := [(0, .ref (adr Y 0)), (1, .int x1)]) rfl ?_
  intro K hkl C
  change Cx K zX8_count Y at C
  subst hkl
  unfold pX8_count at h
  show Wp K zX8_count Y (Qm K Y (some q) M) M 0 [(0, .ref (adr Y 0)), (1, .int x1)] []
  refine w_iload_n C (pc := 0) dX8_count_0 1 rfl ?_
  by_cases c1_0 : x1 = 0
  · have h := it_t h c1_0
    refine w_swIn C (pc := 1) (v := 0) 32 dX8_count_1 c1_0 (by decide) (by decide) rfl (by decide) ?_
    refine w_aload_n C (pc := 32) dX8_count_32 0 rfl ?_
    refine w_getR C (pc := 33) dX8_count_33 f_X8_10 (sA_0 hY) rfl ?_
    refine w_getI C (pc := 36) dX8_count_36 f_X8_97 (sA_1 hY) rfl ?_
    exact w_retR C (pc := 39) dX8_count_39 rfl (Option.some.inj h)
  have h := it_f h c1_0
  by_cases c1_1 : x1 = 1
  · have h := it_t h c1_1
    refine w_swIn C (pc := 1) (v := 1) 40 dX8_count_1 c1_1 (by decide) (by decide) rfl (by decide) ?_
    refine w_aload_n C (pc := 40) dX8_count_40 0 rfl ?_
    refine w_getR C (pc := 41) dX8_count_41 f_X8_19 (sA_0 hY) rfl ?_
    refine w_cVi C (pc := 44) dX8_count_44 my_X4_stops mi_X4_stops ml_X8_128 (sA_4 hY) rfl rfl rfl [] rfl rfl (Nat.le_of_ble_eq_true rfl) (tX4_stops (kPlan_4 hY) rfl) ?_
    exact w_retR C (pc := 47) dX8_count_47 rfl (Option.some.inj h)
  have h := it_f h c1_1
  by_cases c1_2 : x1 = 2
  · have h := it_t h c1_2
    refine w_swIn C (pc := 1) (v := 2) 48 dX8_count_1 c1_2 (by decide) (by decide) rfl (by decide) ?_
    refine w_aload_n C (pc := 48) dX8_count_48 0 rfl ?_
    refine w_getR C (pc := 49) dX8_count_49 f_X8_19 (sA_0 hY) rfl ?_
    refine w_getI C (pc := 52) dX8_count_52 f_X8_142 (sA_4 hY) rfl ?_
    exact w_retR C (pc := 55) dX8_count_55 rfl (Option.some.inj h)
  have h := it_f h c1_2
  by_cases c1_3 : x1 = 3
  · have h := it_t h c1_3
    refine w_swIn C (pc := 1) (v := 3) 56 dX8_count_1 c1_3 (by decide) (by decide) rfl (by decide) ?_
    refine w_aload_n C (pc := 56) dX8_count_56 0 rfl ?_
    refine w_getR C (pc := 57) dX8_count_57 f_X8_44 (sA_0 hY) rfl ?_
    refine w_getI C (pc := 60) dX8_count_60 f_X8_67 (sA_29 hY) rfl ?_
    exact w_retR C (pc := 63) dX8_count_63 rfl (Option.some.inj h)
  have h := it_f h c1_3
  refine w_swOut C (pc := 1) 64 dX8_count_1 (by have q0 := lv_neT c1_0 (a := 0) rfl; have q1 := lv_neT c1_1 (a := 1) rfl; have q2 := lv_neT c1_2 (a := 2) rfl; have q3 := lv_neT c1_3 (a := 3) rfl; omega) (by decide) ?_
  refine w_iload_n C (pc := 64) dX8_count_64 1 rfl ?_
  refine w_bipush C (pc := 65) dX8_count_65 (v := 10) (by decide) ?_
  refine w_iclt C (pc := 67) 90 dX8_count_67 (by decide) (fun c => ?_) (fun c => ?_)
  · have h := it_t h c
    refine w_bipush C (pc := 90) dX8_count_90 (v := (-99)) (by decide) ?_
    exact w_retR C (pc := 92) dX8_count_92 rfl (Option.some.inj h)
  · have h := it_f h c
    refine w_iload_n C (pc := 70) dX8_count_70 1 rfl ?_
    refine w_bipush C (pc := 71) dX8_count_71 (v := 20) (by decide) ?_
    refine w_icge C (pc := 73) 90 dX8_count_73 (by decide) (fun c => ?_) (fun c => ?_)
    · have h := it_t h c
      refine w_bipush C (pc := 90) dX8_count_90 (v := (-99)) (by decide) ?_
      exact w_retR C (pc := 92) dX8_count_92 rfl (Option.some.inj h)
    · have h := it_f h c
      refine w_aload_n C (pc := 76) dX8_count_76 0 rfl ?_
      refine w_getR C (pc := 77) dX8_count_77 f_X8_10 (sA_0 hY) rfl ?_
      refine w_iload_n C (pc := 80) dX8_count_80 1 rfl ?_
      refine w_bipush C (pc := 81) dX8_count_81 (v := 10) (by decide) ?_
      refine w_isub C (pc := 83) dX8_count_83 ?_
      obtain ⟨v1, e2, h⟩ := ob h
      refine w_cVi C (pc := 84) dX8_count_84 my_X3_setting mi_X3_setting ml_X8_113 (sA_1 hY) rfl rfl rfl [.int (x1 - 10)] rfl rfl (Nat.le_of_ble_eq_true rfl) (tX3_setting (kLand_1 hY) e2) ?_
      refine w_goto C (pc := 87) 92 dX8_count_87 (by decide) ?_
      exact w_retR C (pc := 92) dX8_count_92 rfl (Option.some.inj h)
theorem dX8_forgetSearches_0 : decode cX8_forgetSearches 0 = .ok (.aload_n 0, 1) := by decide +kernel
theorem dX8_forgetSearches_1 : decode cX8_forgetSearches 1 = .ok (.getfield 60, 3) := by decide +kernel
theorem dX8_forgetSearches_4 : decode cX8_forgetSearches 4 = .ok (.iconst 0, 1) := by decide +kernel
theorem dX8_forgetSearches_5 : decode cX8_forgetSearches 5 = .ok (.putfield 236, 3) := by decide +kernel
theorem dX8_forgetSearches_8 : decode cX8_forgetSearches 8 = .ok (.aload_n 0, 1) := by decide +kernel
theorem dX8_forgetSearches_9 : decode cX8_forgetSearches 9 = .ok (.getfield 64, 3) := by decide +kernel
theorem dX8_forgetSearches_12 : decode cX8_forgetSearches 12 = .ok (.iconst 0, 1) := by decide +kernel
theorem dX8_forgetSearches_13 : decode cX8_forgetSearches 13 = .ok (.putfield 236, 3) := by decide +kernel
theorem dX8_forgetSearches_16 : decode cX8_forgetSearches 16 = .ok (.return_, 1) := by decide +kernel
def pX8_forgetSearches (M : Mm) : Mm :=
bnd (mset M 39 0 0) fun M1 =>
bnd (mset M1 40 0 0) fun M3 =>
M3
abbrev zX8_forgetSearches : Zx := (cX8_forgetSearches, RX8, 1, 0, none)
set_option maxRecDepth 100000 in
set_option maxHeartbeats 4000000 in
theorem tX8_forgetSearches {l : Launch} {Y : Sx} {M : Mm} {q : Mm} (hY : isA Y) (h : pX8_forgetSearches M = q) : Ct l Y yX8_forgetSearches cX8_forgetSearches 1 none 0 [.ref (adr Y 0)] M none q := by
  refine Ct.of (by decide) rfl (lv := [(0, .ref (adr Y 0))]) rfl ?_
  intro K hkl C
  change Cx K zX8_forgetSearches Y at C
  subst hkl
  unfold pX8_forgetSearches at h
  show Wp K zX8_forgetSearches Y (Qm K Y none q) M 0 [(0, .ref (adr Y 0))] []
  refine w_aload_n C (pc := 0) dX8_forgetSearches_0 0 rfl ?_
  refine w_getR C (pc := 1) dX8_forgetSearches_1 f_X8_60 (sA_0 hY) rfl ?_
  refine w_iconst C (pc := 4) dX8_forgetSearches_4 (v := 0) (by decide) ?_
  obtain ⟨M1, e2, h⟩ := bn h
  refine w_putZ C (pc := 5) dX8_forgetSearches_5 fp_X8_236 (sA_39 hY) rfl (by decide) ?_
  rw [e2]
  refine w_aload_n C (pc := 8) dX8_forgetSearches_8 0 rfl ?_
  refine w_getR C (pc := 9) dX8_forgetSearches_9 f_X8_64 (sA_0 hY) rfl ?_
  refine w_iconst C (pc := 12) dX8_forgetSearches_12 (v := 0) (by decide) ?_
  obtain ⟨M3, e4, h⟩ := bn h
  refine w_putZ C (pc := 13) dX8_forgetSearches_13 fp_X8_236 (sA_40 hY) rfl (by decide) ?_
  rw [e4]
  exact w_retV C (pc := 16) dX8_forgetSearches_16 rfl h
theorem dX8_customer_0 : decode cX8_customer 0 = .ok (.iconst 0, 1) := by decide +kernel
theorem dX8_customer_1 : decode cX8_customer 1 = .ok (.iload_n 1, 1) := by decide +kernel
theorem dX8_customer_2 : decode cX8_customer 2 = .ok (.invokestatic 93, 3) := by decide +kernel
theorem dX8_customer_5 : decode cX8_customer 5 = .ok (.ifCond .eq 37, 3) := by decide +kernel
theorem dX8_customer_8 : decode cX8_customer 8 = .ok (.iconst 1, 1) := by decide +kernel
theorem dX8_customer_9 : decode cX8_customer 9 = .ok (.iload_n 2, 1) := by decide +kernel
theorem dX8_customer_10 : decode cX8_customer 10 = .ok (.invokestatic 93, 3) := by decide +kernel
theorem dX8_customer_13 : decode cX8_customer 13 = .ok (.ifCond .eq 29, 3) := by decide +kernel
theorem dX8_customer_16 : decode cX8_customer 16 = .ok (.iconst 2, 1) := by decide +kernel
theorem dX8_customer_17 : decode cX8_customer 17 = .ok (.iload_n 3, 1) := by decide +kernel
theorem dX8_customer_18 : decode cX8_customer 18 = .ok (.invokestatic 93, 3) := by decide +kernel
theorem dX8_customer_21 : decode cX8_customer 21 = .ok (.ifCond .eq 21, 3) := by decide +kernel
theorem dX8_customer_24 : decode cX8_customer 24 = .ok (.iconst 3, 1) := by decide +kernel
theorem dX8_customer_25 : decode cX8_customer 25 = .ok (.iload 4, 2) := by decide +kernel
theorem dX8_customer_27 : decode cX8_customer 27 = .ok (.invokestatic 93, 3) := by decide +kernel
theorem dX8_customer_30 : decode cX8_customer 30 = .ok (.ifCond .eq 12, 3) := by decide +kernel
theorem dX8_customer_33 : decode cX8_customer 33 = .ok (.iconst 4, 1) := by decide +kernel
theorem dX8_customer_34 : decode cX8_customer 34 = .ok (.iload 5, 2) := by decide +kernel
theorem dX8_customer_36 : decode cX8_customer 36 = .ok (.invokestatic 93, 3) := by decide +kernel
theorem dX8_customer_39 : decode cX8_customer 39 = .ok (.ifCond .ne 5, 3) := by decide +kernel
theorem dX8_customer_42 : decode cX8_customer 42 = .ok (.iconst (-1), 1) := by decide +kernel
theorem dX8_customer_43 : decode cX8_customer 43 = .ok (.ireturn, 1) := by decide +kernel
theorem dX8_customer_44 : decode cX8_customer 44 = .ok (.aload_n 0, 1) := by decide +kernel
theorem dX8_customer_45 : decode cX8_customer 45 = .ok (.getfield 10, 3) := by decide +kernel
theorem dX8_customer_48 : decode cX8_customer 48 = .ok (.getfield 97, 3) := by decide +kernel
theorem dX8_customer_51 : decode cX8_customer 51 = .ok (.bipush 8, 2) := by decide +kernel
theorem dX8_customer_53 : decode cX8_customer 53 = .ok (.if_icmp .lt 6, 3) := by decide +kernel
theorem dX8_customer_56 : decode cX8_customer 56 = .ok (.bipush (-2), 2) := by decide +kernel
theorem dX8_customer_58 : decode cX8_customer 58 = .ok (.ireturn, 1) := by decide +kernel
theorem dX8_customer_59 : decode cX8_customer 59 = .ok (.aload_n 0, 1) := by decide +kernel
theorem dX8_customer_60 : decode cX8_customer 60 = .ok (.getfield 10, 3) := by decide +kernel
theorem dX8_customer_63 : decode cX8_customer 63 = .ok (.invokevirtual 100, 3) := by decide +kernel
theorem dX8_customer_66 : decode cX8_customer 66 = .ok (.aload_n 0, 1) := by decide +kernel
theorem dX8_customer_67 : decode cX8_customer 67 = .ok (.getfield 10, 3) := by decide +kernel
theorem dX8_customer_70 : decode cX8_customer 70 = .ok (.aload_n 0, 1) := by decide +kernel
theorem dX8_customer_71 : decode cX8_customer 71 = .ok (.getfield 10, 3) := by decide +kernel
theorem dX8_customer_74 : decode cX8_customer 74 = .ok (.getfield 97, 3) := by decide +kernel
theorem dX8_customer_77 : decode cX8_customer 77 = .ok (.iconst 0, 1) := by decide +kernel
theorem dX8_customer_78 : decode cX8_customer 78 = .ok (.iload_n 1, 1) := by decide +kernel
theorem dX8_customer_79 : decode cX8_customer 79 = .ok (.invokevirtual 103, 3) := by decide +kernel
theorem dX8_customer_82 : decode cX8_customer 82 = .ok (.aload_n 0, 1) := by decide +kernel
theorem dX8_customer_83 : decode cX8_customer 83 = .ok (.getfield 10, 3) := by decide +kernel
theorem dX8_customer_86 : decode cX8_customer 86 = .ok (.aload_n 0, 1) := by decide +kernel
theorem dX8_customer_87 : decode cX8_customer 87 = .ok (.getfield 10, 3) := by decide +kernel
theorem dX8_customer_90 : decode cX8_customer 90 = .ok (.getfield 97, 3) := by decide +kernel
theorem dX8_customer_93 : decode cX8_customer 93 = .ok (.iconst 1, 1) := by decide +kernel
theorem dX8_customer_94 : decode cX8_customer 94 = .ok (.iload_n 2, 1) := by decide +kernel
theorem dX8_customer_95 : decode cX8_customer 95 = .ok (.invokevirtual 103, 3) := by decide +kernel
theorem dX8_customer_98 : decode cX8_customer 98 = .ok (.aload_n 0, 1) := by decide +kernel
theorem dX8_customer_99 : decode cX8_customer 99 = .ok (.getfield 10, 3) := by decide +kernel
theorem dX8_customer_102 : decode cX8_customer 102 = .ok (.aload_n 0, 1) := by decide +kernel
theorem dX8_customer_103 : decode cX8_customer 103 = .ok (.getfield 10, 3) := by decide +kernel
theorem dX8_customer_106 : decode cX8_customer 106 = .ok (.getfield 97, 3) := by decide +kernel
theorem dX8_customer_109 : decode cX8_customer 109 = .ok (.iconst 2, 1) := by decide +kernel
theorem dX8_customer_110 : decode cX8_customer 110 = .ok (.iload_n 3, 1) := by decide +kernel
theorem dX8_customer_111 : decode cX8_customer 111 = .ok (.invokevirtual 103, 3) := by decide +kernel
theorem dX8_customer_114 : decode cX8_customer 114 = .ok (.aload_n 0, 1) := by decide +kernel
theorem dX8_customer_115 : decode cX8_customer 115 = .ok (.getfield 10, 3) := by decide +kernel
theorem dX8_customer_118 : decode cX8_customer 118 = .ok (.aload_n 0, 1) := by decide +kernel
theorem dX8_customer_119 : decode cX8_customer 119 = .ok (.getfield 10, 3) := by decide +kernel
theorem dX8_customer_122 : decode cX8_customer 122 = .ok (.getfield 97, 3) := by decide +kernel
theorem dX8_customer_125 : decode cX8_customer 125 = .ok (.iconst 3, 1) := by decide +kernel
theorem dX8_customer_126 : decode cX8_customer 126 = .ok (.iload 4, 2) := by decide +kernel
theorem dX8_customer_128 : decode cX8_customer 128 = .ok (.invokevirtual 103, 3) := by decide +kernel
theorem dX8_customer_131 : decode cX8_customer 131 = .ok (.aload_n 0, 1) := by decide +kernel
theorem dX8_customer_132 : decode cX8_customer 132 = .ok (.getfield 10, 3) := by decide +kernel
theorem dX8_customer_135 : decode cX8_customer 135 = .ok (.aload_n 0, 1) := by decide +kernel
theorem dX8_customer_136 : decode cX8_customer 136 = .ok (.getfield 10, 3) := by decide +kernel
theorem dX8_customer_139 : decode cX8_customer 139 = .ok (.getfield 97, 3) := by decide +kernel
theorem dX8_customer_142 : decode cX8_customer 142 = .ok (.iconst 4, 1) := by decide +kernel
theorem dX8_customer_143 : decode cX8_customer 143 = .ok (.iload 5, 2) := by decide +kernel
theorem dX8_customer_145 : decode cX8_customer 145 = .ok (.invokevirtual 103, 3) := by decide +kernel
theorem dX8_customer_148 : decode cX8_customer 148 = .ok (.aload_n 0, 1) := by decide +kernel
theorem dX8_customer_149 : decode cX8_customer 149 = .ok (.invokevirtual 87, 3) := by decide +kernel
theorem dX8_customer_152 : decode cX8_customer 152 = .ok (.aload_n 0, 1) := by decide +kernel
theorem dX8_customer_153 : decode cX8_customer 153 = .ok (.getfield 10, 3) := by decide +kernel
theorem dX8_customer_156 : decode cX8_customer 156 = .ok (.getfield 97, 3) := by decide +kernel
theorem dX8_customer_159 : decode cX8_customer 159 = .ok (.ireturn, 1) := by decide +kernel
def pX8_customer (x1 : Int32) (x2 : Int32) (x3 : Int32) (x4 : Int32) (x5 : Int32) (M : Mm) : Option (Int32 × Mm) :=
(pX3_mayBeFact 0 x1 M).bind fun v1 =>
if v1 = 0 then
(some ((-1), M))
else
((pX3_mayBeFact 1 x2 M).bind fun v3 =>
if v3 = 0 then
(some ((-1), M))
else
((pX3_mayBeFact 2 x3 M).bind fun v5 =>
if v5 = 0 then
(some ((-1), M))
else
((pX3_mayBeFact 3 x4 M).bind fun v7 =>
if v7 = 0 then
(some ((-1), M))
else
((pX3_mayBeFact 4 x5 M).bind fun v9 =>
if v9 = 0 then
(some ((-1), M))
else
(if (M 1 0) < 8 then
(bnd (pX3_addCustomer 1 M) fun v11 =>
(pX3_putFact 1 (v11 1 0) 0 x1 v11).bind fun v13 =>
(pX3_putFact 1 (v13 1 0) 1 x2 v13).bind fun v15 =>
(pX3_putFact 1 (v15 1 0) 2 x3 v15).bind fun v17 =>
(pX3_putFact 1 (v17 1 0) 3 x4 v17).bind fun v19 =>
(pX3_putFact 1 (v19 1 0) 4 x5 v19).bind fun v21 =>
bnd (pX8_forgetSearches v21) fun v23 =>
some (v23 1 0, v23))
else
(some ((-2), M)))))))
abbrev zX8_customer : Zx := (cX8_customer, RX8, 6, 2, (some .int))
set_option maxRecDepth 100000 in
set_option maxHeartbeats 4000000 in
theorem tX8_customer {l : Launch} {Y : Sx} {M : Mm} {x1 : Int32} {x2 : Int32} {x3 : Int32} {x4 : Int32} {x5 : Int32} {q : Int32 × Mm} (hY : isA Y) (h : pX8_customer x1 x2 x3 x4 x5 M = some q) : Ct l Y yX8_customer cX8_customer 6 (some .int) 2 [.ref (adr Y 0), .int x1, .int x2, .int x3, .int x4, .int x5] M (some q.1) q.2 := by
  refine Ct.of (by decide) rfl (lv := [(0, .ref (adr Y 0)), (1, .int x1), (2, .int x2), (3, .int x3), (4, .int x4), (5, .int x5)]) rfl ?_
  intro K hkl C
  change Cx K zX8_customer Y at C
  subst hkl
  unfold pX8_customer at h
  show Wp K zX8_customer Y (Qm K Y (some q.1) q.2) M 0 [(0, .ref (adr Y 0)), (1, .int x1), (2, .int x2), (3, .int x3), (4, .int x4), (5, .int x5)] []
  refine w_iconst C (pc := 0) dX8_customer_0 (v := 0) (by decide) ?_
  refine w_iload_n C (pc := 1) dX8_customer_1 1 rfl ?_
  obtain ⟨v1, e2, h⟩ := ob h
  refine w_cSi C (pc := 2) dX8_customer_2 my_X3_mayBeFact ms_X3_mayBeFact ml_X8_93 rfl rfl [.int 0, .int x1] rfl rfl (Nat.le_of_ble_eq_true rfl) (tX3_mayBeFact  e2) ?_
  refine w_ifeq C (pc := 5) 42 dX8_customer_5 (by decide) (fun c => ?_) (fun c => ?_)
  · have h := it_t h c
    refine w_iconst C (pc := 42) dX8_customer_42 (v := (-1)) (by decide) ?_
    exact w_ret C (pc := 43) dX8_customer_43 rfl (Option.some.inj h)
  · have h := it_f h c
    refine w_iconst C (pc := 8) dX8_customer_8 (v := 1) (by decide) ?_
    refine w_iload_n C (pc := 9) dX8_customer_9 2 rfl ?_
    obtain ⟨v3, e4, h⟩ := ob h
    refine w_cSi C (pc := 10) dX8_customer_10 my_X3_mayBeFact ms_X3_mayBeFact ml_X8_93 rfl rfl [.int 1, .int x2] rfl rfl (Nat.le_of_ble_eq_true rfl) (tX3_mayBeFact  e4) ?_
    refine w_ifeq C (pc := 13) 42 dX8_customer_13 (by decide) (fun c => ?_) (fun c => ?_)
    · have h := it_t h c
      refine w_iconst C (pc := 42) dX8_customer_42 (v := (-1)) (by decide) ?_
      exact w_ret C (pc := 43) dX8_customer_43 rfl (Option.some.inj h)
    · have h := it_f h c
      refine w_iconst C (pc := 16) dX8_customer_16 (v := 2) (by decide) ?_
      refine w_iload_n C (pc := 17) dX8_customer_17 3 rfl ?_
      obtain ⟨v5, e6, h⟩ := ob h
      refine w_cSi C (pc := 18) dX8_customer_18 my_X3_mayBeFact ms_X3_mayBeFact ml_X8_93 rfl rfl [.int 2, .int x3] rfl rfl (Nat.le_of_ble_eq_true rfl) (tX3_mayBeFact  e6) ?_
      refine w_ifeq C (pc := 21) 42 dX8_customer_21 (by decide) (fun c => ?_) (fun c => ?_)
      · have h := it_t h c
        refine w_iconst C (pc := 42) dX8_customer_42 (v := (-1)) (by decide) ?_
        exact w_ret C (pc := 43) dX8_customer_43 rfl (Option.some.inj h)
      · have h := it_f h c
        refine w_iconst C (pc := 24) dX8_customer_24 (v := 3) (by decide) ?_
        refine w_iload C (pc := 25) dX8_customer_25 4 rfl ?_
        obtain ⟨v7, e8, h⟩ := ob h
        refine w_cSi C (pc := 27) dX8_customer_27 my_X3_mayBeFact ms_X3_mayBeFact ml_X8_93 rfl rfl [.int 3, .int x4] rfl rfl (Nat.le_of_ble_eq_true rfl) (tX3_mayBeFact  e8) ?_
        refine w_ifeq C (pc := 30) 42 dX8_customer_30 (by decide) (fun c => ?_) (fun c => ?_)
        · have h := it_t h c
          refine w_iconst C (pc := 42) dX8_customer_42 (v := (-1)) (by decide) ?_
          exact w_ret C (pc := 43) dX8_customer_43 rfl (Option.some.inj h)
        · have h := it_f h c
          refine w_iconst C (pc := 33) dX8_customer_33 (v := 4) (by decide) ?_
          refine w_iload C (pc := 34) dX8_customer_34 5 rfl ?_
          obtain ⟨v9, e10, h⟩ := ob h
          refine w_cSi C (pc := 36) dX8_customer_36 my_X3_mayBeFact ms_X3_mayBeFact ml_X8_93 rfl rfl [.int 4, .int x5] rfl rfl (Nat.le_of_ble_eq_true rfl) (tX3_mayBeFact  e10) ?_
          refine w_ifne C (pc := 39) 44 dX8_customer_39 (by decide) (fun c => ?_) (fun c => ?_)
          · have h := it_t h c
            refine w_iconst C (pc := 42) dX8_customer_42 (v := (-1)) (by decide) ?_
            exact w_ret C (pc := 43) dX8_customer_43 rfl (Option.some.inj h)
          · have h := it_f h c
            refine w_aload_n C (pc := 44) dX8_customer_44 0 rfl ?_
            refine w_getR C (pc := 45) dX8_customer_45 f_X8_10 (sA_0 hY) rfl ?_
            refine w_getI C (pc := 48) dX8_customer_48 f_X8_97 (sA_1 hY) rfl ?_
            refine w_bipush C (pc := 51) dX8_customer_51 (v := 8) (by decide) ?_
            refine w_iclt C (pc := 53) 59 dX8_customer_53 (by decide) (fun c => ?_) (fun c => ?_)
            · have h := it_t h c
              refine w_aload_n C (pc := 59) dX8_customer_59 0 rfl ?_
              refine w_getR C (pc := 60) dX8_customer_60 f_X8_10 (sA_0 hY) rfl ?_
              obtain ⟨v11, e12, h⟩ := bn h
              refine w_cVv C (pc := 63) dX8_customer_63 my_X3_addCustomer mi_X3_addCustomer ml_X8_100 (sA_1 hY) rfl rfl rfl [] rfl rfl (Nat.le_of_ble_eq_true rfl) (tX3_addCustomer (kLand_1 hY) e12) ?_
              refine w_aload_n C (pc := 66) dX8_customer_66 0 rfl ?_
              refine w_getR C (pc := 67) dX8_customer_67 f_X8_10 (sA_0 hY) rfl ?_
              refine w_aload_n C (pc := 70) dX8_customer_70 0 rfl ?_
              refine w_getR C (pc := 71) dX8_customer_71 f_X8_10 (sA_0 hY) rfl ?_
              refine w_getI C (pc := 74) dX8_customer_74 f_X8_97 (sA_1 hY) rfl ?_
              refine w_iconst C (pc := 77) dX8_customer_77 (v := 0) (by decide) ?_
              refine w_iload_n C (pc := 78) dX8_customer_78 1 rfl ?_
              obtain ⟨v13, e14, h⟩ := ob h
              refine w_cVv C (pc := 79) dX8_customer_79 my_X3_putFact mi_X3_putFact ml_X8_103 (sA_1 hY) rfl rfl rfl [.int (v11 1 0), .int 0, .int x1] rfl rfl (Nat.le_of_ble_eq_true rfl) (tX3_putFact (kLand_1 hY) e14) ?_
              refine w_aload_n C (pc := 82) dX8_customer_82 0 rfl ?_
              refine w_getR C (pc := 83) dX8_customer_83 f_X8_10 (sA_0 hY) rfl ?_
              refine w_aload_n C (pc := 86) dX8_customer_86 0 rfl ?_
              refine w_getR C (pc := 87) dX8_customer_87 f_X8_10 (sA_0 hY) rfl ?_
              refine w_getI C (pc := 90) dX8_customer_90 f_X8_97 (sA_1 hY) rfl ?_
              refine w_iconst C (pc := 93) dX8_customer_93 (v := 1) (by decide) ?_
              refine w_iload_n C (pc := 94) dX8_customer_94 2 rfl ?_
              obtain ⟨v15, e16, h⟩ := ob h
              refine w_cVv C (pc := 95) dX8_customer_95 my_X3_putFact mi_X3_putFact ml_X8_103 (sA_1 hY) rfl rfl rfl [.int (v13 1 0), .int 1, .int x2] rfl rfl (Nat.le_of_ble_eq_true rfl) (tX3_putFact (kLand_1 hY) e16) ?_
              refine w_aload_n C (pc := 98) dX8_customer_98 0 rfl ?_
              refine w_getR C (pc := 99) dX8_customer_99 f_X8_10 (sA_0 hY) rfl ?_
              refine w_aload_n C (pc := 102) dX8_customer_102 0 rfl ?_
              refine w_getR C (pc := 103) dX8_customer_103 f_X8_10 (sA_0 hY) rfl ?_
              refine w_getI C (pc := 106) dX8_customer_106 f_X8_97 (sA_1 hY) rfl ?_
              refine w_iconst C (pc := 109) dX8_customer_109 (v := 2) (by decide) ?_
              refine w_iload_n C (pc := 110) dX8_customer_110 3 rfl ?_
              obtain ⟨v17, e18, h⟩ := ob h
              refine w_cVv C (pc := 111) dX8_customer_111 my_X3_putFact mi_X3_putFact ml_X8_103 (sA_1 hY) rfl rfl rfl [.int (v15 1 0), .int 2, .int x3] rfl rfl (Nat.le_of_ble_eq_true rfl) (tX3_putFact (kLand_1 hY) e18) ?_
              refine w_aload_n C (pc := 114) dX8_customer_114 0 rfl ?_
              refine w_getR C (pc := 115) dX8_customer_115 f_X8_10 (sA_0 hY) rfl ?_
              refine w_aload_n C (pc := 118) dX8_customer_118 0 rfl ?_
              refine w_getR C (pc := 119) dX8_customer_119 f_X8_10 (sA_0 hY) rfl ?_
              refine w_getI C (pc := 122) dX8_customer_122 f_X8_97 (sA_1 hY) rfl ?_
              refine w_iconst C (pc := 125) dX8_customer_125 (v := 3) (by decide) ?_
              refine w_iload C (pc := 126) dX8_customer_126 4 rfl ?_
              obtain ⟨v19, e20, h⟩ := ob h
              refine w_cVv C (pc := 128) dX8_customer_128 my_X3_putFact mi_X3_putFact ml_X8_103 (sA_1 hY) rfl rfl rfl [.int (v17 1 0), .int 3, .int x4] rfl rfl (Nat.le_of_ble_eq_true rfl) (tX3_putFact (kLand_1 hY) e20) ?_
              refine w_aload_n C (pc := 131) dX8_customer_131 0 rfl ?_
              refine w_getR C (pc := 132) dX8_customer_132 f_X8_10 (sA_0 hY) rfl ?_
              refine w_aload_n C (pc := 135) dX8_customer_135 0 rfl ?_
              refine w_getR C (pc := 136) dX8_customer_136 f_X8_10 (sA_0 hY) rfl ?_
              refine w_getI C (pc := 139) dX8_customer_139 f_X8_97 (sA_1 hY) rfl ?_
              refine w_iconst C (pc := 142) dX8_customer_142 (v := 4) (by decide) ?_
              refine w_iload C (pc := 143) dX8_customer_143 5 rfl ?_
              obtain ⟨v21, e22, h⟩ := ob h
              refine w_cVv C (pc := 145) dX8_customer_145 my_X3_putFact mi_X3_putFact ml_X8_103 (sA_1 hY) rfl rfl rfl [.int (v19 1 0), .int 4, .int x5] rfl rfl (Nat.le_of_ble_eq_true rfl) (tX3_putFact (kLand_1 hY) e22) ?_
              refine w_aload_n C (pc := 148) dX8_customer_148 0 rfl ?_
              obtain ⟨v23, e24, h⟩ := bn h
              refine w_cVv C (pc := 149) dX8_customer_149 my_X8_forgetSearches mi_X8_forgetSearches ml_X8_87 (sA_0 hY) rfl rfl rfl [] rfl rfl (Nat.le_of_ble_eq_true rfl) (tX8_forgetSearches hY  e24) ?_
              refine w_aload_n C (pc := 152) dX8_customer_152 0 rfl ?_
              refine w_getR C (pc := 153) dX8_customer_153 f_X8_10 (sA_0 hY) rfl ?_
              refine w_getI C (pc := 156) dX8_customer_156 f_X8_97 (sA_1 hY) rfl ?_
              exact w_ret C (pc := 159) dX8_customer_159 rfl (Option.some.inj h)
            · have h := it_f h c
              refine w_bipush C (pc := 56) dX8_customer_56 (v := (-2)) (by decide) ?_
              exact w_ret C (pc := 58) dX8_customer_58 rfl (Option.some.inj h)
theorem dX8_drop_0 : decode cX8_drop 0 = .ok (.aload_n 0, 1) := by decide +kernel
theorem dX8_drop_1 : decode cX8_drop 1 = .ok (.getfield 10, 3) := by decide +kernel
theorem dX8_drop_4 : decode cX8_drop 4 = .ok (.getfield 97, 3) := by decide +kernel
theorem dX8_drop_7 : decode cX8_drop 7 = .ok (.ifCond .ne 5, 3) := by decide +kernel
theorem dX8_drop_10 : decode cX8_drop 10 = .ok (.iconst (-1), 1) := by decide +kernel
theorem dX8_drop_11 : decode cX8_drop 11 = .ok (.ireturn, 1) := by decide +kernel
theorem dX8_drop_12 : decode cX8_drop 12 = .ok (.aload_n 0, 1) := by decide +kernel
theorem dX8_drop_13 : decode cX8_drop 13 = .ok (.getfield 10, 3) := by decide +kernel
theorem dX8_drop_16 : decode cX8_drop 16 = .ok (.dup, 1) := by decide +kernel
theorem dX8_drop_17 : decode cX8_drop 17 = .ok (.getfield 97, 3) := by decide +kernel
theorem dX8_drop_20 : decode cX8_drop 20 = .ok (.iconst 1, 1) := by decide +kernel
theorem dX8_drop_21 : decode cX8_drop 21 = .ok (.isub, 1) := by decide +kernel
theorem dX8_drop_22 : decode cX8_drop 22 = .ok (.putfield 97, 3) := by decide +kernel
theorem dX8_drop_25 : decode cX8_drop 25 = .ok (.aload_n 0, 1) := by decide +kernel
theorem dX8_drop_26 : decode cX8_drop 26 = .ok (.getfield 19, 3) := by decide +kernel
theorem dX8_drop_29 : decode cX8_drop 29 = .ok (.invokevirtual 107, 3) := by decide +kernel
theorem dX8_drop_32 : decode cX8_drop 32 = .ok (.aload_n 0, 1) := by decide +kernel
theorem dX8_drop_33 : decode cX8_drop 33 = .ok (.invokevirtual 87, 3) := by decide +kernel
theorem dX8_drop_36 : decode cX8_drop 36 = .ok (.aload_n 0, 1) := by decide +kernel
theorem dX8_drop_37 : decode cX8_drop 37 = .ok (.getfield 10, 3) := by decide +kernel
theorem dX8_drop_40 : decode cX8_drop 40 = .ok (.getfield 97, 3) := by decide +kernel
theorem dX8_drop_43 : decode cX8_drop 43 = .ok (.ireturn, 1) := by decide +kernel
def pX8_drop (M : Mm) : Int32 × Mm :=
if (M 1 0) = 0 then
(((-1), M))
else
(bnd (mset M 1 0 ((M 1 0) - 1)) fun M1 =>
bnd (pX4_empty 4 M1) fun v3 =>
bnd (pX8_forgetSearches v3) fun v5 =>
(v5 1 0, v5))
abbrev zX8_drop : Zx := (cX8_drop, RX8, 1, 1, (some .int))
set_option maxRecDepth 100000 in
set_option maxHeartbeats 4000000 in
theorem tX8_drop {l : Launch} {Y : Sx} {M : Mm} {q : Int32 × Mm} (hY : isA Y) (h : pX8_drop M = q) : Ct l Y yX8_drop cX8_drop 1 (some .int) 1 [.ref (adr Y 0)] M (some q.1) q.2 := by
  refine Ct.of (by decide) rfl (lv := [(0, .ref (adr Y 0))]) rfl ?_
  intro K hkl C
  change Cx K zX8_drop Y at C
  subst hkl
  unfold pX8_drop at h
  show Wp K zX8_drop Y (Qm K Y (some q.1) q.2) M 0 [(0, .ref (adr Y 0))] []
  refine w_aload_n C (pc := 0) dX8_drop_0 0 rfl ?_
  refine w_getR C (pc := 1) dX8_drop_1 f_X8_10 (sA_0 hY) rfl ?_
  refine w_getI C (pc := 4) dX8_drop_4 f_X8_97 (sA_1 hY) rfl ?_
  refine w_ifne C (pc := 7) 12 dX8_drop_7 (by decide) (fun c => ?_) (fun c => ?_)
  · have h := it_t h c
    refine w_iconst C (pc := 10) dX8_drop_10 (v := (-1)) (by decide) ?_
    exact w_ret C (pc := 11) dX8_drop_11 rfl h
  · have h := it_f h c
    refine w_aload_n C (pc := 12) dX8_drop_12 0 rfl ?_
    refine w_getR C (pc := 13) dX8_drop_13 f_X8_10 (sA_0 hY) rfl ?_
    refine w_dup C (pc := 16) dX8_drop_16 rfl ?_
    refine w_getI C (pc := 17) dX8_drop_17 f_X8_97 (sA_1 hY) rfl ?_
    refine w_iconst C (pc := 20) dX8_drop_20 (v := 1) (by decide) ?_
    refine w_isub C (pc := 21) dX8_drop_21 ?_
    obtain ⟨M1, e2, h⟩ := bn h
    refine w_putI C (pc := 22) dX8_drop_22 fp_X8_97 (sA_1 hY) rfl ?_
    rw [e2]
    refine w_aload_n C (pc := 25) dX8_drop_25 0 rfl ?_
    refine w_getR C (pc := 26) dX8_drop_26 f_X8_19 (sA_0 hY) rfl ?_
    obtain ⟨v3, e4, h⟩ := bn h
    refine w_cVv C (pc := 29) dX8_drop_29 my_X4_empty mi_X4_empty ml_X8_107 (sA_4 hY) rfl rfl rfl [] rfl rfl (Nat.le_of_ble_eq_true rfl) (tX4_empty (kPlan_4 hY) e4) ?_
    refine w_aload_n C (pc := 32) dX8_drop_32 0 rfl ?_
    obtain ⟨v5, e6, h⟩ := bn h
    refine w_cVv C (pc := 33) dX8_drop_33 my_X8_forgetSearches mi_X8_forgetSearches ml_X8_87 (sA_0 hY) rfl rfl rfl [] rfl rfl (Nat.le_of_ble_eq_true rfl) (tX8_forgetSearches hY  e6) ?_
    refine w_aload_n C (pc := 36) dX8_drop_36 0 rfl ?_
    refine w_getR C (pc := 37) dX8_drop_37 f_X8_10 (sA_0 hY) rfl ?_
    refine w_getI C (pc := 40) dX8_drop_40 f_X8_97 (sA_1 hY) rfl ?_
    exact w_ret C (pc := 43) dX8_drop_43 rfl h
theorem dX8_end_0 : decode cX8_end 0 = .ok (.iload_n 1, 1) := by decide +kernel
theorem dX8_end_1 : decode cX8_end 1 = .ok (.ifCond .lt 14, 3) := by decide +kernel
theorem dX8_end_4 : decode cX8_end 4 = .ok (.iload_n 1, 1) := by decide +kernel
theorem dX8_end_5 : decode cX8_end 5 = .ok (.aload_n 0, 1) := by decide +kernel
theorem dX8_end_6 : decode cX8_end 6 = .ok (.getfield 44, 3) := by decide +kernel
theorem dX8_end_9 : decode cX8_end 9 = .ok (.getfield 67, 3) := by decide +kernel
theorem dX8_end_12 : decode cX8_end 12 = .ok (.if_icmp .le 5, 3) := by decide +kernel
theorem dX8_end_15 : decode cX8_end 15 = .ok (.iconst 0, 1) := by decide +kernel
theorem dX8_end_16 : decode cX8_end 16 = .ok (.ireturn, 1) := by decide +kernel
theorem dX8_end_17 : decode cX8_end 17 = .ok (.aload_n 0, 1) := by decide +kernel
theorem dX8_end_18 : decode cX8_end 18 = .ok (.getfield 44, 3) := by decide +kernel
theorem dX8_end_21 : decode cX8_end 21 = .ok (.iload_n 1, 1) := by decide +kernel
theorem dX8_end_22 : decode cX8_end 22 = .ok (.putfield 67, 3) := by decide +kernel
theorem dX8_end_25 : decode cX8_end 25 = .ok (.iconst 1, 1) := by decide +kernel
theorem dX8_end_26 : decode cX8_end 26 = .ok (.ireturn, 1) := by decide +kernel
def pX8_end (x1 : Int32) (M : Mm) : Int32 × Mm :=
if x1 < 0 then
((0, M))
else
(if x1 ≤ (M 29 0) then
(bnd (mset M 29 0 x1) fun M1 =>
(1, M1))
else
((0, M)))
abbrev zX8_end : Zx := (cX8_end, RX8, 2, 0, (some .boolean))
set_option maxRecDepth 100000 in
set_option maxHeartbeats 4000000 in
theorem tX8_end {l : Launch} {Y : Sx} {M : Mm} {x1 : Int32} {q : Int32 × Mm} (hY : isA Y) (h : pX8_end x1 M = q) : Ct l Y yX8_end cX8_end 2 (some .boolean) 0 [.ref (adr Y 0), .int x1] M (some q.1) q.2 := by
  refine Ct.of (by decide) rfl (lv := [(0, .ref (adr Y 0)), (1, .int x1)]) rfl ?_
  intro K hkl C
  change Cx K zX8_end Y at C
  subst hkl
  unfold pX8_end at h
  show Wp K zX8_end Y (Qm K Y (some q.1) q.2) M 0 [(0, .ref (adr Y 0)), (1, .int x1)] []
  refine w_iload_n C (pc := 0) dX8_end_0 1 rfl ?_
  refine w_iflt C (pc := 1) 15 dX8_end_1 (by decide) (fun c => ?_) (fun c => ?_)
  · have h := it_t h c
    refine w_iconst C (pc := 15) dX8_end_15 (v := 0) (by decide) ?_
    exact w_retz C (pc := 16) dX8_end_16 rfl (by decide) h
  · have h := it_f h c
    refine w_iload_n C (pc := 4) dX8_end_4 1 rfl ?_
    refine w_aload_n C (pc := 5) dX8_end_5 0 rfl ?_
    refine w_getR C (pc := 6) dX8_end_6 f_X8_44 (sA_0 hY) rfl ?_
    refine w_getI C (pc := 9) dX8_end_9 f_X8_67 (sA_29 hY) rfl ?_
    refine w_icle C (pc := 12) 17 dX8_end_12 (by decide) (fun c => ?_) (fun c => ?_)
    · have h := it_t h c
      refine w_aload_n C (pc := 17) dX8_end_17 0 rfl ?_
      refine w_getR C (pc := 18) dX8_end_18 f_X8_44 (sA_0 hY) rfl ?_
      refine w_iload_n C (pc := 21) dX8_end_21 1 rfl ?_
      obtain ⟨M1, e2, h⟩ := bn h
      refine w_putI C (pc := 22) dX8_end_22 fp_X8_67 (sA_29 hY) rfl ?_
      rw [e2]
      refine w_iconst C (pc := 25) dX8_end_25 (v := 1) (by decide) ?_
      exact w_retz C (pc := 26) dX8_end_26 rfl (by decide) h
    · have h := it_f h c
      refine w_iconst C (pc := 15) dX8_end_15 (v := 0) (by decide) ?_
      exact w_retz C (pc := 16) dX8_end_16 rfl (by decide) h
theorem dX8_ends_0 : decode cX8_ends 0 = .ok (.aload_n 0, 1) := by decide +kernel
theorem dX8_ends_1 : decode cX8_ends 1 = .ok (.getfield 28, 3) := by decide +kernel
theorem dX8_ends_4 : decode cX8_ends 4 = .ok (.invokevirtual 171, 3) := by decide +kernel
theorem dX8_ends_7 : decode cX8_ends 7 = .ok (.ifCond .eq 13, 3) := by decide +kernel
theorem dX8_ends_10 : decode cX8_ends 10 = .ok (.aload_n 0, 1) := by decide +kernel
theorem dX8_ends_11 : decode cX8_ends 11 = .ok (.getfield 28, 3) := by decide +kernel
theorem dX8_ends_14 : decode cX8_ends 14 = .ok (.invokevirtual 178, 3) := by decide +kernel
theorem dX8_ends_17 : decode cX8_ends 17 = .ok (.goto 4, 3) := by decide +kernel
theorem dX8_ends_20 : decode cX8_ends 20 = .ok (.iconst (-1), 1) := by decide +kernel
theorem dX8_ends_21 : decode cX8_ends 21 = .ok (.ireturn, 1) := by decide +kernel
def pX8_ends (M : Mm) : Option (Int32 × Mm) :=
(pX0_look M).bind fun v1 =>
if v1.1 = 0 then
(some ((-1), v1.2))
else
((pX0_lastReady v1.2).bind fun v3 =>
some (v3, v1.2))
abbrev zX8_ends : Zx := (cX8_ends, RX8, 1, 6, (some .int))
set_option maxRecDepth 100000 in
set_option maxHeartbeats 4000000 in
theorem tX8_ends {l : Launch} {Y : Sx} {M : Mm} {q : Int32 × Mm} (hY : isA Y) (h : pX8_ends M = some q) : Ct l Y yX8_ends cX8_ends 1 (some .int) 6 [.ref (adr Y 0)] M (some q.1) q.2 := by
  refine Ct.of (by decide) rfl (lv := [(0, .ref (adr Y 0))]) rfl ?_
  intro K hkl C
  change Cx K zX8_ends Y at C
  subst hkl
  unfold pX8_ends at h
  show Wp K zX8_ends Y (Qm K Y (some q.1) q.2) M 0 [(0, .ref (adr Y 0))] []
  refine w_aload_n C (pc := 0) dX8_ends_0 0 rfl ?_
  refine w_getR C (pc := 1) dX8_ends_1 f_X8_28 (sA_0 hY) rfl ?_
  obtain ⟨v1, e2, h⟩ := ob h
  refine w_cVi C (pc := 4) dX8_ends_4 my_X0_look mi_X0_look ml_X8_171 (sA_7 hY) rfl rfl rfl [] rfl rfl (Nat.le_of_ble_eq_true rfl) (tX0_look hY  e2) ?_
  refine w_ifeq C (pc := 7) 20 dX8_ends_7 (by decide) (fun c => ?_) (fun c => ?_)
  · have h := it_t h c
    refine w_iconst C (pc := 20) dX8_ends_20 (v := (-1)) (by decide) ?_
    exact w_ret C (pc := 21) dX8_ends_21 rfl (Option.some.inj h)
  · have h := it_f h c
    refine w_aload_n C (pc := 10) dX8_ends_10 0 rfl ?_
    refine w_getR C (pc := 11) dX8_ends_11 f_X8_28 (sA_0 hY) rfl ?_
    obtain ⟨v3, e4, h⟩ := ob h
    refine w_cVi C (pc := 14) dX8_ends_14 my_X0_lastReady mi_X0_lastReady ml_X8_178 (sA_7 hY) rfl rfl rfl [] rfl rfl (Nat.le_of_ble_eq_true rfl) (tX0_lastReady hY  e4) ?_
    refine w_goto C (pc := 17) 21 dX8_ends_17 (by decide) ?_
    exact w_ret C (pc := 21) dX8_ends_21 rfl (Option.some.inj h)
theorem dX8_event_0 : decode cX8_event 0 = .ok (.aload_n 0, 1) := by decide +kernel
theorem dX8_event_1 : decode cX8_event 1 = .ok (.getfield 28, 3) := by decide +kernel
theorem dX8_event_4 : decode cX8_event 4 = .ok (.invokevirtual 171, 3) := by decide +kernel
theorem dX8_event_7 : decode cX8_event 7 = .ok (.ifCond .ne 6, 3) := by decide +kernel
theorem dX8_event_10 : decode cX8_event 10 = .ok (.bipush (-2), 2) := by decide +kernel
theorem dX8_event_12 : decode cX8_event 12 = .ok (.ireturn, 1) := by decide +kernel
theorem dX8_event_13 : decode cX8_event 13 = .ok (.iload_n 1, 1) := by decide +kernel
theorem dX8_event_14 : decode cX8_event 14 = .ok (.iconst (-1), 1) := by decide +kernel
theorem dX8_event_15 : decode cX8_event 15 = .ok (.if_icmp .ne 18, 3) := by decide +kernel
theorem dX8_event_18 : decode cX8_event 18 = .ok (.iload_n 2, 1) := by decide +kernel
theorem dX8_event_19 : decode cX8_event 19 = .ok (.ifCond .ne 14, 3) := by decide +kernel
theorem dX8_event_22 : decode cX8_event 22 = .ok (.aload_n 0, 1) := by decide +kernel
theorem dX8_event_23 : decode cX8_event 23 = .ok (.getfield 28, 3) := by decide +kernel
theorem dX8_event_26 : decode cX8_event 26 = .ok (.getfield 187, 3) := by decide +kernel
theorem dX8_event_29 : decode cX8_event 29 = .ok (.getfield 191, 3) := by decide +kernel
theorem dX8_event_32 : decode cX8_event 32 = .ok (.ireturn, 1) := by decide +kernel
theorem dX8_event_33 : decode cX8_event 33 = .ok (.aload_n 0, 1) := by decide +kernel
theorem dX8_event_34 : decode cX8_event 34 = .ok (.getfield 28, 3) := by decide +kernel
theorem dX8_event_37 : decode cX8_event 37 = .ok (.getfield 187, 3) := by decide +kernel
theorem dX8_event_40 : decode cX8_event 40 = .ok (.iload_n 1, 1) := by decide +kernel
theorem dX8_event_41 : decode cX8_event 41 = .ok (.iload_n 2, 1) := by decide +kernel
theorem dX8_event_42 : decode cX8_event 42 = .ok (.invokevirtual 196, 3) := by decide +kernel
theorem dX8_event_45 : decode cX8_event 45 = .ok (.ireturn, 1) := by decide +kernel
def pX8_event (x1 : Int32) (x2 : Int32) (M : Mm) : Option (Int32 × Mm) :=
(pX0_look M).bind fun v1 =>
if v1.1 = 0 then
(some ((-2), v1.2))
else
(Option.bind (α := (Unit) ⊕ (Int32 × Mm)) (if x1 = (-1) then
(if x2 = 0 then
(some (Sum.inr (v1.2 8 0, v1.2)))
else
(some (Sum.inl ())))
else
(some (Sum.inl ()))) fun j3 =>
Sum.elim (fun yj3 =>
(pX1_part x1 x2 v1.2).bind fun v6 =>
some (v6, v1.2)) (fun r => some r) j3)
abbrev zX8_event : Zx := (cX8_event, RX8, 3, 6, (some .int))
set_option maxRecDepth 100000 in
set_option maxHeartbeats 4000000 in
theorem tX8_event {l : Launch} {Y : Sx} {M : Mm} {x1 : Int32} {x2 : Int32} {q : Int32 × Mm} (hY : isA Y) (h : pX8_event x1 x2 M = some q) : Ct l Y yX8_event cX8_event 3 (some .int) 6 [.ref (adr Y 0), .int x1, .int x2] M (some q.1) q.2 := by
  refine Ct.of (by decide) rfl (lv := [(0, .ref (adr Y 0)), (1, .int x1), (2, .int x2)]) rfl ?_
  intro K hkl C
  change Cx K zX8_event Y at C
  subst hkl
  unfold pX8_event at h
  show Wp K zX8_event Y (Qm K Y (some q.1) q.2) M 0 [(0, .ref (adr Y 0)), (1, .int x1), (2, .int x2)] []
  refine w_aload_n C (pc := 0) dX8_event_0 0 rfl ?_
  refine w_getR C (pc := 1) dX8_event_1 f_X8_28 (sA_0 hY) rfl ?_
  obtain ⟨v1, e2, h⟩ := ob h
  refine w_cVi C (pc := 4) dX8_event_4 my_X0_look mi_X0_look ml_X8_171 (sA_7 hY) rfl rfl rfl [] rfl rfl (Nat.le_of_ble_eq_true rfl) (tX0_look hY  e2) ?_
  refine w_ifne C (pc := 7) 13 dX8_event_7 (by decide) (fun c => ?_) (fun c => ?_)
  · have h := it_t h c
    refine w_bipush C (pc := 10) dX8_event_10 (v := (-2)) (by decide) ?_
    exact w_ret C (pc := 12) dX8_event_12 rfl (Option.some.inj h)
  · have h := it_f h c
    refine w_iload_n C (pc := 13) dX8_event_13 1 rfl ?_
    refine w_iconst C (pc := 14) dX8_event_14 (v := (-1)) (by decide) ?_
    obtain ⟨j3, e4, h5⟩ := ob h
    have Jj3 : ∀ yj3, j3 = Sum.inl yj3 → Wp K zX8_event Y (Qm K Y (some q.1) q.2) v1.2 33 [(0, .ref (adr Y 0)), (1, .int x1), (2, .int x2)] [] := by
      intro yj3 hj
      subst hj
      dsimp only [Sum.elim] at h5
      refine w_aload_n C (pc := 33) dX8_event_33 0 rfl ?_
      refine w_getR C (pc := 34) dX8_event_34 f_X8_28 (sA_0 hY) rfl ?_
      refine w_getR C (pc := 37) dX8_event_37 f_X8_187 (sA_7 hY) rfl ?_
      refine w_iload_n C (pc := 40) dX8_event_40 1 rfl ?_
      refine w_iload_n C (pc := 41) dX8_event_41 2 rfl ?_
      obtain ⟨v6, e7, h5⟩ := ob h5
      refine w_cVi C (pc := 42) dX8_event_42 my_X1_part mi_X1_part ml_X8_196 (sA_8 hY) rfl rfl rfl [.int x1, .int x2] rfl rfl (Nat.le_of_ble_eq_true rfl) (tX1_part hY  e7) ?_
      exact w_ret C (pc := 45) dX8_event_45 rfl (Option.some.inj h5)
    refine w_icne C (pc := 15) 33 dX8_event_15 (by decide) (fun c => ?_) (fun c => ?_)
    · have e4 := it_t e4 c
      refine w_iload_n C (pc := 18) dX8_event_18 2 rfl ?_
      refine w_ifne C (pc := 19) 33 dX8_event_19 (by decide) (fun c => ?_) (fun c => ?_)
      · have e4 := it_t e4 c
        refine w_aload_n C (pc := 22) dX8_event_22 0 rfl ?_
        refine w_getR C (pc := 23) dX8_event_23 f_X8_28 (sA_0 hY) rfl ?_
        refine w_getR C (pc := 26) dX8_event_26 f_X8_187 (sA_7 hY) rfl ?_
        refine w_getI C (pc := 29) dX8_event_29 f_X8_191 (sA_8 hY) rfl ?_
        obtain rfl := Option.some.inj e4
        have h8 : some (v1.2 8 0, v1.2) = some q := h5
        exact w_ret C (pc := 32) dX8_event_32 rfl (Option.some.inj h8)
      · have e4 := it_f e4 c
        obtain rfl := Option.some.inj e4
        have k9 := Jj3 () rfl
        try dsimp only at k9
        exact k9
    · have e4 := it_f e4 c
      obtain rfl := Option.some.inj e4
      have k9 := Jj3 () rfl
      try dsimp only at k9
      exact k9
theorem dX8_fault_0 : decode cX8_fault 0 = .ok (.aload_n 0, 1) := by decide +kernel
theorem dX8_fault_1 : decode cX8_fault 1 = .ok (.getfield 53, 3) := by decide +kernel
theorem dX8_fault_4 : decode cX8_fault 4 = .ok (.getfield 90, 3) := by decide +kernel
theorem dX8_fault_7 : decode cX8_fault 7 = .ok (.ireturn, 1) := by decide +kernel
def pX8_fault (M : Mm) : Int32 :=
M 31 5
abbrev zX8_fault : Zx := (cX8_fault, RX8, 1, 0, (some .int))
set_option maxRecDepth 100000 in
set_option maxHeartbeats 4000000 in
theorem tX8_fault {l : Launch} {Y : Sx} {M : Mm} {q : Int32} (hY : isA Y) (h : pX8_fault M = q) : Ct l Y yX8_fault cX8_fault 1 (some .int) 0 [.ref (adr Y 0)] M (some q) M := by
  refine Ct.of (by decide) rfl (lv := [(0, .ref (adr Y 0))]) rfl ?_
  intro K hkl C
  change Cx K zX8_fault Y at C
  subst hkl
  unfold pX8_fault at h
  show Wp K zX8_fault Y (Qm K Y (some q) M) M 0 [(0, .ref (adr Y 0))] []
  refine w_aload_n C (pc := 0) dX8_fault_0 0 rfl ?_
  refine w_getR C (pc := 1) dX8_fault_1 f_X8_53 (sA_0 hY) rfl ?_
  refine w_getI C (pc := 4) dX8_fault_4 f_X8_90 (sA_31 hY) rfl ?_
  exact w_retR C (pc := 7) dX8_fault_7 rfl h
theorem dX8_feed_0 : decode cX8_feed 0 = .ok (.aload_n 0, 1) := by decide +kernel
theorem dX8_feed_1 : decode cX8_feed 1 = .ok (.getfield 44, 3) := by decide +kernel
theorem dX8_feed_4 : decode cX8_feed 4 = .ok (.getfield 67, 3) := by decide +kernel
theorem dX8_feed_7 : decode cX8_feed 7 = .ok (.bipush 20, 2) := by decide +kernel
theorem dX8_feed_9 : decode cX8_feed 9 = .ok (.iadd, 1) := by decide +kernel
theorem dX8_feed_10 : decode cX8_feed 10 = .ok (.sipush 300, 3) := by decide +kernel
theorem dX8_feed_13 : decode cX8_feed 13 = .ok (.if_icmp .le 5, 3) := by decide +kernel
theorem dX8_feed_16 : decode cX8_feed 16 = .ok (.iconst (-1), 1) := by decide +kernel
theorem dX8_feed_17 : decode cX8_feed 17 = .ok (.ireturn, 1) := by decide +kernel
theorem dX8_feed_18 : decode cX8_feed 18 = .ok (.aload_n 0, 1) := by decide +kernel
theorem dX8_feed_19 : decode cX8_feed 19 = .ok (.getfield 44, 3) := by decide +kernel
theorem dX8_feed_22 : decode cX8_feed 22 = .ok (.iload_n 1, 1) := by decide +kernel
theorem dX8_feed_23 : decode cX8_feed 23 = .ok (.invokevirtual 71, 3) := by decide +kernel
theorem dX8_feed_26 : decode cX8_feed 26 = .ok (.aload_n 0, 1) := by decide +kernel
theorem dX8_feed_27 : decode cX8_feed 27 = .ok (.getfield 44, 3) := by decide +kernel
theorem dX8_feed_30 : decode cX8_feed 30 = .ok (.iload_n 2, 1) := by decide +kernel
theorem dX8_feed_31 : decode cX8_feed 31 = .ok (.invokevirtual 71, 3) := by decide +kernel
theorem dX8_feed_34 : decode cX8_feed 34 = .ok (.aload_n 0, 1) := by decide +kernel
theorem dX8_feed_35 : decode cX8_feed 35 = .ok (.getfield 44, 3) := by decide +kernel
theorem dX8_feed_38 : decode cX8_feed 38 = .ok (.iload_n 3, 1) := by decide +kernel
theorem dX8_feed_39 : decode cX8_feed 39 = .ok (.invokevirtual 71, 3) := by decide +kernel
theorem dX8_feed_42 : decode cX8_feed 42 = .ok (.aload_n 0, 1) := by decide +kernel
theorem dX8_feed_43 : decode cX8_feed 43 = .ok (.getfield 44, 3) := by decide +kernel
theorem dX8_feed_46 : decode cX8_feed 46 = .ok (.iload 4, 2) := by decide +kernel
theorem dX8_feed_48 : decode cX8_feed 48 = .ok (.invokevirtual 71, 3) := by decide +kernel
theorem dX8_feed_51 : decode cX8_feed 51 = .ok (.aload_n 0, 1) := by decide +kernel
theorem dX8_feed_52 : decode cX8_feed 52 = .ok (.getfield 44, 3) := by decide +kernel
theorem dX8_feed_55 : decode cX8_feed 55 = .ok (.iload 5, 2) := by decide +kernel
theorem dX8_feed_57 : decode cX8_feed 57 = .ok (.invokevirtual 71, 3) := by decide +kernel
theorem dX8_feed_60 : decode cX8_feed 60 = .ok (.aload_n 0, 1) := by decide +kernel
theorem dX8_feed_61 : decode cX8_feed 61 = .ok (.getfield 44, 3) := by decide +kernel
theorem dX8_feed_64 : decode cX8_feed 64 = .ok (.getfield 67, 3) := by decide +kernel
theorem dX8_feed_67 : decode cX8_feed 67 = .ok (.ireturn, 1) := by decide +kernel
def pX8_feed (x1 : Int32) (x2 : Int32) (x3 : Int32) (x4 : Int32) (x5 : Int32) (M : Mm) : Option (Int32 × Mm) :=
if ((M 29 0) + 20) ≤ 300 then
((pX6_append x1 M).bind fun v1 =>
(pX6_append x2 v1).bind fun v3 =>
(pX6_append x3 v3).bind fun v5 =>
(pX6_append x4 v5).bind fun v7 =>
(pX6_append x5 v7).bind fun v9 =>
some (v9 29 0, v9))
else
(some ((-1), M))
abbrev zX8_feed : Zx := (cX8_feed, RX8, 6, 1, (some .int))
set_option maxRecDepth 100000 in
set_option maxHeartbeats 4000000 in
theorem tX8_feed {l : Launch} {Y : Sx} {M : Mm} {x1 : Int32} {x2 : Int32} {x3 : Int32} {x4 : Int32} {x5 : Int32} {q : Int32 × Mm} (hY : isA Y) (h : pX8_feed x1 x2 x3 x4 x5 M = some q) : Ct l Y yX8_feed cX8_feed 6 (some .int) 1 [.ref (adr Y 0), .int x1, .int x2, .int x3, .int x4, .int x5] M (some q.1) q.2 := by
  refine Ct.of (by decide) rfl (lv := [(0, .ref (adr Y 0)), (1, .int x1), (2, .int x2), (3, .int x3), (4, .int x4), (5, .int x5)]) rfl ?_
  intro K hkl C
  change Cx K zX8_feed Y at C
  subst hkl
  unfold pX8_feed at h
  show Wp K zX8_feed Y (Qm K Y (some q.1) q.2) M 0 [(0, .ref (adr Y 0)), (1, .int x1), (2, .int x2), (3, .int x3), (4, .int x4), (5, .int x5)] []
  refine w_aload_n C (pc := 0) dX8_feed_0 0 rfl ?_
  refine w_getR C (pc := 1) dX8_feed_1 f_X8_44 (sA_0 hY) rfl ?_
  refine w_getI C (pc := 4) dX8_feed_4 f_X8_67 (sA_29 hY) rfl ?_
  refine w_bipush C (pc := 7) dX8_feed_7 (v := 20) (by decide) ?_
  refine w_iadd C (pc := 9) dX8_feed_9 ?_
  refine w_sipush C (pc := 10) dX8_feed_10 (v := 300) (by decide) ?_
  refine w_icle C (pc := 13) 18 dX8_feed_13 (by decide) (fun c => ?_) (fun c => ?_)
  · have h := it_t h c
    refine w_aload_n C (pc := 18) dX8_feed_18 0 rfl ?_
    refine w_getR C (pc := 19) dX8_feed_19 f_X8_44 (sA_0 hY) rfl ?_
    refine w_iload_n C (pc := 22) dX8_feed_22 1 rfl ?_
    obtain ⟨v1, e2, h⟩ := ob h
    refine w_cVv C (pc := 23) dX8_feed_23 my_X6_append mi_X6_append ml_X8_71 (sA_29 hY) rfl rfl rfl [.int x1] rfl rfl (Nat.le_of_ble_eq_true rfl) (tX6_append hY  e2) ?_
    refine w_aload_n C (pc := 26) dX8_feed_26 0 rfl ?_
    refine w_getR C (pc := 27) dX8_feed_27 f_X8_44 (sA_0 hY) rfl ?_
    refine w_iload_n C (pc := 30) dX8_feed_30 2 rfl ?_
    obtain ⟨v3, e4, h⟩ := ob h
    refine w_cVv C (pc := 31) dX8_feed_31 my_X6_append mi_X6_append ml_X8_71 (sA_29 hY) rfl rfl rfl [.int x2] rfl rfl (Nat.le_of_ble_eq_true rfl) (tX6_append hY  e4) ?_
    refine w_aload_n C (pc := 34) dX8_feed_34 0 rfl ?_
    refine w_getR C (pc := 35) dX8_feed_35 f_X8_44 (sA_0 hY) rfl ?_
    refine w_iload_n C (pc := 38) dX8_feed_38 3 rfl ?_
    obtain ⟨v5, e6, h⟩ := ob h
    refine w_cVv C (pc := 39) dX8_feed_39 my_X6_append mi_X6_append ml_X8_71 (sA_29 hY) rfl rfl rfl [.int x3] rfl rfl (Nat.le_of_ble_eq_true rfl) (tX6_append hY  e6) ?_
    refine w_aload_n C (pc := 42) dX8_feed_42 0 rfl ?_
    refine w_getR C (pc := 43) dX8_feed_43 f_X8_44 (sA_0 hY) rfl ?_
    refine w_iload C (pc := 46) dX8_feed_46 4 rfl ?_
    obtain ⟨v7, e8, h⟩ := ob h
    refine w_cVv C (pc := 48) dX8_feed_48 my_X6_append mi_X6_append ml_X8_71 (sA_29 hY) rfl rfl rfl [.int x4] rfl rfl (Nat.le_of_ble_eq_true rfl) (tX6_append hY  e8) ?_
    refine w_aload_n C (pc := 51) dX8_feed_51 0 rfl ?_
    refine w_getR C (pc := 52) dX8_feed_52 f_X8_44 (sA_0 hY) rfl ?_
    refine w_iload C (pc := 55) dX8_feed_55 5 rfl ?_
    obtain ⟨v9, e10, h⟩ := ob h
    refine w_cVv C (pc := 57) dX8_feed_57 my_X6_append mi_X6_append ml_X8_71 (sA_29 hY) rfl rfl rfl [.int x5] rfl rfl (Nat.le_of_ble_eq_true rfl) (tX6_append hY  e10) ?_
    refine w_aload_n C (pc := 60) dX8_feed_60 0 rfl ?_
    refine w_getR C (pc := 61) dX8_feed_61 f_X8_44 (sA_0 hY) rfl ?_
    refine w_getI C (pc := 64) dX8_feed_64 f_X8_67 (sA_29 hY) rfl ?_
    exact w_ret C (pc := 67) dX8_feed_67 rfl (Option.some.inj h)
  · have h := it_f h c
    refine w_iconst C (pc := 16) dX8_feed_16 (v := (-1)) (by decide) ?_
    exact w_ret C (pc := 17) dX8_feed_17 rfl (Option.some.inj h)
theorem dX8_fillTable_0 : decode cX8_fillTable 0 = .ok (.aload_n 0, 1) := by decide +kernel
theorem dX8_fillTable_1 : decode cX8_fillTable 1 = .ok (.getfield 37, 3) := by decide +kernel
theorem dX8_fillTable_4 : decode cX8_fillTable 4 = .ok (.aload_n 0, 1) := by decide +kernel
theorem dX8_fillTable_5 : decode cX8_fillTable 5 = .ok (.getfield 10, 3) := by decide +kernel
theorem dX8_fillTable_8 : decode cX8_fillTable 8 = .ok (.bipush 8, 2) := by decide +kernel
theorem dX8_fillTable_10 : decode cX8_fillTable 10 = .ok (.invokevirtual 113, 3) := by decide +kernel
theorem dX8_fillTable_13 : decode cX8_fillTable 13 = .ok (.aload_n 0, 1) := by decide +kernel
theorem dX8_fillTable_14 : decode cX8_fillTable 14 = .ok (.getfield 10, 3) := by decide +kernel
theorem dX8_fillTable_17 : decode cX8_fillTable 17 = .ok (.iconst 2, 1) := by decide +kernel
theorem dX8_fillTable_18 : decode cX8_fillTable 18 = .ok (.invokevirtual 113, 3) := by decide +kernel
theorem dX8_fillTable_21 : decode cX8_fillTable 21 = .ok (.aload_n 0, 1) := by decide +kernel
theorem dX8_fillTable_22 : decode cX8_fillTable 22 = .ok (.getfield 10, 3) := by decide +kernel
theorem dX8_fillTable_25 : decode cX8_fillTable 25 = .ok (.iconst 3, 1) := by decide +kernel
theorem dX8_fillTable_26 : decode cX8_fillTable 26 = .ok (.invokevirtual 113, 3) := by decide +kernel
theorem dX8_fillTable_29 : decode cX8_fillTable 29 = .ok (.invokevirtual 230, 3) := by decide +kernel
theorem dX8_fillTable_32 : decode cX8_fillTable 32 = .ok (.aload_n 0, 1) := by decide +kernel
theorem dX8_fillTable_33 : decode cX8_fillTable 33 = .ok (.getfield 37, 3) := by decide +kernel
theorem dX8_fillTable_36 : decode cX8_fillTable 36 = .ok (.iconst 1, 1) := by decide +kernel
theorem dX8_fillTable_37 : decode cX8_fillTable 37 = .ok (.invokevirtual 233, 3) := by decide +kernel
theorem dX8_fillTable_40 : decode cX8_fillTable 40 = .ok (.return_, 1) := by decide +kernel
def pX8_fillTable (M : Mm) : Option (Mm) :=
(pX3_setting 1 8 M).bind fun v1 =>
(pX3_setting 1 2 M).bind fun v3 =>
(pX3_setting 1 3 M).bind fun v5 =>
(pX5_prepare v1 v3 v5 M).bind fun v7 =>
(pX5_fill 1 v7).bind fun v9 =>
some v9
abbrev zX8_fillTable : Zx := (cX8_fillTable, RX8, 1, 5, none)
set_option maxRecDepth 100000 in
set_option maxHeartbeats 4000000 in
theorem tX8_fillTable {l : Launch} {Y : Sx} {M : Mm} {q : Mm} (hY : isA Y) (h : pX8_fillTable M = some q) : Ct l Y yX8_fillTable cX8_fillTable 1 none 5 [.ref (adr Y 0)] M none q := by
  refine Ct.of (by decide) rfl (lv := [(0, .ref (adr Y 0))]) rfl ?_
  intro K hkl C
  change Cx K zX8_fillTable Y at C
  subst hkl
  unfold pX8_fillTable at h
  show Wp K zX8_fillTable Y (Qm K Y none q) M 0 [(0, .ref (adr Y 0))] []
  refine w_aload_n C (pc := 0) dX8_fillTable_0 0 rfl ?_
  refine w_getR C (pc := 1) dX8_fillTable_1 f_X8_37 (sA_0 hY) rfl ?_
  refine w_aload_n C (pc := 4) dX8_fillTable_4 0 rfl ?_
  refine w_getR C (pc := 5) dX8_fillTable_5 f_X8_10 (sA_0 hY) rfl ?_
  refine w_bipush C (pc := 8) dX8_fillTable_8 (v := 8) (by decide) ?_
  obtain ⟨v1, e2, h⟩ := ob h
  refine w_cVi C (pc := 10) dX8_fillTable_10 my_X3_setting mi_X3_setting ml_X8_113 (sA_1 hY) rfl rfl rfl [.int 8] rfl rfl (Nat.le_of_ble_eq_true rfl) (tX3_setting (kLand_1 hY) e2) ?_
  refine w_aload_n C (pc := 13) dX8_fillTable_13 0 rfl ?_
  refine w_getR C (pc := 14) dX8_fillTable_14 f_X8_10 (sA_0 hY) rfl ?_
  refine w_iconst C (pc := 17) dX8_fillTable_17 (v := 2) (by decide) ?_
  obtain ⟨v3, e4, h⟩ := ob h
  refine w_cVi C (pc := 18) dX8_fillTable_18 my_X3_setting mi_X3_setting ml_X8_113 (sA_1 hY) rfl rfl rfl [.int 2] rfl rfl (Nat.le_of_ble_eq_true rfl) (tX3_setting (kLand_1 hY) e4) ?_
  refine w_aload_n C (pc := 21) dX8_fillTable_21 0 rfl ?_
  refine w_getR C (pc := 22) dX8_fillTable_22 f_X8_10 (sA_0 hY) rfl ?_
  refine w_iconst C (pc := 25) dX8_fillTable_25 (v := 3) (by decide) ?_
  obtain ⟨v5, e6, h⟩ := ob h
  refine w_cVi C (pc := 26) dX8_fillTable_26 my_X3_setting mi_X3_setting ml_X8_113 (sA_1 hY) rfl rfl rfl [.int 3] rfl rfl (Nat.le_of_ble_eq_true rfl) (tX3_setting (kLand_1 hY) e6) ?_
  obtain ⟨v7, e8, h⟩ := ob h
  refine w_cVv C (pc := 29) dX8_fillTable_29 my_X5_prepare mi_X5_prepare ml_X8_230 (sA_17 hY) rfl rfl rfl [.int v1, .int v3, .int v5] rfl rfl (Nat.le_of_ble_eq_true rfl) (tX5_prepare hY  e8) ?_
  refine w_aload_n C (pc := 32) dX8_fillTable_32 0 rfl ?_
  refine w_getR C (pc := 33) dX8_fillTable_33 f_X8_37 (sA_0 hY) rfl ?_
  refine w_iconst C (pc := 36) dX8_fillTable_36 (v := 1) (by decide) ?_
  obtain ⟨v9, e10, h⟩ := ob h
  refine w_cVv C (pc := 37) dX8_fillTable_37 my_X5_fill mi_X5_fill ml_X8_233 (sA_17 hY) rfl rfl rfl [.int 1] rfl rfl (Nat.le_of_ble_eq_true rfl) (tX5_fill hY  e10) ?_
  exact w_retV C (pc := 40) dX8_fillTable_40 rfl (Option.some.inj h)
theorem dX8_flown_0 : decode cX8_flown 0 = .ok (.aload_n 0, 1) := by decide +kernel
theorem dX8_flown_1 : decode cX8_flown 1 = .ok (.getfield 28, 3) := by decide +kernel
theorem dX8_flown_4 : decode cX8_flown 4 = .ok (.invokevirtual 171, 3) := by decide +kernel
theorem dX8_flown_7 : decode cX8_flown 7 = .ok (.ifCond .eq 14, 3) := by decide +kernel
theorem dX8_flown_10 : decode cX8_flown 10 = .ok (.aload_n 0, 1) := by decide +kernel
theorem dX8_flown_11 : decode cX8_flown 11 = .ok (.getfield 19, 3) := by decide +kernel
theorem dX8_flown_14 : decode cX8_flown 14 = .ok (.iload_n 1, 1) := by decide +kernel
theorem dX8_flown_15 : decode cX8_flown 15 = .ok (.invokevirtual 162, 3) := by decide +kernel
theorem dX8_flown_18 : decode cX8_flown 18 = .ok (.ifCond .ne 5, 3) := by decide +kernel
theorem dX8_flown_21 : decode cX8_flown 21 = .ok (.iconst (-1), 1) := by decide +kernel
theorem dX8_flown_22 : decode cX8_flown 22 = .ok (.ireturn, 1) := by decide +kernel
theorem dX8_flown_23 : decode cX8_flown 23 = .ok (.aload_n 0, 1) := by decide +kernel
theorem dX8_flown_24 : decode cX8_flown 24 = .ok (.getfield 28, 3) := by decide +kernel
theorem dX8_flown_27 : decode cX8_flown 27 = .ok (.iload_n 1, 1) := by decide +kernel
theorem dX8_flown_28 : decode cX8_flown 28 = .ok (.iload_n 2, 1) := by decide +kernel
theorem dX8_flown_29 : decode cX8_flown 29 = .ok (.invokevirtual 184, 3) := by decide +kernel
theorem dX8_flown_32 : decode cX8_flown 32 = .ok (.ireturn, 1) := by decide +kernel
def pX8_flown (x1 : Int32) (x2 : Int32) (M : Mm) : Option (Int32 × Mm) :=
(pX0_look M).bind fun v1 =>
if v1.1 = 0 then
(some ((-1), v1.2))
else
(if (pX4_hasSortie 4 x1 v1.2) = 0 then
(some ((-1), v1.2))
else
((pX0_ofSortie x1 x2 v1.2).bind fun v3 =>
some (v3, v1.2)))
abbrev zX8_flown : Zx := (cX8_flown, RX8, 3, 6, (some .int))
set_option maxRecDepth 100000 in
set_option maxHeartbeats 4000000 in
theorem tX8_flown {l : Launch} {Y : Sx} {M : Mm} {x1 : Int32} {x2 : Int32} {q : Int32 × Mm} (hY : isA Y) (h : pX8_flown x1 x2 M = some q) : Ct l Y yX8_flown cX8_flown 3 (some .int) 6 [.ref (adr Y 0), .int x1, .int x2] M (some q.1) q.2 := by
  refine Ct.of (by decide) rfl (lv := [(0, .ref (adr Y 0)), (1, .int x1), (2, .int x2)]) rfl ?_
  intro K hkl C
  change Cx K zX8_flown Y at C
  subst hkl
  unfold pX8_flown at h
  show Wp K zX8_flown Y (Qm K Y (some q.1) q.2) M 0 [(0, .ref (adr Y 0)), (1, .int x1), (2, .int x2)] []
  refine w_aload_n C (pc := 0) dX8_flown_0 0 rfl ?_
  refine w_getR C (pc := 1) dX8_flown_1 f_X8_28 (sA_0 hY) rfl ?_
  obtain ⟨v1, e2, h⟩ := ob h
  refine w_cVi C (pc := 4) dX8_flown_4 my_X0_look mi_X0_look ml_X8_171 (sA_7 hY) rfl rfl rfl [] rfl rfl (Nat.le_of_ble_eq_true rfl) (tX0_look hY  e2) ?_
  refine w_ifeq C (pc := 7) 21 dX8_flown_7 (by decide) (fun c => ?_) (fun c => ?_)
  · have h := it_t h c
    refine w_iconst C (pc := 21) dX8_flown_21 (v := (-1)) (by decide) ?_
    exact w_ret C (pc := 22) dX8_flown_22 rfl (Option.some.inj h)
  · have h := it_f h c
    refine w_aload_n C (pc := 10) dX8_flown_10 0 rfl ?_
    refine w_getR C (pc := 11) dX8_flown_11 f_X8_19 (sA_0 hY) rfl ?_
    refine w_iload_n C (pc := 14) dX8_flown_14 1 rfl ?_
    refine w_cVi C (pc := 15) dX8_flown_15 my_X4_hasSortie mi_X4_hasSortie ml_X8_162 (sA_4 hY) rfl rfl rfl [.int x1] rfl rfl (Nat.le_of_ble_eq_true rfl) (tX4_hasSortie (kPlan_4 hY) rfl) ?_
    refine w_ifne C (pc := 18) 23 dX8_flown_18 (by decide) (fun c => ?_) (fun c => ?_)
    · have h := it_t h c
      refine w_iconst C (pc := 21) dX8_flown_21 (v := (-1)) (by decide) ?_
      exact w_ret C (pc := 22) dX8_flown_22 rfl (Option.some.inj h)
    · have h := it_f h c
      refine w_aload_n C (pc := 23) dX8_flown_23 0 rfl ?_
      refine w_getR C (pc := 24) dX8_flown_24 f_X8_28 (sA_0 hY) rfl ?_
      refine w_iload_n C (pc := 27) dX8_flown_27 1 rfl ?_
      refine w_iload_n C (pc := 28) dX8_flown_28 2 rfl ?_
      obtain ⟨v3, e4, h⟩ := ob h
      refine w_cVi C (pc := 29) dX8_flown_29 my_X0_ofSortie mi_X0_ofSortie ml_X8_184 (sA_7 hY) rfl rfl rfl [.int x1, .int x2] rfl rfl (Nat.le_of_ble_eq_true rfl) (tX0_ofSortie hY  e4) ?_
      exact w_ret C (pc := 32) dX8_flown_32 rfl (Option.some.inj h)
theorem dX8_fly_0 : decode cX8_fly 0 = .ok (.iload_n 1, 1) := by decide +kernel
theorem dX8_fly_1 : decode cX8_fly 1 = .ok (.invokestatic 132, 3) := by decide +kernel
theorem dX8_fly_4 : decode cX8_fly 4 = .ok (.ifCond .eq 29, 3) := by decide +kernel
theorem dX8_fly_7 : decode cX8_fly 7 = .ok (.iload_n 2, 1) := by decide +kernel
theorem dX8_fly_8 : decode cX8_fly 8 = .ok (.invokestatic 135, 3) := by decide +kernel
theorem dX8_fly_11 : decode cX8_fly 11 = .ok (.ifCond .eq 22, 3) := by decide +kernel
theorem dX8_fly_14 : decode cX8_fly 14 = .ok (.aload_n 0, 1) := by decide +kernel
theorem dX8_fly_15 : decode cX8_fly 15 = .ok (.getfield 10, 3) := by decide +kernel
theorem dX8_fly_18 : decode cX8_fly 18 = .ok (.iload_n 3, 1) := by decide +kernel
theorem dX8_fly_19 : decode cX8_fly 19 = .ok (.invokevirtual 121, 3) := by decide +kernel
theorem dX8_fly_22 : decode cX8_fly 22 = .ok (.ifCond .eq 11, 3) := by decide +kernel
theorem dX8_fly_25 : decode cX8_fly 25 = .ok (.iload 4, 2) := by decide +kernel
theorem dX8_fly_27 : decode cX8_fly 27 = .ok (.invokestatic 135, 3) := by decide +kernel
theorem dX8_fly_30 : decode cX8_fly 30 = .ok (.ifCond .ne 5, 3) := by decide +kernel
theorem dX8_fly_33 : decode cX8_fly 33 = .ok (.iconst (-1), 1) := by decide +kernel
theorem dX8_fly_34 : decode cX8_fly 34 = .ok (.ireturn, 1) := by decide +kernel
theorem dX8_fly_35 : decode cX8_fly 35 = .ok (.aload_n 0, 1) := by decide +kernel
theorem dX8_fly_36 : decode cX8_fly 36 = .ok (.getfield 19, 3) := by decide +kernel
theorem dX8_fly_39 : decode cX8_fly 39 = .ok (.iload_n 1, 1) := by decide +kernel
theorem dX8_fly_40 : decode cX8_fly 40 = .ok (.iload_n 2, 1) := by decide +kernel
theorem dX8_fly_41 : decode cX8_fly 41 = .ok (.iload_n 3, 1) := by decide +kernel
theorem dX8_fly_42 : decode cX8_fly 42 = .ok (.iload 4, 2) := by decide +kernel
theorem dX8_fly_44 : decode cX8_fly 44 = .ok (.invokevirtual 138, 3) := by decide +kernel
theorem dX8_fly_47 : decode cX8_fly 47 = .ok (.ifCond .eq 15, 3) := by decide +kernel
theorem dX8_fly_50 : decode cX8_fly 50 = .ok (.aload_n 0, 1) := by decide +kernel
theorem dX8_fly_51 : decode cX8_fly 51 = .ok (.getfield 19, 3) := by decide +kernel
theorem dX8_fly_54 : decode cX8_fly 54 = .ok (.getfield 142, 3) := by decide +kernel
theorem dX8_fly_57 : decode cX8_fly 57 = .ok (.iconst 1, 1) := by decide +kernel
theorem dX8_fly_58 : decode cX8_fly 58 = .ok (.isub, 1) := by decide +kernel
theorem dX8_fly_59 : decode cX8_fly 59 = .ok (.goto 5, 3) := by decide +kernel
theorem dX8_fly_62 : decode cX8_fly 62 = .ok (.bipush (-2), 2) := by decide +kernel
theorem dX8_fly_64 : decode cX8_fly 64 = .ok (.ireturn, 1) := by decide +kernel
def pX8_fly (x1 : Int32) (x2 : Int32) (x3 : Int32) (x4 : Int32) (M : Mm) : Option (Int32 × Mm) :=
if (pX4_mayBeFlyer x1) = 0 then
(some ((-1), M))
else
(if (pX4_mayBeIndex x2) = 0 then
(some ((-1), M))
else
(if (pX3_isCustomer 1 x3 M) = 0 then
(some ((-1), M))
else
(if (pX4_mayBeIndex x4) = 0 then
(some ((-1), M))
else
((pX4_addSortie 4 x1 x2 x3 x4 M).bind fun v1 =>
if v1.1 = 0 then
(some ((-2), v1.2))
else
(some ((v1.2 4 1) - 1, v1.2))))))
abbrev zX8_fly : Zx := (cX8_fly, RX8, 5, 1, (some .int))
set_option maxRecDepth 100000 in
set_option maxHeartbeats 4000000 in
theorem tX8_fly {l : Launch} {Y : Sx} {M : Mm} {x1 : Int32} {x2 : Int32} {x3 : Int32} {x4 : Int32} {q : Int32 × Mm} (hY : isA Y) (h : pX8_fly x1 x2 x3 x4 M = some q) : Ct l Y yX8_fly cX8_fly 5 (some .int) 1 [.ref (adr Y 0), .int x1, .int x2, .int x3, .int x4] M (some q.1) q.2 := by
  refine Ct.of (by decide) rfl (lv := [(0, .ref (adr Y 0)), (1, .int x1), (2, .int x2), (3, .int x3), (4, .int x4)]) rfl ?_
  intro K hkl C
  change Cx K zX8_fly Y at C
  subst hkl
  unfold pX8_fly at h
  show Wp K zX8_fly Y (Qm K Y (some q.1) q.2) M 0 [(0, .ref (adr Y 0)), (1, .int x1), (2, .int x2), (3, .int x3), (4, .int x4)] []
  refine w_iload_n C (pc := 0) dX8_fly_0 1 rfl ?_
  refine w_cSi C (pc := 1) dX8_fly_1 my_X4_mayBeFlyer ms_X4_mayBeFlyer ml_X8_132 rfl rfl [.int x1] rfl rfl (Nat.le_of_ble_eq_true rfl) (tX4_mayBeFlyer  rfl) ?_
  refine w_ifeq C (pc := 4) 33 dX8_fly_4 (by decide) (fun c => ?_) (fun c => ?_)
  · have h := it_t h c
    refine w_iconst C (pc := 33) dX8_fly_33 (v := (-1)) (by decide) ?_
    exact w_ret C (pc := 34) dX8_fly_34 rfl (Option.some.inj h)
  · have h := it_f h c
    refine w_iload_n C (pc := 7) dX8_fly_7 2 rfl ?_
    refine w_cSi C (pc := 8) dX8_fly_8 my_X4_mayBeIndex ms_X4_mayBeIndex ml_X8_135 rfl rfl [.int x2] rfl rfl (Nat.le_of_ble_eq_true rfl) (tX4_mayBeIndex  rfl) ?_
    refine w_ifeq C (pc := 11) 33 dX8_fly_11 (by decide) (fun c => ?_) (fun c => ?_)
    · have h := it_t h c
      refine w_iconst C (pc := 33) dX8_fly_33 (v := (-1)) (by decide) ?_
      exact w_ret C (pc := 34) dX8_fly_34 rfl (Option.some.inj h)
    · have h := it_f h c
      refine w_aload_n C (pc := 14) dX8_fly_14 0 rfl ?_
      refine w_getR C (pc := 15) dX8_fly_15 f_X8_10 (sA_0 hY) rfl ?_
      refine w_iload_n C (pc := 18) dX8_fly_18 3 rfl ?_
      refine w_cVi C (pc := 19) dX8_fly_19 my_X3_isCustomer mi_X3_isCustomer ml_X8_121 (sA_1 hY) rfl rfl rfl [.int x3] rfl rfl (Nat.le_of_ble_eq_true rfl) (tX3_isCustomer (kLand_1 hY) rfl) ?_
      refine w_ifeq C (pc := 22) 33 dX8_fly_22 (by decide) (fun c => ?_) (fun c => ?_)
      · have h := it_t h c
        refine w_iconst C (pc := 33) dX8_fly_33 (v := (-1)) (by decide) ?_
        exact w_ret C (pc := 34) dX8_fly_34 rfl (Option.some.inj h)
      · have h := it_f h c
        refine w_iload C (pc := 25) dX8_fly_25 4 rfl ?_
        refine w_cSi C (pc := 27) dX8_fly_27 my_X4_mayBeIndex ms_X4_mayBeIndex ml_X8_135 rfl rfl [.int x4] rfl rfl (Nat.le_of_ble_eq_true rfl) (tX4_mayBeIndex  rfl) ?_
        refine w_ifne C (pc := 30) 35 dX8_fly_30 (by decide) (fun c => ?_) (fun c => ?_)
        · have h := it_t h c
          refine w_iconst C (pc := 33) dX8_fly_33 (v := (-1)) (by decide) ?_
          exact w_ret C (pc := 34) dX8_fly_34 rfl (Option.some.inj h)
        · have h := it_f h c
          refine w_aload_n C (pc := 35) dX8_fly_35 0 rfl ?_
          refine w_getR C (pc := 36) dX8_fly_36 f_X8_19 (sA_0 hY) rfl ?_
          refine w_iload_n C (pc := 39) dX8_fly_39 1 rfl ?_
          refine w_iload_n C (pc := 40) dX8_fly_40 2 rfl ?_
          refine w_iload_n C (pc := 41) dX8_fly_41 3 rfl ?_
          refine w_iload C (pc := 42) dX8_fly_42 4 rfl ?_
          obtain ⟨v1, e2, h⟩ := ob h
          refine w_cVi C (pc := 44) dX8_fly_44 my_X4_addSortie mi_X4_addSortie ml_X8_138 (sA_4 hY) rfl rfl rfl [.int x1, .int x2, .int x3, .int x4] rfl rfl (Nat.le_of_ble_eq_true rfl) (tX4_addSortie (kPlan_4 hY) e2) ?_
          refine w_ifeq C (pc := 47) 62 dX8_fly_47 (by decide) (fun c => ?_) (fun c => ?_)
          · have h := it_t h c
            refine w_bipush C (pc := 62) dX8_fly_62 (v := (-2)) (by decide) ?_
            exact w_ret C (pc := 64) dX8_fly_64 rfl (Option.some.inj h)
          · have h := it_f h c
            refine w_aload_n C (pc := 50) dX8_fly_50 0 rfl ?_
            refine w_getR C (pc := 51) dX8_fly_51 f_X8_19 (sA_0 hY) rfl ?_
            refine w_getI C (pc := 54) dX8_fly_54 f_X8_142 (sA_4 hY) rfl ?_
            refine w_iconst C (pc := 57) dX8_fly_57 (v := 1) (by decide) ?_
            refine w_isub C (pc := 58) dX8_fly_58 ?_
            refine w_goto C (pc := 59) 64 dX8_fly_59 (by decide) ?_
            exact w_ret C (pc := 64) dX8_fly_64 rfl (Option.some.inj h)
theorem dX8_go_0 : decode cX8_go 0 = .ok (.aload_n 0, 1) := by decide +kernel
theorem dX8_go_1 : decode cX8_go 1 = .ok (.getfield 10, 3) := by decide +kernel
theorem dX8_go_4 : decode cX8_go 4 = .ok (.iload_n 1, 1) := by decide +kernel
theorem dX8_go_5 : decode cX8_go 5 = .ok (.invokevirtual 121, 3) := by decide +kernel
theorem dX8_go_8 : decode cX8_go 8 = .ok (.ifCond .ne 5, 3) := by decide +kernel
theorem dX8_go_11 : decode cX8_go 11 = .ok (.iconst (-1), 1) := by decide +kernel
theorem dX8_go_12 : decode cX8_go 12 = .ok (.ireturn, 1) := by decide +kernel
theorem dX8_go_13 : decode cX8_go 13 = .ok (.aload_n 0, 1) := by decide +kernel
theorem dX8_go_14 : decode cX8_go 14 = .ok (.getfield 19, 3) := by decide +kernel
theorem dX8_go_17 : decode cX8_go 17 = .ok (.iload_n 1, 1) := by decide +kernel
theorem dX8_go_18 : decode cX8_go 18 = .ok (.invokevirtual 125, 3) := by decide +kernel
theorem dX8_go_21 : decode cX8_go 21 = .ok (.ifCond .eq 13, 3) := by decide +kernel
theorem dX8_go_24 : decode cX8_go 24 = .ok (.aload_n 0, 1) := by decide +kernel
theorem dX8_go_25 : decode cX8_go 25 = .ok (.getfield 19, 3) := by decide +kernel
theorem dX8_go_28 : decode cX8_go 28 = .ok (.invokevirtual 128, 3) := by decide +kernel
theorem dX8_go_31 : decode cX8_go 31 = .ok (.goto 5, 3) := by decide +kernel
theorem dX8_go_34 : decode cX8_go 34 = .ok (.bipush (-2), 2) := by decide +kernel
theorem dX8_go_36 : decode cX8_go 36 = .ok (.ireturn, 1) := by decide +kernel
def pX8_go (x1 : Int32) (M : Mm) : Option (Int32 × Mm) :=
if (pX3_isCustomer 1 x1 M) = 0 then
(some ((-1), M))
else
((pX4_addStop 4 x1 M).bind fun v1 =>
if v1.1 = 0 then
(some ((-2), v1.2))
else
(some (pX4_stops 4 v1.2, v1.2)))
abbrev zX8_go : Zx := (cX8_go, RX8, 2, 1, (some .int))
set_option maxRecDepth 100000 in
set_option maxHeartbeats 4000000 in
theorem tX8_go {l : Launch} {Y : Sx} {M : Mm} {x1 : Int32} {q : Int32 × Mm} (hY : isA Y) (h : pX8_go x1 M = some q) : Ct l Y yX8_go cX8_go 2 (some .int) 1 [.ref (adr Y 0), .int x1] M (some q.1) q.2 := by
  refine Ct.of (by decide) rfl (lv := [(0, .ref (adr Y 0)), (1, .int x1)]) rfl ?_
  intro K hkl C
  change Cx K zX8_go Y at C
  subst hkl
  unfold pX8_go at h
  show Wp K zX8_go Y (Qm K Y (some q.1) q.2) M 0 [(0, .ref (adr Y 0)), (1, .int x1)] []
  refine w_aload_n C (pc := 0) dX8_go_0 0 rfl ?_
  refine w_getR C (pc := 1) dX8_go_1 f_X8_10 (sA_0 hY) rfl ?_
  refine w_iload_n C (pc := 4) dX8_go_4 1 rfl ?_
  refine w_cVi C (pc := 5) dX8_go_5 my_X3_isCustomer mi_X3_isCustomer ml_X8_121 (sA_1 hY) rfl rfl rfl [.int x1] rfl rfl (Nat.le_of_ble_eq_true rfl) (tX3_isCustomer (kLand_1 hY) rfl) ?_
  refine w_ifne C (pc := 8) 13 dX8_go_8 (by decide) (fun c => ?_) (fun c => ?_)
  · have h := it_t h c
    refine w_iconst C (pc := 11) dX8_go_11 (v := (-1)) (by decide) ?_
    exact w_ret C (pc := 12) dX8_go_12 rfl (Option.some.inj h)
  · have h := it_f h c
    refine w_aload_n C (pc := 13) dX8_go_13 0 rfl ?_
    refine w_getR C (pc := 14) dX8_go_14 f_X8_19 (sA_0 hY) rfl ?_
    refine w_iload_n C (pc := 17) dX8_go_17 1 rfl ?_
    obtain ⟨v1, e2, h⟩ := ob h
    refine w_cVi C (pc := 18) dX8_go_18 my_X4_addStop mi_X4_addStop ml_X8_125 (sA_4 hY) rfl rfl rfl [.int x1] rfl rfl (Nat.le_of_ble_eq_true rfl) (tX4_addStop (kPlan_4 hY) e2) ?_
    refine w_ifeq C (pc := 21) 34 dX8_go_21 (by decide) (fun c => ?_) (fun c => ?_)
    · have h := it_t h c
      refine w_bipush C (pc := 34) dX8_go_34 (v := (-2)) (by decide) ?_
      exact w_ret C (pc := 36) dX8_go_36 rfl (Option.some.inj h)
    · have h := it_f h c
      refine w_aload_n C (pc := 24) dX8_go_24 0 rfl ?_
      refine w_getR C (pc := 25) dX8_go_25 f_X8_19 (sA_0 hY) rfl ?_
      refine w_cVi C (pc := 28) dX8_go_28 my_X4_stops mi_X4_stops ml_X8_128 (sA_4 hY) rfl rfl rfl [] rfl rfl (Nat.le_of_ble_eq_true rfl) (tX4_stops (kPlan_4 hY) rfl) ?_
      refine w_goto C (pc := 31) 36 dX8_go_31 (by decide) ?_
      exact w_ret C (pc := 36) dX8_go_36 rfl (Option.some.inj h)
theorem dX8_place_0 : decode cX8_place 0 = .ok (.aload_n 0, 1) := by decide +kernel
theorem dX8_place_1 : decode cX8_place 1 = .ok (.getfield 10, 3) := by decide +kernel
theorem dX8_place_4 : decode cX8_place 4 = .ok (.iload_n 1, 1) := by decide +kernel
theorem dX8_place_5 : decode cX8_place 5 = .ok (.iload_n 2, 1) := by decide +kernel
theorem dX8_place_6 : decode cX8_place 6 = .ok (.invokevirtual 148, 3) := by decide +kernel
theorem dX8_place_9 : decode cX8_place 9 = .ok (.ireturn, 1) := by decide +kernel
def pX8_place (x1 : Int32) (x2 : Int32) (M : Mm) : Option (Int32) :=
(pX3_fact 1 x1 x2 M).bind fun v1 =>
some v1
abbrev zX8_place : Zx := (cX8_place, RX8, 3, 1, (some .int))
set_option maxRecDepth 100000 in
set_option maxHeartbeats 4000000 in
theorem tX8_place {l : Launch} {Y : Sx} {M : Mm} {x1 : Int32} {x2 : Int32} {q : Int32} (hY : isA Y) (h : pX8_place x1 x2 M = some q) : Ct l Y yX8_place cX8_place 3 (some .int) 1 [.ref (adr Y 0), .int x1, .int x2] M (some q) M := by
  refine Ct.of (by decide) rfl (lv := [(0, .ref (adr Y 0)), (1, .int x1), (2, .int x2)]) rfl ?_
  intro K hkl C
  change Cx K zX8_place Y at C
  subst hkl
  unfold pX8_place at h
  show Wp K zX8_place Y (Qm K Y (some q) M) M 0 [(0, .ref (adr Y 0)), (1, .int x1), (2, .int x2)] []
  refine w_aload_n C (pc := 0) dX8_place_0 0 rfl ?_
  refine w_getR C (pc := 1) dX8_place_1 f_X8_10 (sA_0 hY) rfl ?_
  refine w_iload_n C (pc := 4) dX8_place_4 1 rfl ?_
  refine w_iload_n C (pc := 5) dX8_place_5 2 rfl ?_
  obtain ⟨v1, e2, h⟩ := ob h
  refine w_cVi C (pc := 6) dX8_place_6 my_X3_fact mi_X3_fact ml_X8_148 (sA_1 hY) rfl rfl rfl [.int x1, .int x2] rfl rfl (Nat.le_of_ble_eq_true rfl) (tX3_fact (kLand_1 hY) e2) ?_
  exact w_retR C (pc := 9) dX8_place_9 rfl (Option.some.inj h)
theorem dX8_set_0 : decode cX8_set 0 = .ok (.iload_n 1, 1) := by decide +kernel
theorem dX8_set_1 : decode cX8_set 1 = .ok (.iload_n 2, 1) := by decide +kernel
theorem dX8_set_2 : decode cX8_set 2 = .ok (.invokestatic 110, 3) := by decide +kernel
theorem dX8_set_5 : decode cX8_set 5 = .ok (.ifCond .eq 15, 3) := by decide +kernel
theorem dX8_set_8 : decode cX8_set 8 = .ok (.aload_n 0, 1) := by decide +kernel
theorem dX8_set_9 : decode cX8_set 9 = .ok (.getfield 10, 3) := by decide +kernel
theorem dX8_set_12 : decode cX8_set 12 = .ok (.iload_n 1, 1) := by decide +kernel
theorem dX8_set_13 : decode cX8_set 13 = .ok (.invokevirtual 113, 3) := by decide +kernel
theorem dX8_set_16 : decode cX8_set 16 = .ok (.iload_n 2, 1) := by decide +kernel
theorem dX8_set_17 : decode cX8_set 17 = .ok (.if_icmp .ne 5, 3) := by decide +kernel
theorem dX8_set_20 : decode cX8_set 20 = .ok (.iconst 0, 1) := by decide +kernel
theorem dX8_set_21 : decode cX8_set 21 = .ok (.ireturn, 1) := by decide +kernel
theorem dX8_set_22 : decode cX8_set 22 = .ok (.aload_n 0, 1) := by decide +kernel
theorem dX8_set_23 : decode cX8_set 23 = .ok (.getfield 10, 3) := by decide +kernel
theorem dX8_set_26 : decode cX8_set 26 = .ok (.iload_n 1, 1) := by decide +kernel
theorem dX8_set_27 : decode cX8_set 27 = .ok (.iload_n 2, 1) := by decide +kernel
theorem dX8_set_28 : decode cX8_set 28 = .ok (.invokevirtual 117, 3) := by decide +kernel
theorem dX8_set_31 : decode cX8_set 31 = .ok (.aload_n 0, 1) := by decide +kernel
theorem dX8_set_32 : decode cX8_set 32 = .ok (.invokevirtual 87, 3) := by decide +kernel
theorem dX8_set_35 : decode cX8_set 35 = .ok (.iconst 1, 1) := by decide +kernel
theorem dX8_set_36 : decode cX8_set 36 = .ok (.ireturn, 1) := by decide +kernel
def pX8_set (x1 : Int32) (x2 : Int32) (M : Mm) : Option (Int32 × Mm) :=
(pX3_mayBeSetting x1 x2 M).bind fun v1 =>
if v1 = 0 then
(some (0, M))
else
((pX3_setting 1 x1 M).bind fun v3 =>
if v3 = x2 then
(some (0, M))
else
((pX3_putSetting 1 x1 x2 M).bind fun v5 =>
bnd (pX8_forgetSearches v5) fun v7 =>
some (1, v7)))
abbrev zX8_set : Zx := (cX8_set, RX8, 3, 2, (some .boolean))
set_option maxRecDepth 100000 in
set_option maxHeartbeats 4000000 in
theorem tX8_set {l : Launch} {Y : Sx} {M : Mm} {x1 : Int32} {x2 : Int32} {q : Int32 × Mm} (hY : isA Y) (h : pX8_set x1 x2 M = some q) : Ct l Y yX8_set cX8_set 3 (some .boolean) 2 [.ref (adr Y 0), .int x1, .int x2] M (some q.1) q.2 := by
  refine Ct.of (by decide) rfl (lv := [(0, .ref (adr Y 0)), (1, .int x1), (2, .int x2)]) rfl ?_
  intro K hkl C
  change Cx K zX8_set Y at C
  subst hkl
  unfold pX8_set at h
  show Wp K zX8_set Y (Qm K Y (some q.1) q.2) M 0 [(0, .ref (adr Y 0)), (1, .int x1), (2, .int x2)] []
  refine w_iload_n C (pc := 0) dX8_set_0 1 rfl ?_
  refine w_iload_n C (pc := 1) dX8_set_1 2 rfl ?_
  obtain ⟨v1, e2, h⟩ := ob h
  refine w_cSi C (pc := 2) dX8_set_2 my_X3_mayBeSetting ms_X3_mayBeSetting ml_X8_110 rfl rfl [.int x1, .int x2] rfl rfl (Nat.le_of_ble_eq_true rfl) (tX3_mayBeSetting  e2) ?_
  refine w_ifeq C (pc := 5) 20 dX8_set_5 (by decide) (fun c => ?_) (fun c => ?_)
  · have h := it_t h c
    refine w_iconst C (pc := 20) dX8_set_20 (v := 0) (by decide) ?_
    exact w_retz C (pc := 21) dX8_set_21 rfl (by decide) (Option.some.inj h)
  · have h := it_f h c
    refine w_aload_n C (pc := 8) dX8_set_8 0 rfl ?_
    refine w_getR C (pc := 9) dX8_set_9 f_X8_10 (sA_0 hY) rfl ?_
    refine w_iload_n C (pc := 12) dX8_set_12 1 rfl ?_
    obtain ⟨v3, e4, h⟩ := ob h
    refine w_cVi C (pc := 13) dX8_set_13 my_X3_setting mi_X3_setting ml_X8_113 (sA_1 hY) rfl rfl rfl [.int x1] rfl rfl (Nat.le_of_ble_eq_true rfl) (tX3_setting (kLand_1 hY) e4) ?_
    refine w_iload_n C (pc := 16) dX8_set_16 2 rfl ?_
    refine w_icne C (pc := 17) 22 dX8_set_17 (by decide) (fun c => ?_) (fun c => ?_)
    · have h := it_t h c
      refine w_iconst C (pc := 20) dX8_set_20 (v := 0) (by decide) ?_
      exact w_retz C (pc := 21) dX8_set_21 rfl (by decide) (Option.some.inj h)
    · have h := it_f h c
      refine w_aload_n C (pc := 22) dX8_set_22 0 rfl ?_
      refine w_getR C (pc := 23) dX8_set_23 f_X8_10 (sA_0 hY) rfl ?_
      refine w_iload_n C (pc := 26) dX8_set_26 1 rfl ?_
      refine w_iload_n C (pc := 27) dX8_set_27 2 rfl ?_
      obtain ⟨v5, e6, h⟩ := ob h
      refine w_cVv C (pc := 28) dX8_set_28 my_X3_putSetting mi_X3_putSetting ml_X8_117 (sA_1 hY) rfl rfl rfl [.int x1, .int x2] rfl rfl (Nat.le_of_ble_eq_true rfl) (tX3_putSetting (kLand_1 hY) e6) ?_
      refine w_aload_n C (pc := 31) dX8_set_31 0 rfl ?_
      obtain ⟨v7, e8, h⟩ := bn h
      refine w_cVv C (pc := 32) dX8_set_32 my_X8_forgetSearches mi_X8_forgetSearches ml_X8_87 (sA_0 hY) rfl rfl rfl [] rfl rfl (Nat.le_of_ble_eq_true rfl) (tX8_forgetSearches hY  e8) ?_
      refine w_iconst C (pc := 35) dX8_set_35 (v := 1) (by decide) ?_
      exact w_retz C (pc := 36) dX8_set_36 rfl (by decide) (Option.some.inj h)
theorem dX8_split_0 : decode cX8_split 0 = .ok (.aload_n 0, 1) := by decide +kernel
theorem dX8_split_1 : decode cX8_split 1 = .ok (.getfield 37, 3) := by decide +kernel
theorem dX8_split_4 : decode cX8_split 4 = .ok (.iload_n 1, 1) := by decide +kernel
theorem dX8_split_5 : decode cX8_split 5 = .ok (.invokevirtual 200, 3) := by decide +kernel
theorem dX8_split_8 : decode cX8_split 8 = .ok (.ifCond .ne 5, 3) := by decide +kernel
theorem dX8_split_11 : decode cX8_split 11 = .ok (.iconst (-1), 1) := by decide +kernel
theorem dX8_split_12 : decode cX8_split 12 = .ok (.ireturn, 1) := by decide +kernel
theorem dX8_split_13 : decode cX8_split 13 = .ok (.aload_n 0, 1) := by decide +kernel
theorem dX8_split_14 : decode cX8_split 14 = .ok (.invokevirtual 203, 3) := by decide +kernel
theorem dX8_split_17 : decode cX8_split 17 = .ok (.aload_n 0, 1) := by decide +kernel
theorem dX8_split_18 : decode cX8_split 18 = .ok (.getfield 37, 3) := by decide +kernel
theorem dX8_split_21 : decode cX8_split 21 = .ok (.invokevirtual 206, 3) := by decide +kernel
theorem dX8_split_24 : decode cX8_split 24 = .ok (.ireturn, 1) := by decide +kernel
def pX8_split (x1 : Int32) (M : Mm) : Option (Int32 × Mm) :=
(pX5_readOrder x1 M).bind fun v1 =>
if v1.1 = 0 then
(some ((-1), v1.2))
else
((pX8_fillTable v1.2).bind fun v3 =>
(pX5_lastEnd v3).bind fun v5 =>
some (v5, v3))
abbrev zX8_split : Zx := (cX8_split, RX8, 2, 6, (some .int))
set_option maxRecDepth 100000 in
set_option maxHeartbeats 4000000 in
theorem tX8_split {l : Launch} {Y : Sx} {M : Mm} {x1 : Int32} {q : Int32 × Mm} (hY : isA Y) (h : pX8_split x1 M = some q) : Ct l Y yX8_split cX8_split 2 (some .int) 6 [.ref (adr Y 0), .int x1] M (some q.1) q.2 := by
  refine Ct.of (by decide) rfl (lv := [(0, .ref (adr Y 0)), (1, .int x1)]) rfl ?_
  intro K hkl C
  change Cx K zX8_split Y at C
  subst hkl
  unfold pX8_split at h
  show Wp K zX8_split Y (Qm K Y (some q.1) q.2) M 0 [(0, .ref (adr Y 0)), (1, .int x1)] []
  refine w_aload_n C (pc := 0) dX8_split_0 0 rfl ?_
  refine w_getR C (pc := 1) dX8_split_1 f_X8_37 (sA_0 hY) rfl ?_
  refine w_iload_n C (pc := 4) dX8_split_4 1 rfl ?_
  obtain ⟨v1, e2, h⟩ := ob h
  refine w_cVi C (pc := 5) dX8_split_5 my_X5_readOrder mi_X5_readOrder ml_X8_200 (sA_17 hY) rfl rfl rfl [.int x1] rfl rfl (Nat.le_of_ble_eq_true rfl) (tX5_readOrder hY  e2) ?_
  refine w_ifne C (pc := 8) 13 dX8_split_8 (by decide) (fun c => ?_) (fun c => ?_)
  · have h := it_t h c
    refine w_iconst C (pc := 11) dX8_split_11 (v := (-1)) (by decide) ?_
    exact w_ret C (pc := 12) dX8_split_12 rfl (Option.some.inj h)
  · have h := it_f h c
    refine w_aload_n C (pc := 13) dX8_split_13 0 rfl ?_
    obtain ⟨v3, e4, h⟩ := ob h
    refine w_cVv C (pc := 14) dX8_split_14 my_X8_fillTable mi_X8_fillTable ml_X8_203 (sA_0 hY) rfl rfl rfl [] rfl rfl (Nat.le_of_ble_eq_true rfl) (tX8_fillTable hY  e4) ?_
    refine w_aload_n C (pc := 17) dX8_split_17 0 rfl ?_
    refine w_getR C (pc := 18) dX8_split_18 f_X8_37 (sA_0 hY) rfl ?_
    obtain ⟨v5, e6, h⟩ := ob h
    refine w_cVi C (pc := 21) dX8_split_21 my_X5_lastEnd mi_X5_lastEnd ml_X8_206 (sA_17 hY) rfl rfl rfl [] rfl rfl (Nat.le_of_ble_eq_true rfl) (tX5_lastEnd hY  e6) ?_
    exact w_ret C (pc := 24) dX8_split_24 rfl (Option.some.inj h)
theorem dX8_stop_0 : decode cX8_stop 0 = .ok (.aload_n 0, 1) := by decide +kernel
theorem dX8_stop_1 : decode cX8_stop 1 = .ok (.getfield 28, 3) := by decide +kernel
theorem dX8_stop_4 : decode cX8_stop 4 = .ok (.invokevirtual 171, 3) := by decide +kernel
theorem dX8_stop_7 : decode cX8_stop 7 = .ok (.ifCond .eq 18, 3) := by decide +kernel
theorem dX8_stop_10 : decode cX8_stop 10 = .ok (.iload_n 1, 1) := by decide +kernel
theorem dX8_stop_11 : decode cX8_stop 11 = .ok (.ifCond .lt 14, 3) := by decide +kernel
theorem dX8_stop_14 : decode cX8_stop 14 = .ok (.iload_n 1, 1) := by decide +kernel
theorem dX8_stop_15 : decode cX8_stop 15 = .ok (.aload_n 0, 1) := by decide +kernel
theorem dX8_stop_16 : decode cX8_stop 16 = .ok (.getfield 19, 3) := by decide +kernel
theorem dX8_stop_19 : decode cX8_stop 19 = .ok (.invokevirtual 128, 3) := by decide +kernel
theorem dX8_stop_22 : decode cX8_stop 22 = .ok (.if_icmp .lt 5, 3) := by decide +kernel
theorem dX8_stop_25 : decode cX8_stop 25 = .ok (.iconst (-1), 1) := by decide +kernel
theorem dX8_stop_26 : decode cX8_stop 26 = .ok (.ireturn, 1) := by decide +kernel
theorem dX8_stop_27 : decode cX8_stop 27 = .ok (.aload_n 0, 1) := by decide +kernel
theorem dX8_stop_28 : decode cX8_stop 28 = .ok (.getfield 28, 3) := by decide +kernel
theorem dX8_stop_31 : decode cX8_stop 31 = .ok (.iload_n 1, 1) := by decide +kernel
theorem dX8_stop_32 : decode cX8_stop 32 = .ok (.iload_n 2, 1) := by decide +kernel
theorem dX8_stop_33 : decode cX8_stop 33 = .ok (.invokevirtual 181, 3) := by decide +kernel
theorem dX8_stop_36 : decode cX8_stop 36 = .ok (.ireturn, 1) := by decide +kernel
def pX8_stop (x1 : Int32) (x2 : Int32) (M : Mm) : Option (Int32 × Mm) :=
(pX0_look M).bind fun v1 =>
if v1.1 = 0 then
(some ((-1), v1.2))
else
(if x1 < 0 then
(some ((-1), v1.2))
else
(if x1 < (pX4_stops 4 v1.2) then
((pX0_ofStop x1 x2 v1.2).bind fun v3 =>
some (v3, v1.2))
else
(some ((-1), v1.2))))
abbrev zX8_stop : Zx := (cX8_stop, RX8, 3, 6, (some .int))
set_option maxRecDepth 100000 in
set_option maxHeartbeats 4000000 in
theorem tX8_stop {l : Launch} {Y : Sx} {M : Mm} {x1 : Int32} {x2 : Int32} {q : Int32 × Mm} (hY : isA Y) (h : pX8_stop x1 x2 M = some q) : Ct l Y yX8_stop cX8_stop 3 (some .int) 6 [.ref (adr Y 0), .int x1, .int x2] M (some q.1) q.2 := by
  refine Ct.of (by decide) rfl (lv := [(0, .ref (adr Y 0)), (1, .int x1), (2, .int x2)]) rfl ?_
  intro K hkl C
  change Cx K zX8_stop Y at C
  subst hkl
  unfold pX8_stop at h
  show Wp K zX8_stop Y (Qm K Y (some q.1) q.2) M 0 [(0, .ref (adr Y 0)), (1, .int x1), (2, .int x2)] []
  refine w_aload_n C (pc := 0) dX8_stop_0 0 rfl ?_
  refine w_getR C (pc := 1) dX8_stop_1 f_X8_28 (sA_0 hY) rfl ?_
  obtain ⟨v1, e2, h⟩ := ob h
  refine w_cVi C (pc := 4) dX8_stop_4 my_X0_look mi_X0_look ml_X8_171 (sA_7 hY) rfl rfl rfl [] rfl rfl (Nat.le_of_ble_eq_true rfl) (tX0_look hY  e2) ?_
  refine w_ifeq C (pc := 7) 25 dX8_stop_7 (by decide) (fun c => ?_) (fun c => ?_)
  · have h := it_t h c
    refine w_iconst C (pc := 25) dX8_stop_25 (v := (-1)) (by decide) ?_
    exact w_ret C (pc := 26) dX8_stop_26 rfl (Option.some.inj h)
  · have h := it_f h c
    refine w_iload_n C (pc := 10) dX8_stop_10 1 rfl ?_
    refine w_iflt C (pc := 11) 25 dX8_stop_11 (by decide) (fun c => ?_) (fun c => ?_)
    · have h := it_t h c
      refine w_iconst C (pc := 25) dX8_stop_25 (v := (-1)) (by decide) ?_
      exact w_ret C (pc := 26) dX8_stop_26 rfl (Option.some.inj h)
    · have h := it_f h c
      refine w_iload_n C (pc := 14) dX8_stop_14 1 rfl ?_
      refine w_aload_n C (pc := 15) dX8_stop_15 0 rfl ?_
      refine w_getR C (pc := 16) dX8_stop_16 f_X8_19 (sA_0 hY) rfl ?_
      refine w_cVi C (pc := 19) dX8_stop_19 my_X4_stops mi_X4_stops ml_X8_128 (sA_4 hY) rfl rfl rfl [] rfl rfl (Nat.le_of_ble_eq_true rfl) (tX4_stops (kPlan_4 hY) rfl) ?_
      refine w_iclt C (pc := 22) 27 dX8_stop_22 (by decide) (fun c => ?_) (fun c => ?_)
      · have h := it_t h c
        refine w_aload_n C (pc := 27) dX8_stop_27 0 rfl ?_
        refine w_getR C (pc := 28) dX8_stop_28 f_X8_28 (sA_0 hY) rfl ?_
        refine w_iload_n C (pc := 31) dX8_stop_31 1 rfl ?_
        refine w_iload_n C (pc := 32) dX8_stop_32 2 rfl ?_
        obtain ⟨v3, e4, h⟩ := ob h
        refine w_cVi C (pc := 33) dX8_stop_33 my_X0_ofStop mi_X0_ofStop ml_X8_181 (sA_7 hY) rfl rfl rfl [.int x1, .int x2] rfl rfl (Nat.le_of_ble_eq_true rfl) (tX0_ofStop hY  e4) ?_
        exact w_ret C (pc := 36) dX8_stop_36 rfl (Option.some.inj h)
      · have h := it_f h c
        refine w_iconst C (pc := 25) dX8_stop_25 (v := (-1)) (by decide) ?_
        exact w_ret C (pc := 26) dX8_stop_26 rfl (Option.some.inj h)
theorem dX8_sum_0 : decode cX8_sum 0 = .ok (.aload_n 0, 1) := by decide +kernel
theorem dX8_sum_1 : decode cX8_sum 1 = .ok (.getfield 28, 3) := by decide +kernel
theorem dX8_sum_4 : decode cX8_sum 4 = .ok (.invokevirtual 171, 3) := by decide +kernel
theorem dX8_sum_7 : decode cX8_sum 7 = .ok (.ifCond .eq 14, 3) := by decide +kernel
theorem dX8_sum_10 : decode cX8_sum 10 = .ok (.aload_n 0, 1) := by decide +kernel
theorem dX8_sum_11 : decode cX8_sum 11 = .ok (.getfield 28, 3) := by decide +kernel
theorem dX8_sum_14 : decode cX8_sum 14 = .ok (.iload_n 1, 1) := by decide +kernel
theorem dX8_sum_15 : decode cX8_sum 15 = .ok (.invokevirtual 197, 3) := by decide +kernel
theorem dX8_sum_18 : decode cX8_sum 18 = .ok (.goto 4, 3) := by decide +kernel
theorem dX8_sum_21 : decode cX8_sum 21 = .ok (.iconst (-1), 1) := by decide +kernel
theorem dX8_sum_22 : decode cX8_sum 22 = .ok (.ireturn, 1) := by decide +kernel
def pX8_sum (x1 : Int32) (M : Mm) : Option (Int32 × Mm) :=
(pX0_look M).bind fun v1 =>
if v1.1 = 0 then
(some ((-1), v1.2))
else
((pX0_total x1 v1.2).bind fun v3 =>
some (v3, v1.2))
abbrev zX8_sum : Zx := (cX8_sum, RX8, 2, 6, (some .int))
set_option maxRecDepth 100000 in
set_option maxHeartbeats 4000000 in
theorem tX8_sum {l : Launch} {Y : Sx} {M : Mm} {x1 : Int32} {q : Int32 × Mm} (hY : isA Y) (h : pX8_sum x1 M = some q) : Ct l Y yX8_sum cX8_sum 2 (some .int) 6 [.ref (adr Y 0), .int x1] M (some q.1) q.2 := by
  refine Ct.of (by decide) rfl (lv := [(0, .ref (adr Y 0)), (1, .int x1)]) rfl ?_
  intro K hkl C
  change Cx K zX8_sum Y at C
  subst hkl
  unfold pX8_sum at h
  show Wp K zX8_sum Y (Qm K Y (some q.1) q.2) M 0 [(0, .ref (adr Y 0)), (1, .int x1)] []
  refine w_aload_n C (pc := 0) dX8_sum_0 0 rfl ?_
  refine w_getR C (pc := 1) dX8_sum_1 f_X8_28 (sA_0 hY) rfl ?_
  obtain ⟨v1, e2, h⟩ := ob h
  refine w_cVi C (pc := 4) dX8_sum_4 my_X0_look mi_X0_look ml_X8_171 (sA_7 hY) rfl rfl rfl [] rfl rfl (Nat.le_of_ble_eq_true rfl) (tX0_look hY  e2) ?_
  refine w_ifeq C (pc := 7) 21 dX8_sum_7 (by decide) (fun c => ?_) (fun c => ?_)
  · have h := it_t h c
    refine w_iconst C (pc := 21) dX8_sum_21 (v := (-1)) (by decide) ?_
    exact w_ret C (pc := 22) dX8_sum_22 rfl (Option.some.inj h)
  · have h := it_f h c
    refine w_aload_n C (pc := 10) dX8_sum_10 0 rfl ?_
    refine w_getR C (pc := 11) dX8_sum_11 f_X8_28 (sA_0 hY) rfl ?_
    refine w_iload_n C (pc := 14) dX8_sum_14 1 rfl ?_
    obtain ⟨v3, e4, h⟩ := ob h
    refine w_cVi C (pc := 15) dX8_sum_15 my_X0_total mi_X0_total ml_X8_197 (sA_7 hY) rfl rfl rfl [.int x1] rfl rfl (Nat.le_of_ble_eq_true rfl) (tX0_total hY  e4) ?_
    refine w_goto C (pc := 18) 22 dX8_sum_18 (by decide) ?_
    exact w_ret C (pc := 22) dX8_sum_22 rfl (Option.some.inj h)
theorem dX8_take_0 : decode cX8_take 0 = .ok (.aload_n 0, 1) := by decide +kernel
theorem dX8_take_1 : decode cX8_take 1 = .ok (.getfield 37, 3) := by decide +kernel
theorem dX8_take_4 : decode cX8_take 4 = .ok (.iload_n 1, 1) := by decide +kernel
theorem dX8_take_5 : decode cX8_take 5 = .ok (.invokevirtual 200, 3) := by decide +kernel
theorem dX8_take_8 : decode cX8_take 8 = .ok (.ifCond .ne 5, 3) := by decide +kernel
theorem dX8_take_11 : decode cX8_take 11 = .ok (.iconst (-1), 1) := by decide +kernel
theorem dX8_take_12 : decode cX8_take 12 = .ok (.ireturn, 1) := by decide +kernel
theorem dX8_take_13 : decode cX8_take 13 = .ok (.aload_n 0, 1) := by decide +kernel
theorem dX8_take_14 : decode cX8_take 14 = .ok (.invokevirtual 203, 3) := by decide +kernel
theorem dX8_take_17 : decode cX8_take 17 = .ok (.aload_n 0, 1) := by decide +kernel
theorem dX8_take_18 : decode cX8_take 18 = .ok (.getfield 37, 3) := by decide +kernel
theorem dX8_take_21 : decode cX8_take 21 = .ok (.aload_n 0, 1) := by decide +kernel
theorem dX8_take_22 : decode cX8_take 22 = .ok (.getfield 19, 3) := by decide +kernel
theorem dX8_take_25 : decode cX8_take 25 = .ok (.invokevirtual 209, 3) := by decide +kernel
theorem dX8_take_28 : decode cX8_take 28 = .ok (.aload_n 0, 1) := by decide +kernel
theorem dX8_take_29 : decode cX8_take 29 = .ok (.getfield 19, 3) := by decide +kernel
theorem dX8_take_32 : decode cX8_take 32 = .ok (.getfield 142, 3) := by decide +kernel
theorem dX8_take_35 : decode cX8_take 35 = .ok (.ireturn, 1) := by decide +kernel
def pX8_take (x1 : Int32) (M : Mm) : Option (Int32 × Mm) :=
(pX5_readOrder x1 M).bind fun v1 =>
if v1.1 = 0 then
(some ((-1), v1.2))
else
((pX8_fillTable v1.2).bind fun v3 =>
(pX5_writePlan v3).bind fun v5 =>
some (v5 4 1, v5))
abbrev zX8_take : Zx := (cX8_take, RX8, 2, 6, (some .int))
set_option maxRecDepth 100000 in
set_option maxHeartbeats 4000000 in
theorem tX8_take {l : Launch} {Y : Sx} {M : Mm} {x1 : Int32} {q : Int32 × Mm} (hY : isA Y) (h : pX8_take x1 M = some q) : Ct l Y yX8_take cX8_take 2 (some .int) 6 [.ref (adr Y 0), .int x1] M (some q.1) q.2 := by
  refine Ct.of (by decide) rfl (lv := [(0, .ref (adr Y 0)), (1, .int x1)]) rfl ?_
  intro K hkl C
  change Cx K zX8_take Y at C
  subst hkl
  unfold pX8_take at h
  show Wp K zX8_take Y (Qm K Y (some q.1) q.2) M 0 [(0, .ref (adr Y 0)), (1, .int x1)] []
  refine w_aload_n C (pc := 0) dX8_take_0 0 rfl ?_
  refine w_getR C (pc := 1) dX8_take_1 f_X8_37 (sA_0 hY) rfl ?_
  refine w_iload_n C (pc := 4) dX8_take_4 1 rfl ?_
  obtain ⟨v1, e2, h⟩ := ob h
  refine w_cVi C (pc := 5) dX8_take_5 my_X5_readOrder mi_X5_readOrder ml_X8_200 (sA_17 hY) rfl rfl rfl [.int x1] rfl rfl (Nat.le_of_ble_eq_true rfl) (tX5_readOrder hY  e2) ?_
  refine w_ifne C (pc := 8) 13 dX8_take_8 (by decide) (fun c => ?_) (fun c => ?_)
  · have h := it_t h c
    refine w_iconst C (pc := 11) dX8_take_11 (v := (-1)) (by decide) ?_
    exact w_ret C (pc := 12) dX8_take_12 rfl (Option.some.inj h)
  · have h := it_f h c
    refine w_aload_n C (pc := 13) dX8_take_13 0 rfl ?_
    obtain ⟨v3, e4, h⟩ := ob h
    refine w_cVv C (pc := 14) dX8_take_14 my_X8_fillTable mi_X8_fillTable ml_X8_203 (sA_0 hY) rfl rfl rfl [] rfl rfl (Nat.le_of_ble_eq_true rfl) (tX8_fillTable hY  e4) ?_
    refine w_aload_n C (pc := 17) dX8_take_17 0 rfl ?_
    refine w_getR C (pc := 18) dX8_take_18 f_X8_37 (sA_0 hY) rfl ?_
    refine w_aload_n C (pc := 21) dX8_take_21 0 rfl ?_
    refine w_getR C (pc := 22) dX8_take_22 f_X8_19 (sA_0 hY) rfl ?_
    obtain ⟨v5, e6, h⟩ := ob h
    refine w_cVv C (pc := 25) dX8_take_25 my_X5_writePlan mi_X5_writePlan ml_X8_209 (sA_17 hY) rfl rfl rfl [.ref (adr Y 4)] rfl rfl (Nat.le_of_ble_eq_true rfl) (tX5_writePlan hY  e6) ?_
    refine w_aload_n C (pc := 28) dX8_take_28 0 rfl ?_
    refine w_getR C (pc := 29) dX8_take_29 f_X8_19 (sA_0 hY) rfl ?_
    refine w_getI C (pc := 32) dX8_take_32 f_X8_142 (sA_4 hY) rfl ?_
    exact w_ret C (pc := 35) dX8_take_35 rfl (Option.some.inj h)
theorem dX8_tell_0 : decode cX8_tell 0 = .ok (.aload_n 0, 1) := by decide +kernel
theorem dX8_tell_1 : decode cX8_tell 1 = .ok (.getfield 53, 3) := by decide +kernel
theorem dX8_tell_4 : decode cX8_tell 4 = .ok (.aload_n 0, 1) := by decide +kernel
theorem dX8_tell_5 : decode cX8_tell 5 = .ok (.getfield 10, 3) := by decide +kernel
theorem dX8_tell_8 : decode cX8_tell 8 = .ok (.aload_n 0, 1) := by decide +kernel
theorem dX8_tell_9 : decode cX8_tell 9 = .ok (.getfield 19, 3) := by decide +kernel
theorem dX8_tell_12 : decode cX8_tell 12 = .ok (.invokevirtual 75, 3) := by decide +kernel
theorem dX8_tell_15 : decode cX8_tell 15 = .ok (.istore_n 1, 1) := by decide +kernel
theorem dX8_tell_16 : decode cX8_tell 16 = .ok (.aload_n 0, 1) := by decide +kernel
theorem dX8_tell_17 : decode cX8_tell 17 = .ok (.getfield 44, 3) := by decide +kernel
theorem dX8_tell_20 : decode cX8_tell 20 = .ok (.iconst 0, 1) := by decide +kernel
theorem dX8_tell_21 : decode cX8_tell 21 = .ok (.putfield 67, 3) := by decide +kernel
theorem dX8_tell_24 : decode cX8_tell 24 = .ok (.iload_n 1, 1) := by decide +kernel
theorem dX8_tell_25 : decode cX8_tell 25 = .ok (.iconst (-1), 1) := by decide +kernel
theorem dX8_tell_26 : decode cX8_tell 26 = .ok (.if_icmp .eq 35, 3) := by decide +kernel
theorem dX8_tell_29 : decode cX8_tell 29 = .ok (.aload_n 0, 1) := by decide +kernel
theorem dX8_tell_30 : decode cX8_tell 30 = .ok (.getfield 10, 3) := by decide +kernel
theorem dX8_tell_33 : decode cX8_tell 33 = .ok (.aload_n 0, 1) := by decide +kernel
theorem dX8_tell_34 : decode cX8_tell 34 = .ok (.getfield 53, 3) := by decide +kernel
theorem dX8_tell_37 : decode cX8_tell 37 = .ok (.getfield 79, 3) := by decide +kernel
theorem dX8_tell_40 : decode cX8_tell 40 = .ok (.invokevirtual 80, 3) := by decide +kernel
theorem dX8_tell_43 : decode cX8_tell 43 = .ok (.aload_n 0, 1) := by decide +kernel
theorem dX8_tell_44 : decode cX8_tell 44 = .ok (.getfield 19, 3) := by decide +kernel
theorem dX8_tell_47 : decode cX8_tell 47 = .ok (.aload_n 0, 1) := by decide +kernel
theorem dX8_tell_48 : decode cX8_tell 48 = .ok (.getfield 53, 3) := by decide +kernel
theorem dX8_tell_51 : decode cX8_tell 51 = .ok (.getfield 83, 3) := by decide +kernel
theorem dX8_tell_54 : decode cX8_tell 54 = .ok (.invokevirtual 84, 3) := by decide +kernel
theorem dX8_tell_57 : decode cX8_tell 57 = .ok (.aload_n 0, 1) := by decide +kernel
theorem dX8_tell_58 : decode cX8_tell 58 = .ok (.invokevirtual 87, 3) := by decide +kernel
theorem dX8_tell_61 : decode cX8_tell 61 = .ok (.iload_n 1, 1) := by decide +kernel
theorem dX8_tell_62 : decode cX8_tell 62 = .ok (.ireturn, 1) := by decide +kernel
def pX8_tell (M : Mm) : Option (Int32 × Mm) :=
(pX7_read M).bind fun v1 =>
bnd (v1.1) fun v3 =>
bnd (mset v1.2 29 0 0) fun M4 =>
if v3 = (-1) then
(some (v3, M4))
else
(bnd (pX3_copyOf 1 32 M4) fun v6 =>
bnd (pX4_copyOf 4 35 v6) fun v8 =>
bnd (pX8_forgetSearches v8) fun v10 =>
some (v3, v10))
abbrev zX8_tell : Zx := (cX8_tell, RX8, 2, 7, (some .int))
set_option maxRecDepth 100000 in
set_option maxHeartbeats 4000000 in
theorem tX8_tell {l : Launch} {Y : Sx} {M : Mm} {q : Int32 × Mm} (hY : isA Y) (h : pX8_tell M = some q) : Ct l Y yX8_tell cX8_tell 2 (some .int) 7 [.ref (adr Y 0)] M (some q.1) q.2 := by
  refine Ct.of (by decide) rfl (lv := [(0, .ref (adr Y 0))]) rfl ?_
  intro K hkl C
  change Cx K zX8_tell Y at C
  subst hkl
  unfold pX8_tell at h
  show Wp K zX8_tell Y (Qm K Y (some q.1) q.2) M 0 [(0, .ref (adr Y 0))] []
  refine w_aload_n C (pc := 0) dX8_tell_0 0 rfl ?_
  refine w_getR C (pc := 1) dX8_tell_1 f_X8_53 (sA_0 hY) rfl ?_
  refine w_aload_n C (pc := 4) dX8_tell_4 0 rfl ?_
  refine w_getR C (pc := 5) dX8_tell_5 f_X8_10 (sA_0 hY) rfl ?_
  refine w_aload_n C (pc := 8) dX8_tell_8 0 rfl ?_
  refine w_getR C (pc := 9) dX8_tell_9 f_X8_19 (sA_0 hY) rfl ?_
  obtain ⟨v1, e2, h⟩ := ob h
  refine w_cVi C (pc := 12) dX8_tell_12 my_X7_read mi_X7_read ml_X8_75 (sA_31 hY) rfl rfl rfl [.ref (adr Y 1), .ref (adr Y 4)] rfl rfl (Nat.le_of_ble_eq_true rfl) (tX7_read hY  e2) ?_
  refine w_bnd h (fun v3 h => ?_)
  refine w_istore_n C (pc := 15) dX8_tell_15 (lv' := [(0, .ref (adr Y 0)), (1, .int v3)]) rfl rfl rfl ?_
  refine w_aload_n C (pc := 16) dX8_tell_16 0 rfl ?_
  refine w_getR C (pc := 17) dX8_tell_17 f_X8_44 (sA_0 hY) rfl ?_
  refine w_iconst C (pc := 20) dX8_tell_20 (v := 0) (by decide) ?_
  obtain ⟨M4, e5, h⟩ := bn h
  refine w_putI C (pc := 21) dX8_tell_21 fp_X8_67 (sA_29 hY) rfl ?_
  rw [e5]
  refine w_iload_n C (pc := 24) dX8_tell_24 1 rfl ?_
  refine w_iconst C (pc := 25) dX8_tell_25 (v := (-1)) (by decide) ?_
  refine w_iceq C (pc := 26) 61 dX8_tell_26 (by decide) (fun c => ?_) (fun c => ?_)
  · have h := it_t h c
    refine w_iload_n C (pc := 61) dX8_tell_61 1 rfl ?_
    exact w_ret C (pc := 62) dX8_tell_62 rfl (Option.some.inj h)
  · have h := it_f h c
    refine w_aload_n C (pc := 29) dX8_tell_29 0 rfl ?_
    refine w_getR C (pc := 30) dX8_tell_30 f_X8_10 (sA_0 hY) rfl ?_
    refine w_aload_n C (pc := 33) dX8_tell_33 0 rfl ?_
    refine w_getR C (pc := 34) dX8_tell_34 f_X8_53 (sA_0 hY) rfl ?_
    refine w_getR C (pc := 37) dX8_tell_37 f_X8_79 (sA_31 hY) rfl ?_
    obtain ⟨v6, e7, h⟩ := bn h
    refine w_cVv C (pc := 40) dX8_tell_40 my_X3_copyOf mi_X3_copyOf ml_X8_80 (sA_1 hY) rfl rfl rfl [.ref (adr Y 32)] rfl rfl (Nat.le_of_ble_eq_true rfl) (tX3_copyOf (kLand_1 hY) (kLand_32 hY) e7) ?_
    refine w_aload_n C (pc := 43) dX8_tell_43 0 rfl ?_
    refine w_getR C (pc := 44) dX8_tell_44 f_X8_19 (sA_0 hY) rfl ?_
    refine w_aload_n C (pc := 47) dX8_tell_47 0 rfl ?_
    refine w_getR C (pc := 48) dX8_tell_48 f_X8_53 (sA_0 hY) rfl ?_
    refine w_getR C (pc := 51) dX8_tell_51 f_X8_83 (sA_31 hY) rfl ?_
    obtain ⟨v8, e9, h⟩ := bn h
    refine w_cVv C (pc := 54) dX8_tell_54 my_X4_copyOf mi_X4_copyOf ml_X8_84 (sA_4 hY) rfl rfl rfl [.ref (adr Y 35)] rfl rfl (Nat.le_of_ble_eq_true rfl) (tX4_copyOf (kPlan_4 hY) (kPlan_35 hY) e9) ?_
    refine w_aload_n C (pc := 57) dX8_tell_57 0 rfl ?_
    obtain ⟨v10, e11, h⟩ := bn h
    refine w_cVv C (pc := 58) dX8_tell_58 my_X8_forgetSearches mi_X8_forgetSearches ml_X8_87 (sA_0 hY) rfl rfl rfl [] rfl rfl (Nat.le_of_ble_eq_true rfl) (tX8_forgetSearches hY  e11) ?_
    refine w_iload_n C (pc := 61) dX8_tell_61 1 rfl ?_
    exact w_ret C (pc := 62) dX8_tell_62 rfl (Option.some.inj h)
theorem dX8_undo_0 : decode cX8_undo 0 = .ok (.iload_n 1, 1) := by decide +kernel
theorem dX8_undo_1 : decode cX8_undo 1 = .ok (.ifCond .eq 36, 3) := by decide +kernel
theorem dX8_undo_4 : decode cX8_undo 4 = .ok (.aload_n 0, 1) := by decide +kernel
theorem dX8_undo_5 : decode cX8_undo 5 = .ok (.getfield 19, 3) := by decide +kernel
theorem dX8_undo_8 : decode cX8_undo 8 = .ok (.getfield 145, 3) := by decide +kernel
theorem dX8_undo_11 : decode cX8_undo 11 = .ok (.ifCond .ne 5, 3) := by decide +kernel
theorem dX8_undo_14 : decode cX8_undo 14 = .ok (.iconst (-1), 1) := by decide +kernel
theorem dX8_undo_15 : decode cX8_undo 15 = .ok (.ireturn, 1) := by decide +kernel
theorem dX8_undo_16 : decode cX8_undo 16 = .ok (.aload_n 0, 1) := by decide +kernel
theorem dX8_undo_17 : decode cX8_undo 17 = .ok (.getfield 19, 3) := by decide +kernel
theorem dX8_undo_20 : decode cX8_undo 20 = .ok (.dup, 1) := by decide +kernel
theorem dX8_undo_21 : decode cX8_undo 21 = .ok (.getfield 145, 3) := by decide +kernel
theorem dX8_undo_24 : decode cX8_undo 24 = .ok (.iconst 1, 1) := by decide +kernel
theorem dX8_undo_25 : decode cX8_undo 25 = .ok (.isub, 1) := by decide +kernel
theorem dX8_undo_26 : decode cX8_undo 26 = .ok (.putfield 145, 3) := by decide +kernel
theorem dX8_undo_29 : decode cX8_undo 29 = .ok (.aload_n 0, 1) := by decide +kernel
theorem dX8_undo_30 : decode cX8_undo 30 = .ok (.getfield 19, 3) := by decide +kernel
theorem dX8_undo_33 : decode cX8_undo 33 = .ok (.getfield 145, 3) := by decide +kernel
theorem dX8_undo_36 : decode cX8_undo 36 = .ok (.ireturn, 1) := by decide +kernel
theorem dX8_undo_37 : decode cX8_undo 37 = .ok (.aload_n 0, 1) := by decide +kernel
theorem dX8_undo_38 : decode cX8_undo 38 = .ok (.getfield 19, 3) := by decide +kernel
theorem dX8_undo_41 : decode cX8_undo 41 = .ok (.getfield 142, 3) := by decide +kernel
theorem dX8_undo_44 : decode cX8_undo 44 = .ok (.ifCond .ne 5, 3) := by decide +kernel
theorem dX8_undo_47 : decode cX8_undo 47 = .ok (.iconst (-1), 1) := by decide +kernel
theorem dX8_undo_48 : decode cX8_undo 48 = .ok (.ireturn, 1) := by decide +kernel
theorem dX8_undo_49 : decode cX8_undo 49 = .ok (.aload_n 0, 1) := by decide +kernel
theorem dX8_undo_50 : decode cX8_undo 50 = .ok (.getfield 19, 3) := by decide +kernel
theorem dX8_undo_53 : decode cX8_undo 53 = .ok (.dup, 1) := by decide +kernel
theorem dX8_undo_54 : decode cX8_undo 54 = .ok (.getfield 142, 3) := by decide +kernel
theorem dX8_undo_57 : decode cX8_undo 57 = .ok (.iconst 1, 1) := by decide +kernel
theorem dX8_undo_58 : decode cX8_undo 58 = .ok (.isub, 1) := by decide +kernel
theorem dX8_undo_59 : decode cX8_undo 59 = .ok (.putfield 142, 3) := by decide +kernel
theorem dX8_undo_62 : decode cX8_undo 62 = .ok (.aload_n 0, 1) := by decide +kernel
theorem dX8_undo_63 : decode cX8_undo 63 = .ok (.getfield 19, 3) := by decide +kernel
theorem dX8_undo_66 : decode cX8_undo 66 = .ok (.getfield 142, 3) := by decide +kernel
theorem dX8_undo_69 : decode cX8_undo 69 = .ok (.ireturn, 1) := by decide +kernel
def pX8_undo (x1 : Int32) (M : Mm) : Int32 × Mm :=
if x1 = 0 then
(if (M 4 1) = 0 then
(((-1), M))
else
(bnd (mset M 4 1 ((M 4 1) - 1)) fun M1 =>
(M1 4 1, M1)))
else
(if (M 4 0) = 0 then
(((-1), M))
else
(bnd (mset M 4 0 ((M 4 0) - 1)) fun M3 =>
(M3 4 0, M3)))
abbrev zX8_undo : Zx := (cX8_undo, RX8, 2, 0, (some .int))
set_option maxRecDepth 100000 in
set_option maxHeartbeats 4000000 in
theorem tX8_undo {l : Launch} {Y : Sx} {M : Mm} {x1 : Int32} {q : Int32 × Mm} (hY : isA Y) (h : pX8_undo x1 M = q) : Ct l Y yX8_undo cX8_undo 2 (some .int) 0 [.ref (adr Y 0), .int x1] M (some q.1) q.2 := by
  refine Ct.of (by decide) rfl (lv := [(0, .ref (adr Y 0)), (1, .int x1)]) rfl ?_
  intro K hkl C
  change Cx K zX8_undo Y at C
  subst hkl
  unfold pX8_undo at h
  show Wp K zX8_undo Y (Qm K Y (some q.1) q.2) M 0 [(0, .ref (adr Y 0)), (1, .int x1)] []
  refine w_iload_n C (pc := 0) dX8_undo_0 1 rfl ?_
  refine w_ifeq C (pc := 1) 37 dX8_undo_1 (by decide) (fun c => ?_) (fun c => ?_)
  · have h := it_t h c
    refine w_aload_n C (pc := 37) dX8_undo_37 0 rfl ?_
    refine w_getR C (pc := 38) dX8_undo_38 f_X8_19 (sA_0 hY) rfl ?_
    refine w_getI C (pc := 41) dX8_undo_41 f_X8_142 (sA_4 hY) rfl ?_
    refine w_ifne C (pc := 44) 49 dX8_undo_44 (by decide) (fun c => ?_) (fun c => ?_)
    · have h := it_t h c
      refine w_iconst C (pc := 47) dX8_undo_47 (v := (-1)) (by decide) ?_
      exact w_ret C (pc := 48) dX8_undo_48 rfl h
    · have h := it_f h c
      refine w_aload_n C (pc := 49) dX8_undo_49 0 rfl ?_
      refine w_getR C (pc := 50) dX8_undo_50 f_X8_19 (sA_0 hY) rfl ?_
      refine w_dup C (pc := 53) dX8_undo_53 rfl ?_
      refine w_getI C (pc := 54) dX8_undo_54 f_X8_142 (sA_4 hY) rfl ?_
      refine w_iconst C (pc := 57) dX8_undo_57 (v := 1) (by decide) ?_
      refine w_isub C (pc := 58) dX8_undo_58 ?_
      obtain ⟨M1, e2, h⟩ := bn h
      refine w_putI C (pc := 59) dX8_undo_59 fp_X8_142 (sA_4 hY) rfl ?_
      rw [e2]
      refine w_aload_n C (pc := 62) dX8_undo_62 0 rfl ?_
      refine w_getR C (pc := 63) dX8_undo_63 f_X8_19 (sA_0 hY) rfl ?_
      refine w_getI C (pc := 66) dX8_undo_66 f_X8_142 (sA_4 hY) rfl ?_
      exact w_ret C (pc := 69) dX8_undo_69 rfl h
  · have h := it_f h c
    refine w_aload_n C (pc := 4) dX8_undo_4 0 rfl ?_
    refine w_getR C (pc := 5) dX8_undo_5 f_X8_19 (sA_0 hY) rfl ?_
    refine w_getI C (pc := 8) dX8_undo_8 f_X8_145 (sA_4 hY) rfl ?_
    refine w_ifne C (pc := 11) 16 dX8_undo_11 (by decide) (fun c => ?_) (fun c => ?_)
    · have h := it_t h c
      refine w_iconst C (pc := 14) dX8_undo_14 (v := (-1)) (by decide) ?_
      exact w_ret C (pc := 15) dX8_undo_15 rfl h
    · have h := it_f h c
      refine w_aload_n C (pc := 16) dX8_undo_16 0 rfl ?_
      refine w_getR C (pc := 17) dX8_undo_17 f_X8_19 (sA_0 hY) rfl ?_
      refine w_dup C (pc := 20) dX8_undo_20 rfl ?_
      refine w_getI C (pc := 21) dX8_undo_21 f_X8_145 (sA_4 hY) rfl ?_
      refine w_iconst C (pc := 24) dX8_undo_24 (v := 1) (by decide) ?_
      refine w_isub C (pc := 25) dX8_undo_25 ?_
      obtain ⟨M3, e4, h⟩ := bn h
      refine w_putI C (pc := 26) dX8_undo_26 fp_X8_145 (sA_4 hY) rfl ?_
      rw [e4]
      refine w_aload_n C (pc := 29) dX8_undo_29 0 rfl ?_
      refine w_getR C (pc := 30) dX8_undo_30 f_X8_19 (sA_0 hY) rfl ?_
      refine w_getI C (pc := 33) dX8_undo_33 f_X8_145 (sA_4 hY) rfl ?_
      exact w_ret C (pc := 36) dX8_undo_36 rfl h
theorem dX8_way_0 : decode cX8_way 0 = .ok (.aload_n 0, 1) := by decide +kernel
theorem dX8_way_1 : decode cX8_way 1 = .ok (.getfield 10, 3) := by decide +kernel
theorem dX8_way_4 : decode cX8_way 4 = .ok (.iload_n 1, 1) := by decide +kernel
theorem dX8_way_5 : decode cX8_way 5 = .ok (.invokevirtual 152, 3) := by decide +kernel
theorem dX8_way_8 : decode cX8_way 8 = .ok (.ifCond .eq 14, 3) := by decide +kernel
theorem dX8_way_11 : decode cX8_way 11 = .ok (.aload_n 0, 1) := by decide +kernel
theorem dX8_way_12 : decode cX8_way 12 = .ok (.getfield 10, 3) := by decide +kernel
theorem dX8_way_15 : decode cX8_way 15 = .ok (.iload_n 2, 1) := by decide +kernel
theorem dX8_way_16 : decode cX8_way 16 = .ok (.invokevirtual 152, 3) := by decide +kernel
theorem dX8_way_19 : decode cX8_way 19 = .ok (.ifCond .ne 5, 3) := by decide +kernel
theorem dX8_way_22 : decode cX8_way 22 = .ok (.iconst (-1), 1) := by decide +kernel
theorem dX8_way_23 : decode cX8_way 23 = .ok (.ireturn, 1) := by decide +kernel
theorem dX8_way_24 : decode cX8_way 24 = .ok (.iload_n 3, 1) := by decide +kernel
theorem dX8_way_25 : decode cX8_way 25 = .ok (.ifCond .eq 31, 3) := by decide +kernel
theorem dX8_way_28 : decode cX8_way 28 = .ok (.aload_n 0, 1) := by decide +kernel
theorem dX8_way_29 : decode cX8_way 29 = .ok (.getfield 10, 3) := by decide +kernel
theorem dX8_way_32 : decode cX8_way 32 = .ok (.iload_n 1, 1) := by decide +kernel
theorem dX8_way_33 : decode cX8_way 33 = .ok (.iload_n 2, 1) := by decide +kernel
theorem dX8_way_34 : decode cX8_way 34 = .ok (.aload_n 0, 1) := by decide +kernel
theorem dX8_way_35 : decode cX8_way 35 = .ok (.getfield 10, 3) := by decide +kernel
theorem dX8_way_38 : decode cX8_way 38 = .ok (.iconst 2, 1) := by decide +kernel
theorem dX8_way_39 : decode cX8_way 39 = .ok (.invokevirtual 113, 3) := by decide +kernel
theorem dX8_way_42 : decode cX8_way 42 = .ok (.aload_n 0, 1) := by decide +kernel
theorem dX8_way_43 : decode cX8_way 43 = .ok (.getfield 10, 3) := by decide +kernel
theorem dX8_way_46 : decode cX8_way 46 = .ok (.iconst 3, 1) := by decide +kernel
theorem dX8_way_47 : decode cX8_way 47 = .ok (.invokevirtual 113, 3) := by decide +kernel
theorem dX8_way_50 : decode cX8_way 50 = .ok (.invokevirtual 155, 3) := by decide +kernel
theorem dX8_way_53 : decode cX8_way 53 = .ok (.goto 12, 3) := by decide +kernel
theorem dX8_way_56 : decode cX8_way 56 = .ok (.aload_n 0, 1) := by decide +kernel
theorem dX8_way_57 : decode cX8_way 57 = .ok (.getfield 10, 3) := by decide +kernel
theorem dX8_way_60 : decode cX8_way 60 = .ok (.iload_n 1, 1) := by decide +kernel
theorem dX8_way_61 : decode cX8_way 61 = .ok (.iload_n 2, 1) := by decide +kernel
theorem dX8_way_62 : decode cX8_way 62 = .ok (.invokevirtual 159, 3) := by decide +kernel
theorem dX8_way_65 : decode cX8_way 65 = .ok (.ireturn, 1) := by decide +kernel
def pX8_way (x1 : Int32) (x2 : Int32) (x3 : Int32) (M : Mm) : Option (Int32) :=
if (pX3_isPlace 1 x1 M) = 0 then
(some (-1))
else
(if (pX3_isPlace 1 x2 M) = 0 then
(some (-1))
else
(if x3 = 0 then
((pX3_drive 1 x1 x2 M).bind fun v1 =>
some v1)
else
((pX3_setting 1 2 M).bind fun v3 =>
(pX3_setting 1 3 M).bind fun v5 =>
(pX3_flight 1 x1 x2 v3 v5 M).bind fun v7 =>
some v7)))
abbrev zX8_way : Zx := (cX8_way, RX8, 4, 2, (some .int))
set_option maxRecDepth 100000 in
set_option maxHeartbeats 4000000 in
theorem tX8_way {l : Launch} {Y : Sx} {M : Mm} {x1 : Int32} {x2 : Int32} {x3 : Int32} {q : Int32} (hY : isA Y) (h : pX8_way x1 x2 x3 M = some q) : Ct l Y yX8_way cX8_way 4 (some .int) 2 [.ref (adr Y 0), .int x1, .int x2, .int x3] M (some q) M := by
  refine Ct.of (by decide) rfl (lv := [(0, .ref (adr Y 0)), (1, .int x1), (2, .int x2), (3, .int x3)]) rfl ?_
  intro K hkl C
  change Cx K zX8_way Y at C
  subst hkl
  unfold pX8_way at h
  show Wp K zX8_way Y (Qm K Y (some q) M) M 0 [(0, .ref (adr Y 0)), (1, .int x1), (2, .int x2), (3, .int x3)] []
  refine w_aload_n C (pc := 0) dX8_way_0 0 rfl ?_
  refine w_getR C (pc := 1) dX8_way_1 f_X8_10 (sA_0 hY) rfl ?_
  refine w_iload_n C (pc := 4) dX8_way_4 1 rfl ?_
  refine w_cVi C (pc := 5) dX8_way_5 my_X3_isPlace mi_X3_isPlace ml_X8_152 (sA_1 hY) rfl rfl rfl [.int x1] rfl rfl (Nat.le_of_ble_eq_true rfl) (tX3_isPlace (kLand_1 hY) rfl) ?_
  refine w_ifeq C (pc := 8) 22 dX8_way_8 (by decide) (fun c => ?_) (fun c => ?_)
  · have h := it_t h c
    refine w_iconst C (pc := 22) dX8_way_22 (v := (-1)) (by decide) ?_
    exact w_retR C (pc := 23) dX8_way_23 rfl (Option.some.inj h)
  · have h := it_f h c
    refine w_aload_n C (pc := 11) dX8_way_11 0 rfl ?_
    refine w_getR C (pc := 12) dX8_way_12 f_X8_10 (sA_0 hY) rfl ?_
    refine w_iload_n C (pc := 15) dX8_way_15 2 rfl ?_
    refine w_cVi C (pc := 16) dX8_way_16 my_X3_isPlace mi_X3_isPlace ml_X8_152 (sA_1 hY) rfl rfl rfl [.int x2] rfl rfl (Nat.le_of_ble_eq_true rfl) (tX3_isPlace (kLand_1 hY) rfl) ?_
    refine w_ifne C (pc := 19) 24 dX8_way_19 (by decide) (fun c => ?_) (fun c => ?_)
    · have h := it_t h c
      refine w_iconst C (pc := 22) dX8_way_22 (v := (-1)) (by decide) ?_
      exact w_retR C (pc := 23) dX8_way_23 rfl (Option.some.inj h)
    · have h := it_f h c
      refine w_iload_n C (pc := 24) dX8_way_24 3 rfl ?_
      refine w_ifeq C (pc := 25) 56 dX8_way_25 (by decide) (fun c => ?_) (fun c => ?_)
      · have h := it_t h c
        refine w_aload_n C (pc := 56) dX8_way_56 0 rfl ?_
        refine w_getR C (pc := 57) dX8_way_57 f_X8_10 (sA_0 hY) rfl ?_
        refine w_iload_n C (pc := 60) dX8_way_60 1 rfl ?_
        refine w_iload_n C (pc := 61) dX8_way_61 2 rfl ?_
        obtain ⟨v1, e2, h⟩ := ob h
        refine w_cVi C (pc := 62) dX8_way_62 my_X3_drive mi_X3_drive ml_X8_159 (sA_1 hY) rfl rfl rfl [.int x1, .int x2] rfl rfl (Nat.le_of_ble_eq_true rfl) (tX3_drive (kLand_1 hY) e2) ?_
        exact w_retR C (pc := 65) dX8_way_65 rfl (Option.some.inj h)
      · have h := it_f h c
        refine w_aload_n C (pc := 28) dX8_way_28 0 rfl ?_
        refine w_getR C (pc := 29) dX8_way_29 f_X8_10 (sA_0 hY) rfl ?_
        refine w_iload_n C (pc := 32) dX8_way_32 1 rfl ?_
        refine w_iload_n C (pc := 33) dX8_way_33 2 rfl ?_
        refine w_aload_n C (pc := 34) dX8_way_34 0 rfl ?_
        refine w_getR C (pc := 35) dX8_way_35 f_X8_10 (sA_0 hY) rfl ?_
        refine w_iconst C (pc := 38) dX8_way_38 (v := 2) (by decide) ?_
        obtain ⟨v3, e4, h⟩ := ob h
        refine w_cVi C (pc := 39) dX8_way_39 my_X3_setting mi_X3_setting ml_X8_113 (sA_1 hY) rfl rfl rfl [.int 2] rfl rfl (Nat.le_of_ble_eq_true rfl) (tX3_setting (kLand_1 hY) e4) ?_
        refine w_aload_n C (pc := 42) dX8_way_42 0 rfl ?_
        refine w_getR C (pc := 43) dX8_way_43 f_X8_10 (sA_0 hY) rfl ?_
        refine w_iconst C (pc := 46) dX8_way_46 (v := 3) (by decide) ?_
        obtain ⟨v5, e6, h⟩ := ob h
        refine w_cVi C (pc := 47) dX8_way_47 my_X3_setting mi_X3_setting ml_X8_113 (sA_1 hY) rfl rfl rfl [.int 3] rfl rfl (Nat.le_of_ble_eq_true rfl) (tX3_setting (kLand_1 hY) e6) ?_
        obtain ⟨v7, e8, h⟩ := ob h
        refine w_cVi C (pc := 50) dX8_way_50 my_X3_flight mi_X3_flight ml_X8_155 (sA_1 hY) rfl rfl rfl [.int x1, .int x2, .int v3, .int v5] rfl rfl (Nat.le_of_ble_eq_true rfl) (tX3_flight (kLand_1 hY) e8) ?_
        refine w_goto C (pc := 53) 65 dX8_way_53 (by decide) ?_
        exact w_retR C (pc := 65) dX8_way_65 rfl (Option.some.inj h)
theorem dX8_wind_0 : decode cX8_wind 0 = .ok (.iload_n 2, 1) := by decide +kernel
theorem dX8_wind_1 : decode cX8_wind 1 = .ok (.iconst (-1), 1) := by decide +kernel
theorem dX8_wind_2 : decode cX8_wind 2 = .ok (.if_icmp .lt 20, 3) := by decide +kernel
theorem dX8_wind_5 : decode cX8_wind 5 = .ok (.iload_n 2, 1) := by decide +kernel
theorem dX8_wind_6 : decode cX8_wind 6 = .ok (.bipush 9, 2) := by decide +kernel
theorem dX8_wind_8 : decode cX8_wind 8 = .ok (.if_icmp .ge 14, 3) := by decide +kernel
theorem dX8_wind_11 : decode cX8_wind 11 = .ok (.aload_n 0, 1) := by decide +kernel
theorem dX8_wind_12 : decode cX8_wind 12 = .ok (.getfield 37, 3) := by decide +kernel
theorem dX8_wind_15 : decode cX8_wind 15 = .ok (.iload_n 1, 1) := by decide +kernel
theorem dX8_wind_16 : decode cX8_wind 16 = .ok (.invokevirtual 200, 3) := by decide +kernel
theorem dX8_wind_19 : decode cX8_wind 19 = .ok (.ifCond .ne 5, 3) := by decide +kernel
theorem dX8_wind_22 : decode cX8_wind 22 = .ok (.iconst (-1), 1) := by decide +kernel
theorem dX8_wind_23 : decode cX8_wind 23 = .ok (.ireturn, 1) := by decide +kernel
theorem dX8_wind_24 : decode cX8_wind 24 = .ok (.iload_n 2, 1) := by decide +kernel
theorem dX8_wind_25 : decode cX8_wind 25 = .ok (.iconst (-1), 1) := by decide +kernel
theorem dX8_wind_26 : decode cX8_wind 26 = .ok (.if_icmp .ne 10, 3) := by decide +kernel
theorem dX8_wind_29 : decode cX8_wind 29 = .ok (.aload_n 0, 1) := by decide +kernel
theorem dX8_wind_30 : decode cX8_wind 30 = .ok (.invokevirtual 224, 3) := by decide +kernel
theorem dX8_wind_33 : decode cX8_wind 33 = .ok (.goto 8, 3) := by decide +kernel
theorem dX8_wind_36 : decode cX8_wind 36 = .ok (.aload_n 0, 1) := by decide +kernel
theorem dX8_wind_37 : decode cX8_wind 37 = .ok (.iload_n 2, 1) := by decide +kernel
theorem dX8_wind_38 : decode cX8_wind 38 = .ok (.invokevirtual 227, 3) := by decide +kernel
theorem dX8_wind_41 : decode cX8_wind 41 = .ok (.ireturn, 1) := by decide +kernel
def pX8_wind (x1 : Int32) (x2 : Int32) (M : Mm) : Option (Int32 × Mm) :=
if x2 < (-1) then
(some ((-1), M))
else
(if 9 ≤ x2 then
(some ((-1), M))
else
((pX5_readOrder x1 M).bind fun v1 =>
if v1.1 = 0 then
(some ((-1), v1.2))
else
(if x2 = (-1) then
((pX8_bestWind v1.2).bind fun v3 =>
some (v3.1, v3.2))
else
((pX8_endByWind x2 v1.2).bind fun v5 =>
some (v5.1, v5.2)))))
abbrev zX8_wind : Zx := (cX8_wind, RX8, 3, 7, (some .int))
set_option maxRecDepth 100000 in
set_option maxHeartbeats 4000000 in
theorem tX8_wind {l : Launch} {Y : Sx} {M : Mm} {x1 : Int32} {x2 : Int32} {q : Int32 × Mm} (hY : isA Y) (h : pX8_wind x1 x2 M = some q) : Ct l Y yX8_wind cX8_wind 3 (some .int) 7 [.ref (adr Y 0), .int x1, .int x2] M (some q.1) q.2 := by
  refine Ct.of (by decide) rfl (lv := [(0, .ref (adr Y 0)), (1, .int x1), (2, .int x2)]) rfl ?_
  intro K hkl C
  change Cx K zX8_wind Y at C
  subst hkl
  unfold pX8_wind at h
  show Wp K zX8_wind Y (Qm K Y (some q.1) q.2) M 0 [(0, .ref (adr Y 0)), (1, .int x1), (2, .int x2)] []
  refine w_iload_n C (pc := 0) dX8_wind_0 2 rfl ?_
  refine w_iconst C (pc := 1) dX8_wind_1 (v := (-1)) (by decide) ?_
  refine w_iclt C (pc := 2) 22 dX8_wind_2 (by decide) (fun c => ?_) (fun c => ?_)
  · have h := it_t h c
    refine w_iconst C (pc := 22) dX8_wind_22 (v := (-1)) (by decide) ?_
    exact w_ret C (pc := 23) dX8_wind_23 rfl (Option.some.inj h)
  · have h := it_f h c
    refine w_iload_n C (pc := 5) dX8_wind_5 2 rfl ?_
    refine w_bipush C (pc := 6) dX8_wind_6 (v := 9) (by decide) ?_
    refine w_icge C (pc := 8) 22 dX8_wind_8 (by decide) (fun c => ?_) (fun c => ?_)
    · have h := it_t h c
      refine w_iconst C (pc := 22) dX8_wind_22 (v := (-1)) (by decide) ?_
      exact w_ret C (pc := 23) dX8_wind_23 rfl (Option.some.inj h)
    · have h := it_f h c
      refine w_aload_n C (pc := 11) dX8_wind_11 0 rfl ?_
      refine w_getR C (pc := 12) dX8_wind_12 f_X8_37 (sA_0 hY) rfl ?_
      refine w_iload_n C (pc := 15) dX8_wind_15 1 rfl ?_
      obtain ⟨v1, e2, h⟩ := ob h
      refine w_cVi C (pc := 16) dX8_wind_16 my_X5_readOrder mi_X5_readOrder ml_X8_200 (sA_17 hY) rfl rfl rfl [.int x1] rfl rfl (Nat.le_of_ble_eq_true rfl) (tX5_readOrder hY  e2) ?_
      refine w_ifne C (pc := 19) 24 dX8_wind_19 (by decide) (fun c => ?_) (fun c => ?_)
      · have h := it_t h c
        refine w_iconst C (pc := 22) dX8_wind_22 (v := (-1)) (by decide) ?_
        exact w_ret C (pc := 23) dX8_wind_23 rfl (Option.some.inj h)
      · have h := it_f h c
        refine w_iload_n C (pc := 24) dX8_wind_24 2 rfl ?_
        refine w_iconst C (pc := 25) dX8_wind_25 (v := (-1)) (by decide) ?_
        refine w_icne C (pc := 26) 36 dX8_wind_26 (by decide) (fun c => ?_) (fun c => ?_)
        · have h := it_t h c
          refine w_aload_n C (pc := 29) dX8_wind_29 0 rfl ?_
          obtain ⟨v3, e4, h⟩ := ob h
          refine w_cVi C (pc := 30) dX8_wind_30 my_X8_bestWind mi_X8_bestWind ml_X8_224 (sA_0 hY) rfl rfl rfl [] rfl rfl (Nat.le_of_ble_eq_true rfl) (tX8_bestWind hY  e4) ?_
          refine w_goto C (pc := 33) 41 dX8_wind_33 (by decide) ?_
          exact w_ret C (pc := 41) dX8_wind_41 rfl (Option.some.inj h)
        · have h := it_f h c
          refine w_aload_n C (pc := 36) dX8_wind_36 0 rfl ?_
          refine w_iload_n C (pc := 37) dX8_wind_37 2 rfl ?_
          obtain ⟨v5, e6, h⟩ := ob h
          refine w_cVi C (pc := 38) dX8_wind_38 my_X8_endByWind mi_X8_endByWind ml_X8_227 (sA_0 hY) rfl rfl rfl [.int x2] rfl rfl (Nat.le_of_ble_eq_true rfl) (tX8_endByWind hY  e6) ?_
          exact w_ret C (pc := 41) dX8_wind_41 rfl (Option.some.inj h)
theorem dX8_wrong_0 : decode cX8_wrong 0 = .ok (.aload_n 0, 1) := by decide +kernel
theorem dX8_wrong_1 : decode cX8_wrong 1 = .ok (.getfield 28, 3) := by decide +kernel
theorem dX8_wrong_4 : decode cX8_wrong 4 = .ok (.invokevirtual 171, 3) := by decide +kernel
theorem dX8_wrong_7 : decode cX8_wrong 7 = .ok (.pop, 1) := by decide +kernel
theorem dX8_wrong_8 : decode cX8_wrong 8 = .ok (.aload_n 0, 1) := by decide +kernel
theorem dX8_wrong_9 : decode cX8_wrong 9 = .ok (.getfield 28, 3) := by decide +kernel
theorem dX8_wrong_12 : decode cX8_wrong 12 = .ok (.getfield 175, 3) := by decide +kernel
theorem dX8_wrong_15 : decode cX8_wrong 15 = .ok (.ireturn, 1) := by decide +kernel
def pX8_wrong (M : Mm) : Option (Int32 × Mm) :=
(pX0_look M).bind fun v1 =>
some (v1.2 7 3, v1.2)
abbrev zX8_wrong : Zx := (cX8_wrong, RX8, 1, 6, (some .int))
set_option maxRecDepth 100000 in
set_option maxHeartbeats 4000000 in
theorem tX8_wrong {l : Launch} {Y : Sx} {M : Mm} {q : Int32 × Mm} (hY : isA Y) (h : pX8_wrong M = some q) : Ct l Y yX8_wrong cX8_wrong 1 (some .int) 6 [.ref (adr Y 0)] M (some q.1) q.2 := by
  refine Ct.of (by decide) rfl (lv := [(0, .ref (adr Y 0))]) rfl ?_
  intro K hkl C
  change Cx K zX8_wrong Y at C
  subst hkl
  unfold pX8_wrong at h
  show Wp K zX8_wrong Y (Qm K Y (some q.1) q.2) M 0 [(0, .ref (adr Y 0))] []
  refine w_aload_n C (pc := 0) dX8_wrong_0 0 rfl ?_
  refine w_getR C (pc := 1) dX8_wrong_1 f_X8_28 (sA_0 hY) rfl ?_
  obtain ⟨v1, e2, h⟩ := ob h
  refine w_cVi C (pc := 4) dX8_wrong_4 my_X0_look mi_X0_look ml_X8_171 (sA_7 hY) rfl rfl rfl [] rfl rfl (Nat.le_of_ble_eq_true rfl) (tX0_look hY  e2) ?_
  refine w_pop C (pc := 7) dX8_wrong_7 rfl ?_
  refine w_aload_n C (pc := 8) dX8_wrong_8 0 rfl ?_
  refine w_getR C (pc := 9) dX8_wrong_9 f_X8_28 (sA_0 hY) rfl ?_
  refine w_getI C (pc := 12) dX8_wrong_12 f_X8_175 (sA_7 hY) rfl ?_
  exact w_ret C (pc := 15) dX8_wrong_15 rfl (Option.some.inj h)
