theorem dX7_applyFacts_0 : decode cX7_applyFacts 0 = .ok (.iconst 0, 1) := by decide +kernel
theorem dX7_applyFacts_1 : decode cX7_applyFacts 1 = .ok (.istore_n 2, 1) := by decide +kernel
theorem dX7_applyFacts_2 : decode cX7_applyFacts 2 = .ok (.iload_n 2, 1) := by decide +kernel
theorem dX7_applyFacts_3 : decode cX7_applyFacts 3 = .ok (.aload_n 0, 1) := by decide +kernel
theorem dX7_applyFacts_4 : decode cX7_applyFacts 4 = .ok (.getfield 88, 3) := by decide +kernel
theorem dX7_applyFacts_7 : decode cX7_applyFacts 7 = .ok (.if_icmp .ge 24, 3) := by decide +kernel
theorem dX7_applyFacts_10 : decode cX7_applyFacts 10 = .ok (.aload_n 0, 1) := by decide +kernel
theorem dX7_applyFacts_11 : decode cX7_applyFacts 11 = .ok (.getfield 12, 3) := by decide +kernel
theorem dX7_applyFacts_14 : decode cX7_applyFacts 14 = .ok (.iload_n 1, 1) := by decide +kernel
theorem dX7_applyFacts_15 : decode cX7_applyFacts 15 = .ok (.iload_n 2, 1) := by decide +kernel
theorem dX7_applyFacts_16 : decode cX7_applyFacts 16 = .ok (.aload_n 0, 1) := by decide +kernel
theorem dX7_applyFacts_17 : decode cX7_applyFacts 17 = .ok (.getfield 25, 3) := by decide +kernel
theorem dX7_applyFacts_20 : decode cX7_applyFacts 20 = .ok (.iload_n 2, 1) := by decide +kernel
theorem dX7_applyFacts_21 : decode cX7_applyFacts 21 = .ok (.iaload, 1) := by decide +kernel
theorem dX7_applyFacts_22 : decode cX7_applyFacts 22 = .ok (.invokevirtual 130, 3) := by decide +kernel
theorem dX7_applyFacts_25 : decode cX7_applyFacts 25 = .ok (.iinc 2 1, 3) := by decide +kernel
theorem dX7_applyFacts_28 : decode cX7_applyFacts 28 = .ok (.goto (-26), 3) := by decide +kernel
theorem dX7_applyFacts_31 : decode cX7_applyFacts 31 = .ok (.return_, 1) := by decide +kernel
def pX7_applyFacts_L2 (x1 : Int32) (s : Int32 × Mm) : Option ((Int32 × Mm) ⊕ (Mm)) :=
if (s.2 31 4) ≤ s.1 then
(some (Sum.inr s.2))
else
((ald s.2 38 8 s.1).bind fun v1 =>
(pX3_putFact 32 x1 s.1 v1 s.2).bind fun v3 =>
some (Sum.inl (s.1 + 1, v3)))
def pX7_applyFacts (x1 : Int32) (M : Mm) : Option (Mm) :=
(itr (pX7_applyFacts_L2 x1) fuel (0, M)).bind fun x5 =>
some x5
abbrev zX7_applyFacts : Zx := (cX7_applyFacts, RX7, 3, 2, none)
set_option maxRecDepth 100000 in
set_option maxHeartbeats 4000000 in
theorem tX7_applyFacts {l : Launch} {Y : Sx} {M : Mm} {x1 : Int32} {q : Mm} (hY : isA Y) (h : pX7_applyFacts x1 M = some q) : Ct l Y yX7_applyFacts cX7_applyFacts 3 none 2 [.ref (adr Y 31), .int x1] M none q := by
  refine Ct.of (by decide) rfl (lv := [(0, .ref (adr Y 31)), (1, .int x1)]) rfl ?_
  intro K hkl C
  change Cx K zX7_applyFacts Y at C
  subst hkl
  unfold pX7_applyFacts at h
  show Wp K zX7_applyFacts Y (Qm K Y none q) M 0 [(0, .ref (adr Y 31)), (1, .int x1)] []
  refine w_iconst C (pc := 0) dX7_applyFacts_0 (v := 0) (by decide) ?_
  refine w_istore_n C (pc := 1) dX7_applyFacts_1 (lv' := [(0, .ref (adr Y 31)), (1, .int x1), (2, .int 0)]) rfl rfl rfl ?_
  obtain ⟨x5, e6, h⟩ := ob h
  refine itr_W (P := fun s7 => Wp K zX7_applyFacts Y (Qm K Y none q) s7.2 2 [(0, .ref (adr Y 31)), (1, .int x1), (2, .int s7.1)] []) (R := fun x5 => Wp K zX7_applyFacts Y (Qm K Y none q) x5 31 [(0, .ref (adr Y 31)), (1, .int x1)] []) ?_ fuel (0, M) x5 e6 ?_
  · intro s7 r8 h11 ki9 kx10
    unfold pX7_applyFacts_L2 at h11
    show Wp K zX7_applyFacts Y (Qm K Y none q) s7.2 2 [(0, .ref (adr Y 31)), (1, .int x1), (2, .int s7.1)] []
    refine w_iload_n C (pc := 2) dX7_applyFacts_2 2 rfl ?_
    refine w_aload_n C (pc := 3) dX7_applyFacts_3 0 rfl ?_
    refine w_getI C (pc := 4) dX7_applyFacts_4 f_X7_88 (sA_31 hY) rfl ?_
    refine w_icge C (pc := 7) 31 dX7_applyFacts_7 (by decide) (fun c => ?_) (fun c => ?_)
    · have h11 := it_t h11 c
      obtain rfl := Option.some.inj h11
      refine w_lv [0, 1] rfl ?_
      have k9 := kx10 s7.2 rfl
      try dsimp only at k9
      exact k9
    · have h11 := it_f h11 c
      refine w_aload_n C (pc := 10) dX7_applyFacts_10 0 rfl ?_
      refine w_getR C (pc := 11) dX7_applyFacts_11 f_X7_12 (sA_31 hY) rfl ?_
      refine w_iload_n C (pc := 14) dX7_applyFacts_14 1 rfl ?_
      refine w_iload_n C (pc := 15) dX7_applyFacts_15 2 rfl ?_
      refine w_aload_n C (pc := 16) dX7_applyFacts_16 0 rfl ?_
      refine w_getR C (pc := 17) dX7_applyFacts_17 f_X7_25 (sA_31 hY) rfl ?_
      refine w_iload_n C (pc := 20) dX7_applyFacts_20 2 rfl ?_
      obtain ⟨v12, e13, h11⟩ := ob h11
      refine w_iald C (pc := 21) dX7_applyFacts_21 (sA_38 hY) e13 ?_
      obtain ⟨v14, e15, h11⟩ := ob h11
      refine w_cVv C (pc := 22) dX7_applyFacts_22 my_X3_putFact mi_X3_putFact ml_X7_130 (sA_32 hY) rfl rfl rfl [.int x1, .int s7.1, .int v12] rfl rfl (Nat.le_of_ble_eq_true rfl) (tX3_putFact (kLand_32 hY) e15) ?_
      refine w_iinc C (pc := 25) dX7_applyFacts_25 2 rfl (v := 1) (lv' := [(0, .ref (adr Y 31)), (1, .int x1), (2, .int (s7.1 + 1))]) (by decide) rfl rfl rfl ?_
      refine w_goto C (pc := 28) 2 dX7_applyFacts_28 (by decide) ?_
      obtain rfl := Option.some.inj h11
      have k9 := ki9 (s7.1 + 1, v14) rfl
      try dsimp only at k9
      exact k9
  · exact w_retV C (pc := 31) dX7_applyFacts_31 rfl (Option.some.inj h)
theorem dX7_applyRow_0 : decode cX7_applyRow 0 = .ok (.aload_n 0, 1) := by decide +kernel
theorem dX7_applyRow_1 : decode cX7_applyRow 1 = .ok (.getfield 21, 3) := by decide +kernel
theorem dX7_applyRow_4 : decode cX7_applyRow 4 = .ok (.invokevirtual 134, 3) := by decide +kernel
theorem dX7_applyRow_7 : decode cX7_applyRow 7 = .ok (.iconst 0, 1) := by decide +kernel
theorem dX7_applyRow_8 : decode cX7_applyRow 8 = .ok (.istore_n 1, 1) := by decide +kernel
theorem dX7_applyRow_9 : decode cX7_applyRow 9 = .ok (.iload_n 1, 1) := by decide +kernel
theorem dX7_applyRow_10 : decode cX7_applyRow 10 = .ok (.aload_n 0, 1) := by decide +kernel
theorem dX7_applyRow_11 : decode cX7_applyRow 11 = .ok (.getfield 88, 3) := by decide +kernel
theorem dX7_applyRow_14 : decode cX7_applyRow 14 = .ok (.if_icmp .ge 23, 3) := by decide +kernel
theorem dX7_applyRow_17 : decode cX7_applyRow 17 = .ok (.aload_n 0, 1) := by decide +kernel
theorem dX7_applyRow_18 : decode cX7_applyRow 18 = .ok (.getfield 21, 3) := by decide +kernel
theorem dX7_applyRow_21 : decode cX7_applyRow 21 = .ok (.aload_n 0, 1) := by decide +kernel
theorem dX7_applyRow_22 : decode cX7_applyRow 22 = .ok (.getfield 25, 3) := by decide +kernel
theorem dX7_applyRow_25 : decode cX7_applyRow 25 = .ok (.iload_n 1, 1) := by decide +kernel
theorem dX7_applyRow_26 : decode cX7_applyRow 26 = .ok (.iaload, 1) := by decide +kernel
theorem dX7_applyRow_27 : decode cX7_applyRow 27 = .ok (.invokevirtual 137, 3) := by decide +kernel
theorem dX7_applyRow_30 : decode cX7_applyRow 30 = .ok (.pop, 1) := by decide +kernel
theorem dX7_applyRow_31 : decode cX7_applyRow 31 = .ok (.iinc 1 1, 3) := by decide +kernel
theorem dX7_applyRow_34 : decode cX7_applyRow 34 = .ok (.goto (-25), 3) := by decide +kernel
theorem dX7_applyRow_37 : decode cX7_applyRow 37 = .ok (.return_, 1) := by decide +kernel
def pX7_applyRow_L9 (s : Int32 × Mm) : Option ((Int32 × Mm) ⊕ (Mm)) :=
if (s.2 31 4) ≤ s.1 then
(some (Sum.inr s.2))
else
((ald s.2 38 8 s.1).bind fun v3 =>
(pX4_addStop 35 v3 s.2).bind fun v5 =>
some (Sum.inl (s.1 + 1, v5.2)))
def pX7_applyRow (M : Mm) : Option (Mm) :=
bnd (pX4_empty 35 M) fun v1 =>
(itr (pX7_applyRow_L9) fuel (0, v1)).bind fun x7 =>
some x7
abbrev zX7_applyRow : Zx := (cX7_applyRow, RX7, 2, 1, none)
set_option maxRecDepth 100000 in
set_option maxHeartbeats 4000000 in
theorem tX7_applyRow {l : Launch} {Y : Sx} {M : Mm} {q : Mm} (hY : isA Y) (h : pX7_applyRow M = some q) : Ct l Y yX7_applyRow cX7_applyRow 2 none 1 [.ref (adr Y 31)] M none q := by
  refine Ct.of (by decide) rfl (lv := [(0, .ref (adr Y 31))]) rfl ?_
  intro K hkl C
  change Cx K zX7_applyRow Y at C
  subst hkl
  unfold pX7_applyRow at h
  show Wp K zX7_applyRow Y (Qm K Y none q) M 0 [(0, .ref (adr Y 31))] []
  refine w_aload_n C (pc := 0) dX7_applyRow_0 0 rfl ?_
  refine w_getR C (pc := 1) dX7_applyRow_1 f_X7_21 (sA_31 hY) rfl ?_
  obtain ⟨v1, e2, h⟩ := bn h
  refine w_cVv C (pc := 4) dX7_applyRow_4 my_X4_empty mi_X4_empty ml_X7_134 (sA_35 hY) rfl rfl rfl [] rfl rfl (Nat.le_of_ble_eq_true rfl) (tX4_empty (kPlan_35 hY) e2) ?_
  refine w_iconst C (pc := 7) dX7_applyRow_7 (v := 0) (by decide) ?_
  refine w_istore_n C (pc := 8) dX7_applyRow_8 (lv' := [(0, .ref (adr Y 31)), (1, .int 0)]) rfl rfl rfl ?_
  obtain ⟨x7, e8, h⟩ := ob h
  refine itr_W (P := fun s9 => Wp K zX7_applyRow Y (Qm K Y none q) s9.2 9 [(0, .ref (adr Y 31)), (1, .int s9.1)] []) (R := fun x7 => Wp K zX7_applyRow Y (Qm K Y none q) x7 37 [(0, .ref (adr Y 31))] []) ?_ fuel (0, v1) x7 e8 ?_
  · intro s9 r10 h13 ki11 kx12
    unfold pX7_applyRow_L9 at h13
    show Wp K zX7_applyRow Y (Qm K Y none q) s9.2 9 [(0, .ref (adr Y 31)), (1, .int s9.1)] []
    refine w_iload_n C (pc := 9) dX7_applyRow_9 1 rfl ?_
    refine w_aload_n C (pc := 10) dX7_applyRow_10 0 rfl ?_
    refine w_getI C (pc := 11) dX7_applyRow_11 f_X7_88 (sA_31 hY) rfl ?_
    refine w_icge C (pc := 14) 37 dX7_applyRow_14 (by decide) (fun c => ?_) (fun c => ?_)
    · have h13 := it_t h13 c
      obtain rfl := Option.some.inj h13
      refine w_lv [0] rfl ?_
      have k9 := kx12 s9.2 rfl
      try dsimp only at k9
      exact k9
    · have h13 := it_f h13 c
      refine w_aload_n C (pc := 17) dX7_applyRow_17 0 rfl ?_
      refine w_getR C (pc := 18) dX7_applyRow_18 f_X7_21 (sA_31 hY) rfl ?_
      refine w_aload_n C (pc := 21) dX7_applyRow_21 0 rfl ?_
      refine w_getR C (pc := 22) dX7_applyRow_22 f_X7_25 (sA_31 hY) rfl ?_
      refine w_iload_n C (pc := 25) dX7_applyRow_25 1 rfl ?_
      obtain ⟨v14, e15, h13⟩ := ob h13
      refine w_iald C (pc := 26) dX7_applyRow_26 (sA_38 hY) e15 ?_
      obtain ⟨v16, e17, h13⟩ := ob h13
      refine w_cVi C (pc := 27) dX7_applyRow_27 my_X4_addStop mi_X4_addStop ml_X7_137 (sA_35 hY) rfl rfl rfl [.int v14] rfl rfl (Nat.le_of_ble_eq_true rfl) (tX4_addStop (kPlan_35 hY) e17) ?_
      refine w_pop C (pc := 30) dX7_applyRow_30 rfl ?_
      refine w_iinc C (pc := 31) dX7_applyRow_31 1 rfl (v := 1) (lv' := [(0, .ref (adr Y 31)), (1, .int (s9.1 + 1))]) (by decide) rfl rfl rfl ?_
      refine w_goto C (pc := 34) 9 dX7_applyRow_34 (by decide) ?_
      obtain rfl := Option.some.inj h13
      have k9 := ki11 (s9.1 + 1, v16.2) rfl
      try dsimp only at k9
      exact k9
  · exact w_retV C (pc := 37) dX7_applyRow_37 rfl (Option.some.inj h)
theorem dX7_apply_0 : decode cX7_apply 0 = .ok (.iload_n 1, 1) := by decide +kernel
theorem dX7_apply_1 : decode cX7_apply 1 = .ok (.tableswitch 89 0 3 #[31, 39, 60, 82], 31) := by decide +kernel
theorem dX7_apply_32 : decode cX7_apply 32 = .ok (.aload_n 0, 1) := by decide +kernel
theorem dX7_apply_33 : decode cX7_apply 33 = .ok (.iconst 0, 1) := by decide +kernel
theorem dX7_apply_34 : decode cX7_apply 34 = .ok (.invokevirtual 113, 3) := by decide +kernel
theorem dX7_apply_37 : decode cX7_apply 37 = .ok (.goto 85, 3) := by decide +kernel
theorem dX7_apply_40 : decode cX7_apply 40 = .ok (.aload_n 0, 1) := by decide +kernel
theorem dX7_apply_41 : decode cX7_apply 41 = .ok (.getfield 12, 3) := by decide +kernel
theorem dX7_apply_44 : decode cX7_apply 44 = .ok (.invokevirtual 116, 3) := by decide +kernel
theorem dX7_apply_47 : decode cX7_apply 47 = .ok (.aload_n 0, 1) := by decide +kernel
theorem dX7_apply_48 : decode cX7_apply 48 = .ok (.aload_n 0, 1) := by decide +kernel
theorem dX7_apply_49 : decode cX7_apply 49 = .ok (.getfield 12, 3) := by decide +kernel
theorem dX7_apply_52 : decode cX7_apply 52 = .ok (.getfield 82, 3) := by decide +kernel
theorem dX7_apply_55 : decode cX7_apply 55 = .ok (.invokevirtual 113, 3) := by decide +kernel
theorem dX7_apply_58 : decode cX7_apply 58 = .ok (.goto 64, 3) := by decide +kernel
theorem dX7_apply_61 : decode cX7_apply 61 = .ok (.aload_n 0, 1) := by decide +kernel
theorem dX7_apply_62 : decode cX7_apply 62 = .ok (.getfield 12, 3) := by decide +kernel
theorem dX7_apply_65 : decode cX7_apply 65 = .ok (.aload_n 0, 1) := by decide +kernel
theorem dX7_apply_66 : decode cX7_apply 66 = .ok (.getfield 25, 3) := by decide +kernel
theorem dX7_apply_69 : decode cX7_apply 69 = .ok (.iconst 0, 1) := by decide +kernel
theorem dX7_apply_70 : decode cX7_apply 70 = .ok (.iaload, 1) := by decide +kernel
theorem dX7_apply_71 : decode cX7_apply 71 = .ok (.aload_n 0, 1) := by decide +kernel
theorem dX7_apply_72 : decode cX7_apply 72 = .ok (.getfield 25, 3) := by decide +kernel
theorem dX7_apply_75 : decode cX7_apply 75 = .ok (.iconst 1, 1) := by decide +kernel
theorem dX7_apply_76 : decode cX7_apply 76 = .ok (.iaload, 1) := by decide +kernel
theorem dX7_apply_77 : decode cX7_apply 77 = .ok (.invokevirtual 119, 3) := by decide +kernel
theorem dX7_apply_80 : decode cX7_apply 80 = .ok (.goto 42, 3) := by decide +kernel
theorem dX7_apply_83 : decode cX7_apply 83 = .ok (.aload_n 0, 1) := by decide +kernel
theorem dX7_apply_84 : decode cX7_apply 84 = .ok (.invokevirtual 123, 3) := by decide +kernel
theorem dX7_apply_87 : decode cX7_apply 87 = .ok (.goto 35, 3) := by decide +kernel
theorem dX7_apply_90 : decode cX7_apply 90 = .ok (.aload_n 0, 1) := by decide +kernel
theorem dX7_apply_91 : decode cX7_apply 91 = .ok (.getfield 21, 3) := by decide +kernel
theorem dX7_apply_94 : decode cX7_apply 94 = .ok (.aload_n 0, 1) := by decide +kernel
theorem dX7_apply_95 : decode cX7_apply 95 = .ok (.getfield 25, 3) := by decide +kernel
theorem dX7_apply_98 : decode cX7_apply 98 = .ok (.iconst 0, 1) := by decide +kernel
theorem dX7_apply_99 : decode cX7_apply 99 = .ok (.iaload, 1) := by decide +kernel
theorem dX7_apply_100 : decode cX7_apply 100 = .ok (.aload_n 0, 1) := by decide +kernel
theorem dX7_apply_101 : decode cX7_apply 101 = .ok (.getfield 25, 3) := by decide +kernel
theorem dX7_apply_104 : decode cX7_apply 104 = .ok (.iconst 1, 1) := by decide +kernel
theorem dX7_apply_105 : decode cX7_apply 105 = .ok (.iaload, 1) := by decide +kernel
theorem dX7_apply_106 : decode cX7_apply 106 = .ok (.aload_n 0, 1) := by decide +kernel
theorem dX7_apply_107 : decode cX7_apply 107 = .ok (.getfield 25, 3) := by decide +kernel
theorem dX7_apply_110 : decode cX7_apply 110 = .ok (.iconst 2, 1) := by decide +kernel
theorem dX7_apply_111 : decode cX7_apply 111 = .ok (.iaload, 1) := by decide +kernel
theorem dX7_apply_112 : decode cX7_apply 112 = .ok (.aload_n 0, 1) := by decide +kernel
theorem dX7_apply_113 : decode cX7_apply 113 = .ok (.getfield 25, 3) := by decide +kernel
theorem dX7_apply_116 : decode cX7_apply 116 = .ok (.iconst 3, 1) := by decide +kernel
theorem dX7_apply_117 : decode cX7_apply 117 = .ok (.iaload, 1) := by decide +kernel
theorem dX7_apply_118 : decode cX7_apply 118 = .ok (.invokevirtual 126, 3) := by decide +kernel
theorem dX7_apply_121 : decode cX7_apply 121 = .ok (.pop, 1) := by decide +kernel
theorem dX7_apply_122 : decode cX7_apply 122 = .ok (.return_, 1) := by decide +kernel
def pX7_apply (x1 : Int32) (M : Mm) : Option (Mm) :=
if x1 = 0 then
((pX7_applyFacts 0 M).bind fun v1 =>
some v1)
else
(if x1 = 1 then
(bnd (pX3_addCustomer 32 M) fun v3 =>
(pX7_applyFacts (v3 32 0) v3).bind fun v5 =>
some v5)
else
(if x1 = 2 then
((ald M 38 8 0).bind fun v7 =>
(ald M 38 8 1).bind fun v9 =>
(pX3_putSetting 32 v7 v9 M).bind fun v11 =>
some v11)
else
(if x1 = 3 then
((pX7_applyRow M).bind fun v13 =>
some v13)
else
((ald M 38 8 0).bind fun v15 =>
(ald M 38 8 1).bind fun v17 =>
(ald M 38 8 2).bind fun v19 =>
(ald M 38 8 3).bind fun v21 =>
(pX4_addSortie 35 v15 v17 v19 v21 M).bind fun v23 =>
some v23.2))))
abbrev zX7_apply : Zx := (cX7_apply, RX7, 2, 3, none)
set_option maxRecDepth 100000 in
set_option maxHeartbeats 4000000 in
theorem tX7_apply {l : Launch} {Y : Sx} {M : Mm} {x1 : Int32} {q : Mm} (hY : isA Y) (h : pX7_apply x1 M = some q) : Ct l Y yX7_apply cX7_apply 2 none 3 [.ref (adr Y 31), .int x1] M none q := by
  refine Ct.of (by decide) rfl (lv := [(0, .ref (adr Y 31)), (1, .int x1)]) rfl ?_
  intro K hkl C
  change Cx K zX7_apply Y at C
  subst hkl
  unfold pX7_apply at h
  show Wp K zX7_apply Y (Qm K Y none q) M 0 [(0, .ref (adr Y 31)), (1, .int x1)] []
  refine w_iload_n C (pc := 0) dX7_apply_0 1 rfl ?_
  by_cases c1_0 : x1 = 0
  · have h := it_t h c1_0
    refine w_swIn C (pc := 1) (v := 0) 32 dX7_apply_1 c1_0 (by decide) (by decide) rfl (by decide) ?_
    refine w_aload_n C (pc := 32) dX7_apply_32 0 rfl ?_
    refine w_iconst C (pc := 33) dX7_apply_33 (v := 0) (by decide) ?_
    obtain ⟨v1, e2, h⟩ := ob h
    refine w_cVv C (pc := 34) dX7_apply_34 my_X7_applyFacts mi_X7_applyFacts ml_X7_113 (sA_31 hY) rfl rfl rfl [.int 0] rfl rfl (Nat.le_of_ble_eq_true rfl) (tX7_applyFacts hY  e2) ?_
    refine w_goto C (pc := 37) 122 dX7_apply_37 (by decide) ?_
    exact w_retV C (pc := 122) dX7_apply_122 rfl (Option.some.inj h)
  have h := it_f h c1_0
  by_cases c1_1 : x1 = 1
  · have h := it_t h c1_1
    refine w_swIn C (pc := 1) (v := 1) 40 dX7_apply_1 c1_1 (by decide) (by decide) rfl (by decide) ?_
    refine w_aload_n C (pc := 40) dX7_apply_40 0 rfl ?_
    refine w_getR C (pc := 41) dX7_apply_41 f_X7_12 (sA_31 hY) rfl ?_
    obtain ⟨v3, e4, h⟩ := bn h
    refine w_cVv C (pc := 44) dX7_apply_44 my_X3_addCustomer mi_X3_addCustomer ml_X7_116 (sA_32 hY) rfl rfl rfl [] rfl rfl (Nat.le_of_ble_eq_true rfl) (tX3_addCustomer (kLand_32 hY) e4) ?_
    refine w_aload_n C (pc := 47) dX7_apply_47 0 rfl ?_
    refine w_aload_n C (pc := 48) dX7_apply_48 0 rfl ?_
    refine w_getR C (pc := 49) dX7_apply_49 f_X7_12 (sA_31 hY) rfl ?_
    refine w_getI C (pc := 52) dX7_apply_52 f_X7_82 (sA_32 hY) rfl ?_
    obtain ⟨v5, e6, h⟩ := ob h
    refine w_cVv C (pc := 55) dX7_apply_55 my_X7_applyFacts mi_X7_applyFacts ml_X7_113 (sA_31 hY) rfl rfl rfl [.int (v3 32 0)] rfl rfl (Nat.le_of_ble_eq_true rfl) (tX7_applyFacts hY  e6) ?_
    refine w_goto C (pc := 58) 122 dX7_apply_58 (by decide) ?_
    exact w_retV C (pc := 122) dX7_apply_122 rfl (Option.some.inj h)
  have h := it_f h c1_1
  by_cases c1_2 : x1 = 2
  · have h := it_t h c1_2
    refine w_swIn C (pc := 1) (v := 2) 61 dX7_apply_1 c1_2 (by decide) (by decide) rfl (by decide) ?_
    refine w_aload_n C (pc := 61) dX7_apply_61 0 rfl ?_
    refine w_getR C (pc := 62) dX7_apply_62 f_X7_12 (sA_31 hY) rfl ?_
    refine w_aload_n C (pc := 65) dX7_apply_65 0 rfl ?_
    refine w_getR C (pc := 66) dX7_apply_66 f_X7_25 (sA_31 hY) rfl ?_
    refine w_iconst C (pc := 69) dX7_apply_69 (v := 0) (by decide) ?_
    obtain ⟨v7, e8, h⟩ := ob h
    refine w_iald C (pc := 70) dX7_apply_70 (sA_38 hY) e8 ?_
    refine w_aload_n C (pc := 71) dX7_apply_71 0 rfl ?_
    refine w_getR C (pc := 72) dX7_apply_72 f_X7_25 (sA_31 hY) rfl ?_
    refine w_iconst C (pc := 75) dX7_apply_75 (v := 1) (by decide) ?_
    obtain ⟨v9, e10, h⟩ := ob h
    refine w_iald C (pc := 76) dX7_apply_76 (sA_38 hY) e10 ?_
    obtain ⟨v11, e12, h⟩ := ob h
    refine w_cVv C (pc := 77) dX7_apply_77 my_X3_putSetting mi_X3_putSetting ml_X7_119 (sA_32 hY) rfl rfl rfl [.int v7, .int v9] rfl rfl (Nat.le_of_ble_eq_true rfl) (tX3_putSetting (kLand_32 hY) e12) ?_
    refine w_goto C (pc := 80) 122 dX7_apply_80 (by decide) ?_
    exact w_retV C (pc := 122) dX7_apply_122 rfl (Option.some.inj h)
  have h := it_f h c1_2
  by_cases c1_3 : x1 = 3
  · have h := it_t h c1_3
    refine w_swIn C (pc := 1) (v := 3) 83 dX7_apply_1 c1_3 (by decide) (by decide) rfl (by decide) ?_
    refine w_aload_n C (pc := 83) dX7_apply_83 0 rfl ?_
    obtain ⟨v13, e14, h⟩ := ob h
    refine w_cVv C (pc := 84) dX7_apply_84 my_X7_applyRow mi_X7_applyRow ml_X7_123 (sA_31 hY) rfl rfl rfl [] rfl rfl (Nat.le_of_ble_eq_true rfl) (tX7_applyRow hY  e14) ?_
    refine w_goto C (pc := 87) 122 dX7_apply_87 (by decide) ?_
    exact w_retV C (pc := 122) dX7_apply_122 rfl (Option.some.inj h)
  have h := it_f h c1_3
  refine w_swOut C (pc := 1) 90 dX7_apply_1 (by have q0 := lv_neT c1_0 (a := 0) rfl; have q1 := lv_neT c1_1 (a := 1) rfl; have q2 := lv_neT c1_2 (a := 2) rfl; have q3 := lv_neT c1_3 (a := 3) rfl; omega) (by decide) ?_
  refine w_aload_n C (pc := 90) dX7_apply_90 0 rfl ?_
  refine w_getR C (pc := 91) dX7_apply_91 f_X7_21 (sA_31 hY) rfl ?_
  refine w_aload_n C (pc := 94) dX7_apply_94 0 rfl ?_
  refine w_getR C (pc := 95) dX7_apply_95 f_X7_25 (sA_31 hY) rfl ?_
  refine w_iconst C (pc := 98) dX7_apply_98 (v := 0) (by decide) ?_
  obtain ⟨v15, e16, h⟩ := ob h
  refine w_iald C (pc := 99) dX7_apply_99 (sA_38 hY) e16 ?_
  refine w_aload_n C (pc := 100) dX7_apply_100 0 rfl ?_
  refine w_getR C (pc := 101) dX7_apply_101 f_X7_25 (sA_31 hY) rfl ?_
  refine w_iconst C (pc := 104) dX7_apply_104 (v := 1) (by decide) ?_
  obtain ⟨v17, e18, h⟩ := ob h
  refine w_iald C (pc := 105) dX7_apply_105 (sA_38 hY) e18 ?_
  refine w_aload_n C (pc := 106) dX7_apply_106 0 rfl ?_
  refine w_getR C (pc := 107) dX7_apply_107 f_X7_25 (sA_31 hY) rfl ?_
  refine w_iconst C (pc := 110) dX7_apply_110 (v := 2) (by decide) ?_
  obtain ⟨v19, e20, h⟩ := ob h
  refine w_iald C (pc := 111) dX7_apply_111 (sA_38 hY) e20 ?_
  refine w_aload_n C (pc := 112) dX7_apply_112 0 rfl ?_
  refine w_getR C (pc := 113) dX7_apply_113 f_X7_25 (sA_31 hY) rfl ?_
  refine w_iconst C (pc := 116) dX7_apply_116 (v := 3) (by decide) ?_
  obtain ⟨v21, e22, h⟩ := ob h
  refine w_iald C (pc := 117) dX7_apply_117 (sA_38 hY) e22 ?_
  obtain ⟨v23, e24, h⟩ := ob h
  refine w_cVi C (pc := 118) dX7_apply_118 my_X4_addSortie mi_X4_addSortie ml_X7_126 (sA_35 hY) rfl rfl rfl [.int v15, .int v17, .int v19, .int v21] rfl rfl (Nat.le_of_ble_eq_true rfl) (tX4_addSortie (kPlan_35 hY) e24) ?_
  refine w_pop C (pc := 121) dX7_apply_121 rfl ?_
  exact w_retV C (pc := 122) dX7_apply_122 rfl (Option.some.inj h)
theorem dX7_isWord_0 : decode cX7_isWord 0 = .ok (.aload_n 0, 1) := by decide +kernel
theorem dX7_isWord_1 : decode cX7_isWord 1 = .ok (.getfield 50, 3) := by decide +kernel
theorem dX7_isWord_4 : decode cX7_isWord 4 = .ok (.iconst 1, 1) := by decide +kernel
theorem dX7_isWord_5 : decode cX7_isWord 5 = .ok (.if_icmp .ne 19, 3) := by decide +kernel
theorem dX7_isWord_8 : decode cX7_isWord 8 = .ok (.aload_n 0, 1) := by decide +kernel
theorem dX7_isWord_9 : decode cX7_isWord 9 = .ok (.getfield 44, 3) := by decide +kernel
theorem dX7_isWord_12 : decode cX7_isWord 12 = .ok (.aload_n 0, 1) := by decide +kernel
theorem dX7_isWord_13 : decode cX7_isWord 13 = .ok (.getfield 140, 3) := by decide +kernel
theorem dX7_isWord_16 : decode cX7_isWord 16 = .ok (.isub, 1) := by decide +kernel
theorem dX7_isWord_17 : decode cX7_isWord 17 = .ok (.aload_n 1, 1) := by decide +kernel
theorem dX7_isWord_18 : decode cX7_isWord 18 = .ok (.invokevirtual 166, 3) := by decide +kernel
theorem dX7_isWord_21 : decode cX7_isWord 21 = .ok (.if_icmp .eq 5, 3) := by decide +kernel
theorem dX7_isWord_24 : decode cX7_isWord 24 = .ok (.iconst 0, 1) := by decide +kernel
theorem dX7_isWord_25 : decode cX7_isWord 25 = .ok (.ireturn, 1) := by decide +kernel
theorem dX7_isWord_26 : decode cX7_isWord 26 = .ok (.iconst 0, 1) := by decide +kernel
theorem dX7_isWord_27 : decode cX7_isWord 27 = .ok (.istore_n 2, 1) := by decide +kernel
theorem dX7_isWord_28 : decode cX7_isWord 28 = .ok (.iload_n 2, 1) := by decide +kernel
theorem dX7_isWord_29 : decode cX7_isWord 29 = .ok (.aload_n 1, 1) := by decide +kernel
theorem dX7_isWord_30 : decode cX7_isWord 30 = .ok (.invokevirtual 166, 3) := by decide +kernel
theorem dX7_isWord_33 : decode cX7_isWord 33 = .ok (.if_icmp .ge 32, 3) := by decide +kernel
theorem dX7_isWord_36 : decode cX7_isWord 36 = .ok (.aload_n 0, 1) := by decide +kernel
theorem dX7_isWord_37 : decode cX7_isWord 37 = .ok (.getfield 29, 3) := by decide +kernel
theorem dX7_isWord_40 : decode cX7_isWord 40 = .ok (.aload_n 0, 1) := by decide +kernel
theorem dX7_isWord_41 : decode cX7_isWord 41 = .ok (.getfield 140, 3) := by decide +kernel
theorem dX7_isWord_44 : decode cX7_isWord 44 = .ok (.iload_n 2, 1) := by decide +kernel
theorem dX7_isWord_45 : decode cX7_isWord 45 = .ok (.iadd, 1) := by decide +kernel
theorem dX7_isWord_46 : decode cX7_isWord 46 = .ok (.invokevirtual 151, 3) := by decide +kernel
theorem dX7_isWord_49 : decode cX7_isWord 49 = .ok (.aload_n 1, 1) := by decide +kernel
theorem dX7_isWord_50 : decode cX7_isWord 50 = .ok (.iload_n 2, 1) := by decide +kernel
theorem dX7_isWord_51 : decode cX7_isWord 51 = .ok (.invokevirtual 170, 3) := by decide +kernel
theorem dX7_isWord_54 : decode cX7_isWord 54 = .ok (.if_icmp .eq 5, 3) := by decide +kernel
theorem dX7_isWord_57 : decode cX7_isWord 57 = .ok (.iconst 0, 1) := by decide +kernel
theorem dX7_isWord_58 : decode cX7_isWord 58 = .ok (.ireturn, 1) := by decide +kernel
theorem dX7_isWord_59 : decode cX7_isWord 59 = .ok (.iinc 2 1, 3) := by decide +kernel
theorem dX7_isWord_62 : decode cX7_isWord 62 = .ok (.goto (-34), 3) := by decide +kernel
theorem dX7_isWord_65 : decode cX7_isWord 65 = .ok (.iconst 1, 1) := by decide +kernel
theorem dX7_isWord_66 : decode cX7_isWord 66 = .ok (.ireturn, 1) := by decide +kernel
def pX7_isWord_L28 (w : Nat) (M : Mm) (s : Int32) : Option ((Int32) ⊕ ((Unit) ⊕ (Int32))) :=
if (nI (skL.getD w 0)) ≤ s then
(some (Sum.inr (Sum.inl ())))
else
((pX6_byteAt ((M 31 7) + s) M).bind fun v1 =>
(sca w s).bind fun v3 =>
if v1 = v3 then
(some (Sum.inl (s + 1)))
else
(some (Sum.inr (Sum.inr 0))))
def pX7_isWord (w : Nat) (M : Mm) : Option (Int32) :=
if (M 31 6) = 1 then
(if ((M 31 8) - (M 31 7)) = (nI (skL.getD w 0)) then
((itr (pX7_isWord_L28 w M) fuel 0).bind fun x6 =>
Sum.elim (fun yx6 =>
some 1) (fun r => some r) x6)
else
(some 0))
else
(some 0)
abbrev zX7_isWord : Zx := (cX7_isWord, RX7, 3, 4, (some .boolean))
set_option maxRecDepth 100000 in
set_option maxHeartbeats 4000000 in
theorem tX7_isWord {l : Launch} {Y : Sx} {M : Mm} {w : Nat} {q : Int32} (hY : isA Y) (h_w : w < 5) (h : pX7_isWord w M = some q) : Ct l Y yX7_isWord cX7_isWord 3 (some .boolean) 4 [.ref (adr Y 31), .ref (ska Y w)] M (some q) M := by
  refine Ct.of (by decide) rfl (lv := [(0, .ref (adr Y 31)), (1, .ref (ska Y w))]) rfl ?_
  intro K hkl C
  change Cx K zX7_isWord Y at C
  subst hkl
  unfold pX7_isWord at h
  show Wp K zX7_isWord Y (Qm K Y (some q) M) M 0 [(0, .ref (adr Y 31)), (1, .ref (ska Y w))] []
  refine w_aload_n C (pc := 0) dX7_isWord_0 0 rfl ?_
  refine w_getI C (pc := 1) dX7_isWord_1 f_X7_50 (sA_31 hY) rfl ?_
  refine w_iconst C (pc := 4) dX7_isWord_4 (v := 1) (by decide) ?_
  refine w_icne C (pc := 5) 24 dX7_isWord_5 (by decide) (fun c => ?_) (fun c => ?_)
  · have h := it_t h c
    refine w_aload_n C (pc := 8) dX7_isWord_8 0 rfl ?_
    refine w_getI C (pc := 9) dX7_isWord_9 f_X7_44 (sA_31 hY) rfl ?_
    refine w_aload_n C (pc := 12) dX7_isWord_12 0 rfl ?_
    refine w_getI C (pc := 13) dX7_isWord_13 f_X7_140 (sA_31 hY) rfl ?_
    refine w_isub C (pc := 16) dX7_isWord_16 ?_
    refine w_aload_n C (pc := 17) dX7_isWord_17 1 rfl ?_
    refine w_slen C (pc := 18) dX7_isWord_18 ml_X7_166 h_w rfl (Nat.le_of_ble_eq_true rfl) ?_
    refine w_iceq C (pc := 21) 26 dX7_isWord_21 (by decide) (fun c => ?_) (fun c => ?_)
    · have h := it_t h c
      refine w_iconst C (pc := 26) dX7_isWord_26 (v := 0) (by decide) ?_
      refine w_istore_n C (pc := 27) dX7_isWord_27 (lv' := [(0, .ref (adr Y 31)), (1, .ref (ska Y w)), (2, .int 0)]) rfl rfl rfl ?_
      obtain ⟨x6, e7, h⟩ := ob h
      refine itr_W (P := fun s8 => Wp K zX7_isWord Y (Qm K Y (some q) M) M 28 [(0, .ref (adr Y 31)), (1, .ref (ska Y w)), (2, .int s8)] []) (R := fun x9 => (∀ yx6, x9 = Sum.inl yx6 → Wp K zX7_isWord Y (Qm K Y (some q) M) M 65 [(0, .ref (adr Y 31)), (1, .ref (ska Y w))] []) ∧ (∀ v9, x9 = Sum.inr v9 → some v9 = some q)) ?_ fuel 0 x6 e7 ?_
      · intro s8 r9 h12 ki10 kx11
        unfold pX7_isWord_L28 at h12
        show Wp K zX7_isWord Y (Qm K Y (some q) M) M 28 [(0, .ref (adr Y 31)), (1, .ref (ska Y w)), (2, .int s8)] []
        refine w_iload_n C (pc := 28) dX7_isWord_28 2 rfl ?_
        refine w_aload_n C (pc := 29) dX7_isWord_29 1 rfl ?_
        refine w_slen C (pc := 30) dX7_isWord_30 ml_X7_166 h_w rfl (Nat.le_of_ble_eq_true rfl) ?_
        refine w_icge C (pc := 33) 65 dX7_isWord_33 (by decide) (fun c => ?_) (fun c => ?_)
        · have h12 := it_t h12 c
          obtain rfl := Option.some.inj h12
          refine w_lv [0, 1] rfl ?_
          have k9 := (kx11 (Sum.inl ()) rfl).1 () rfl
          try dsimp only at k9
          exact k9
        · have h12 := it_f h12 c
          refine w_aload_n C (pc := 36) dX7_isWord_36 0 rfl ?_
          refine w_getR C (pc := 37) dX7_isWord_37 f_X7_29 (sA_31 hY) rfl ?_
          refine w_aload_n C (pc := 40) dX7_isWord_40 0 rfl ?_
          refine w_getI C (pc := 41) dX7_isWord_41 f_X7_140 (sA_31 hY) rfl ?_
          refine w_iload_n C (pc := 44) dX7_isWord_44 2 rfl ?_
          refine w_iadd C (pc := 45) dX7_isWord_45 ?_
          obtain ⟨v13, e14, h12⟩ := ob h12
          refine w_cVi C (pc := 46) dX7_isWord_46 my_X6_byteAt mi_X6_byteAt ml_X7_151 (sA_29 hY) rfl rfl rfl [.int ((M 31 7) + s8)] rfl rfl (Nat.le_of_ble_eq_true rfl) (tX6_byteAt hY  e14) ?_
          refine w_aload_n C (pc := 49) dX7_isWord_49 1 rfl ?_
          refine w_iload_n C (pc := 50) dX7_isWord_50 2 rfl ?_
          obtain ⟨v15, e16, h12⟩ := ob h12
          refine w_schar C (pc := 51) dX7_isWord_51 ml_X7_170 h_w rfl (Nat.le_of_ble_eq_true rfl) e16 ?_
          refine w_iceq C (pc := 54) 59 dX7_isWord_54 (by decide) (fun c => ?_) (fun c => ?_)
          · have h12 := it_t h12 c
            refine w_iinc C (pc := 59) dX7_isWord_59 2 rfl (v := 1) (lv' := [(0, .ref (adr Y 31)), (1, .ref (ska Y w)), (2, .int (s8 + 1))]) (by decide) rfl rfl rfl ?_
            refine w_goto C (pc := 62) 28 dX7_isWord_62 (by decide) ?_
            obtain rfl := Option.some.inj h12
            have k9 := ki10 (s8 + 1) rfl
            try dsimp only at k9
            exact k9
          · have h12 := it_f h12 c
            refine w_iconst C (pc := 57) dX7_isWord_57 (v := 0) (by decide) ?_
            obtain rfl := Option.some.inj h12
            have h17 := (kx11 (Sum.inr 0) rfl).2 0 rfl
            exact w_retzR C (pc := 58) dX7_isWord_58 rfl (by decide) (Option.some.inj h17)
      · refine ⟨fun yx6 hy => ?_, fun v9 hv => ?_⟩
        · subst hy
          dsimp only [Sum.elim] at h
          refine w_iconst C (pc := 65) dX7_isWord_65 (v := 1) (by decide) ?_
          exact w_retzR C (pc := 66) dX7_isWord_66 rfl (by decide) (Option.some.inj h)
        · subst hv
          exact h
    · have h := it_f h c
      refine w_iconst C (pc := 24) dX7_isWord_24 (v := 0) (by decide) ?_
      exact w_retzR C (pc := 25) dX7_isWord_25 rfl (by decide) (Option.some.inj h)
  · have h := it_f h c
    refine w_iconst C (pc := 24) dX7_isWord_24 (v := 0) (by decide) ?_
    exact w_retzR C (pc := 25) dX7_isWord_25 rfl (by decide) (Option.some.inj h)
theorem dX7_least_0 : decode cX7_least 0 = .ok (.iload_n 1, 1) := by decide +kernel
theorem dX7_least_1 : decode cX7_least 1 = .ok (.iconst 2, 1) := by decide +kernel
theorem dX7_least_2 : decode cX7_least 2 = .ok (.if_icmp .ne 22, 3) := by decide +kernel
theorem dX7_least_5 : decode cX7_least 5 = .ok (.aload_n 0, 1) := by decide +kernel
theorem dX7_least_6 : decode cX7_least 6 = .ok (.getfield 88, 3) := by decide +kernel
theorem dX7_least_9 : decode cX7_least 9 = .ok (.iconst 1, 1) := by decide +kernel
theorem dX7_least_10 : decode cX7_least 10 = .ok (.if_icmp .ne 14, 3) := by decide +kernel
theorem dX7_least_13 : decode cX7_least 13 = .ok (.getstatic 104, 3) := by decide +kernel
theorem dX7_least_16 : decode cX7_least 16 = .ok (.aload_n 0, 1) := by decide +kernel
theorem dX7_least_17 : decode cX7_least 17 = .ok (.getfield 25, 3) := by decide +kernel
theorem dX7_least_20 : decode cX7_least 20 = .ok (.iconst 0, 1) := by decide +kernel
theorem dX7_least_21 : decode cX7_least 21 = .ok (.iaload, 1) := by decide +kernel
theorem dX7_least_22 : decode cX7_least 22 = .ok (.iaload, 1) := by decide +kernel
theorem dX7_least_23 : decode cX7_least 23 = .ok (.ireturn, 1) := by decide +kernel
theorem dX7_least_24 : decode cX7_least 24 = .ok (.iload_n 1, 1) := by decide +kernel
theorem dX7_least_25 : decode cX7_least 25 = .ok (.iconst 3, 1) := by decide +kernel
theorem dX7_least_26 : decode cX7_least 26 = .ok (.if_icmp .eq 16, 3) := by decide +kernel
theorem dX7_least_29 : decode cX7_least 29 = .ok (.iload_n 1, 1) := by decide +kernel
theorem dX7_least_30 : decode cX7_least 30 = .ok (.iconst 4, 1) := by decide +kernel
theorem dX7_least_31 : decode cX7_least 31 = .ok (.if_icmp .ne 15, 3) := by decide +kernel
theorem dX7_least_34 : decode cX7_least 34 = .ok (.aload_n 0, 1) := by decide +kernel
theorem dX7_least_35 : decode cX7_least 35 = .ok (.getfield 88, 3) := by decide +kernel
theorem dX7_least_38 : decode cX7_least 38 = .ok (.iconst 2, 1) := by decide +kernel
theorem dX7_least_39 : decode cX7_least 39 = .ok (.if_icmp .ne 7, 3) := by decide +kernel
theorem dX7_least_42 : decode cX7_least 42 = .ok (.iconst 1, 1) := by decide +kernel
theorem dX7_least_43 : decode cX7_least 43 = .ok (.goto 4, 3) := by decide +kernel
theorem dX7_least_46 : decode cX7_least 46 = .ok (.iconst 0, 1) := by decide +kernel
theorem dX7_least_47 : decode cX7_least 47 = .ok (.ireturn, 1) := by decide +kernel
def pX7_least (x1 : Int32) (M : Mm) : Option (Int32) :=
Option.bind (α := (Unit) ⊕ (Int32)) (if x1 = 2 then
(if (M 31 4) = 1 then
((ald M 38 8 0).bind fun v4 =>
(sld stL1 v4).bind fun v6 =>
some (Sum.inr v6))
else
(some (Sum.inl ())))
else
(some (Sum.inl ()))) fun j1 =>
Sum.elim (fun yj1 =>
if x1 = 3 then
(some 1)
else
(if x1 = 4 then
(if (M 31 4) = 2 then
(some 1)
else
(some 0))
else
(some 0))) (fun r => some r) j1
abbrev zX7_least : Zx := (cX7_least, RX7, 2, 0, (some .int))
set_option maxRecDepth 100000 in
set_option maxHeartbeats 4000000 in
theorem tX7_least {l : Launch} {Y : Sx} {M : Mm} {x1 : Int32} {q : Int32} (hY : isA Y) (h : pX7_least x1 M = some q) : Ct l Y yX7_least cX7_least 2 (some .int) 0 [.ref (adr Y 31), .int x1] M (some q) M := by
  refine Ct.of (by decide) rfl (lv := [(0, .ref (adr Y 31)), (1, .int x1)]) rfl ?_
  intro K hkl C
  change Cx K zX7_least Y at C
  subst hkl
  unfold pX7_least at h
  show Wp K zX7_least Y (Qm K Y (some q) M) M 0 [(0, .ref (adr Y 31)), (1, .int x1)] []
  refine w_iload_n C (pc := 0) dX7_least_0 1 rfl ?_
  refine w_iconst C (pc := 1) dX7_least_1 (v := 2) (by decide) ?_
  obtain ⟨j1, e2, h3⟩ := ob h
  have Jj1 : ∀ yj1, j1 = Sum.inl yj1 → Wp K zX7_least Y (Qm K Y (some q) M) M 24 [(0, .ref (adr Y 31)), (1, .int x1)] [] := by
    intro yj1 hj
    subst hj
    dsimp only [Sum.elim] at h3
    refine w_iload_n C (pc := 24) dX7_least_24 1 rfl ?_
    refine w_iconst C (pc := 25) dX7_least_25 (v := 3) (by decide) ?_
    refine w_iceq C (pc := 26) 42 dX7_least_26 (by decide) (fun c => ?_) (fun c => ?_)
    · have h3 := it_t h3 c
      refine w_iconst C (pc := 42) dX7_least_42 (v := 1) (by decide) ?_
      refine w_goto C (pc := 43) 47 dX7_least_43 (by decide) ?_
      exact w_retR C (pc := 47) dX7_least_47 rfl (Option.some.inj h3)
    · have h3 := it_f h3 c
      refine w_iload_n C (pc := 29) dX7_least_29 1 rfl ?_
      refine w_iconst C (pc := 30) dX7_least_30 (v := 4) (by decide) ?_
      refine w_icne C (pc := 31) 46 dX7_least_31 (by decide) (fun c => ?_) (fun c => ?_)
      · have h3 := it_t h3 c
        refine w_aload_n C (pc := 34) dX7_least_34 0 rfl ?_
        refine w_getI C (pc := 35) dX7_least_35 f_X7_88 (sA_31 hY) rfl ?_
        refine w_iconst C (pc := 38) dX7_least_38 (v := 2) (by decide) ?_
        refine w_icne C (pc := 39) 46 dX7_least_39 (by decide) (fun c => ?_) (fun c => ?_)
        · have h3 := it_t h3 c
          refine w_iconst C (pc := 42) dX7_least_42 (v := 1) (by decide) ?_
          refine w_goto C (pc := 43) 47 dX7_least_43 (by decide) ?_
          exact w_retR C (pc := 47) dX7_least_47 rfl (Option.some.inj h3)
        · have h3 := it_f h3 c
          refine w_iconst C (pc := 46) dX7_least_46 (v := 0) (by decide) ?_
          exact w_retR C (pc := 47) dX7_least_47 rfl (Option.some.inj h3)
      · have h3 := it_f h3 c
        refine w_iconst C (pc := 46) dX7_least_46 (v := 0) (by decide) ?_
        exact w_retR C (pc := 47) dX7_least_47 rfl (Option.some.inj h3)
  refine w_icne C (pc := 2) 24 dX7_least_2 (by decide) (fun c => ?_) (fun c => ?_)
  · have e2 := it_t e2 c
    refine w_aload_n C (pc := 5) dX7_least_5 0 rfl ?_
    refine w_getI C (pc := 6) dX7_least_6 f_X7_88 (sA_31 hY) rfl ?_
    refine w_iconst C (pc := 9) dX7_least_9 (v := 1) (by decide) ?_
    refine w_icne C (pc := 10) 24 dX7_least_10 (by decide) (fun c => ?_) (fun c => ?_)
    · have e2 := it_t e2 c
      refine w_gets C (pc := 13) dX7_least_13 g_X7_104 ?_
      refine w_aload_n C (pc := 16) dX7_least_16 0 rfl ?_
      refine w_getR C (pc := 17) dX7_least_17 f_X7_25 (sA_31 hY) rfl ?_
      refine w_iconst C (pc := 20) dX7_least_20 (v := 0) (by decide) ?_
      obtain ⟨v4, e5, e2⟩ := ob e2
      refine w_iald C (pc := 21) dX7_least_21 (sA_38 hY) e5 ?_
      obtain ⟨v6, e7, e2⟩ := ob e2
      refine w_sald C (pc := 22) dX7_least_22 (l := stL1) rfl rfl e7 ?_
      obtain rfl := Option.some.inj e2
      have h8 : some v6 = some q := h3
      exact w_retR C (pc := 23) dX7_least_23 rfl (Option.some.inj h8)
    · have e2 := it_f e2 c
      obtain rfl := Option.some.inj e2
      have k9 := Jj1 () rfl
      try dsimp only at k9
      exact k9
  · have e2 := it_f e2 c
    obtain rfl := Option.some.inj e2
    have k9 := Jj1 () rfl
    try dsimp only at k9
    exact k9
theorem dX7_most_0 : decode cX7_most 0 = .ok (.iload_n 1, 1) := by decide +kernel
theorem dX7_most_1 : decode cX7_most 1 = .ok (.tableswitch 90 2 4 #[27, 50, 58], 27) := by decide +kernel
theorem dX7_most_28 : decode cX7_most 28 = .ok (.aload_n 0, 1) := by decide +kernel
theorem dX7_most_29 : decode cX7_most 29 = .ok (.getfield 88, 3) := by decide +kernel
theorem dX7_most_32 : decode cX7_most 32 = .ok (.ifCond .ne 8, 3) := by decide +kernel
theorem dX7_most_35 : decode cX7_most 35 = .ok (.bipush 9, 2) := by decide +kernel
theorem dX7_most_37 : decode cX7_most 37 = .ok (.goto 13, 3) := by decide +kernel
theorem dX7_most_40 : decode cX7_most 40 = .ok (.getstatic 107, 3) := by decide +kernel
theorem dX7_most_43 : decode cX7_most 43 = .ok (.aload_n 0, 1) := by decide +kernel
theorem dX7_most_44 : decode cX7_most 44 = .ok (.getfield 25, 3) := by decide +kernel
theorem dX7_most_47 : decode cX7_most 47 = .ok (.iconst 0, 1) := by decide +kernel
theorem dX7_most_48 : decode cX7_most 48 = .ok (.iaload, 1) := by decide +kernel
theorem dX7_most_49 : decode cX7_most 49 = .ok (.iaload, 1) := by decide +kernel
theorem dX7_most_50 : decode cX7_most 50 = .ok (.ireturn, 1) := by decide +kernel
theorem dX7_most_51 : decode cX7_most 51 = .ok (.aload_n 0, 1) := by decide +kernel
theorem dX7_most_52 : decode cX7_most 52 = .ok (.getfield 12, 3) := by decide +kernel
theorem dX7_most_55 : decode cX7_most 55 = .ok (.getfield 82, 3) := by decide +kernel
theorem dX7_most_58 : decode cX7_most 58 = .ok (.ireturn, 1) := by decide +kernel
theorem dX7_most_59 : decode cX7_most 59 = .ok (.aload_n 0, 1) := by decide +kernel
theorem dX7_most_60 : decode cX7_most 60 = .ok (.getfield 88, 3) := by decide +kernel
theorem dX7_most_63 : decode cX7_most 63 = .ok (.ifCond .ne 7, 3) := by decide +kernel
theorem dX7_most_66 : decode cX7_most 66 = .ok (.iconst 1, 1) := by decide +kernel
theorem dX7_most_67 : decode cX7_most 67 = .ok (.goto 23, 3) := by decide +kernel
theorem dX7_most_70 : decode cX7_most 70 = .ok (.aload_n 0, 1) := by decide +kernel
theorem dX7_most_71 : decode cX7_most 71 = .ok (.getfield 88, 3) := by decide +kernel
theorem dX7_most_74 : decode cX7_most 74 = .ok (.iconst 2, 1) := by decide +kernel
theorem dX7_most_75 : decode cX7_most 75 = .ok (.if_icmp .ne 13, 3) := by decide +kernel
theorem dX7_most_78 : decode cX7_most 78 = .ok (.aload_n 0, 1) := by decide +kernel
theorem dX7_most_79 : decode cX7_most 79 = .ok (.getfield 12, 3) := by decide +kernel
theorem dX7_most_82 : decode cX7_most 82 = .ok (.getfield 82, 3) := by decide +kernel
theorem dX7_most_85 : decode cX7_most 85 = .ok (.goto 5, 3) := by decide +kernel
theorem dX7_most_88 : decode cX7_most 88 = .ok (.bipush 9, 2) := by decide +kernel
theorem dX7_most_90 : decode cX7_most 90 = .ok (.ireturn, 1) := by decide +kernel
theorem dX7_most_91 : decode cX7_most 91 = .ok (.getstatic 110, 3) := by decide +kernel
theorem dX7_most_94 : decode cX7_most 94 = .ok (.aload_n 0, 1) := by decide +kernel
theorem dX7_most_95 : decode cX7_most 95 = .ok (.getfield 88, 3) := by decide +kernel
theorem dX7_most_98 : decode cX7_most 98 = .ok (.iaload, 1) := by decide +kernel
theorem dX7_most_99 : decode cX7_most 99 = .ok (.ireturn, 1) := by decide +kernel
def pX7_most (x1 : Int32) (M : Mm) : Option (Int32) :=
if x1 = 2 then
(if (M 31 4) = 0 then
(some 9)
else
((ald M 38 8 0).bind fun v1 =>
(sld stL2 v1).bind fun v3 =>
some v3))
else
(if x1 = 3 then
(some (M 32 0))
else
(if x1 = 4 then
(if (M 31 4) = 0 then
(some 1)
else
(if (M 31 4) = 2 then
(some (M 32 0))
else
(some 9)))
else
((sld stL0 (M 31 4)).bind fun v5 =>
some v5)))
abbrev zX7_most : Zx := (cX7_most, RX7, 2, 0, (some .int))
set_option maxRecDepth 100000 in
set_option maxHeartbeats 4000000 in
theorem tX7_most {l : Launch} {Y : Sx} {M : Mm} {x1 : Int32} {q : Int32} (hY : isA Y) (h : pX7_most x1 M = some q) : Ct l Y yX7_most cX7_most 2 (some .int) 0 [.ref (adr Y 31), .int x1] M (some q) M := by
  refine Ct.of (by decide) rfl (lv := [(0, .ref (adr Y 31)), (1, .int x1)]) rfl ?_
  intro K hkl C
  change Cx K zX7_most Y at C
  subst hkl
  unfold pX7_most at h
  show Wp K zX7_most Y (Qm K Y (some q) M) M 0 [(0, .ref (adr Y 31)), (1, .int x1)] []
  refine w_iload_n C (pc := 0) dX7_most_0 1 rfl ?_
  by_cases c1_2 : x1 = 2
  · have h := it_t h c1_2
    refine w_swIn C (pc := 1) (v := 2) 28 dX7_most_1 c1_2 (by decide) (by decide) rfl (by decide) ?_
    refine w_aload_n C (pc := 28) dX7_most_28 0 rfl ?_
    refine w_getI C (pc := 29) dX7_most_29 f_X7_88 (sA_31 hY) rfl ?_
    refine w_ifne C (pc := 32) 40 dX7_most_32 (by decide) (fun c => ?_) (fun c => ?_)
    · have h := it_t h c
      refine w_bipush C (pc := 35) dX7_most_35 (v := 9) (by decide) ?_
      refine w_goto C (pc := 37) 50 dX7_most_37 (by decide) ?_
      exact w_retR C (pc := 50) dX7_most_50 rfl (Option.some.inj h)
    · have h := it_f h c
      refine w_gets C (pc := 40) dX7_most_40 g_X7_107 ?_
      refine w_aload_n C (pc := 43) dX7_most_43 0 rfl ?_
      refine w_getR C (pc := 44) dX7_most_44 f_X7_25 (sA_31 hY) rfl ?_
      refine w_iconst C (pc := 47) dX7_most_47 (v := 0) (by decide) ?_
      obtain ⟨v1, e2, h⟩ := ob h
      refine w_iald C (pc := 48) dX7_most_48 (sA_38 hY) e2 ?_
      obtain ⟨v3, e4, h⟩ := ob h
      refine w_sald C (pc := 49) dX7_most_49 (l := stL2) rfl rfl e4 ?_
      exact w_retR C (pc := 50) dX7_most_50 rfl (Option.some.inj h)
  have h := it_f h c1_2
  by_cases c1_3 : x1 = 3
  · have h := it_t h c1_3
    refine w_swIn C (pc := 1) (v := 3) 51 dX7_most_1 c1_3 (by decide) (by decide) rfl (by decide) ?_
    refine w_aload_n C (pc := 51) dX7_most_51 0 rfl ?_
    refine w_getR C (pc := 52) dX7_most_52 f_X7_12 (sA_31 hY) rfl ?_
    refine w_getI C (pc := 55) dX7_most_55 f_X7_82 (sA_32 hY) rfl ?_
    exact w_retR C (pc := 58) dX7_most_58 rfl (Option.some.inj h)
  have h := it_f h c1_3
  by_cases c1_4 : x1 = 4
  · have h := it_t h c1_4
    refine w_swIn C (pc := 1) (v := 4) 59 dX7_most_1 c1_4 (by decide) (by decide) rfl (by decide) ?_
    refine w_aload_n C (pc := 59) dX7_most_59 0 rfl ?_
    refine w_getI C (pc := 60) dX7_most_60 f_X7_88 (sA_31 hY) rfl ?_
    refine w_ifne C (pc := 63) 70 dX7_most_63 (by decide) (fun c => ?_) (fun c => ?_)
    · have h := it_t h c
      refine w_iconst C (pc := 66) dX7_most_66 (v := 1) (by decide) ?_
      refine w_goto C (pc := 67) 90 dX7_most_67 (by decide) ?_
      exact w_retR C (pc := 90) dX7_most_90 rfl (Option.some.inj h)
    · have h := it_f h c
      refine w_aload_n C (pc := 70) dX7_most_70 0 rfl ?_
      refine w_getI C (pc := 71) dX7_most_71 f_X7_88 (sA_31 hY) rfl ?_
      refine w_iconst C (pc := 74) dX7_most_74 (v := 2) (by decide) ?_
      refine w_icne C (pc := 75) 88 dX7_most_75 (by decide) (fun c => ?_) (fun c => ?_)
      · have h := it_t h c
        refine w_aload_n C (pc := 78) dX7_most_78 0 rfl ?_
        refine w_getR C (pc := 79) dX7_most_79 f_X7_12 (sA_31 hY) rfl ?_
        refine w_getI C (pc := 82) dX7_most_82 f_X7_82 (sA_32 hY) rfl ?_
        refine w_goto C (pc := 85) 90 dX7_most_85 (by decide) ?_
        exact w_retR C (pc := 90) dX7_most_90 rfl (Option.some.inj h)
      · have h := it_f h c
        refine w_bipush C (pc := 88) dX7_most_88 (v := 9) (by decide) ?_
        exact w_retR C (pc := 90) dX7_most_90 rfl (Option.some.inj h)
  have h := it_f h c1_4
  refine w_swOut C (pc := 1) 91 dX7_most_1 (by have q0 := lv_neT c1_2 (a := 2) rfl; have q1 := lv_neT c1_3 (a := 3) rfl; have q2 := lv_neT c1_4 (a := 4) rfl; omega) (by decide) ?_
  refine w_gets C (pc := 91) dX7_most_91 g_X7_110 ?_
  refine w_aload_n C (pc := 94) dX7_most_94 0 rfl ?_
  refine w_getI C (pc := 95) dX7_most_95 f_X7_88 (sA_31 hY) rfl ?_
  obtain ⟨v5, e6, h⟩ := ob h
  refine w_sald C (pc := 98) dX7_most_98 (l := stL0) rfl rfl e6 ?_
  exact w_retR C (pc := 99) dX7_most_99 rfl (Option.some.inj h)
theorem dX7_stepWord_0 : decode cX7_stepWord 0 = .ok (.aload_n 0, 1) := by decide +kernel
theorem dX7_stepWord_1 : decode cX7_stepWord 1 = .ok (.iconst 1, 1) := by decide +kernel
theorem dX7_stepWord_2 : decode cX7_stepWord 2 = .ok (.putfield 50, 3) := by decide +kernel
theorem dX7_stepWord_5 : decode cX7_stepWord 5 = .ok (.aload_n 0, 1) := by decide +kernel
theorem dX7_stepWord_6 : decode cX7_stepWord 6 = .ok (.getfield 44, 3) := by decide +kernel
theorem dX7_stepWord_9 : decode cX7_stepWord 9 = .ok (.aload_n 0, 1) := by decide +kernel
theorem dX7_stepWord_10 : decode cX7_stepWord 10 = .ok (.getfield 29, 3) := by decide +kernel
theorem dX7_stepWord_13 : decode cX7_stepWord 13 = .ok (.getfield 143, 3) := by decide +kernel
theorem dX7_stepWord_16 : decode cX7_stepWord 16 = .ok (.if_icmp .ge 30, 3) := by decide +kernel
theorem dX7_stepWord_19 : decode cX7_stepWord 19 = .ok (.aload_n 0, 1) := by decide +kernel
theorem dX7_stepWord_20 : decode cX7_stepWord 20 = .ok (.getfield 29, 3) := by decide +kernel
theorem dX7_stepWord_23 : decode cX7_stepWord 23 = .ok (.aload_n 0, 1) := by decide +kernel
theorem dX7_stepWord_24 : decode cX7_stepWord 24 = .ok (.getfield 44, 3) := by decide +kernel
theorem dX7_stepWord_27 : decode cX7_stepWord 27 = .ok (.invokevirtual 154, 3) := by decide +kernel
theorem dX7_stepWord_30 : decode cX7_stepWord 30 = .ok (.ifCond .eq 16, 3) := by decide +kernel
theorem dX7_stepWord_33 : decode cX7_stepWord 33 = .ok (.aload_n 0, 1) := by decide +kernel
theorem dX7_stepWord_34 : decode cX7_stepWord 34 = .ok (.dup, 1) := by decide +kernel
theorem dX7_stepWord_35 : decode cX7_stepWord 35 = .ok (.getfield 44, 3) := by decide +kernel
theorem dX7_stepWord_38 : decode cX7_stepWord 38 = .ok (.iconst 1, 1) := by decide +kernel
theorem dX7_stepWord_39 : decode cX7_stepWord 39 = .ok (.iadd, 1) := by decide +kernel
theorem dX7_stepWord_40 : decode cX7_stepWord 40 = .ok (.putfield 44, 3) := by decide +kernel
theorem dX7_stepWord_43 : decode cX7_stepWord 43 = .ok (.goto (-38), 3) := by decide +kernel
theorem dX7_stepWord_46 : decode cX7_stepWord 46 = .ok (.return_, 1) := by decide +kernel
def pX7_stepWord_L5 (s : Mm) : Option ((Mm) ⊕ (Mm)) :=
if (s 29 0) ≤ (s 31 8) then
(some (Sum.inr s))
else
((pX6_hasLetterAt (s 31 8) s).bind fun v3 =>
if v3 = 0 then
(some (Sum.inr s))
else
(bnd (mset s 31 8 ((s 31 8) + 1)) fun M5 =>
some (Sum.inl M5)))
def pX7_stepWord (M : Mm) : Option (Mm) :=
bnd (mset M 31 6 1) fun M1 =>
(itr (pX7_stepWord_L5) fuel M1).bind fun x7 =>
some x7
abbrev zX7_stepWord : Zx := (cX7_stepWord, RX7, 1, 2, none)
set_option maxRecDepth 100000 in
set_option maxHeartbeats 4000000 in
theorem tX7_stepWord {l : Launch} {Y : Sx} {M : Mm} {q : Mm} (hY : isA Y) (h : pX7_stepWord M = some q) : Ct l Y yX7_stepWord cX7_stepWord 1 none 2 [.ref (adr Y 31)] M none q := by
  refine Ct.of (by decide) rfl (lv := [(0, .ref (adr Y 31))]) rfl ?_
  intro K hkl C
  change Cx K zX7_stepWord Y at C
  subst hkl
  unfold pX7_stepWord at h
  show Wp K zX7_stepWord Y (Qm K Y none q) M 0 [(0, .ref (adr Y 31))] []
  refine w_aload_n C (pc := 0) dX7_stepWord_0 0 rfl ?_
  refine w_iconst C (pc := 1) dX7_stepWord_1 (v := 1) (by decide) ?_
  obtain ⟨M1, e2, h⟩ := bn h
  refine w_putI C (pc := 2) dX7_stepWord_2 fp_X7_50 (sA_31 hY) rfl ?_
  rw [e2]
  obtain ⟨x7, e8, h⟩ := ob h
  refine itr_W (P := fun s9 => Wp K zX7_stepWord Y (Qm K Y none q) s9 5 [(0, .ref (adr Y 31))] []) (R := fun x7 => Wp K zX7_stepWord Y (Qm K Y none q) x7 46 [(0, .ref (adr Y 31))] []) ?_ fuel M1 x7 e8 ?_
  · intro s9 r10 h13 ki11 kx12
    unfold pX7_stepWord_L5 at h13
    show Wp K zX7_stepWord Y (Qm K Y none q) s9 5 [(0, .ref (adr Y 31))] []
    refine w_aload_n C (pc := 5) dX7_stepWord_5 0 rfl ?_
    refine w_getI C (pc := 6) dX7_stepWord_6 f_X7_44 (sA_31 hY) rfl ?_
    refine w_aload_n C (pc := 9) dX7_stepWord_9 0 rfl ?_
    refine w_getR C (pc := 10) dX7_stepWord_10 f_X7_29 (sA_31 hY) rfl ?_
    refine w_getI C (pc := 13) dX7_stepWord_13 f_X7_143 (sA_29 hY) rfl ?_
    refine w_icge C (pc := 16) 46 dX7_stepWord_16 (by decide) (fun c => ?_) (fun c => ?_)
    · have h13 := it_t h13 c
      obtain rfl := Option.some.inj h13
      have k9 := kx12 s9 rfl
      try dsimp only at k9
      exact k9
    · have h13 := it_f h13 c
      refine w_aload_n C (pc := 19) dX7_stepWord_19 0 rfl ?_
      refine w_getR C (pc := 20) dX7_stepWord_20 f_X7_29 (sA_31 hY) rfl ?_
      refine w_aload_n C (pc := 23) dX7_stepWord_23 0 rfl ?_
      refine w_getI C (pc := 24) dX7_stepWord_24 f_X7_44 (sA_31 hY) rfl ?_
      obtain ⟨v14, e15, h13⟩ := ob h13
      refine w_cVi C (pc := 27) dX7_stepWord_27 my_X6_hasLetterAt mi_X6_hasLetterAt ml_X7_154 (sA_29 hY) rfl rfl rfl [.int (s9 31 8)] rfl rfl (Nat.le_of_ble_eq_true rfl) (tX6_hasLetterAt hY  e15) ?_
      refine w_ifeq C (pc := 30) 46 dX7_stepWord_30 (by decide) (fun c => ?_) (fun c => ?_)
      · have h13 := it_t h13 c
        obtain rfl := Option.some.inj h13
        have k9 := kx12 s9 rfl
        try dsimp only at k9
        exact k9
      · have h13 := it_f h13 c
        refine w_aload_n C (pc := 33) dX7_stepWord_33 0 rfl ?_
        refine w_dup C (pc := 34) dX7_stepWord_34 rfl ?_
        refine w_getI C (pc := 35) dX7_stepWord_35 f_X7_44 (sA_31 hY) rfl ?_
        refine w_iconst C (pc := 38) dX7_stepWord_38 (v := 1) (by decide) ?_
        refine w_iadd C (pc := 39) dX7_stepWord_39 ?_
        obtain ⟨M16, e17, h13⟩ := bn h13
        refine w_putI C (pc := 40) dX7_stepWord_40 fp_X7_44 (sA_31 hY) rfl ?_
        rw [e17]
        refine w_goto C (pc := 43) 5 dX7_stepWord_43 (by decide) ?_
        obtain rfl := Option.some.inj h13
        have k9 := ki11 M16 rfl
        try dsimp only at k9
        exact k9
  · exact w_retV C (pc := 46) dX7_stepWord_46 rfl (Option.some.inj h)
theorem dX7_stepInt_0 : decode cX7_stepInt 0 = .ok (.iconst 0, 1) := by decide +kernel
theorem dX7_stepInt_1 : decode cX7_stepInt 1 = .ok (.istore_n 3, 1) := by decide +kernel
theorem dX7_stepInt_2 : decode cX7_stepInt 2 = .ok (.iconst 0, 1) := by decide +kernel
theorem dX7_stepInt_3 : decode cX7_stepInt 3 = .ok (.istore 4, 2) := by decide +kernel
theorem dX7_stepInt_5 : decode cX7_stepInt 5 = .ok (.iload_n 1, 1) := by decide +kernel
theorem dX7_stepInt_6 : decode cX7_stepInt 6 = .ok (.iload_n 3, 1) := by decide +kernel
theorem dX7_stepInt_7 : decode cX7_stepInt 7 = .ok (.iadd, 1) := by decide +kernel
theorem dX7_stepInt_8 : decode cX7_stepInt 8 = .ok (.aload_n 0, 1) := by decide +kernel
theorem dX7_stepInt_9 : decode cX7_stepInt 9 = .ok (.getfield 29, 3) := by decide +kernel
theorem dX7_stepInt_12 : decode cX7_stepInt 12 = .ok (.getfield 143, 3) := by decide +kernel
theorem dX7_stepInt_15 : decode cX7_stepInt 15 = .ok (.if_icmp .ge 43, 3) := by decide +kernel
theorem dX7_stepInt_18 : decode cX7_stepInt 18 = .ok (.aload_n 0, 1) := by decide +kernel
theorem dX7_stepInt_19 : decode cX7_stepInt 19 = .ok (.getfield 29, 3) := by decide +kernel
theorem dX7_stepInt_22 : decode cX7_stepInt 22 = .ok (.iload_n 1, 1) := by decide +kernel
theorem dX7_stepInt_23 : decode cX7_stepInt 23 = .ok (.iload_n 3, 1) := by decide +kernel
theorem dX7_stepInt_24 : decode cX7_stepInt 24 = .ok (.iadd, 1) := by decide +kernel
theorem dX7_stepInt_25 : decode cX7_stepInt 25 = .ok (.invokevirtual 160, 3) := by decide +kernel
theorem dX7_stepInt_28 : decode cX7_stepInt 28 = .ok (.ifCond .eq 30, 3) := by decide +kernel
theorem dX7_stepInt_31 : decode cX7_stepInt 31 = .ok (.iload 4, 2) := by decide +kernel
theorem dX7_stepInt_33 : decode cX7_stepInt 33 = .ok (.bipush 10, 2) := by decide +kernel
theorem dX7_stepInt_35 : decode cX7_stepInt 35 = .ok (.imul, 1) := by decide +kernel
theorem dX7_stepInt_36 : decode cX7_stepInt 36 = .ok (.aload_n 0, 1) := by decide +kernel
theorem dX7_stepInt_37 : decode cX7_stepInt 37 = .ok (.getfield 29, 3) := by decide +kernel
theorem dX7_stepInt_40 : decode cX7_stepInt 40 = .ok (.iload_n 1, 1) := by decide +kernel
theorem dX7_stepInt_41 : decode cX7_stepInt 41 = .ok (.iload_n 3, 1) := by decide +kernel
theorem dX7_stepInt_42 : decode cX7_stepInt 42 = .ok (.iadd, 1) := by decide +kernel
theorem dX7_stepInt_43 : decode cX7_stepInt 43 = .ok (.invokevirtual 151, 3) := by decide +kernel
theorem dX7_stepInt_46 : decode cX7_stepInt 46 = .ok (.iadd, 1) := by decide +kernel
theorem dX7_stepInt_47 : decode cX7_stepInt 47 = .ok (.bipush 48, 2) := by decide +kernel
theorem dX7_stepInt_49 : decode cX7_stepInt 49 = .ok (.isub, 1) := by decide +kernel
theorem dX7_stepInt_50 : decode cX7_stepInt 50 = .ok (.istore 4, 2) := by decide +kernel
theorem dX7_stepInt_52 : decode cX7_stepInt 52 = .ok (.iinc 3 1, 3) := by decide +kernel
theorem dX7_stepInt_55 : decode cX7_stepInt 55 = .ok (.goto (-50), 3) := by decide +kernel
theorem dX7_stepInt_58 : decode cX7_stepInt 58 = .ok (.aload_n 0, 1) := by decide +kernel
theorem dX7_stepInt_59 : decode cX7_stepInt 59 = .ok (.iload_n 3, 1) := by decide +kernel
theorem dX7_stepInt_60 : decode cX7_stepInt 60 = .ok (.iconst 1, 1) := by decide +kernel
theorem dX7_stepInt_61 : decode cX7_stepInt 61 = .ok (.if_icmp .lt 12, 3) := by decide +kernel
theorem dX7_stepInt_64 : decode cX7_stepInt 64 = .ok (.iload_n 3, 1) := by decide +kernel
theorem dX7_stepInt_65 : decode cX7_stepInt 65 = .ok (.iconst 3, 1) := by decide +kernel
theorem dX7_stepInt_66 : decode cX7_stepInt 66 = .ok (.if_icmp .gt 7, 3) := by decide +kernel
theorem dX7_stepInt_69 : decode cX7_stepInt 69 = .ok (.iconst 2, 1) := by decide +kernel
theorem dX7_stepInt_70 : decode cX7_stepInt 70 = .ok (.goto 4, 3) := by decide +kernel
theorem dX7_stepInt_73 : decode cX7_stepInt 73 = .ok (.iconst 4, 1) := by decide +kernel
theorem dX7_stepInt_74 : decode cX7_stepInt 74 = .ok (.putfield 50, 3) := by decide +kernel
theorem dX7_stepInt_77 : decode cX7_stepInt 77 = .ok (.aload_n 0, 1) := by decide +kernel
theorem dX7_stepInt_78 : decode cX7_stepInt 78 = .ok (.iload_n 2, 1) := by decide +kernel
theorem dX7_stepInt_79 : decode cX7_stepInt 79 = .ok (.iload 4, 2) := by decide +kernel
theorem dX7_stepInt_81 : decode cX7_stepInt 81 = .ok (.imul, 1) := by decide +kernel
theorem dX7_stepInt_82 : decode cX7_stepInt 82 = .ok (.putfield 94, 3) := by decide +kernel
theorem dX7_stepInt_85 : decode cX7_stepInt 85 = .ok (.aload_n 0, 1) := by decide +kernel
theorem dX7_stepInt_86 : decode cX7_stepInt 86 = .ok (.iload_n 1, 1) := by decide +kernel
theorem dX7_stepInt_87 : decode cX7_stepInt 87 = .ok (.iload_n 3, 1) := by decide +kernel
theorem dX7_stepInt_88 : decode cX7_stepInt 88 = .ok (.iadd, 1) := by decide +kernel
theorem dX7_stepInt_89 : decode cX7_stepInt 89 = .ok (.putfield 44, 3) := by decide +kernel
theorem dX7_stepInt_92 : decode cX7_stepInt 92 = .ok (.return_, 1) := by decide +kernel
def pX7_stepInt_L5 (x1 : Int32) (x2 : Int32) (M : Mm) (s : Int32 × Int32) : Option ((Int32 × Int32) ⊕ (Int32 × Int32)) :=
if (M 29 0) ≤ (x1 + s.1) then
(some (Sum.inr (s.1, s.2)))
else
((pX6_hasDigitAt (x1 + s.1) M).bind fun v1 =>
if v1 = 0 then
(some (Sum.inr (s.1, s.2)))
else
((pX6_byteAt (x1 + s.1) M).bind fun v3 =>
bnd (((s.2 * 10) + v3) - 48) fun v5 =>
some (Sum.inl (s.1 + 1, v5))))
def pX7_stepInt (x1 : Int32) (x2 : Int32) (M : Mm) : Option (Mm) :=
(itr (pX7_stepInt_L5 x1 x2 M) fuel (0, 0)).bind fun x6 =>
if x6.1 < 1 then
(bnd (mset M 31 6 4) fun M18 =>
bnd (mset M18 31 9 (x2 * x6.2)) fun M20 =>
bnd (mset M20 31 8 (x1 + x6.1)) fun M22 =>
some M22)
else
(if 3 < x6.1 then
(bnd (mset M 31 6 4) fun M24 =>
bnd (mset M24 31 9 (x2 * x6.2)) fun M26 =>
bnd (mset M26 31 8 (x1 + x6.1)) fun M28 =>
some M28)
else
(bnd (mset M 31 6 2) fun M30 =>
bnd (mset M30 31 9 (x2 * x6.2)) fun M32 =>
bnd (mset M32 31 8 (x1 + x6.1)) fun M34 =>
some M34))
abbrev zX7_stepInt : Zx := (cX7_stepInt, RX7, 5, 2, none)
set_option maxRecDepth 100000 in
set_option maxHeartbeats 4000000 in
theorem tX7_stepInt {l : Launch} {Y : Sx} {M : Mm} {x1 : Int32} {x2 : Int32} {q : Mm} (hY : isA Y) (h : pX7_stepInt x1 x2 M = some q) : Ct l Y yX7_stepInt cX7_stepInt 5 none 2 [.ref (adr Y 31), .int x1, .int x2] M none q := by
  refine Ct.of (by decide) rfl (lv := [(0, .ref (adr Y 31)), (1, .int x1), (2, .int x2)]) rfl ?_
  intro K hkl C
  change Cx K zX7_stepInt Y at C
  subst hkl
  unfold pX7_stepInt at h
  show Wp K zX7_stepInt Y (Qm K Y none q) M 0 [(0, .ref (adr Y 31)), (1, .int x1), (2, .int x2)] []
  refine w_iconst C (pc := 0) dX7_stepInt_0 (v := 0) (by decide) ?_
  refine w_istore_n C (pc := 1) dX7_stepInt_1 (lv' := [(0, .ref (adr Y 31)), (1, .int x1), (2, .int x2), (3, .int 0)]) rfl rfl rfl ?_
  refine w_iconst C (pc := 2) dX7_stepInt_2 (v := 0) (by decide) ?_
  refine w_istore C (pc := 3) dX7_stepInt_3 (lv' := [(0, .ref (adr Y 31)), (1, .int x1), (2, .int x2), (3, .int 0), (4, .int 0)]) rfl rfl rfl ?_
  obtain ⟨x6, e7, h⟩ := ob h
  refine itr_W (P := fun s8 => Wp K zX7_stepInt Y (Qm K Y none q) M 5 [(0, .ref (adr Y 31)), (1, .int x1), (2, .int x2), (3, .int s8.1), (4, .int s8.2)] []) (R := fun x6 => Wp K zX7_stepInt Y (Qm K Y none q) M 58 [(0, .ref (adr Y 31)), (1, .int x1), (2, .int x2), (3, .int x6.1), (4, .int x6.2)] []) ?_ fuel (0, 0) x6 e7 ?_
  · intro s8 r9 h12 ki10 kx11
    unfold pX7_stepInt_L5 at h12
    show Wp K zX7_stepInt Y (Qm K Y none q) M 5 [(0, .ref (adr Y 31)), (1, .int x1), (2, .int x2), (3, .int s8.1), (4, .int s8.2)] []
    refine w_iload_n C (pc := 5) dX7_stepInt_5 1 rfl ?_
    refine w_iload_n C (pc := 6) dX7_stepInt_6 3 rfl ?_
    refine w_iadd C (pc := 7) dX7_stepInt_7 ?_
    refine w_aload_n C (pc := 8) dX7_stepInt_8 0 rfl ?_
    refine w_getR C (pc := 9) dX7_stepInt_9 f_X7_29 (sA_31 hY) rfl ?_
    refine w_getI C (pc := 12) dX7_stepInt_12 f_X7_143 (sA_29 hY) rfl ?_
    refine w_icge C (pc := 15) 58 dX7_stepInt_15 (by decide) (fun c => ?_) (fun c => ?_)
    · have h12 := it_t h12 c
      obtain rfl := Option.some.inj h12
      have k9 := kx11 (s8.1, s8.2) rfl
      try dsimp only at k9
      exact k9
    · have h12 := it_f h12 c
      refine w_aload_n C (pc := 18) dX7_stepInt_18 0 rfl ?_
      refine w_getR C (pc := 19) dX7_stepInt_19 f_X7_29 (sA_31 hY) rfl ?_
      refine w_iload_n C (pc := 22) dX7_stepInt_22 1 rfl ?_
      refine w_iload_n C (pc := 23) dX7_stepInt_23 3 rfl ?_
      refine w_iadd C (pc := 24) dX7_stepInt_24 ?_
      obtain ⟨v13, e14, h12⟩ := ob h12
      refine w_cVi C (pc := 25) dX7_stepInt_25 my_X6_hasDigitAt mi_X6_hasDigitAt ml_X7_160 (sA_29 hY) rfl rfl rfl [.int (x1 + s8.1)] rfl rfl (Nat.le_of_ble_eq_true rfl) (tX6_hasDigitAt hY  e14) ?_
      refine w_ifeq C (pc := 28) 58 dX7_stepInt_28 (by decide) (fun c => ?_) (fun c => ?_)
      · have h12 := it_t h12 c
        obtain rfl := Option.some.inj h12
        have k9 := kx11 (s8.1, s8.2) rfl
        try dsimp only at k9
        exact k9
      · have h12 := it_f h12 c
        refine w_iload C (pc := 31) dX7_stepInt_31 4 rfl ?_
        refine w_bipush C (pc := 33) dX7_stepInt_33 (v := 10) (by decide) ?_
        refine w_imul C (pc := 35) dX7_stepInt_35 ?_
        refine w_aload_n C (pc := 36) dX7_stepInt_36 0 rfl ?_
        refine w_getR C (pc := 37) dX7_stepInt_37 f_X7_29 (sA_31 hY) rfl ?_
        refine w_iload_n C (pc := 40) dX7_stepInt_40 1 rfl ?_
        refine w_iload_n C (pc := 41) dX7_stepInt_41 3 rfl ?_
        refine w_iadd C (pc := 42) dX7_stepInt_42 ?_
        obtain ⟨v15, e16, h12⟩ := ob h12
        refine w_cVi C (pc := 43) dX7_stepInt_43 my_X6_byteAt mi_X6_byteAt ml_X7_151 (sA_29 hY) rfl rfl rfl [.int (x1 + s8.1)] rfl rfl (Nat.le_of_ble_eq_true rfl) (tX6_byteAt hY  e16) ?_
        refine w_iadd C (pc := 46) dX7_stepInt_46 ?_
        refine w_bipush C (pc := 47) dX7_stepInt_47 (v := 48) (by decide) ?_
        refine w_isub C (pc := 49) dX7_stepInt_49 ?_
        refine w_bnd h12 (fun v17 h12 => ?_)
        refine w_istore C (pc := 50) dX7_stepInt_50 (lv' := [(0, .ref (adr Y 31)), (1, .int x1), (2, .int x2), (3, .int s8.1), (4, .int v17)]) rfl rfl rfl ?_
        refine w_iinc C (pc := 52) dX7_stepInt_52 3 rfl (v := 1) (lv' := [(0, .ref (adr Y 31)), (1, .int x1), (2, .int x2), (3, .int (s8.1 + 1)), (4, .int v17)]) (by decide) rfl rfl rfl ?_
        refine w_goto C (pc := 55) 5 dX7_stepInt_55 (by decide) ?_
        obtain rfl := Option.some.inj h12
        have k9 := ki10 (s8.1 + 1, v17) rfl
        try dsimp only at k9
        exact k9
  · refine w_aload_n C (pc := 58) dX7_stepInt_58 0 rfl ?_
    refine w_iload_n C (pc := 59) dX7_stepInt_59 3 rfl ?_
    refine w_iconst C (pc := 60) dX7_stepInt_60 (v := 1) (by decide) ?_
    refine w_iclt C (pc := 61) 73 dX7_stepInt_61 (by decide) (fun c => ?_) (fun c => ?_)
    · have h := it_t h c
      refine w_iconst C (pc := 73) dX7_stepInt_73 (v := 4) (by decide) ?_
      obtain ⟨M18, e19, h⟩ := bn h
      refine w_putI C (pc := 74) dX7_stepInt_74 fp_X7_50 (sA_31 hY) rfl ?_
      rw [e19]
      refine w_aload_n C (pc := 77) dX7_stepInt_77 0 rfl ?_
      refine w_iload_n C (pc := 78) dX7_stepInt_78 2 rfl ?_
      refine w_iload C (pc := 79) dX7_stepInt_79 4 rfl ?_
      refine w_imul C (pc := 81) dX7_stepInt_81 ?_
      obtain ⟨M20, e21, h⟩ := bn h
      refine w_putI C (pc := 82) dX7_stepInt_82 fp_X7_94 (sA_31 hY) rfl ?_
      rw [e21]
      refine w_aload_n C (pc := 85) dX7_stepInt_85 0 rfl ?_
      refine w_iload_n C (pc := 86) dX7_stepInt_86 1 rfl ?_
      refine w_iload_n C (pc := 87) dX7_stepInt_87 3 rfl ?_
      refine w_iadd C (pc := 88) dX7_stepInt_88 ?_
      obtain ⟨M22, e23, h⟩ := bn h
      refine w_putI C (pc := 89) dX7_stepInt_89 fp_X7_44 (sA_31 hY) rfl ?_
      rw [e23]
      exact w_retV C (pc := 92) dX7_stepInt_92 rfl (Option.some.inj h)
    · have h := it_f h c
      refine w_iload_n C (pc := 64) dX7_stepInt_64 3 rfl ?_
      refine w_iconst C (pc := 65) dX7_stepInt_65 (v := 3) (by decide) ?_
      refine w_icgt C (pc := 66) 73 dX7_stepInt_66 (by decide) (fun c => ?_) (fun c => ?_)
      · have h := it_t h c
        refine w_iconst C (pc := 73) dX7_stepInt_73 (v := 4) (by decide) ?_
        obtain ⟨M24, e25, h⟩ := bn h
        refine w_putI C (pc := 74) dX7_stepInt_74 fp_X7_50 (sA_31 hY) rfl ?_
        rw [e25]
        refine w_aload_n C (pc := 77) dX7_stepInt_77 0 rfl ?_
        refine w_iload_n C (pc := 78) dX7_stepInt_78 2 rfl ?_
        refine w_iload C (pc := 79) dX7_stepInt_79 4 rfl ?_
        refine w_imul C (pc := 81) dX7_stepInt_81 ?_
        obtain ⟨M26, e27, h⟩ := bn h
        refine w_putI C (pc := 82) dX7_stepInt_82 fp_X7_94 (sA_31 hY) rfl ?_
        rw [e27]
        refine w_aload_n C (pc := 85) dX7_stepInt_85 0 rfl ?_
        refine w_iload_n C (pc := 86) dX7_stepInt_86 1 rfl ?_
        refine w_iload_n C (pc := 87) dX7_stepInt_87 3 rfl ?_
        refine w_iadd C (pc := 88) dX7_stepInt_88 ?_
        obtain ⟨M28, e29, h⟩ := bn h
        refine w_putI C (pc := 89) dX7_stepInt_89 fp_X7_44 (sA_31 hY) rfl ?_
        rw [e29]
        exact w_retV C (pc := 92) dX7_stepInt_92 rfl (Option.some.inj h)
      · have h := it_f h c
        refine w_iconst C (pc := 69) dX7_stepInt_69 (v := 2) (by decide) ?_
        refine w_goto C (pc := 70) 74 dX7_stepInt_70 (by decide) ?_
        obtain ⟨M30, e31, h⟩ := bn h
        refine w_putI C (pc := 74) dX7_stepInt_74 fp_X7_50 (sA_31 hY) rfl ?_
        rw [e31]
        refine w_aload_n C (pc := 77) dX7_stepInt_77 0 rfl ?_
        refine w_iload_n C (pc := 78) dX7_stepInt_78 2 rfl ?_
        refine w_iload C (pc := 79) dX7_stepInt_79 4 rfl ?_
        refine w_imul C (pc := 81) dX7_stepInt_81 ?_
        obtain ⟨M32, e33, h⟩ := bn h
        refine w_putI C (pc := 82) dX7_stepInt_82 fp_X7_94 (sA_31 hY) rfl ?_
        rw [e33]
        refine w_aload_n C (pc := 85) dX7_stepInt_85 0 rfl ?_
        refine w_iload_n C (pc := 86) dX7_stepInt_86 1 rfl ?_
        refine w_iload_n C (pc := 87) dX7_stepInt_87 3 rfl ?_
        refine w_iadd C (pc := 88) dX7_stepInt_88 ?_
        obtain ⟨M34, e35, h⟩ := bn h
        refine w_putI C (pc := 89) dX7_stepInt_89 fp_X7_44 (sA_31 hY) rfl ?_
        rw [e35]
        exact w_retV C (pc := 92) dX7_stepInt_92 rfl (Option.some.inj h)
theorem dX7_step_0 : decode cX7_step 0 = .ok (.aload_n 0, 1) := by decide +kernel
theorem dX7_step_1 : decode cX7_step 1 = .ok (.aload_n 0, 1) := by decide +kernel
theorem dX7_step_2 : decode cX7_step 2 = .ok (.getfield 44, 3) := by decide +kernel
theorem dX7_step_5 : decode cX7_step 5 = .ok (.putfield 140, 3) := by decide +kernel
theorem dX7_step_8 : decode cX7_step 8 = .ok (.aload_n 0, 1) := by decide +kernel
theorem dX7_step_9 : decode cX7_step 9 = .ok (.getfield 140, 3) := by decide +kernel
theorem dX7_step_12 : decode cX7_step 12 = .ok (.aload_n 0, 1) := by decide +kernel
theorem dX7_step_13 : decode cX7_step 13 = .ok (.getfield 29, 3) := by decide +kernel
theorem dX7_step_16 : decode cX7_step 16 = .ok (.getfield 143, 3) := by decide +kernel
theorem dX7_step_19 : decode cX7_step 19 = .ok (.if_icmp .ge 30, 3) := by decide +kernel
theorem dX7_step_22 : decode cX7_step 22 = .ok (.aload_n 0, 1) := by decide +kernel
theorem dX7_step_23 : decode cX7_step 23 = .ok (.getfield 29, 3) := by decide +kernel
theorem dX7_step_26 : decode cX7_step 26 = .ok (.aload_n 0, 1) := by decide +kernel
theorem dX7_step_27 : decode cX7_step 27 = .ok (.getfield 140, 3) := by decide +kernel
theorem dX7_step_30 : decode cX7_step 30 = .ok (.invokevirtual 148, 3) := by decide +kernel
theorem dX7_step_33 : decode cX7_step 33 = .ok (.ifCond .eq 16, 3) := by decide +kernel
theorem dX7_step_36 : decode cX7_step 36 = .ok (.aload_n 0, 1) := by decide +kernel
theorem dX7_step_37 : decode cX7_step 37 = .ok (.dup, 1) := by decide +kernel
theorem dX7_step_38 : decode cX7_step 38 = .ok (.getfield 140, 3) := by decide +kernel
theorem dX7_step_41 : decode cX7_step 41 = .ok (.iconst 1, 1) := by decide +kernel
theorem dX7_step_42 : decode cX7_step 42 = .ok (.iadd, 1) := by decide +kernel
theorem dX7_step_43 : decode cX7_step 43 = .ok (.putfield 140, 3) := by decide +kernel
theorem dX7_step_46 : decode cX7_step 46 = .ok (.goto (-38), 3) := by decide +kernel
theorem dX7_step_49 : decode cX7_step 49 = .ok (.aload_n 0, 1) := by decide +kernel
theorem dX7_step_50 : decode cX7_step 50 = .ok (.aload_n 0, 1) := by decide +kernel
theorem dX7_step_51 : decode cX7_step 51 = .ok (.getfield 140, 3) := by decide +kernel
theorem dX7_step_54 : decode cX7_step 54 = .ok (.iconst 1, 1) := by decide +kernel
theorem dX7_step_55 : decode cX7_step 55 = .ok (.iadd, 1) := by decide +kernel
theorem dX7_step_56 : decode cX7_step 56 = .ok (.putfield 44, 3) := by decide +kernel
theorem dX7_step_59 : decode cX7_step 59 = .ok (.aload_n 0, 1) := by decide +kernel
theorem dX7_step_60 : decode cX7_step 60 = .ok (.getfield 140, 3) := by decide +kernel
theorem dX7_step_63 : decode cX7_step 63 = .ok (.aload_n 0, 1) := by decide +kernel
theorem dX7_step_64 : decode cX7_step 64 = .ok (.getfield 29, 3) := by decide +kernel
theorem dX7_step_67 : decode cX7_step 67 = .ok (.getfield 143, 3) := by decide +kernel
theorem dX7_step_70 : decode cX7_step 70 = .ok (.if_icmp .lt 19, 3) := by decide +kernel
theorem dX7_step_73 : decode cX7_step 73 = .ok (.aload_n 0, 1) := by decide +kernel
theorem dX7_step_74 : decode cX7_step 74 = .ok (.iconst 0, 1) := by decide +kernel
theorem dX7_step_75 : decode cX7_step 75 = .ok (.putfield 50, 3) := by decide +kernel
theorem dX7_step_78 : decode cX7_step 78 = .ok (.aload_n 0, 1) := by decide +kernel
theorem dX7_step_79 : decode cX7_step 79 = .ok (.aload_n 0, 1) := by decide +kernel
theorem dX7_step_80 : decode cX7_step 80 = .ok (.getfield 140, 3) := by decide +kernel
theorem dX7_step_83 : decode cX7_step 83 = .ok (.putfield 44, 3) := by decide +kernel
theorem dX7_step_86 : decode cX7_step 86 = .ok (.goto 109, 3) := by decide +kernel
theorem dX7_step_89 : decode cX7_step 89 = .ok (.aload_n 0, 1) := by decide +kernel
theorem dX7_step_90 : decode cX7_step 90 = .ok (.getfield 29, 3) := by decide +kernel
theorem dX7_step_93 : decode cX7_step 93 = .ok (.aload_n 0, 1) := by decide +kernel
theorem dX7_step_94 : decode cX7_step 94 = .ok (.getfield 140, 3) := by decide +kernel
theorem dX7_step_97 : decode cX7_step 97 = .ok (.invokevirtual 151, 3) := by decide +kernel
theorem dX7_step_100 : decode cX7_step 100 = .ok (.bipush 59, 2) := by decide +kernel
theorem dX7_step_102 : decode cX7_step 102 = .ok (.if_icmp .ne 11, 3) := by decide +kernel
theorem dX7_step_105 : decode cX7_step 105 = .ok (.aload_n 0, 1) := by decide +kernel
theorem dX7_step_106 : decode cX7_step 106 = .ok (.iconst 3, 1) := by decide +kernel
theorem dX7_step_107 : decode cX7_step 107 = .ok (.putfield 50, 3) := by decide +kernel
theorem dX7_step_110 : decode cX7_step 110 = .ok (.goto 85, 3) := by decide +kernel
theorem dX7_step_113 : decode cX7_step 113 = .ok (.aload_n 0, 1) := by decide +kernel
theorem dX7_step_114 : decode cX7_step 114 = .ok (.getfield 29, 3) := by decide +kernel
theorem dX7_step_117 : decode cX7_step 117 = .ok (.aload_n 0, 1) := by decide +kernel
theorem dX7_step_118 : decode cX7_step 118 = .ok (.getfield 140, 3) := by decide +kernel
theorem dX7_step_121 : decode cX7_step 121 = .ok (.invokevirtual 154, 3) := by decide +kernel
theorem dX7_step_124 : decode cX7_step 124 = .ok (.ifCond .eq 10, 3) := by decide +kernel
theorem dX7_step_127 : decode cX7_step 127 = .ok (.aload_n 0, 1) := by decide +kernel
theorem dX7_step_128 : decode cX7_step 128 = .ok (.invokevirtual 157, 3) := by decide +kernel
theorem dX7_step_131 : decode cX7_step 131 = .ok (.goto 64, 3) := by decide +kernel
theorem dX7_step_134 : decode cX7_step 134 = .ok (.aload_n 0, 1) := by decide +kernel
theorem dX7_step_135 : decode cX7_step 135 = .ok (.getfield 29, 3) := by decide +kernel
theorem dX7_step_138 : decode cX7_step 138 = .ok (.aload_n 0, 1) := by decide +kernel
theorem dX7_step_139 : decode cX7_step 139 = .ok (.getfield 140, 3) := by decide +kernel
theorem dX7_step_142 : decode cX7_step 142 = .ok (.invokevirtual 160, 3) := by decide +kernel
theorem dX7_step_145 : decode cX7_step 145 = .ok (.ifCond .eq 15, 3) := by decide +kernel
theorem dX7_step_148 : decode cX7_step 148 = .ok (.aload_n 0, 1) := by decide +kernel
theorem dX7_step_149 : decode cX7_step 149 = .ok (.aload_n 0, 1) := by decide +kernel
theorem dX7_step_150 : decode cX7_step 150 = .ok (.getfield 140, 3) := by decide +kernel
theorem dX7_step_153 : decode cX7_step 153 = .ok (.iconst 1, 1) := by decide +kernel
theorem dX7_step_154 : decode cX7_step 154 = .ok (.invokevirtual 163, 3) := by decide +kernel
theorem dX7_step_157 : decode cX7_step 157 = .ok (.goto 38, 3) := by decide +kernel
theorem dX7_step_160 : decode cX7_step 160 = .ok (.aload_n 0, 1) := by decide +kernel
theorem dX7_step_161 : decode cX7_step 161 = .ok (.getfield 29, 3) := by decide +kernel
theorem dX7_step_164 : decode cX7_step 164 = .ok (.aload_n 0, 1) := by decide +kernel
theorem dX7_step_165 : decode cX7_step 165 = .ok (.getfield 140, 3) := by decide +kernel
theorem dX7_step_168 : decode cX7_step 168 = .ok (.invokevirtual 151, 3) := by decide +kernel
theorem dX7_step_171 : decode cX7_step 171 = .ok (.bipush 45, 2) := by decide +kernel
theorem dX7_step_173 : decode cX7_step 173 = .ok (.if_icmp .ne 17, 3) := by decide +kernel
theorem dX7_step_176 : decode cX7_step 176 = .ok (.aload_n 0, 1) := by decide +kernel
theorem dX7_step_177 : decode cX7_step 177 = .ok (.aload_n 0, 1) := by decide +kernel
theorem dX7_step_178 : decode cX7_step 178 = .ok (.getfield 140, 3) := by decide +kernel
theorem dX7_step_181 : decode cX7_step 181 = .ok (.iconst 1, 1) := by decide +kernel
theorem dX7_step_182 : decode cX7_step 182 = .ok (.iadd, 1) := by decide +kernel
theorem dX7_step_183 : decode cX7_step 183 = .ok (.iconst (-1), 1) := by decide +kernel
theorem dX7_step_184 : decode cX7_step 184 = .ok (.invokevirtual 163, 3) := by decide +kernel
theorem dX7_step_187 : decode cX7_step 187 = .ok (.goto 8, 3) := by decide +kernel
theorem dX7_step_190 : decode cX7_step 190 = .ok (.aload_n 0, 1) := by decide +kernel
theorem dX7_step_191 : decode cX7_step 191 = .ok (.iconst 4, 1) := by decide +kernel
theorem dX7_step_192 : decode cX7_step 192 = .ok (.putfield 50, 3) := by decide +kernel
theorem dX7_step_195 : decode cX7_step 195 = .ok (.return_, 1) := by decide +kernel
def pX7_step_L8 (s : Mm) : Option ((Mm) ⊕ (Mm)) :=
if (s 29 0) ≤ (s 31 7) then
(some (Sum.inr s))
else
((pX6_hasBlankAt (s 31 7) s).bind fun v3 =>
if v3 = 0 then
(some (Sum.inr s))
else
(bnd (mset s 31 7 ((s 31 7) + 1)) fun M5 =>
some (Sum.inl M5)))
def pX7_step (M : Mm) : Option (Mm) :=
bnd (mset M 31 7 (M 31 8)) fun M1 =>
(itr (pX7_step_L8) fuel M1).bind fun x7 =>
bnd (mset x7 31 8 ((x7 31 7) + 1)) fun M18 =>
if (M18 31 7) < (M18 29 0) then
((pX6_byteAt (M18 31 7) M18).bind fun v20 =>
if v20 = 59 then
(bnd (mset M18 31 6 3) fun M22 =>
some M22)
else
((pX6_hasLetterAt (M18 31 7) M18).bind fun v24 =>
if v24 = 0 then
((pX6_hasDigitAt (M18 31 7) M18).bind fun v26 =>
if v26 = 0 then
((pX6_byteAt (M18 31 7) M18).bind fun v28 =>
if v28 = 45 then
((pX7_stepInt ((M18 31 7) + 1) (-1) M18).bind fun v30 =>
some v30)
else
(bnd (mset M18 31 6 4) fun M32 =>
some M32))
else
((pX7_stepInt (M18 31 7) 1 M18).bind fun v34 =>
some v34))
else
((pX7_stepWord M18).bind fun v36 =>
some v36)))
else
(bnd (mset M18 31 6 0) fun M38 =>
bnd (mset M38 31 8 (M38 31 7)) fun M40 =>
some M40)
abbrev zX7_step : Zx := (cX7_step, RX7, 1, 3, none)
set_option maxRecDepth 100000 in
set_option maxHeartbeats 4000000 in
theorem tX7_step {l : Launch} {Y : Sx} {M : Mm} {q : Mm} (hY : isA Y) (h : pX7_step M = some q) : Ct l Y yX7_step cX7_step 1 none 3 [.ref (adr Y 31)] M none q := by
  refine Ct.of (by decide) rfl (lv := [(0, .ref (adr Y 31))]) rfl ?_
  intro K hkl C
  change Cx K zX7_step Y at C
  subst hkl
  unfold pX7_step at h
  show Wp K zX7_step Y (Qm K Y none q) M 0 [(0, .ref (adr Y 31))] []
  refine w_aload_n C (pc := 0) dX7_step_0 0 rfl ?_
  refine w_aload_n C (pc := 1) dX7_step_1 0 rfl ?_
  refine w_getI C (pc := 2) dX7_step_2 f_X7_44 (sA_31 hY) rfl ?_
  obtain ⟨M1, e2, h⟩ := bn h
  refine w_putI C (pc := 5) dX7_step_5 fp_X7_140 (sA_31 hY) rfl ?_
  rw [e2]
  obtain ⟨x7, e8, h⟩ := ob h
  refine itr_W (P := fun s9 => Wp K zX7_step Y (Qm K Y none q) s9 8 [(0, .ref (adr Y 31))] []) (R := fun x7 => Wp K zX7_step Y (Qm K Y none q) x7 49 [(0, .ref (adr Y 31))] []) ?_ fuel M1 x7 e8 ?_
  · intro s9 r10 h13 ki11 kx12
    unfold pX7_step_L8 at h13
    show Wp K zX7_step Y (Qm K Y none q) s9 8 [(0, .ref (adr Y 31))] []
    refine w_aload_n C (pc := 8) dX7_step_8 0 rfl ?_
    refine w_getI C (pc := 9) dX7_step_9 f_X7_140 (sA_31 hY) rfl ?_
    refine w_aload_n C (pc := 12) dX7_step_12 0 rfl ?_
    refine w_getR C (pc := 13) dX7_step_13 f_X7_29 (sA_31 hY) rfl ?_
    refine w_getI C (pc := 16) dX7_step_16 f_X7_143 (sA_29 hY) rfl ?_
    refine w_icge C (pc := 19) 49 dX7_step_19 (by decide) (fun c => ?_) (fun c => ?_)
    · have h13 := it_t h13 c
      obtain rfl := Option.some.inj h13
      have k9 := kx12 s9 rfl
      try dsimp only at k9
      exact k9
    · have h13 := it_f h13 c
      refine w_aload_n C (pc := 22) dX7_step_22 0 rfl ?_
      refine w_getR C (pc := 23) dX7_step_23 f_X7_29 (sA_31 hY) rfl ?_
      refine w_aload_n C (pc := 26) dX7_step_26 0 rfl ?_
      refine w_getI C (pc := 27) dX7_step_27 f_X7_140 (sA_31 hY) rfl ?_
      obtain ⟨v14, e15, h13⟩ := ob h13
      refine w_cVi C (pc := 30) dX7_step_30 my_X6_hasBlankAt mi_X6_hasBlankAt ml_X7_148 (sA_29 hY) rfl rfl rfl [.int (s9 31 7)] rfl rfl (Nat.le_of_ble_eq_true rfl) (tX6_hasBlankAt hY  e15) ?_
      refine w_ifeq C (pc := 33) 49 dX7_step_33 (by decide) (fun c => ?_) (fun c => ?_)
      · have h13 := it_t h13 c
        obtain rfl := Option.some.inj h13
        have k9 := kx12 s9 rfl
        try dsimp only at k9
        exact k9
      · have h13 := it_f h13 c
        refine w_aload_n C (pc := 36) dX7_step_36 0 rfl ?_
        refine w_dup C (pc := 37) dX7_step_37 rfl ?_
        refine w_getI C (pc := 38) dX7_step_38 f_X7_140 (sA_31 hY) rfl ?_
        refine w_iconst C (pc := 41) dX7_step_41 (v := 1) (by decide) ?_
        refine w_iadd C (pc := 42) dX7_step_42 ?_
        obtain ⟨M16, e17, h13⟩ := bn h13
        refine w_putI C (pc := 43) dX7_step_43 fp_X7_140 (sA_31 hY) rfl ?_
        rw [e17]
        refine w_goto C (pc := 46) 8 dX7_step_46 (by decide) ?_
        obtain rfl := Option.some.inj h13
        have k9 := ki11 M16 rfl
        try dsimp only at k9
        exact k9
  · refine w_aload_n C (pc := 49) dX7_step_49 0 rfl ?_
    refine w_aload_n C (pc := 50) dX7_step_50 0 rfl ?_
    refine w_getI C (pc := 51) dX7_step_51 f_X7_140 (sA_31 hY) rfl ?_
    refine w_iconst C (pc := 54) dX7_step_54 (v := 1) (by decide) ?_
    refine w_iadd C (pc := 55) dX7_step_55 ?_
    obtain ⟨M18, e19, h⟩ := bn h
    refine w_putI C (pc := 56) dX7_step_56 fp_X7_44 (sA_31 hY) rfl ?_
    rw [e19]
    refine w_aload_n C (pc := 59) dX7_step_59 0 rfl ?_
    refine w_getI C (pc := 60) dX7_step_60 f_X7_140 (sA_31 hY) rfl ?_
    refine w_aload_n C (pc := 63) dX7_step_63 0 rfl ?_
    refine w_getR C (pc := 64) dX7_step_64 f_X7_29 (sA_31 hY) rfl ?_
    refine w_getI C (pc := 67) dX7_step_67 f_X7_143 (sA_29 hY) rfl ?_
    refine w_iclt C (pc := 70) 89 dX7_step_70 (by decide) (fun c => ?_) (fun c => ?_)
    · have h := it_t h c
      refine w_aload_n C (pc := 89) dX7_step_89 0 rfl ?_
      refine w_getR C (pc := 90) dX7_step_90 f_X7_29 (sA_31 hY) rfl ?_
      refine w_aload_n C (pc := 93) dX7_step_93 0 rfl ?_
      refine w_getI C (pc := 94) dX7_step_94 f_X7_140 (sA_31 hY) rfl ?_
      obtain ⟨v20, e21, h⟩ := ob h
      refine w_cVi C (pc := 97) dX7_step_97 my_X6_byteAt mi_X6_byteAt ml_X7_151 (sA_29 hY) rfl rfl rfl [.int (M18 31 7)] rfl rfl (Nat.le_of_ble_eq_true rfl) (tX6_byteAt hY  e21) ?_
      refine w_bipush C (pc := 100) dX7_step_100 (v := 59) (by decide) ?_
      refine w_icne C (pc := 102) 113 dX7_step_102 (by decide) (fun c => ?_) (fun c => ?_)
      · have h := it_t h c
        refine w_aload_n C (pc := 105) dX7_step_105 0 rfl ?_
        refine w_iconst C (pc := 106) dX7_step_106 (v := 3) (by decide) ?_
        obtain ⟨M22, e23, h⟩ := bn h
        refine w_putI C (pc := 107) dX7_step_107 fp_X7_50 (sA_31 hY) rfl ?_
        rw [e23]
        refine w_goto C (pc := 110) 195 dX7_step_110 (by decide) ?_
        exact w_retV C (pc := 195) dX7_step_195 rfl (Option.some.inj h)
      · have h := it_f h c
        refine w_aload_n C (pc := 113) dX7_step_113 0 rfl ?_
        refine w_getR C (pc := 114) dX7_step_114 f_X7_29 (sA_31 hY) rfl ?_
        refine w_aload_n C (pc := 117) dX7_step_117 0 rfl ?_
        refine w_getI C (pc := 118) dX7_step_118 f_X7_140 (sA_31 hY) rfl ?_
        obtain ⟨v24, e25, h⟩ := ob h
        refine w_cVi C (pc := 121) dX7_step_121 my_X6_hasLetterAt mi_X6_hasLetterAt ml_X7_154 (sA_29 hY) rfl rfl rfl [.int (M18 31 7)] rfl rfl (Nat.le_of_ble_eq_true rfl) (tX6_hasLetterAt hY  e25) ?_
        refine w_ifeq C (pc := 124) 134 dX7_step_124 (by decide) (fun c => ?_) (fun c => ?_)
        · have h := it_t h c
          refine w_aload_n C (pc := 134) dX7_step_134 0 rfl ?_
          refine w_getR C (pc := 135) dX7_step_135 f_X7_29 (sA_31 hY) rfl ?_
          refine w_aload_n C (pc := 138) dX7_step_138 0 rfl ?_
          refine w_getI C (pc := 139) dX7_step_139 f_X7_140 (sA_31 hY) rfl ?_
          obtain ⟨v26, e27, h⟩ := ob h
          refine w_cVi C (pc := 142) dX7_step_142 my_X6_hasDigitAt mi_X6_hasDigitAt ml_X7_160 (sA_29 hY) rfl rfl rfl [.int (M18 31 7)] rfl rfl (Nat.le_of_ble_eq_true rfl) (tX6_hasDigitAt hY  e27) ?_
          refine w_ifeq C (pc := 145) 160 dX7_step_145 (by decide) (fun c => ?_) (fun c => ?_)
          · have h := it_t h c
            refine w_aload_n C (pc := 160) dX7_step_160 0 rfl ?_
            refine w_getR C (pc := 161) dX7_step_161 f_X7_29 (sA_31 hY) rfl ?_
            refine w_aload_n C (pc := 164) dX7_step_164 0 rfl ?_
            refine w_getI C (pc := 165) dX7_step_165 f_X7_140 (sA_31 hY) rfl ?_
            obtain ⟨v28, e29, h⟩ := ob h
            refine w_cVi C (pc := 168) dX7_step_168 my_X6_byteAt mi_X6_byteAt ml_X7_151 (sA_29 hY) rfl rfl rfl [.int (M18 31 7)] rfl rfl (Nat.le_of_ble_eq_true rfl) (tX6_byteAt hY  e29) ?_
            refine w_bipush C (pc := 171) dX7_step_171 (v := 45) (by decide) ?_
            refine w_icne C (pc := 173) 190 dX7_step_173 (by decide) (fun c => ?_) (fun c => ?_)
            · have h := it_t h c
              refine w_aload_n C (pc := 176) dX7_step_176 0 rfl ?_
              refine w_aload_n C (pc := 177) dX7_step_177 0 rfl ?_
              refine w_getI C (pc := 178) dX7_step_178 f_X7_140 (sA_31 hY) rfl ?_
              refine w_iconst C (pc := 181) dX7_step_181 (v := 1) (by decide) ?_
              refine w_iadd C (pc := 182) dX7_step_182 ?_
              refine w_iconst C (pc := 183) dX7_step_183 (v := (-1)) (by decide) ?_
              obtain ⟨v30, e31, h⟩ := ob h
              refine w_cVv C (pc := 184) dX7_step_184 my_X7_stepInt mi_X7_stepInt ml_X7_163 (sA_31 hY) rfl rfl rfl [.int ((M18 31 7) + 1), .int (-1)] rfl rfl (Nat.le_of_ble_eq_true rfl) (tX7_stepInt hY  e31) ?_
              refine w_goto C (pc := 187) 195 dX7_step_187 (by decide) ?_
              exact w_retV C (pc := 195) dX7_step_195 rfl (Option.some.inj h)
            · have h := it_f h c
              refine w_aload_n C (pc := 190) dX7_step_190 0 rfl ?_
              refine w_iconst C (pc := 191) dX7_step_191 (v := 4) (by decide) ?_
              obtain ⟨M32, e33, h⟩ := bn h
              refine w_putI C (pc := 192) dX7_step_192 fp_X7_50 (sA_31 hY) rfl ?_
              rw [e33]
              exact w_retV C (pc := 195) dX7_step_195 rfl (Option.some.inj h)
          · have h := it_f h c
            refine w_aload_n C (pc := 148) dX7_step_148 0 rfl ?_
            refine w_aload_n C (pc := 149) dX7_step_149 0 rfl ?_
            refine w_getI C (pc := 150) dX7_step_150 f_X7_140 (sA_31 hY) rfl ?_
            refine w_iconst C (pc := 153) dX7_step_153 (v := 1) (by decide) ?_
            obtain ⟨v34, e35, h⟩ := ob h
            refine w_cVv C (pc := 154) dX7_step_154 my_X7_stepInt mi_X7_stepInt ml_X7_163 (sA_31 hY) rfl rfl rfl [.int (M18 31 7), .int 1] rfl rfl (Nat.le_of_ble_eq_true rfl) (tX7_stepInt hY  e35) ?_
            refine w_goto C (pc := 157) 195 dX7_step_157 (by decide) ?_
            exact w_retV C (pc := 195) dX7_step_195 rfl (Option.some.inj h)
        · have h := it_f h c
          refine w_aload_n C (pc := 127) dX7_step_127 0 rfl ?_
          obtain ⟨v36, e37, h⟩ := ob h
          refine w_cVv C (pc := 128) dX7_step_128 my_X7_stepWord mi_X7_stepWord ml_X7_157 (sA_31 hY) rfl rfl rfl [] rfl rfl (Nat.le_of_ble_eq_true rfl) (tX7_stepWord hY  e37) ?_
          refine w_goto C (pc := 131) 195 dX7_step_131 (by decide) ?_
          exact w_retV C (pc := 195) dX7_step_195 rfl (Option.some.inj h)
    · have h := it_f h c
      refine w_aload_n C (pc := 73) dX7_step_73 0 rfl ?_
      refine w_iconst C (pc := 74) dX7_step_74 (v := 0) (by decide) ?_
      obtain ⟨M38, e39, h⟩ := bn h
      refine w_putI C (pc := 75) dX7_step_75 fp_X7_50 (sA_31 hY) rfl ?_
      rw [e39]
      refine w_aload_n C (pc := 78) dX7_step_78 0 rfl ?_
      refine w_aload_n C (pc := 79) dX7_step_79 0 rfl ?_
      refine w_getI C (pc := 80) dX7_step_80 f_X7_140 (sA_31 hY) rfl ?_
      obtain ⟨M40, e41, h⟩ := bn h
      refine w_putI C (pc := 83) dX7_step_83 fp_X7_44 (sA_31 hY) rfl ?_
      rw [e41]
      refine w_goto C (pc := 86) 195 dX7_step_86 (by decide) ?_
      exact w_retV C (pc := 195) dX7_step_195 rfl (Option.some.inj h)
theorem dX7_whatIsTold_0 : decode cX7_whatIsTold 0 = .ok (.aload_n 0, 1) := by decide +kernel
theorem dX7_whatIsTold_1 : decode cX7_whatIsTold 1 = .ok (.ldc 65, 2) := by decide +kernel
theorem dX7_whatIsTold_3 : decode cX7_whatIsTold 3 = .ok (.invokevirtual 67, 3) := by decide +kernel
theorem dX7_whatIsTold_6 : decode cX7_whatIsTold 6 = .ok (.ifCond .eq 5, 3) := by decide +kernel
theorem dX7_whatIsTold_9 : decode cX7_whatIsTold 9 = .ok (.iconst 0, 1) := by decide +kernel
theorem dX7_whatIsTold_10 : decode cX7_whatIsTold 10 = .ok (.ireturn, 1) := by decide +kernel
theorem dX7_whatIsTold_11 : decode cX7_whatIsTold 11 = .ok (.aload_n 0, 1) := by decide +kernel
theorem dX7_whatIsTold_12 : decode cX7_whatIsTold 12 = .ok (.ldc 71, 2) := by decide +kernel
theorem dX7_whatIsTold_14 : decode cX7_whatIsTold 14 = .ok (.invokevirtual 67, 3) := by decide +kernel
theorem dX7_whatIsTold_17 : decode cX7_whatIsTold 17 = .ok (.ifCond .eq 5, 3) := by decide +kernel
theorem dX7_whatIsTold_20 : decode cX7_whatIsTold 20 = .ok (.iconst 1, 1) := by decide +kernel
theorem dX7_whatIsTold_21 : decode cX7_whatIsTold 21 = .ok (.ireturn, 1) := by decide +kernel
theorem dX7_whatIsTold_22 : decode cX7_whatIsTold 22 = .ok (.aload_n 0, 1) := by decide +kernel
theorem dX7_whatIsTold_23 : decode cX7_whatIsTold 23 = .ok (.ldc 73, 2) := by decide +kernel
theorem dX7_whatIsTold_25 : decode cX7_whatIsTold 25 = .ok (.invokevirtual 67, 3) := by decide +kernel
theorem dX7_whatIsTold_28 : decode cX7_whatIsTold 28 = .ok (.ifCond .eq 5, 3) := by decide +kernel
theorem dX7_whatIsTold_31 : decode cX7_whatIsTold 31 = .ok (.iconst 2, 1) := by decide +kernel
theorem dX7_whatIsTold_32 : decode cX7_whatIsTold 32 = .ok (.ireturn, 1) := by decide +kernel
theorem dX7_whatIsTold_33 : decode cX7_whatIsTold 33 = .ok (.aload_n 0, 1) := by decide +kernel
theorem dX7_whatIsTold_34 : decode cX7_whatIsTold 34 = .ok (.ldc 75, 2) := by decide +kernel
theorem dX7_whatIsTold_36 : decode cX7_whatIsTold 36 = .ok (.invokevirtual 67, 3) := by decide +kernel
theorem dX7_whatIsTold_39 : decode cX7_whatIsTold 39 = .ok (.ifCond .eq 5, 3) := by decide +kernel
theorem dX7_whatIsTold_42 : decode cX7_whatIsTold 42 = .ok (.iconst 3, 1) := by decide +kernel
theorem dX7_whatIsTold_43 : decode cX7_whatIsTold 43 = .ok (.ireturn, 1) := by decide +kernel
theorem dX7_whatIsTold_44 : decode cX7_whatIsTold 44 = .ok (.aload_n 0, 1) := by decide +kernel
theorem dX7_whatIsTold_45 : decode cX7_whatIsTold 45 = .ok (.ldc 77, 2) := by decide +kernel
theorem dX7_whatIsTold_47 : decode cX7_whatIsTold 47 = .ok (.invokevirtual 67, 3) := by decide +kernel
theorem dX7_whatIsTold_50 : decode cX7_whatIsTold 50 = .ok (.ifCond .eq 7, 3) := by decide +kernel
theorem dX7_whatIsTold_53 : decode cX7_whatIsTold 53 = .ok (.iconst 4, 1) := by decide +kernel
theorem dX7_whatIsTold_54 : decode cX7_whatIsTold 54 = .ok (.goto 4, 3) := by decide +kernel
theorem dX7_whatIsTold_57 : decode cX7_whatIsTold 57 = .ok (.iconst (-1), 1) := by decide +kernel
theorem dX7_whatIsTold_58 : decode cX7_whatIsTold 58 = .ok (.ireturn, 1) := by decide +kernel
def pX7_whatIsTold (M : Mm) : Option (Int32) :=
(pX7_isWord 0 M).bind fun v1 =>
if v1 = 0 then
((pX7_isWord 1 M).bind fun v3 =>
if v3 = 0 then
((pX7_isWord 2 M).bind fun v5 =>
if v5 = 0 then
((pX7_isWord 3 M).bind fun v7 =>
if v7 = 0 then
((pX7_isWord 4 M).bind fun v9 =>
if v9 = 0 then
(some (-1))
else
(some 4))
else
(some 3))
else
(some 2))
else
(some 1))
else
(some 0)
abbrev zX7_whatIsTold : Zx := (cX7_whatIsTold, RX7, 1, 5, (some .int))
set_option maxRecDepth 100000 in
set_option maxHeartbeats 4000000 in
theorem tX7_whatIsTold {l : Launch} {Y : Sx} {M : Mm} {q : Int32} (hY : isA Y) (h : pX7_whatIsTold M = some q) : Ct l Y yX7_whatIsTold cX7_whatIsTold 1 (some .int) 5 [.ref (adr Y 31)] M (some q) M := by
  refine Ct.of (by decide) rfl (lv := [(0, .ref (adr Y 31))]) rfl ?_
  intro K hkl C
  change Cx K zX7_whatIsTold Y at C
  subst hkl
  unfold pX7_whatIsTold at h
  show Wp K zX7_whatIsTold Y (Qm K Y (some q) M) M 0 [(0, .ref (adr Y 31))] []
  refine w_aload_n C (pc := 0) dX7_whatIsTold_0 0 rfl ?_
  refine w_ldcS C (pc := 1) dX7_whatIsTold_1 rfl (i := 0) rfl ?_
  obtain ⟨v1, e2, h⟩ := ob h
  refine w_cVi C (pc := 3) dX7_whatIsTold_3 my_X7_isWord mi_X7_isWord ml_X7_67 (sA_31 hY) rfl rfl rfl [.ref (ska Y 0)] rfl rfl (Nat.le_of_ble_eq_true rfl) (tX7_isWord hY (by decide) e2) ?_
  refine w_ifeq C (pc := 6) 11 dX7_whatIsTold_6 (by decide) (fun c => ?_) (fun c => ?_)
  · have h := it_t h c
    refine w_aload_n C (pc := 11) dX7_whatIsTold_11 0 rfl ?_
    refine w_ldcS C (pc := 12) dX7_whatIsTold_12 rfl (i := 1) rfl ?_
    obtain ⟨v3, e4, h⟩ := ob h
    refine w_cVi C (pc := 14) dX7_whatIsTold_14 my_X7_isWord mi_X7_isWord ml_X7_67 (sA_31 hY) rfl rfl rfl [.ref (ska Y 1)] rfl rfl (Nat.le_of_ble_eq_true rfl) (tX7_isWord hY (by decide) e4) ?_
    refine w_ifeq C (pc := 17) 22 dX7_whatIsTold_17 (by decide) (fun c => ?_) (fun c => ?_)
    · have h := it_t h c
      refine w_aload_n C (pc := 22) dX7_whatIsTold_22 0 rfl ?_
      refine w_ldcS C (pc := 23) dX7_whatIsTold_23 rfl (i := 2) rfl ?_
      obtain ⟨v5, e6, h⟩ := ob h
      refine w_cVi C (pc := 25) dX7_whatIsTold_25 my_X7_isWord mi_X7_isWord ml_X7_67 (sA_31 hY) rfl rfl rfl [.ref (ska Y 2)] rfl rfl (Nat.le_of_ble_eq_true rfl) (tX7_isWord hY (by decide) e6) ?_
      refine w_ifeq C (pc := 28) 33 dX7_whatIsTold_28 (by decide) (fun c => ?_) (fun c => ?_)
      · have h := it_t h c
        refine w_aload_n C (pc := 33) dX7_whatIsTold_33 0 rfl ?_
        refine w_ldcS C (pc := 34) dX7_whatIsTold_34 rfl (i := 3) rfl ?_
        obtain ⟨v7, e8, h⟩ := ob h
        refine w_cVi C (pc := 36) dX7_whatIsTold_36 my_X7_isWord mi_X7_isWord ml_X7_67 (sA_31 hY) rfl rfl rfl [.ref (ska Y 3)] rfl rfl (Nat.le_of_ble_eq_true rfl) (tX7_isWord hY (by decide) e8) ?_
        refine w_ifeq C (pc := 39) 44 dX7_whatIsTold_39 (by decide) (fun c => ?_) (fun c => ?_)
        · have h := it_t h c
          refine w_aload_n C (pc := 44) dX7_whatIsTold_44 0 rfl ?_
          refine w_ldcS C (pc := 45) dX7_whatIsTold_45 rfl (i := 4) rfl ?_
          obtain ⟨v9, e10, h⟩ := ob h
          refine w_cVi C (pc := 47) dX7_whatIsTold_47 my_X7_isWord mi_X7_isWord ml_X7_67 (sA_31 hY) rfl rfl rfl [.ref (ska Y 4)] rfl rfl (Nat.le_of_ble_eq_true rfl) (tX7_isWord hY (by decide) e10) ?_
          refine w_ifeq C (pc := 50) 57 dX7_whatIsTold_50 (by decide) (fun c => ?_) (fun c => ?_)
          · have h := it_t h c
            refine w_iconst C (pc := 57) dX7_whatIsTold_57 (v := (-1)) (by decide) ?_
            exact w_retR C (pc := 58) dX7_whatIsTold_58 rfl (Option.some.inj h)
          · have h := it_f h c
            refine w_iconst C (pc := 53) dX7_whatIsTold_53 (v := 4) (by decide) ?_
            refine w_goto C (pc := 54) 58 dX7_whatIsTold_54 (by decide) ?_
            exact w_retR C (pc := 58) dX7_whatIsTold_58 rfl (Option.some.inj h)
        · have h := it_f h c
          refine w_iconst C (pc := 42) dX7_whatIsTold_42 (v := 3) (by decide) ?_
          exact w_retR C (pc := 43) dX7_whatIsTold_43 rfl (Option.some.inj h)
      · have h := it_f h c
        refine w_iconst C (pc := 31) dX7_whatIsTold_31 (v := 2) (by decide) ?_
        exact w_retR C (pc := 32) dX7_whatIsTold_32 rfl (Option.some.inj h)
    · have h := it_f h c
      refine w_iconst C (pc := 20) dX7_whatIsTold_20 (v := 1) (by decide) ?_
      exact w_retR C (pc := 21) dX7_whatIsTold_21 rfl (Option.some.inj h)
  · have h := it_f h c
    refine w_iconst C (pc := 9) dX7_whatIsTold_9 (v := 0) (by decide) ?_
    exact w_retR C (pc := 10) dX7_whatIsTold_10 rfl (Option.some.inj h)
theorem dX7_refuse_0 : decode cX7_refuse 0 = .ok (.aload_n 0, 1) := by decide +kernel
theorem dX7_refuse_1 : decode cX7_refuse 1 = .ok (.iload_n 1, 1) := by decide +kernel
theorem dX7_refuse_2 : decode cX7_refuse 2 = .ok (.bipush 8, 2) := by decide +kernel
theorem dX7_refuse_4 : decode cX7_refuse 4 = .ok (.aload_n 0, 1) := by decide +kernel
theorem dX7_refuse_5 : decode cX7_refuse 5 = .ok (.getfield 140, 3) := by decide +kernel
theorem dX7_refuse_8 : decode cX7_refuse 8 = .ok (.imul, 1) := by decide +kernel
theorem dX7_refuse_9 : decode cX7_refuse 9 = .ok (.iadd, 1) := by decide +kernel
theorem dX7_refuse_10 : decode cX7_refuse 10 = .ok (.putfield 40, 3) := by decide +kernel
theorem dX7_refuse_13 : decode cX7_refuse 13 = .ok (.iconst 0, 1) := by decide +kernel
theorem dX7_refuse_14 : decode cX7_refuse 14 = .ok (.ireturn, 1) := by decide +kernel
def pX7_refuse (x1 : Int32) (M : Mm) : Int32 × Mm :=
bnd (mset M 31 5 (x1 + (8 * (M 31 7)))) fun M1 =>
(0, M1)
abbrev zX7_refuse : Zx := (cX7_refuse, RX7, 2, 0, (some .boolean))
set_option maxRecDepth 100000 in
set_option maxHeartbeats 4000000 in
theorem tX7_refuse {l : Launch} {Y : Sx} {M : Mm} {x1 : Int32} {q : Int32 × Mm} (hY : isA Y) (h : pX7_refuse x1 M = q) : Ct l Y yX7_refuse cX7_refuse 2 (some .boolean) 0 [.ref (adr Y 31), .int x1] M (some q.1) q.2 := by
  refine Ct.of (by decide) rfl (lv := [(0, .ref (adr Y 31)), (1, .int x1)]) rfl ?_
  intro K hkl C
  change Cx K zX7_refuse Y at C
  subst hkl
  unfold pX7_refuse at h
  show Wp K zX7_refuse Y (Qm K Y (some q.1) q.2) M 0 [(0, .ref (adr Y 31)), (1, .int x1)] []
  refine w_aload_n C (pc := 0) dX7_refuse_0 0 rfl ?_
  refine w_iload_n C (pc := 1) dX7_refuse_1 1 rfl ?_
  refine w_bipush C (pc := 2) dX7_refuse_2 (v := 8) (by decide) ?_
  refine w_aload_n C (pc := 4) dX7_refuse_4 0 rfl ?_
  refine w_getI C (pc := 5) dX7_refuse_5 f_X7_140 (sA_31 hY) rfl ?_
  refine w_imul C (pc := 8) dX7_refuse_8 ?_
  refine w_iadd C (pc := 9) dX7_refuse_9 ?_
  obtain ⟨M1, e2, h⟩ := bn h
  refine w_putI C (pc := 10) dX7_refuse_10 fp_X7_40 (sA_31 hY) rfl ?_
  rw [e2]
  refine w_iconst C (pc := 13) dX7_refuse_13 (v := 0) (by decide) ?_
  exact w_retz C (pc := 14) dX7_refuse_14 rfl (by decide) h
theorem dX7_readStatement_0 : decode cX7_readStatement 0 = .ok (.iload_n 1, 1) := by decide +kernel
theorem dX7_readStatement_1 : decode cX7_readStatement 1 = .ok (.iconst (-1), 1) := by decide +kernel
theorem dX7_readStatement_2 : decode cX7_readStatement 2 = .ok (.if_icmp .ne 9, 3) := by decide +kernel
theorem dX7_readStatement_5 : decode cX7_readStatement 5 = .ok (.aload_n 0, 1) := by decide +kernel
theorem dX7_readStatement_6 : decode cX7_readStatement 6 = .ok (.iconst 1, 1) := by decide +kernel
theorem dX7_readStatement_7 : decode cX7_readStatement 7 = .ok (.invokevirtual 79, 3) := by decide +kernel
theorem dX7_readStatement_10 : decode cX7_readStatement 10 = .ok (.ireturn, 1) := by decide +kernel
theorem dX7_readStatement_11 : decode cX7_readStatement 11 = .ok (.iload_n 1, 1) := by decide +kernel
theorem dX7_readStatement_12 : decode cX7_readStatement 12 = .ok (.iconst 1, 1) := by decide +kernel
theorem dX7_readStatement_13 : decode cX7_readStatement 13 = .ok (.if_icmp .ne 15, 3) := by decide +kernel
theorem dX7_readStatement_16 : decode cX7_readStatement 16 = .ok (.aload_n 0, 1) := by decide +kernel
theorem dX7_readStatement_17 : decode cX7_readStatement 17 = .ok (.getfield 12, 3) := by decide +kernel
theorem dX7_readStatement_20 : decode cX7_readStatement 20 = .ok (.getfield 82, 3) := by decide +kernel
theorem dX7_readStatement_23 : decode cX7_readStatement 23 = .ok (.bipush 8, 2) := by decide +kernel
theorem dX7_readStatement_25 : decode cX7_readStatement 25 = .ok (.if_icmp .ge 20, 3) := by decide +kernel
theorem dX7_readStatement_28 : decode cX7_readStatement 28 = .ok (.iload_n 1, 1) := by decide +kernel
theorem dX7_readStatement_29 : decode cX7_readStatement 29 = .ok (.iconst 4, 1) := by decide +kernel
theorem dX7_readStatement_30 : decode cX7_readStatement 30 = .ok (.if_icmp .ne 21, 3) := by decide +kernel
theorem dX7_readStatement_33 : decode cX7_readStatement 33 = .ok (.aload_n 0, 1) := by decide +kernel
theorem dX7_readStatement_34 : decode cX7_readStatement 34 = .ok (.getfield 21, 3) := by decide +kernel
theorem dX7_readStatement_37 : decode cX7_readStatement 37 = .ok (.getfield 85, 3) := by decide +kernel
theorem dX7_readStatement_40 : decode cX7_readStatement 40 = .ok (.bipush 8, 2) := by decide +kernel
theorem dX7_readStatement_42 : decode cX7_readStatement 42 = .ok (.if_icmp .lt 9, 3) := by decide +kernel
theorem dX7_readStatement_45 : decode cX7_readStatement 45 = .ok (.aload_n 0, 1) := by decide +kernel
theorem dX7_readStatement_46 : decode cX7_readStatement 46 = .ok (.iconst 3, 1) := by decide +kernel
theorem dX7_readStatement_47 : decode cX7_readStatement 47 = .ok (.invokevirtual 79, 3) := by decide +kernel
theorem dX7_readStatement_50 : decode cX7_readStatement 50 = .ok (.ireturn, 1) := by decide +kernel
theorem dX7_readStatement_51 : decode cX7_readStatement 51 = .ok (.aload_n 0, 1) := by decide +kernel
theorem dX7_readStatement_52 : decode cX7_readStatement 52 = .ok (.iconst 0, 1) := by decide +kernel
theorem dX7_readStatement_53 : decode cX7_readStatement 53 = .ok (.putfield 88, 3) := by decide +kernel
theorem dX7_readStatement_56 : decode cX7_readStatement 56 = .ok (.aload_n 0, 1) := by decide +kernel
theorem dX7_readStatement_57 : decode cX7_readStatement 57 = .ok (.getfield 88, 3) := by decide +kernel
theorem dX7_readStatement_60 : decode cX7_readStatement 60 = .ok (.getstatic 91, 3) := by decide +kernel
theorem dX7_readStatement_63 : decode cX7_readStatement 63 = .ok (.iload_n 1, 1) := by decide +kernel
theorem dX7_readStatement_64 : decode cX7_readStatement 64 = .ok (.iaload, 1) := by decide +kernel
theorem dX7_readStatement_65 : decode cX7_readStatement 65 = .ok (.if_icmp .gt 133, 3) := by decide +kernel
theorem dX7_readStatement_68 : decode cX7_readStatement 68 = .ok (.aload_n 0, 1) := by decide +kernel
theorem dX7_readStatement_69 : decode cX7_readStatement 69 = .ok (.invokevirtual 47, 3) := by decide +kernel
theorem dX7_readStatement_72 : decode cX7_readStatement 72 = .ok (.aload_n 0, 1) := by decide +kernel
theorem dX7_readStatement_73 : decode cX7_readStatement 73 = .ok (.getfield 88, 3) := by decide +kernel
theorem dX7_readStatement_76 : decode cX7_readStatement 76 = .ok (.getstatic 91, 3) := by decide +kernel
theorem dX7_readStatement_79 : decode cX7_readStatement 79 = .ok (.iload_n 1, 1) := by decide +kernel
theorem dX7_readStatement_80 : decode cX7_readStatement 80 = .ok (.iaload, 1) := by decide +kernel
theorem dX7_readStatement_81 : decode cX7_readStatement 81 = .ok (.if_icmp .ne 7, 3) := by decide +kernel
theorem dX7_readStatement_84 : decode cX7_readStatement 84 = .ok (.iconst 1, 1) := by decide +kernel
theorem dX7_readStatement_85 : decode cX7_readStatement 85 = .ok (.goto 4, 3) := by decide +kernel
theorem dX7_readStatement_88 : decode cX7_readStatement 88 = .ok (.iconst 0, 1) := by decide +kernel
theorem dX7_readStatement_89 : decode cX7_readStatement 89 = .ok (.istore_n 2, 1) := by decide +kernel
theorem dX7_readStatement_90 : decode cX7_readStatement 90 = .ok (.aload_n 0, 1) := by decide +kernel
theorem dX7_readStatement_91 : decode cX7_readStatement 91 = .ok (.getfield 50, 3) := by decide +kernel
theorem dX7_readStatement_94 : decode cX7_readStatement 94 = .ok (.iconst 3, 1) := by decide +kernel
theorem dX7_readStatement_95 : decode cX7_readStatement 95 = .ok (.if_icmp .ne 14, 3) := by decide +kernel
theorem dX7_readStatement_98 : decode cX7_readStatement 98 = .ok (.iload_n 2, 1) := by decide +kernel
theorem dX7_readStatement_99 : decode cX7_readStatement 99 = .ok (.ifCond .ne 8, 3) := by decide +kernel
theorem dX7_readStatement_102 : decode cX7_readStatement 102 = .ok (.iload_n 1, 1) := by decide +kernel
theorem dX7_readStatement_103 : decode cX7_readStatement 103 = .ok (.iconst 3, 1) := by decide +kernel
theorem dX7_readStatement_104 : decode cX7_readStatement 104 = .ok (.if_icmp .ne 5, 3) := by decide +kernel
theorem dX7_readStatement_107 : decode cX7_readStatement 107 = .ok (.iconst 1, 1) := by decide +kernel
theorem dX7_readStatement_108 : decode cX7_readStatement 108 = .ok (.ireturn, 1) := by decide +kernel
theorem dX7_readStatement_109 : decode cX7_readStatement 109 = .ok (.aload_n 0, 1) := by decide +kernel
theorem dX7_readStatement_110 : decode cX7_readStatement 110 = .ok (.getfield 50, 3) := by decide +kernel
theorem dX7_readStatement_113 : decode cX7_readStatement 113 = .ok (.iconst 2, 1) := by decide +kernel
theorem dX7_readStatement_114 : decode cX7_readStatement 114 = .ok (.if_icmp .ne 12, 3) := by decide +kernel
theorem dX7_readStatement_117 : decode cX7_readStatement 117 = .ok (.iload_n 2, 1) := by decide +kernel
theorem dX7_readStatement_118 : decode cX7_readStatement 118 = .ok (.ifCond .eq 14, 3) := by decide +kernel
theorem dX7_readStatement_121 : decode cX7_readStatement 121 = .ok (.iload_n 1, 1) := by decide +kernel
theorem dX7_readStatement_122 : decode cX7_readStatement 122 = .ok (.iconst 3, 1) := by decide +kernel
theorem dX7_readStatement_123 : decode cX7_readStatement 123 = .ok (.if_icmp .eq 9, 3) := by decide +kernel
theorem dX7_readStatement_126 : decode cX7_readStatement 126 = .ok (.aload_n 0, 1) := by decide +kernel
theorem dX7_readStatement_127 : decode cX7_readStatement 127 = .ok (.iconst 1, 1) := by decide +kernel
theorem dX7_readStatement_128 : decode cX7_readStatement 128 = .ok (.invokevirtual 79, 3) := by decide +kernel
theorem dX7_readStatement_131 : decode cX7_readStatement 131 = .ok (.ireturn, 1) := by decide +kernel
theorem dX7_readStatement_132 : decode cX7_readStatement 132 = .ok (.aload_n 0, 1) := by decide +kernel
theorem dX7_readStatement_133 : decode cX7_readStatement 133 = .ok (.getfield 94, 3) := by decide +kernel
theorem dX7_readStatement_136 : decode cX7_readStatement 136 = .ok (.aload_n 0, 1) := by decide +kernel
theorem dX7_readStatement_137 : decode cX7_readStatement 137 = .ok (.iload_n 1, 1) := by decide +kernel
theorem dX7_readStatement_138 : decode cX7_readStatement 138 = .ok (.invokevirtual 97, 3) := by decide +kernel
theorem dX7_readStatement_141 : decode cX7_readStatement 141 = .ok (.if_icmp .lt 15, 3) := by decide +kernel
theorem dX7_readStatement_144 : decode cX7_readStatement 144 = .ok (.aload_n 0, 1) := by decide +kernel
theorem dX7_readStatement_145 : decode cX7_readStatement 145 = .ok (.getfield 94, 3) := by decide +kernel
theorem dX7_readStatement_148 : decode cX7_readStatement 148 = .ok (.aload_n 0, 1) := by decide +kernel
theorem dX7_readStatement_149 : decode cX7_readStatement 149 = .ok (.iload_n 1, 1) := by decide +kernel
theorem dX7_readStatement_150 : decode cX7_readStatement 150 = .ok (.invokevirtual 101, 3) := by decide +kernel
theorem dX7_readStatement_153 : decode cX7_readStatement 153 = .ok (.if_icmp .le 9, 3) := by decide +kernel
theorem dX7_readStatement_156 : decode cX7_readStatement 156 = .ok (.aload_n 0, 1) := by decide +kernel
theorem dX7_readStatement_157 : decode cX7_readStatement 157 = .ok (.iconst 2, 1) := by decide +kernel
theorem dX7_readStatement_158 : decode cX7_readStatement 158 = .ok (.invokevirtual 79, 3) := by decide +kernel
theorem dX7_readStatement_161 : decode cX7_readStatement 161 = .ok (.ireturn, 1) := by decide +kernel
theorem dX7_readStatement_162 : decode cX7_readStatement 162 = .ok (.iload_n 2, 1) := by decide +kernel
theorem dX7_readStatement_163 : decode cX7_readStatement 163 = .ok (.ifCond .eq 9, 3) := by decide +kernel
theorem dX7_readStatement_166 : decode cX7_readStatement 166 = .ok (.aload_n 0, 1) := by decide +kernel
theorem dX7_readStatement_167 : decode cX7_readStatement 167 = .ok (.iconst 3, 1) := by decide +kernel
theorem dX7_readStatement_168 : decode cX7_readStatement 168 = .ok (.invokevirtual 79, 3) := by decide +kernel
theorem dX7_readStatement_171 : decode cX7_readStatement 171 = .ok (.ireturn, 1) := by decide +kernel
theorem dX7_readStatement_172 : decode cX7_readStatement 172 = .ok (.aload_n 0, 1) := by decide +kernel
theorem dX7_readStatement_173 : decode cX7_readStatement 173 = .ok (.getfield 25, 3) := by decide +kernel
theorem dX7_readStatement_176 : decode cX7_readStatement 176 = .ok (.aload_n 0, 1) := by decide +kernel
theorem dX7_readStatement_177 : decode cX7_readStatement 177 = .ok (.getfield 88, 3) := by decide +kernel
theorem dX7_readStatement_180 : decode cX7_readStatement 180 = .ok (.aload_n 0, 1) := by decide +kernel
theorem dX7_readStatement_181 : decode cX7_readStatement 181 = .ok (.getfield 94, 3) := by decide +kernel
theorem dX7_readStatement_184 : decode cX7_readStatement 184 = .ok (.iastore, 1) := by decide +kernel
theorem dX7_readStatement_185 : decode cX7_readStatement 185 = .ok (.aload_n 0, 1) := by decide +kernel
theorem dX7_readStatement_186 : decode cX7_readStatement 186 = .ok (.dup, 1) := by decide +kernel
theorem dX7_readStatement_187 : decode cX7_readStatement 187 = .ok (.getfield 88, 3) := by decide +kernel
theorem dX7_readStatement_190 : decode cX7_readStatement 190 = .ok (.iconst 1, 1) := by decide +kernel
theorem dX7_readStatement_191 : decode cX7_readStatement 191 = .ok (.iadd, 1) := by decide +kernel
theorem dX7_readStatement_192 : decode cX7_readStatement 192 = .ok (.putfield 88, 3) := by decide +kernel
theorem dX7_readStatement_195 : decode cX7_readStatement 195 = .ok (.goto (-139), 3) := by decide +kernel
theorem dX7_readStatement_198 : decode cX7_readStatement 198 = .ok (.iconst 0, 1) := by decide +kernel
theorem dX7_readStatement_199 : decode cX7_readStatement 199 = .ok (.ireturn, 1) := by decide +kernel
def pX7_readStatement_L56 (x1 : Int32) (s : Mm) : Option ((Mm) ⊕ ((Mm) ⊕ (Int32 × Mm))) :=
(sld stL4 x1).bind fun v11 =>
if v11 < (s 31 4) then
(some (Sum.inr (Sum.inl s)))
else
((pX7_step s).bind fun v13 =>
(sld stL4 x1).bind fun v15 =>
bnd (α := Int32) (if (v13 31 4) = v15 then
(1)
else
(0)) fun j17 =>
Option.bind (α := (Unit) ⊕ ((Mm) ⊕ ((Mm) ⊕ (Int32 × Mm)))) (if (v13 31 6) = 3 then
(if j17 = 0 then
(if x1 = 3 then
(some (Sum.inr (Sum.inr (Sum.inr (1, v13)))))
else
(some (Sum.inl ())))
else
(some (Sum.inr (Sum.inr (Sum.inr (1, v13))))))
else
(some (Sum.inl ()))) fun j20 =>
Sum.elim (fun yj20 =>
if (v13 31 6) = 2 then
(Option.bind (α := (Mm) ⊕ ((Mm) ⊕ ((Mm) ⊕ (Int32 × Mm)))) (if j17 = 0 then
(some (Sum.inl v13))
else
(if x1 = 3 then
(some (Sum.inl v13))
else
(bnd (pX7_refuse 1 v13) fun v43 =>
some (Sum.inr (Sum.inr (Sum.inr (v43.1 &&& 1, v43.2))))))) fun j23 =>
Sum.elim (fun yj23 =>
(pX7_least x1 yj23).bind fun v26 =>
if (yj23 31 9) < v26 then
(bnd (pX7_refuse 2 yj23) fun v28 =>
some (Sum.inr (Sum.inr (v28.1 &&& 1, v28.2))))
else
((pX7_most x1 yj23).bind fun v31 =>
if (yj23 31 9) ≤ v31 then
(if j17 = 0 then
((ast yj23 38 8 (yj23 31 4) (yj23 31 9)).bind fun M33 =>
bnd (mset M33 31 4 ((M33 31 4) + 1)) fun M35 =>
some (Sum.inl M35))
else
(bnd (pX7_refuse 3 yj23) fun v37 =>
some (Sum.inr (Sum.inr (v37.1 &&& 1, v37.2)))))
else
(bnd (pX7_refuse 2 yj23) fun v40 =>
some (Sum.inr (Sum.inr (v40.1 &&& 1, v40.2)))))) (fun r => some r) j23)
else
(bnd (pX7_refuse 1 v13) fun v47 =>
some (Sum.inr (Sum.inr (v47.1 &&& 1, v47.2))))) (fun r => some r) j20)
def pX7_readStatement (x1 : Int32) (M : Mm) : Option (Int32 × Mm) :=
if x1 = (-1) then
(bnd (pX7_refuse 1 M) fun v1 =>
some (v1.1 &&& 1, v1.2))
else
(Option.bind (α := (Mm) ⊕ (Int32 × Mm)) (if x1 = 1 then
(if 8 ≤ (M 32 0) then
(bnd (pX7_refuse 3 M) fun v107 =>
some (Sum.inr (v107.1 &&& 1, v107.2)))
else
(some (Sum.inl M)))
else
(some (Sum.inl M))) fun j3 =>
Sum.elim (fun yj3 =>
Option.bind (α := (Mm) ⊕ (Int32 × Mm)) (if x1 = 4 then
(if (yj3 35 1) < 8 then
(some (Sum.inl yj3))
else
(bnd (pX7_refuse 3 yj3) fun v104 =>
some (Sum.inr (v104.1 &&& 1, v104.2))))
else
(some (Sum.inl yj3))) fun j6 =>
Sum.elim (fun yj6 =>
bnd (mset yj6 31 4 0) fun M9 =>
(itr (pX7_readStatement_L56 x1) fuel M9).bind fun x54 =>
Sum.elim (fun yx54 =>
some (0, yx54)) (fun r => some r) x54) (fun r => some r) j6) (fun r => some r) j3)
abbrev zX7_readStatement : Zx := (cX7_readStatement, RX7, 3, 4, (some .boolean))
set_option maxRecDepth 100000 in
set_option maxHeartbeats 4000000 in
theorem tX7_readStatement {l : Launch} {Y : Sx} {M : Mm} {x1 : Int32} {q : Int32 × Mm} (hY : isA Y) (h : pX7_readStatement x1 M = some q) : Ct l Y yX7_readStatement cX7_readStatement 3 (some .boolean) 4 [.ref (adr Y 31), .int x1] M (some q.1) q.2 := by
  refine Ct.of (by decide) rfl (lv := [(0, .ref (adr Y 31)), (1, .int x1)]) rfl ?_
  intro K hkl C
  change Cx K zX7_readStatement Y at C
  subst hkl
  unfold pX7_readStatement at h
  show Wp K zX7_readStatement Y (Qm K Y (some q.1) q.2) M 0 [(0, .ref (adr Y 31)), (1, .int x1)] []
  refine w_iload_n C (pc := 0) dX7_readStatement_0 1 rfl ?_
  refine w_iconst C (pc := 1) dX7_readStatement_1 (v := (-1)) (by decide) ?_
  refine w_icne C (pc := 2) 11 dX7_readStatement_2 (by decide) (fun c => ?_) (fun c => ?_)
  · have h := it_t h c
    refine w_aload_n C (pc := 5) dX7_readStatement_5 0 rfl ?_
    refine w_iconst C (pc := 6) dX7_readStatement_6 (v := 1) (by decide) ?_
    obtain ⟨v1, e2, h⟩ := bn h
    refine w_cVi C (pc := 7) dX7_readStatement_7 my_X7_refuse mi_X7_refuse ml_X7_79 (sA_31 hY) rfl rfl rfl [.int 1] rfl rfl (Nat.le_of_ble_eq_true rfl) (tX7_refuse hY  e2) ?_
    exact w_retZ C (pc := 10) dX7_readStatement_10 rfl (Option.some.inj h)
  · have h := it_f h c
    refine w_iload_n C (pc := 11) dX7_readStatement_11 1 rfl ?_
    refine w_iconst C (pc := 12) dX7_readStatement_12 (v := 1) (by decide) ?_
    obtain ⟨j3, e4, h5⟩ := ob h
    have Jj3 : ∀ yj3, j3 = Sum.inl yj3 → Wp K zX7_readStatement Y (Qm K Y (some q.1) q.2) yj3 28 [(0, .ref (adr Y 31)), (1, .int x1)] [] := by
      intro yj3 hj
      subst hj
      dsimp only [Sum.elim] at h5
      refine w_iload_n C (pc := 28) dX7_readStatement_28 1 rfl ?_
      refine w_iconst C (pc := 29) dX7_readStatement_29 (v := 4) (by decide) ?_
      obtain ⟨j6, e7, h8⟩ := ob h5
      have Jj6 : ∀ yj6, j6 = Sum.inl yj6 → Wp K zX7_readStatement Y (Qm K Y (some q.1) q.2) yj6 51 [(0, .ref (adr Y 31)), (1, .int x1)] [] := by
        intro yj6 hj
        subst hj
        dsimp only [Sum.elim] at h8
        refine w_aload_n C (pc := 51) dX7_readStatement_51 0 rfl ?_
        refine w_iconst C (pc := 52) dX7_readStatement_52 (v := 0) (by decide) ?_
        obtain ⟨M9, e10, h8⟩ := bn h8
        refine w_putI C (pc := 53) dX7_readStatement_53 fp_X7_88 (sA_31 hY) rfl ?_
        rw [e10]
        obtain ⟨x54, e55, h8⟩ := ob h8
        refine itr_W (P := fun s56 => Wp K zX7_readStatement Y (Qm K Y (some q.1) q.2) s56 56 [(0, .ref (adr Y 31)), (1, .int x1)] []) (R := fun x9 => (∀ yx54, x9 = Sum.inl yx54 → Wp K zX7_readStatement Y (Qm K Y (some q.1) q.2) yx54 198 [(0, .ref (adr Y 31)), (1, .int x1)] []) ∧ (∀ v9, x9 = Sum.inr v9 → some v9 = some q)) ?_ fuel M9 x54 e55 ?_
        · intro s56 r57 h60 ki58 kx59
          unfold pX7_readStatement_L56 at h60
          show Wp K zX7_readStatement Y (Qm K Y (some q.1) q.2) s56 56 [(0, .ref (adr Y 31)), (1, .int x1)] []
          refine w_aload_n C (pc := 56) dX7_readStatement_56 0 rfl ?_
          refine w_getI C (pc := 57) dX7_readStatement_57 f_X7_88 (sA_31 hY) rfl ?_
          refine w_gets C (pc := 60) dX7_readStatement_60 g_X7_91 ?_
          refine w_iload_n C (pc := 63) dX7_readStatement_63 1 rfl ?_
          obtain ⟨v61, e62, h60⟩ := ob h60
          refine w_sald C (pc := 64) dX7_readStatement_64 (l := stL4) rfl rfl e62 ?_
          refine w_icgt C (pc := 65) 198 dX7_readStatement_65 (by decide) (fun c => ?_) (fun c => ?_)
          · have h60 := it_t h60 c
            obtain rfl := Option.some.inj h60
            have k9 := (kx59 (Sum.inl s56) rfl).1 s56 rfl
            try dsimp only at k9
            exact k9
          · have h60 := it_f h60 c
            refine w_aload_n C (pc := 68) dX7_readStatement_68 0 rfl ?_
            obtain ⟨v63, e64, h60⟩ := ob h60
            refine w_cVv C (pc := 69) dX7_readStatement_69 my_X7_step mi_X7_step ml_X7_47 (sA_31 hY) rfl rfl rfl [] rfl rfl (Nat.le_of_ble_eq_true rfl) (tX7_step hY  e64) ?_
            refine w_aload_n C (pc := 72) dX7_readStatement_72 0 rfl ?_
            refine w_getI C (pc := 73) dX7_readStatement_73 f_X7_88 (sA_31 hY) rfl ?_
            refine w_gets C (pc := 76) dX7_readStatement_76 g_X7_91 ?_
            refine w_iload_n C (pc := 79) dX7_readStatement_79 1 rfl ?_
            obtain ⟨v65, e66, h60⟩ := ob h60
            refine w_sald C (pc := 80) dX7_readStatement_80 (l := stL4) rfl rfl e66 ?_
            obtain ⟨j67, e68, h69⟩ := bn h60
            have Jj67 : Wp K zX7_readStatement Y (Qm K Y (some q.1) q.2) v63 89 [(0, .ref (adr Y 31)), (1, .int x1)] [.int j67] := by
              refine w_istore_n C (pc := 89) dX7_readStatement_89 (lv' := [(0, .ref (adr Y 31)), (1, .int x1), (2, .int j67)]) rfl rfl rfl ?_
              refine w_aload_n C (pc := 90) dX7_readStatement_90 0 rfl ?_
              refine w_getI C (pc := 91) dX7_readStatement_91 f_X7_50 (sA_31 hY) rfl ?_
              refine w_iconst C (pc := 94) dX7_readStatement_94 (v := 3) (by decide) ?_
              obtain ⟨j70, e71, h72⟩ := ob h69
              have Jj70 : ∀ yj70, j70 = Sum.inl yj70 → Wp K zX7_readStatement Y (Qm K Y (some q.1) q.2) v63 109 [(0, .ref (adr Y 31)), (1, .int x1), (2, .int j67)] [] := by
                intro yj70 hj
                subst hj
                dsimp only [Sum.elim] at h72
                refine w_aload_n C (pc := 109) dX7_readStatement_109 0 rfl ?_
                refine w_getI C (pc := 110) dX7_readStatement_110 f_X7_50 (sA_31 hY) rfl ?_
                refine w_iconst C (pc := 113) dX7_readStatement_113 (v := 2) (by decide) ?_
                refine w_icne C (pc := 114) 126 dX7_readStatement_114 (by decide) (fun c => ?_) (fun c => ?_)
                · have h72 := it_t h72 c
                  refine w_iload_n C (pc := 117) dX7_readStatement_117 2 rfl ?_
                  obtain ⟨j73, e74, h75⟩ := ob h72
                  have Jj73 : ∀ yj73, j73 = Sum.inl yj73 → Wp K zX7_readStatement Y (Qm K Y (some q.1) q.2) yj73 132 [(0, .ref (adr Y 31)), (1, .int x1), (2, .int j67)] [] := by
                    intro yj73 hj
                    subst hj
                    dsimp only [Sum.elim] at h75
                    refine w_aload_n C (pc := 132) dX7_readStatement_132 0 rfl ?_
                    refine w_getI C (pc := 133) dX7_readStatement_133 f_X7_94 (sA_31 hY) rfl ?_
                    refine w_aload_n C (pc := 136) dX7_readStatement_136 0 rfl ?_
                    refine w_iload_n C (pc := 137) dX7_readStatement_137 1 rfl ?_
                    obtain ⟨v76, e77, h75⟩ := ob h75
                    refine w_cVi C (pc := 138) dX7_readStatement_138 my_X7_least mi_X7_least ml_X7_97 (sA_31 hY) rfl rfl rfl [.int x1] rfl rfl (Nat.le_of_ble_eq_true rfl) (tX7_least hY  e77) ?_
                    refine w_iclt C (pc := 141) 156 dX7_readStatement_141 (by decide) (fun c => ?_) (fun c => ?_)
                    · have h75 := it_t h75 c
                      refine w_aload_n C (pc := 156) dX7_readStatement_156 0 rfl ?_
                      refine w_iconst C (pc := 157) dX7_readStatement_157 (v := 2) (by decide) ?_
                      obtain ⟨v78, e79, h75⟩ := bn h75
                      refine w_cVi C (pc := 158) dX7_readStatement_158 my_X7_refuse mi_X7_refuse ml_X7_79 (sA_31 hY) rfl rfl rfl [.int 2] rfl rfl (Nat.le_of_ble_eq_true rfl) (tX7_refuse hY  e79) ?_
                      obtain rfl := Option.some.inj h75
                      have h80 := (kx59 (Sum.inr (v78.1 &&& 1, v78.2)) rfl).2 (v78.1 &&& 1, v78.2) rfl
                      exact w_retZ C (pc := 161) dX7_readStatement_161 rfl (Option.some.inj h80)
                    · have h75 := it_f h75 c
                      refine w_aload_n C (pc := 144) dX7_readStatement_144 0 rfl ?_
                      refine w_getI C (pc := 145) dX7_readStatement_145 f_X7_94 (sA_31 hY) rfl ?_
                      refine w_aload_n C (pc := 148) dX7_readStatement_148 0 rfl ?_
                      refine w_iload_n C (pc := 149) dX7_readStatement_149 1 rfl ?_
                      obtain ⟨v81, e82, h75⟩ := ob h75
                      refine w_cVi C (pc := 150) dX7_readStatement_150 my_X7_most mi_X7_most ml_X7_101 (sA_31 hY) rfl rfl rfl [.int x1] rfl rfl (Nat.le_of_ble_eq_true rfl) (tX7_most hY  e82) ?_
                      refine w_icle C (pc := 153) 162 dX7_readStatement_153 (by decide) (fun c => ?_) (fun c => ?_)
                      · have h75 := it_t h75 c
                        refine w_iload_n C (pc := 162) dX7_readStatement_162 2 rfl ?_
                        refine w_ifeq C (pc := 163) 172 dX7_readStatement_163 (by decide) (fun c => ?_) (fun c => ?_)
                        · have h75 := it_t h75 c
                          refine w_aload_n C (pc := 172) dX7_readStatement_172 0 rfl ?_
                          refine w_getR C (pc := 173) dX7_readStatement_173 f_X7_25 (sA_31 hY) rfl ?_
                          refine w_aload_n C (pc := 176) dX7_readStatement_176 0 rfl ?_
                          refine w_getI C (pc := 177) dX7_readStatement_177 f_X7_88 (sA_31 hY) rfl ?_
                          refine w_aload_n C (pc := 180) dX7_readStatement_180 0 rfl ?_
                          refine w_getI C (pc := 181) dX7_readStatement_181 f_X7_94 (sA_31 hY) rfl ?_
                          obtain ⟨M83, e84, h75⟩ := ob h75
                          refine w_iast C (pc := 184) dX7_readStatement_184 (sA_38 hY) e84 ?_
                          refine w_aload_n C (pc := 185) dX7_readStatement_185 0 rfl ?_
                          refine w_dup C (pc := 186) dX7_readStatement_186 rfl ?_
                          refine w_getI C (pc := 187) dX7_readStatement_187 f_X7_88 (sA_31 hY) rfl ?_
                          refine w_iconst C (pc := 190) dX7_readStatement_190 (v := 1) (by decide) ?_
                          refine w_iadd C (pc := 191) dX7_readStatement_191 ?_
                          obtain ⟨M85, e86, h75⟩ := bn h75
                          refine w_putI C (pc := 192) dX7_readStatement_192 fp_X7_88 (sA_31 hY) rfl ?_
                          rw [e86]
                          refine w_goto C (pc := 195) 56 dX7_readStatement_195 (by decide) ?_
                          obtain rfl := Option.some.inj h75
                          refine w_lv [0, 1] rfl ?_
                          have k9 := ki58 M85 rfl
                          try dsimp only at k9
                          exact k9
                        · have h75 := it_f h75 c
                          refine w_aload_n C (pc := 166) dX7_readStatement_166 0 rfl ?_
                          refine w_iconst C (pc := 167) dX7_readStatement_167 (v := 3) (by decide) ?_
                          obtain ⟨v87, e88, h75⟩ := bn h75
                          refine w_cVi C (pc := 168) dX7_readStatement_168 my_X7_refuse mi_X7_refuse ml_X7_79 (sA_31 hY) rfl rfl rfl [.int 3] rfl rfl (Nat.le_of_ble_eq_true rfl) (tX7_refuse hY  e88) ?_
                          obtain rfl := Option.some.inj h75
                          have h89 := (kx59 (Sum.inr (v87.1 &&& 1, v87.2)) rfl).2 (v87.1 &&& 1, v87.2) rfl
                          exact w_retZ C (pc := 171) dX7_readStatement_171 rfl (Option.some.inj h89)
                      · have h75 := it_f h75 c
                        refine w_aload_n C (pc := 156) dX7_readStatement_156 0 rfl ?_
                        refine w_iconst C (pc := 157) dX7_readStatement_157 (v := 2) (by decide) ?_
                        obtain ⟨v90, e91, h75⟩ := bn h75
                        refine w_cVi C (pc := 158) dX7_readStatement_158 my_X7_refuse mi_X7_refuse ml_X7_79 (sA_31 hY) rfl rfl rfl [.int 2] rfl rfl (Nat.le_of_ble_eq_true rfl) (tX7_refuse hY  e91) ?_
                        obtain rfl := Option.some.inj h75
                        have h92 := (kx59 (Sum.inr (v90.1 &&& 1, v90.2)) rfl).2 (v90.1 &&& 1, v90.2) rfl
                        exact w_retZ C (pc := 161) dX7_readStatement_161 rfl (Option.some.inj h92)
                  refine w_ifeq C (pc := 118) 132 dX7_readStatement_118 (by decide) (fun c => ?_) (fun c => ?_)
                  · have e74 := it_t e74 c
                    obtain rfl := Option.some.inj e74
                    have k9 := Jj73 v63 rfl
                    try dsimp only at k9
                    exact k9
                  · have e74 := it_f e74 c
                    refine w_iload_n C (pc := 121) dX7_readStatement_121 1 rfl ?_
                    refine w_iconst C (pc := 122) dX7_readStatement_122 (v := 3) (by decide) ?_
                    refine w_iceq C (pc := 123) 132 dX7_readStatement_123 (by decide) (fun c => ?_) (fun c => ?_)
                    · have e74 := it_t e74 c
                      obtain rfl := Option.some.inj e74
                      have k9 := Jj73 v63 rfl
                      try dsimp only at k9
                      exact k9
                    · have e74 := it_f e74 c
                      refine w_aload_n C (pc := 126) dX7_readStatement_126 0 rfl ?_
                      refine w_iconst C (pc := 127) dX7_readStatement_127 (v := 1) (by decide) ?_
                      obtain ⟨v93, e94, e74⟩ := bn e74
                      refine w_cVi C (pc := 128) dX7_readStatement_128 my_X7_refuse mi_X7_refuse ml_X7_79 (sA_31 hY) rfl rfl rfl [.int 1] rfl rfl (Nat.le_of_ble_eq_true rfl) (tX7_refuse hY  e94) ?_
                      obtain rfl := Option.some.inj e74
                      have h95 : some (Sum.inr (Sum.inr (v93.1 &&& 1, v93.2))) = some r57 := h75
                      obtain rfl := Option.some.inj h95
                      have h96 := (kx59 (Sum.inr (v93.1 &&& 1, v93.2)) rfl).2 (v93.1 &&& 1, v93.2) rfl
                      exact w_retZ C (pc := 131) dX7_readStatement_131 rfl (Option.some.inj h96)
                · have h72 := it_f h72 c
                  refine w_aload_n C (pc := 126) dX7_readStatement_126 0 rfl ?_
                  refine w_iconst C (pc := 127) dX7_readStatement_127 (v := 1) (by decide) ?_
                  obtain ⟨v97, e98, h72⟩ := bn h72
                  refine w_cVi C (pc := 128) dX7_readStatement_128 my_X7_refuse mi_X7_refuse ml_X7_79 (sA_31 hY) rfl rfl rfl [.int 1] rfl rfl (Nat.le_of_ble_eq_true rfl) (tX7_refuse hY  e98) ?_
                  obtain rfl := Option.some.inj h72
                  have h99 := (kx59 (Sum.inr (v97.1 &&& 1, v97.2)) rfl).2 (v97.1 &&& 1, v97.2) rfl
                  exact w_retZ C (pc := 131) dX7_readStatement_131 rfl (Option.some.inj h99)
              refine w_icne C (pc := 95) 109 dX7_readStatement_95 (by decide) (fun c => ?_) (fun c => ?_)
              · have e71 := it_t e71 c
                refine w_iload_n C (pc := 98) dX7_readStatement_98 2 rfl ?_
                refine w_ifne C (pc := 99) 107 dX7_readStatement_99 (by decide) (fun c => ?_) (fun c => ?_)
                · have e71 := it_t e71 c
                  refine w_iload_n C (pc := 102) dX7_readStatement_102 1 rfl ?_
                  refine w_iconst C (pc := 103) dX7_readStatement_103 (v := 3) (by decide) ?_
                  refine w_icne C (pc := 104) 109 dX7_readStatement_104 (by decide) (fun c => ?_) (fun c => ?_)
                  · have e71 := it_t e71 c
                    refine w_iconst C (pc := 107) dX7_readStatement_107 (v := 1) (by decide) ?_
                    obtain rfl := Option.some.inj e71
                    have h100 : some (Sum.inr (Sum.inr (1, v63))) = some r57 := h72
                    obtain rfl := Option.some.inj h100
                    have h101 := (kx59 (Sum.inr (1, v63)) rfl).2 (1, v63) rfl
                    exact w_retz C (pc := 108) dX7_readStatement_108 rfl (by decide) (Option.some.inj h101)
                  · have e71 := it_f e71 c
                    obtain rfl := Option.some.inj e71
                    have k9 := Jj70 () rfl
                    try dsimp only at k9
                    exact k9
                · have e71 := it_f e71 c
                  refine w_iconst C (pc := 107) dX7_readStatement_107 (v := 1) (by decide) ?_
                  obtain rfl := Option.some.inj e71
                  have h102 : some (Sum.inr (Sum.inr (1, v63))) = some r57 := h72
                  obtain rfl := Option.some.inj h102
                  have h103 := (kx59 (Sum.inr (1, v63)) rfl).2 (1, v63) rfl
                  exact w_retz C (pc := 108) dX7_readStatement_108 rfl (by decide) (Option.some.inj h103)
              · have e71 := it_f e71 c
                obtain rfl := Option.some.inj e71
                have k9 := Jj70 () rfl
                try dsimp only at k9
                exact k9
            refine w_icne C (pc := 81) 88 dX7_readStatement_81 (by decide) (fun c => ?_) (fun c => ?_)
            · have e68 := it_t e68 c
              refine w_iconst C (pc := 84) dX7_readStatement_84 (v := 1) (by decide) ?_
              refine w_goto C (pc := 85) 89 dX7_readStatement_85 (by decide) ?_
              obtain rfl := e68
              exact Jj67
            · have e68 := it_f e68 c
              refine w_iconst C (pc := 88) dX7_readStatement_88 (v := 0) (by decide) ?_
              obtain rfl := e68
              exact Jj67
        · refine ⟨fun yx54 hy => ?_, fun v9 hv => ?_⟩
          · subst hy
            dsimp only [Sum.elim] at h8
            refine w_iconst C (pc := 198) dX7_readStatement_198 (v := 0) (by decide) ?_
            exact w_retz C (pc := 199) dX7_readStatement_199 rfl (by decide) (Option.some.inj h8)
          · subst hv
            exact h8
      refine w_icne C (pc := 30) 51 dX7_readStatement_30 (by decide) (fun c => ?_) (fun c => ?_)
      · have e7 := it_t e7 c
        refine w_aload_n C (pc := 33) dX7_readStatement_33 0 rfl ?_
        refine w_getR C (pc := 34) dX7_readStatement_34 f_X7_21 (sA_31 hY) rfl ?_
        refine w_getI C (pc := 37) dX7_readStatement_37 f_X7_85 (sA_35 hY) rfl ?_
        refine w_bipush C (pc := 40) dX7_readStatement_40 (v := 8) (by decide) ?_
        refine w_iclt C (pc := 42) 51 dX7_readStatement_42 (by decide) (fun c => ?_) (fun c => ?_)
        · have e7 := it_t e7 c
          obtain rfl := Option.some.inj e7
          have k9 := Jj6 yj3 rfl
          try dsimp only at k9
          exact k9
        · have e7 := it_f e7 c
          refine w_aload_n C (pc := 45) dX7_readStatement_45 0 rfl ?_
          refine w_iconst C (pc := 46) dX7_readStatement_46 (v := 3) (by decide) ?_
          obtain ⟨v104, e105, e7⟩ := bn e7
          refine w_cVi C (pc := 47) dX7_readStatement_47 my_X7_refuse mi_X7_refuse ml_X7_79 (sA_31 hY) rfl rfl rfl [.int 3] rfl rfl (Nat.le_of_ble_eq_true rfl) (tX7_refuse hY  e105) ?_
          obtain rfl := Option.some.inj e7
          have h106 : some (v104.1 &&& 1, v104.2) = some q := h8
          exact w_retZ C (pc := 50) dX7_readStatement_50 rfl (Option.some.inj h106)
      · have e7 := it_f e7 c
        obtain rfl := Option.some.inj e7
        have k9 := Jj6 yj3 rfl
        try dsimp only at k9
        exact k9
    refine w_icne C (pc := 13) 28 dX7_readStatement_13 (by decide) (fun c => ?_) (fun c => ?_)
    · have e4 := it_t e4 c
      refine w_aload_n C (pc := 16) dX7_readStatement_16 0 rfl ?_
      refine w_getR C (pc := 17) dX7_readStatement_17 f_X7_12 (sA_31 hY) rfl ?_
      refine w_getI C (pc := 20) dX7_readStatement_20 f_X7_82 (sA_32 hY) rfl ?_
      refine w_bipush C (pc := 23) dX7_readStatement_23 (v := 8) (by decide) ?_
      refine w_icge C (pc := 25) 45 dX7_readStatement_25 (by decide) (fun c => ?_) (fun c => ?_)
      · have e4 := it_t e4 c
        refine w_aload_n C (pc := 45) dX7_readStatement_45 0 rfl ?_
        refine w_iconst C (pc := 46) dX7_readStatement_46 (v := 3) (by decide) ?_
        obtain ⟨v107, e108, e4⟩ := bn e4
        refine w_cVi C (pc := 47) dX7_readStatement_47 my_X7_refuse mi_X7_refuse ml_X7_79 (sA_31 hY) rfl rfl rfl [.int 3] rfl rfl (Nat.le_of_ble_eq_true rfl) (tX7_refuse hY  e108) ?_
        obtain rfl := Option.some.inj e4
        have h109 : some (v107.1 &&& 1, v107.2) = some q := h5
        exact w_retZ C (pc := 50) dX7_readStatement_50 rfl (Option.some.inj h109)
      · have e4 := it_f e4 c
        obtain rfl := Option.some.inj e4
        have k9 := Jj3 M rfl
        try dsimp only at k9
        exact k9
    · have e4 := it_f e4 c
      obtain rfl := Option.some.inj e4
      have k9 := Jj3 M rfl
      try dsimp only at k9
      exact k9
theorem dX7_read_0 : decode cX7_read 0 = .ok (.aload_n 0, 1) := by decide +kernel
theorem dX7_read_1 : decode cX7_read 1 = .ok (.getfield 12, 3) := by decide +kernel
theorem dX7_read_4 : decode cX7_read 4 = .ok (.aload_n 1, 1) := by decide +kernel
theorem dX7_read_5 : decode cX7_read 5 = .ok (.invokevirtual 33, 3) := by decide +kernel
theorem dX7_read_8 : decode cX7_read 8 = .ok (.aload_n 0, 1) := by decide +kernel
theorem dX7_read_9 : decode cX7_read 9 = .ok (.getfield 21, 3) := by decide +kernel
theorem dX7_read_12 : decode cX7_read 12 = .ok (.aload_n 2, 1) := by decide +kernel
theorem dX7_read_13 : decode cX7_read 13 = .ok (.invokevirtual 37, 3) := by decide +kernel
theorem dX7_read_16 : decode cX7_read 16 = .ok (.aload_n 0, 1) := by decide +kernel
theorem dX7_read_17 : decode cX7_read 17 = .ok (.iconst 0, 1) := by decide +kernel
theorem dX7_read_18 : decode cX7_read 18 = .ok (.putfield 40, 3) := by decide +kernel
theorem dX7_read_21 : decode cX7_read 21 = .ok (.aload_n 0, 1) := by decide +kernel
theorem dX7_read_22 : decode cX7_read 22 = .ok (.iconst 0, 1) := by decide +kernel
theorem dX7_read_23 : decode cX7_read 23 = .ok (.putfield 44, 3) := by decide +kernel
theorem dX7_read_26 : decode cX7_read 26 = .ok (.iconst 0, 1) := by decide +kernel
theorem dX7_read_27 : decode cX7_read 27 = .ok (.istore_n 3, 1) := by decide +kernel
theorem dX7_read_28 : decode cX7_read 28 = .ok (.iload_n 3, 1) := by decide +kernel
theorem dX7_read_29 : decode cX7_read 29 = .ok (.sipush 300, 3) := by decide +kernel
theorem dX7_read_32 : decode cX7_read 32 = .ok (.if_icmp .gt 45, 3) := by decide +kernel
theorem dX7_read_35 : decode cX7_read 35 = .ok (.aload_n 0, 1) := by decide +kernel
theorem dX7_read_36 : decode cX7_read 36 = .ok (.invokevirtual 47, 3) := by decide +kernel
theorem dX7_read_39 : decode cX7_read 39 = .ok (.aload_n 0, 1) := by decide +kernel
theorem dX7_read_40 : decode cX7_read 40 = .ok (.getfield 50, 3) := by decide +kernel
theorem dX7_read_43 : decode cX7_read 43 = .ok (.ifCond .ne 5, 3) := by decide +kernel
theorem dX7_read_46 : decode cX7_read 46 = .ok (.iload_n 3, 1) := by decide +kernel
theorem dX7_read_47 : decode cX7_read 47 = .ok (.ireturn, 1) := by decide +kernel
theorem dX7_read_48 : decode cX7_read 48 = .ok (.aload_n 0, 1) := by decide +kernel
theorem dX7_read_49 : decode cX7_read 49 = .ok (.invokevirtual 53, 3) := by decide +kernel
theorem dX7_read_52 : decode cX7_read 52 = .ok (.istore 4, 2) := by decide +kernel
theorem dX7_read_54 : decode cX7_read 54 = .ok (.aload_n 0, 1) := by decide +kernel
theorem dX7_read_55 : decode cX7_read 55 = .ok (.iload 4, 2) := by decide +kernel
theorem dX7_read_57 : decode cX7_read 57 = .ok (.invokevirtual 57, 3) := by decide +kernel
theorem dX7_read_60 : decode cX7_read 60 = .ok (.ifCond .ne 5, 3) := by decide +kernel
theorem dX7_read_63 : decode cX7_read 63 = .ok (.iconst (-1), 1) := by decide +kernel
theorem dX7_read_64 : decode cX7_read 64 = .ok (.ireturn, 1) := by decide +kernel
theorem dX7_read_65 : decode cX7_read 65 = .ok (.aload_n 0, 1) := by decide +kernel
theorem dX7_read_66 : decode cX7_read 66 = .ok (.iload 4, 2) := by decide +kernel
theorem dX7_read_68 : decode cX7_read 68 = .ok (.invokevirtual 61, 3) := by decide +kernel
theorem dX7_read_71 : decode cX7_read 71 = .ok (.iinc 3 1, 3) := by decide +kernel
theorem dX7_read_74 : decode cX7_read 74 = .ok (.goto (-46), 3) := by decide +kernel
theorem dX7_read_77 : decode cX7_read 77 = .ok (.iconst (-1), 1) := by decide +kernel
theorem dX7_read_78 : decode cX7_read 78 = .ok (.ireturn, 1) := by decide +kernel
def pX7_read_L28 (s : Int32 × Mm) : Option ((Int32 × Mm) ⊕ ((Mm) ⊕ (Int32 × Mm))) :=
if 300 < s.1 then
(some (Sum.inr (Sum.inl s.2)))
else
((pX7_step s.2).bind fun v9 =>
if (v9 31 6) = 0 then
(some (Sum.inr (Sum.inr (s.1, v9))))
else
((pX7_whatIsTold v9).bind fun v12 =>
(pX7_readStatement v12 v9).bind fun v14 =>
if v14.1 = 0 then
(some (Sum.inr (Sum.inr ((-1), v14.2))))
else
((pX7_apply v12 v14.2).bind fun v17 =>
some (Sum.inl (s.1 + 1, v17)))))
def pX7_read (M : Mm) : Option (Int32 × Mm) :=
bnd (pX3_copyOf 32 1 M) fun v1 =>
bnd (pX4_copyOf 35 4 v1) fun v3 =>
bnd (mset v3 31 5 0) fun M5 =>
bnd (mset M5 31 8 0) fun M7 =>
(itr (pX7_read_L28) fuel (0, M7)).bind fun x19 =>
Sum.elim (fun yx19 =>
some ((-1), yx19)) (fun r => some r) x19
abbrev zX7_read : Zx := (cX7_read, RX7, 5, 6, (some .int))
set_option maxRecDepth 100000 in
set_option maxHeartbeats 4000000 in
theorem tX7_read {l : Launch} {Y : Sx} {M : Mm} {q : Int32 × Mm} (hY : isA Y) (h : pX7_read M = some q) : Ct l Y yX7_read cX7_read 5 (some .int) 6 [.ref (adr Y 31), .ref (adr Y 1), .ref (adr Y 4)] M (some q.1) q.2 := by
  refine Ct.of (by decide) rfl (lv := [(0, .ref (adr Y 31)), (1, .ref (adr Y 1)), (2, .ref (adr Y 4))]) rfl ?_
  intro K hkl C
  change Cx K zX7_read Y at C
  subst hkl
  unfold pX7_read at h
  show Wp K zX7_read Y (Qm K Y (some q.1) q.2) M 0 [(0, .ref (adr Y 31)), (1, .ref (adr Y 1)), (2, .ref (adr Y 4))] []
  refine w_aload_n C (pc := 0) dX7_read_0 0 rfl ?_
  refine w_getR C (pc := 1) dX7_read_1 f_X7_12 (sA_31 hY) rfl ?_
  refine w_aload_n C (pc := 4) dX7_read_4 1 rfl ?_
  obtain ⟨v1, e2, h⟩ := bn h
  refine w_cVv C (pc := 5) dX7_read_5 my_X3_copyOf mi_X3_copyOf ml_X7_33 (sA_32 hY) rfl rfl rfl [.ref (adr Y 1)] rfl rfl (Nat.le_of_ble_eq_true rfl) (tX3_copyOf (kLand_32 hY) (kLand_1 hY) e2) ?_
  refine w_aload_n C (pc := 8) dX7_read_8 0 rfl ?_
  refine w_getR C (pc := 9) dX7_read_9 f_X7_21 (sA_31 hY) rfl ?_
  refine w_aload_n C (pc := 12) dX7_read_12 2 rfl ?_
  obtain ⟨v3, e4, h⟩ := bn h
  refine w_cVv C (pc := 13) dX7_read_13 my_X4_copyOf mi_X4_copyOf ml_X7_37 (sA_35 hY) rfl rfl rfl [.ref (adr Y 4)] rfl rfl (Nat.le_of_ble_eq_true rfl) (tX4_copyOf (kPlan_35 hY) (kPlan_4 hY) e4) ?_
  refine w_aload_n C (pc := 16) dX7_read_16 0 rfl ?_
  refine w_iconst C (pc := 17) dX7_read_17 (v := 0) (by decide) ?_
  obtain ⟨M5, e6, h⟩ := bn h
  refine w_putI C (pc := 18) dX7_read_18 fp_X7_40 (sA_31 hY) rfl ?_
  rw [e6]
  refine w_aload_n C (pc := 21) dX7_read_21 0 rfl ?_
  refine w_iconst C (pc := 22) dX7_read_22 (v := 0) (by decide) ?_
  obtain ⟨M7, e8, h⟩ := bn h
  refine w_putI C (pc := 23) dX7_read_23 fp_X7_44 (sA_31 hY) rfl ?_
  rw [e8]
  refine w_iconst C (pc := 26) dX7_read_26 (v := 0) (by decide) ?_
  refine w_istore_n C (pc := 27) dX7_read_27 (lv' := [(0, .ref (adr Y 31)), (1, .ref (adr Y 1)), (2, .ref (adr Y 4)), (3, .int 0)]) rfl rfl rfl ?_
  obtain ⟨x19, e20, h⟩ := ob h
  refine itr_W (P := fun s21 => Wp K zX7_read Y (Qm K Y (some q.1) q.2) s21.2 28 [(0, .ref (adr Y 31)), (1, .ref (adr Y 1)), (2, .ref (adr Y 4)), (3, .int s21.1)] []) (R := fun x9 => (∀ yx19, x9 = Sum.inl yx19 → Wp K zX7_read Y (Qm K Y (some q.1) q.2) yx19 77 [(0, .ref (adr Y 31)), (1, .ref (adr Y 1)), (2, .ref (adr Y 4))] []) ∧ (∀ v9, x9 = Sum.inr v9 → some v9 = some q)) ?_ fuel (0, M7) x19 e20 ?_
  · intro s21 r22 h25 ki23 kx24
    unfold pX7_read_L28 at h25
    show Wp K zX7_read Y (Qm K Y (some q.1) q.2) s21.2 28 [(0, .ref (adr Y 31)), (1, .ref (adr Y 1)), (2, .ref (adr Y 4)), (3, .int s21.1)] []
    refine w_iload_n C (pc := 28) dX7_read_28 3 rfl ?_
    refine w_sipush C (pc := 29) dX7_read_29 (v := 300) (by decide) ?_
    refine w_icgt C (pc := 32) 77 dX7_read_32 (by decide) (fun c => ?_) (fun c => ?_)
    · have h25 := it_t h25 c
      obtain rfl := Option.some.inj h25
      refine w_lv [0, 1, 2] rfl ?_
      have k9 := (kx24 (Sum.inl s21.2) rfl).1 s21.2 rfl
      try dsimp only at k9
      exact k9
    · have h25 := it_f h25 c
      refine w_aload_n C (pc := 35) dX7_read_35 0 rfl ?_
      obtain ⟨v26, e27, h25⟩ := ob h25
      refine w_cVv C (pc := 36) dX7_read_36 my_X7_step mi_X7_step ml_X7_47 (sA_31 hY) rfl rfl rfl [] rfl rfl (Nat.le_of_ble_eq_true rfl) (tX7_step hY  e27) ?_
      refine w_aload_n C (pc := 39) dX7_read_39 0 rfl ?_
      refine w_getI C (pc := 40) dX7_read_40 f_X7_50 (sA_31 hY) rfl ?_
      refine w_ifne C (pc := 43) 48 dX7_read_43 (by decide) (fun c => ?_) (fun c => ?_)
      · have h25 := it_t h25 c
        refine w_iload_n C (pc := 46) dX7_read_46 3 rfl ?_
        obtain rfl := Option.some.inj h25
        have h28 := (kx24 (Sum.inr (s21.1, v26)) rfl).2 (s21.1, v26) rfl
        exact w_ret C (pc := 47) dX7_read_47 rfl (Option.some.inj h28)
      · have h25 := it_f h25 c
        refine w_aload_n C (pc := 48) dX7_read_48 0 rfl ?_
        obtain ⟨v29, e30, h25⟩ := ob h25
        refine w_cVi C (pc := 49) dX7_read_49 my_X7_whatIsTold mi_X7_whatIsTold ml_X7_53 (sA_31 hY) rfl rfl rfl [] rfl rfl (Nat.le_of_ble_eq_true rfl) (tX7_whatIsTold hY  e30) ?_
        refine w_istore C (pc := 52) dX7_read_52 (lv' := [(0, .ref (adr Y 31)), (1, .ref (adr Y 1)), (2, .ref (adr Y 4)), (3, .int s21.1), (4, .int v29)]) rfl rfl rfl ?_
        refine w_aload_n C (pc := 54) dX7_read_54 0 rfl ?_
        refine w_iload C (pc := 55) dX7_read_55 4 rfl ?_
        obtain ⟨v31, e32, h25⟩ := ob h25
        refine w_cVi C (pc := 57) dX7_read_57 my_X7_readStatement mi_X7_readStatement ml_X7_57 (sA_31 hY) rfl rfl rfl [.int v29] rfl rfl (Nat.le_of_ble_eq_true rfl) (tX7_readStatement hY  e32) ?_
        refine w_ifne C (pc := 60) 65 dX7_read_60 (by decide) (fun c => ?_) (fun c => ?_)
        · have h25 := it_t h25 c
          refine w_iconst C (pc := 63) dX7_read_63 (v := (-1)) (by decide) ?_
          obtain rfl := Option.some.inj h25
          have h33 := (kx24 (Sum.inr ((-1), v31.2)) rfl).2 ((-1), v31.2) rfl
          exact w_ret C (pc := 64) dX7_read_64 rfl (Option.some.inj h33)
        · have h25 := it_f h25 c
          refine w_aload_n C (pc := 65) dX7_read_65 0 rfl ?_
          refine w_iload C (pc := 66) dX7_read_66 4 rfl ?_
          obtain ⟨v34, e35, h25⟩ := ob h25
          refine w_cVv C (pc := 68) dX7_read_68 my_X7_apply mi_X7_apply ml_X7_61 (sA_31 hY) rfl rfl rfl [.int v29] rfl rfl (Nat.le_of_ble_eq_true rfl) (tX7_apply hY  e35) ?_
          refine w_iinc C (pc := 71) dX7_read_71 3 rfl (v := 1) (lv' := [(0, .ref (adr Y 31)), (1, .ref (adr Y 1)), (2, .ref (adr Y 4)), (3, .int (s21.1 + 1)), (4, .int v29)]) (by decide) rfl rfl rfl ?_
          refine w_goto C (pc := 74) 28 dX7_read_74 (by decide) ?_
          obtain rfl := Option.some.inj h25
          refine w_lv [0, 1, 2, 3] rfl ?_
          have k9 := ki23 (s21.1 + 1, v34) rfl
          try dsimp only at k9
          exact k9
  · refine ⟨fun yx19 hy => ?_, fun v9 hv => ?_⟩
    · subst hy
      dsimp only [Sum.elim] at h
      refine w_iconst C (pc := 77) dX7_read_77 (v := (-1)) (by decide) ?_
      exact w_ret C (pc := 78) dX7_read_78 rfl (Option.some.inj h)
    · subst hv
      exact h
