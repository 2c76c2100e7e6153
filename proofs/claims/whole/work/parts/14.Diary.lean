theorem dX1_empty_0 : decode cX1_empty 0 = .ok (.aload_n 0, 1) := by decide +kernel
theorem dX1_empty_1 : decode cX1_empty 1 = .ok (.iconst 0, 1) := by decide +kernel
theorem dX1_empty_2 : decode cX1_empty 2 = .ok (.putfield 15, 3) := by decide +kernel
theorem dX1_empty_5 : decode cX1_empty 5 = .ok (.return_, 1) := by decide +kernel
def pX1_empty (M : Mm) : Mm :=
bnd (mset M 8 0 0) fun M1 =>
M1
abbrev zX1_empty : Zx := (cX1_empty, RX1, 1, 0, none)
set_option maxRecDepth 100000 in
set_option maxHeartbeats 4000000 in
theorem tX1_empty {l : Launch} {Y : Sx} {M : Mm} {q : Mm} (hY : isA Y) (h : pX1_empty M = q) : Ct l Y yX1_empty cX1_empty 1 none 0 [.ref (adr Y 8)] M none q := by
  refine Ct.of (by decide) rfl (lv := [(0, .ref (adr Y 8))]) rfl ?_
  intro K hkl C
  change Cx K zX1_empty Y at C
  subst hkl
  unfold pX1_empty at h
  show Wp K zX1_empty Y (Qm K Y none q) M 0 [(0, .ref (adr Y 8))] []
  refine w_aload_n C (pc := 0) dX1_empty_0 0 rfl ?_
  refine w_iconst C (pc := 1) dX1_empty_1 (v := 0) (by decide) ?_
  obtain ⟨M1, e2, h⟩ := bn h
  refine w_putI C (pc := 2) dX1_empty_2 fp_X1_15 (sA_8 hY) rfl ?_
  rw [e2]
  exact w_retV C (pc := 5) dX1_empty_5 rfl h
theorem dX1_note_0 : decode cX1_note 0 = .ok (.aload_n 0, 1) := by decide +kernel
theorem dX1_note_1 : decode cX1_note 1 = .ok (.getfield 15, 3) := by decide +kernel
theorem dX1_note_4 : decode cX1_note 4 = .ok (.bipush 26, 2) := by decide +kernel
theorem dX1_note_6 : decode cX1_note 6 = .ok (.if_icmp .lt 4, 3) := by decide +kernel
theorem dX1_note_9 : decode cX1_note 9 = .ok (.return_, 1) := by decide +kernel
theorem dX1_note_10 : decode cX1_note 10 = .ok (.iload_n 1, 1) := by decide +kernel
theorem dX1_note_11 : decode cX1_note 11 = .ok (.bipush 8, 2) := by decide +kernel
theorem dX1_note_13 : decode cX1_note 13 = .ok (.imul, 1) := by decide +kernel
theorem dX1_note_14 : decode cX1_note 14 = .ok (.iload_n 2, 1) := by decide +kernel
theorem dX1_note_15 : decode cX1_note 15 = .ok (.iadd, 1) := by decide +kernel
theorem dX1_note_16 : decode cX1_note 16 = .ok (.bipush 16, 2) := by decide +kernel
theorem dX1_note_18 : decode cX1_note 18 = .ok (.imul, 1) := by decide +kernel
theorem dX1_note_19 : decode cX1_note 19 = .ok (.iload_n 3, 1) := by decide +kernel
theorem dX1_note_20 : decode cX1_note 20 = .ok (.iadd, 1) := by decide +kernel
theorem dX1_note_21 : decode cX1_note 21 = .ok (.iconst 4, 1) := by decide +kernel
theorem dX1_note_22 : decode cX1_note 22 = .ok (.imul, 1) := by decide +kernel
theorem dX1_note_23 : decode cX1_note 23 = .ok (.iload 4, 2) := by decide +kernel
theorem dX1_note_25 : decode cX1_note 25 = .ok (.iadd, 1) := by decide +kernel
theorem dX1_note_26 : decode cX1_note 26 = .ok (.iconst 1, 1) := by decide +kernel
theorem dX1_note_27 : decode cX1_note 27 = .ok (.iadd, 1) := by decide +kernel
theorem dX1_note_28 : decode cX1_note 28 = .ok (.istore 5, 2) := by decide +kernel
theorem dX1_note_30 : decode cX1_note 30 = .ok (.aload_n 0, 1) := by decide +kernel
theorem dX1_note_31 : decode cX1_note 31 = .ok (.getfield 15, 3) := by decide +kernel
theorem dX1_note_34 : decode cX1_note 34 = .ok (.istore 6, 2) := by decide +kernel
theorem dX1_note_36 : decode cX1_note 36 = .ok (.iload 6, 2) := by decide +kernel
theorem dX1_note_38 : decode cX1_note 38 = .ok (.ifCond .le 39, 3) := by decide +kernel
theorem dX1_note_41 : decode cX1_note 41 = .ok (.aload_n 0, 1) := by decide +kernel
theorem dX1_note_42 : decode cX1_note 42 = .ok (.getfield 11, 3) := by decide +kernel
theorem dX1_note_45 : decode cX1_note 45 = .ok (.iload 6, 2) := by decide +kernel
theorem dX1_note_47 : decode cX1_note 47 = .ok (.iconst 1, 1) := by decide +kernel
theorem dX1_note_48 : decode cX1_note 48 = .ok (.isub, 1) := by decide +kernel
theorem dX1_note_49 : decode cX1_note 49 = .ok (.iaload, 1) := by decide +kernel
theorem dX1_note_50 : decode cX1_note 50 = .ok (.iload 5, 2) := by decide +kernel
theorem dX1_note_52 : decode cX1_note 52 = .ok (.if_icmp .le 25, 3) := by decide +kernel
theorem dX1_note_55 : decode cX1_note 55 = .ok (.aload_n 0, 1) := by decide +kernel
theorem dX1_note_56 : decode cX1_note 56 = .ok (.getfield 11, 3) := by decide +kernel
theorem dX1_note_59 : decode cX1_note 59 = .ok (.iload 6, 2) := by decide +kernel
theorem dX1_note_61 : decode cX1_note 61 = .ok (.aload_n 0, 1) := by decide +kernel
theorem dX1_note_62 : decode cX1_note 62 = .ok (.getfield 11, 3) := by decide +kernel
theorem dX1_note_65 : decode cX1_note 65 = .ok (.iload 6, 2) := by decide +kernel
theorem dX1_note_67 : decode cX1_note 67 = .ok (.iconst 1, 1) := by decide +kernel
theorem dX1_note_68 : decode cX1_note 68 = .ok (.isub, 1) := by decide +kernel
theorem dX1_note_69 : decode cX1_note 69 = .ok (.iaload, 1) := by decide +kernel
theorem dX1_note_70 : decode cX1_note 70 = .ok (.iastore, 1) := by decide +kernel
theorem dX1_note_71 : decode cX1_note 71 = .ok (.iinc 6 (-1), 3) := by decide +kernel
theorem dX1_note_74 : decode cX1_note 74 = .ok (.goto (-38), 3) := by decide +kernel
theorem dX1_note_77 : decode cX1_note 77 = .ok (.aload_n 0, 1) := by decide +kernel
theorem dX1_note_78 : decode cX1_note 78 = .ok (.getfield 11, 3) := by decide +kernel
theorem dX1_note_81 : decode cX1_note 81 = .ok (.iload 6, 2) := by decide +kernel
theorem dX1_note_83 : decode cX1_note 83 = .ok (.iload 5, 2) := by decide +kernel
theorem dX1_note_85 : decode cX1_note 85 = .ok (.iastore, 1) := by decide +kernel
theorem dX1_note_86 : decode cX1_note 86 = .ok (.aload_n 0, 1) := by decide +kernel
theorem dX1_note_87 : decode cX1_note 87 = .ok (.dup, 1) := by decide +kernel
theorem dX1_note_88 : decode cX1_note 88 = .ok (.getfield 15, 3) := by decide +kernel
theorem dX1_note_91 : decode cX1_note 91 = .ok (.iconst 1, 1) := by decide +kernel
theorem dX1_note_92 : decode cX1_note 92 = .ok (.iadd, 1) := by decide +kernel
theorem dX1_note_93 : decode cX1_note 93 = .ok (.putfield 15, 3) := by decide +kernel
theorem dX1_note_96 : decode cX1_note 96 = .ok (.return_, 1) := by decide +kernel
def pX1_note_L36 (x5 : Int32) (s : Int32 × Mm) : Option ((Int32 × Mm) ⊕ (Int32 × Mm)) :=
if s.1 ≤ 0 then
(some (Sum.inr (s.1, s.2)))
else
((ald s.2 9 26 (s.1 - 1)).bind fun v3 =>
if v3 ≤ x5 then
(some (Sum.inr (s.1, s.2)))
else
((ald s.2 9 26 (s.1 - 1)).bind fun v5 =>
(ast s.2 9 26 s.1 v5).bind fun M7 =>
some (Sum.inl (s.1 + (-1), M7))))
def pX1_note (x1 : Int32) (x2 : Int32) (x3 : Int32) (x4 : Int32) (M : Mm) : Option (Mm) :=
if (M 8 0) < 26 then
(bnd (((((((x1 * 8) + x2) * 16) + x3) * 4) + x4) + 1) fun v1 =>
bnd (M 8 0) fun v2 =>
(itr (pX1_note_L36 v1) fuel (v2, M)).bind fun x9 =>
(ast x9.2 9 26 x9.1 v1).bind fun M22 =>
bnd (mset M22 8 0 ((M22 8 0) + 1)) fun M24 =>
some M24)
else
(some M)
abbrev zX1_note : Zx := (cX1_note, RX1, 7, 0, none)
set_option maxRecDepth 100000 in
set_option maxHeartbeats 4000000 in
theorem tX1_note {l : Launch} {Y : Sx} {M : Mm} {x1 : Int32} {x2 : Int32} {x3 : Int32} {x4 : Int32} {q : Mm} (hY : isA Y) (h : pX1_note x1 x2 x3 x4 M = some q) : Ct l Y yX1_note cX1_note 7 none 0 [.ref (adr Y 8), .int x1, .int x2, .int x3, .int x4] M none q := by
  refine Ct.of (by decide) rfl (lv := [(0, .ref (adr Y 8)), (1, .int x1), (2, .int x2), (3, .int x3), (4, .int x4)]) rfl ?_
  intro K hkl C
  change Cx K zX1_note Y at C
  subst hkl
  unfold pX1_note at h
  show Wp K zX1_note Y (Qm K Y none q) M 0 [(0, .ref (adr Y 8)), (1, .int x1), (2, .int x2), (3, .int x3), (4, .int x4)] []
  refine w_aload_n C (pc := 0) dX1_note_0 0 rfl ?_
  refine w_getI C (pc := 1) dX1_note_1 f_X1_15 (sA_8 hY) rfl ?_
  refine w_bipush C (pc := 4) dX1_note_4 (v := 26) (by decide) ?_
  refine w_iclt C (pc := 6) 10 dX1_note_6 (by decide) (fun c => ?_) (fun c => ?_)
  · have h := it_t h c
    refine w_iload_n C (pc := 10) dX1_note_10 1 rfl ?_
    refine w_bipush C (pc := 11) dX1_note_11 (v := 8) (by decide) ?_
    refine w_imul C (pc := 13) dX1_note_13 ?_
    refine w_iload_n C (pc := 14) dX1_note_14 2 rfl ?_
    refine w_iadd C (pc := 15) dX1_note_15 ?_
    refine w_bipush C (pc := 16) dX1_note_16 (v := 16) (by decide) ?_
    refine w_imul C (pc := 18) dX1_note_18 ?_
    refine w_iload_n C (pc := 19) dX1_note_19 3 rfl ?_
    refine w_iadd C (pc := 20) dX1_note_20 ?_
    refine w_iconst C (pc := 21) dX1_note_21 (v := 4) (by decide) ?_
    refine w_imul C (pc := 22) dX1_note_22 ?_
    refine w_iload C (pc := 23) dX1_note_23 4 rfl ?_
    refine w_iadd C (pc := 25) dX1_note_25 ?_
    refine w_iconst C (pc := 26) dX1_note_26 (v := 1) (by decide) ?_
    refine w_iadd C (pc := 27) dX1_note_27 ?_
    refine w_bnd h (fun v1 h => ?_)
    refine w_istore C (pc := 28) dX1_note_28 (lv' := [(0, .ref (adr Y 8)), (1, .int x1), (2, .int x2), (3, .int x3), (4, .int x4), (5, .int v1)]) rfl rfl rfl ?_
    refine w_aload_n C (pc := 30) dX1_note_30 0 rfl ?_
    refine w_getI C (pc := 31) dX1_note_31 f_X1_15 (sA_8 hY) rfl ?_
    refine w_bnd h (fun v2 h => ?_)
    refine w_istore C (pc := 34) dX1_note_34 (lv' := [(0, .ref (adr Y 8)), (1, .int x1), (2, .int x2), (3, .int x3), (4, .int x4), (5, .int v1), (6, .int v2)]) rfl rfl rfl ?_
    obtain ⟨x9, e10, h⟩ := ob h
    refine itr_W (P := fun s11 => Wp K zX1_note Y (Qm K Y none q) s11.2 36 [(0, .ref (adr Y 8)), (1, .int x1), (2, .int x2), (3, .int x3), (4, .int x4), (5, .int v1), (6, .int s11.1)] []) (R := fun x9 => Wp K zX1_note Y (Qm K Y none q) x9.2 77 [(0, .ref (adr Y 8)), (1, .int x1), (2, .int x2), (3, .int x3), (4, .int x4), (5, .int v1), (6, .int x9.1)] []) ?_ fuel (v2, M) x9 e10 ?_
    · intro s11 r12 h15 ki13 kx14
      unfold pX1_note_L36 at h15
      show Wp K zX1_note Y (Qm K Y none q) s11.2 36 [(0, .ref (adr Y 8)), (1, .int x1), (2, .int x2), (3, .int x3), (4, .int x4), (5, .int v1), (6, .int s11.1)] []
      refine w_iload C (pc := 36) dX1_note_36 6 rfl ?_
      refine w_ifle C (pc := 38) 77 dX1_note_38 (by decide) (fun c => ?_) (fun c => ?_)
      · have h15 := it_t h15 c
        obtain rfl := Option.some.inj h15
        have k9 := kx14 (s11.1, s11.2) rfl
        try dsimp only at k9
        exact k9
      · have h15 := it_f h15 c
        refine w_aload_n C (pc := 41) dX1_note_41 0 rfl ?_
        refine w_getR C (pc := 42) dX1_note_42 f_X1_11 (sA_8 hY) rfl ?_
        refine w_iload C (pc := 45) dX1_note_45 6 rfl ?_
        refine w_iconst C (pc := 47) dX1_note_47 (v := 1) (by decide) ?_
        refine w_isub C (pc := 48) dX1_note_48 ?_
        obtain ⟨v16, e17, h15⟩ := ob h15
        refine w_iald C (pc := 49) dX1_note_49 (sA_9 hY) e17 ?_
        refine w_iload C (pc := 50) dX1_note_50 5 rfl ?_
        refine w_icle C (pc := 52) 77 dX1_note_52 (by decide) (fun c => ?_) (fun c => ?_)
        · have h15 := it_t h15 c
          obtain rfl := Option.some.inj h15
          have k9 := kx14 (s11.1, s11.2) rfl
          try dsimp only at k9
          exact k9
        · have h15 := it_f h15 c
          refine w_aload_n C (pc := 55) dX1_note_55 0 rfl ?_
          refine w_getR C (pc := 56) dX1_note_56 f_X1_11 (sA_8 hY) rfl ?_
          refine w_iload C (pc := 59) dX1_note_59 6 rfl ?_
          refine w_aload_n C (pc := 61) dX1_note_61 0 rfl ?_
          refine w_getR C (pc := 62) dX1_note_62 f_X1_11 (sA_8 hY) rfl ?_
          refine w_iload C (pc := 65) dX1_note_65 6 rfl ?_
          refine w_iconst C (pc := 67) dX1_note_67 (v := 1) (by decide) ?_
          refine w_isub C (pc := 68) dX1_note_68 ?_
          obtain ⟨v18, e19, h15⟩ := ob h15
          refine w_iald C (pc := 69) dX1_note_69 (sA_9 hY) e19 ?_
          obtain ⟨M20, e21, h15⟩ := ob h15
          refine w_iast C (pc := 70) dX1_note_70 (sA_9 hY) e21 ?_
          refine w_iinc C (pc := 71) dX1_note_71 6 rfl (v := (-1)) (lv' := [(0, .ref (adr Y 8)), (1, .int x1), (2, .int x2), (3, .int x3), (4, .int x4), (5, .int v1), (6, .int (s11.1 + (-1)))]) (by decide) rfl rfl rfl ?_
          refine w_goto C (pc := 74) 36 dX1_note_74 (by decide) ?_
          obtain rfl := Option.some.inj h15
          have k9 := ki13 (s11.1 + (-1), M20) rfl
          try dsimp only at k9
          exact k9
    · refine w_aload_n C (pc := 77) dX1_note_77 0 rfl ?_
      refine w_getR C (pc := 78) dX1_note_78 f_X1_11 (sA_8 hY) rfl ?_
      refine w_iload C (pc := 81) dX1_note_81 6 rfl ?_
      refine w_iload C (pc := 83) dX1_note_83 5 rfl ?_
      obtain ⟨M22, e23, h⟩ := ob h
      refine w_iast C (pc := 85) dX1_note_85 (sA_9 hY) e23 ?_
      refine w_aload_n C (pc := 86) dX1_note_86 0 rfl ?_
      refine w_dup C (pc := 87) dX1_note_87 rfl ?_
      refine w_getI C (pc := 88) dX1_note_88 f_X1_15 (sA_8 hY) rfl ?_
      refine w_iconst C (pc := 91) dX1_note_91 (v := 1) (by decide) ?_
      refine w_iadd C (pc := 92) dX1_note_92 ?_
      obtain ⟨M24, e25, h⟩ := bn h
      refine w_putI C (pc := 93) dX1_note_93 fp_X1_15 (sA_8 hY) rfl ?_
      rw [e25]
      exact w_retV C (pc := 96) dX1_note_96 rfl (Option.some.inj h)
  · have h := it_f h c
    exact w_retV C (pc := 9) dX1_note_9 rfl (Option.some.inj h)
theorem dX1_part_0 : decode cX1_part 0 = .ok (.iload_n 1, 1) := by decide +kernel
theorem dX1_part_1 : decode cX1_part 1 = .ok (.ifCond .lt 11, 3) := by decide +kernel
theorem dX1_part_4 : decode cX1_part 4 = .ok (.iload_n 1, 1) := by decide +kernel
theorem dX1_part_5 : decode cX1_part 5 = .ok (.aload_n 0, 1) := by decide +kernel
theorem dX1_part_6 : decode cX1_part 6 = .ok (.getfield 15, 3) := by decide +kernel
theorem dX1_part_9 : decode cX1_part 9 = .ok (.if_icmp .lt 6, 3) := by decide +kernel
theorem dX1_part_12 : decode cX1_part 12 = .ok (.bipush (-2), 2) := by decide +kernel
theorem dX1_part_14 : decode cX1_part 14 = .ok (.ireturn, 1) := by decide +kernel
theorem dX1_part_15 : decode cX1_part 15 = .ok (.aload_n 0, 1) := by decide +kernel
theorem dX1_part_16 : decode cX1_part 16 = .ok (.getfield 11, 3) := by decide +kernel
theorem dX1_part_19 : decode cX1_part 19 = .ok (.iload_n 1, 1) := by decide +kernel
theorem dX1_part_20 : decode cX1_part 20 = .ok (.iaload, 1) := by decide +kernel
theorem dX1_part_21 : decode cX1_part 21 = .ok (.istore_n 3, 1) := by decide +kernel
theorem dX1_part_22 : decode cX1_part 22 = .ok (.iload_n 2, 1) := by decide +kernel
theorem dX1_part_23 : decode cX1_part 23 = .ok (.tableswitch 56 0 3 #[29, 35, 43, 50], 29) := by decide +kernel
theorem dX1_part_52 : decode cX1_part 52 = .ok (.iload_n 3, 1) := by decide +kernel
theorem dX1_part_53 : decode cX1_part 53 = .ok (.sipush 512, 3) := by decide +kernel
theorem dX1_part_56 : decode cX1_part 56 = .ok (.idiv, 1) := by decide +kernel
theorem dX1_part_57 : decode cX1_part 57 = .ok (.ireturn, 1) := by decide +kernel
theorem dX1_part_58 : decode cX1_part 58 = .ok (.iload_n 3, 1) := by decide +kernel
theorem dX1_part_59 : decode cX1_part 59 = .ok (.bipush 64, 2) := by decide +kernel
theorem dX1_part_61 : decode cX1_part 61 = .ok (.idiv, 1) := by decide +kernel
theorem dX1_part_62 : decode cX1_part 62 = .ok (.bipush 8, 2) := by decide +kernel
theorem dX1_part_64 : decode cX1_part 64 = .ok (.irem, 1) := by decide +kernel
theorem dX1_part_65 : decode cX1_part 65 = .ok (.ireturn, 1) := by decide +kernel
theorem dX1_part_66 : decode cX1_part 66 = .ok (.iload_n 3, 1) := by decide +kernel
theorem dX1_part_67 : decode cX1_part 67 = .ok (.iconst 4, 1) := by decide +kernel
theorem dX1_part_68 : decode cX1_part 68 = .ok (.idiv, 1) := by decide +kernel
theorem dX1_part_69 : decode cX1_part 69 = .ok (.bipush 16, 2) := by decide +kernel
theorem dX1_part_71 : decode cX1_part 71 = .ok (.irem, 1) := by decide +kernel
theorem dX1_part_72 : decode cX1_part 72 = .ok (.ireturn, 1) := by decide +kernel
theorem dX1_part_73 : decode cX1_part 73 = .ok (.iload_n 3, 1) := by decide +kernel
theorem dX1_part_74 : decode cX1_part 74 = .ok (.iconst 4, 1) := by decide +kernel
theorem dX1_part_75 : decode cX1_part 75 = .ok (.irem, 1) := by decide +kernel
theorem dX1_part_76 : decode cX1_part 76 = .ok (.iconst 1, 1) := by decide +kernel
theorem dX1_part_77 : decode cX1_part 77 = .ok (.isub, 1) := by decide +kernel
theorem dX1_part_78 : decode cX1_part 78 = .ok (.ireturn, 1) := by decide +kernel
theorem dX1_part_79 : decode cX1_part 79 = .ok (.bipush (-2), 2) := by decide +kernel
theorem dX1_part_81 : decode cX1_part 81 = .ok (.ireturn, 1) := by decide +kernel
def pX1_part (x1 : Int32) (x2 : Int32) (M : Mm) : Option (Int32) :=
if x1 < 0 then
(some (-2))
else
(if x1 < (M 8 0) then
((ald M 9 26 x1).bind fun v1 =>
if x2 = 0 then
(some (v1 / 512))
else
(if x2 = 1 then
(some (rmi (v1 / 64) 8))
else
(if x2 = 2 then
(some (rmi (v1 / 4) 16))
else
(if x2 = 3 then
(some ((rmi v1 4) - 1))
else
(some (-2))))))
else
(some (-2)))
abbrev zX1_part : Zx := (cX1_part, RX1, 4, 0, (some .int))
set_option maxRecDepth 100000 in
set_option maxHeartbeats 4000000 in
theorem tX1_part {l : Launch} {Y : Sx} {M : Mm} {x1 : Int32} {x2 : Int32} {q : Int32} (hY : isA Y) (h : pX1_part x1 x2 M = some q) : Ct l Y yX1_part cX1_part 4 (some .int) 0 [.ref (adr Y 8), .int x1, .int x2] M (some q) M := by
  refine Ct.of (by decide) rfl (lv := [(0, .ref (adr Y 8)), (1, .int x1), (2, .int x2)]) rfl ?_
  intro K hkl C
  change Cx K zX1_part Y at C
  subst hkl
  unfold pX1_part at h
  show Wp K zX1_part Y (Qm K Y (some q) M) M 0 [(0, .ref (adr Y 8)), (1, .int x1), (2, .int x2)] []
  refine w_iload_n C (pc := 0) dX1_part_0 1 rfl ?_
  refine w_iflt C (pc := 1) 12 dX1_part_1 (by decide) (fun c => ?_) (fun c => ?_)
  · have h := it_t h c
    refine w_bipush C (pc := 12) dX1_part_12 (v := (-2)) (by decide) ?_
    exact w_retR C (pc := 14) dX1_part_14 rfl (Option.some.inj h)
  · have h := it_f h c
    refine w_iload_n C (pc := 4) dX1_part_4 1 rfl ?_
    refine w_aload_n C (pc := 5) dX1_part_5 0 rfl ?_
    refine w_getI C (pc := 6) dX1_part_6 f_X1_15 (sA_8 hY) rfl ?_
    refine w_iclt C (pc := 9) 15 dX1_part_9 (by decide) (fun c => ?_) (fun c => ?_)
    · have h := it_t h c
      refine w_aload_n C (pc := 15) dX1_part_15 0 rfl ?_
      refine w_getR C (pc := 16) dX1_part_16 f_X1_11 (sA_8 hY) rfl ?_
      refine w_iload_n C (pc := 19) dX1_part_19 1 rfl ?_
      obtain ⟨v1, e2, h⟩ := ob h
      refine w_iald C (pc := 20) dX1_part_20 (sA_9 hY) e2 ?_
      refine w_istore_n C (pc := 21) dX1_part_21 (lv' := [(0, .ref (adr Y 8)), (1, .int x1), (2, .int x2), (3, .int v1)]) rfl rfl rfl ?_
      refine w_iload_n C (pc := 22) dX1_part_22 2 rfl ?_
      by_cases c23_0 : x2 = 0
      · have h := it_t h c23_0
        refine w_swIn C (pc := 23) (v := 0) 52 dX1_part_23 c23_0 (by decide) (by decide) rfl (by decide) ?_
        refine w_iload_n C (pc := 52) dX1_part_52 3 rfl ?_
        refine w_sipush C (pc := 53) dX1_part_53 (v := 512) (by decide) ?_
        refine w_idiv C (pc := 56) dX1_part_56 (by decide) ?_
        exact w_retR C (pc := 57) dX1_part_57 rfl (Option.some.inj h)
      have h := it_f h c23_0
      by_cases c23_1 : x2 = 1
      · have h := it_t h c23_1
        refine w_swIn C (pc := 23) (v := 1) 58 dX1_part_23 c23_1 (by decide) (by decide) rfl (by decide) ?_
        refine w_iload_n C (pc := 58) dX1_part_58 3 rfl ?_
        refine w_bipush C (pc := 59) dX1_part_59 (v := 64) (by decide) ?_
        refine w_idiv C (pc := 61) dX1_part_61 (by decide) ?_
        refine w_bipush C (pc := 62) dX1_part_62 (v := 8) (by decide) ?_
        refine w_irem C (pc := 64) dX1_part_64 (by decide) ?_
        exact w_retR C (pc := 65) dX1_part_65 rfl (Option.some.inj h)
      have h := it_f h c23_1
      by_cases c23_2 : x2 = 2
      · have h := it_t h c23_2
        refine w_swIn C (pc := 23) (v := 2) 66 dX1_part_23 c23_2 (by decide) (by decide) rfl (by decide) ?_
        refine w_iload_n C (pc := 66) dX1_part_66 3 rfl ?_
        refine w_iconst C (pc := 67) dX1_part_67 (v := 4) (by decide) ?_
        refine w_idiv C (pc := 68) dX1_part_68 (by decide) ?_
        refine w_bipush C (pc := 69) dX1_part_69 (v := 16) (by decide) ?_
        refine w_irem C (pc := 71) dX1_part_71 (by decide) ?_
        exact w_retR C (pc := 72) dX1_part_72 rfl (Option.some.inj h)
      have h := it_f h c23_2
      by_cases c23_3 : x2 = 3
      · have h := it_t h c23_3
        refine w_swIn C (pc := 23) (v := 3) 73 dX1_part_23 c23_3 (by decide) (by decide) rfl (by decide) ?_
        refine w_iload_n C (pc := 73) dX1_part_73 3 rfl ?_
        refine w_iconst C (pc := 74) dX1_part_74 (v := 4) (by decide) ?_
        refine w_irem C (pc := 75) dX1_part_75 (by decide) ?_
        refine w_iconst C (pc := 76) dX1_part_76 (v := 1) (by decide) ?_
        refine w_isub C (pc := 77) dX1_part_77 ?_
        exact w_retR C (pc := 78) dX1_part_78 rfl (Option.some.inj h)
      have h := it_f h c23_3
      refine w_swOut C (pc := 23) 79 dX1_part_23 (by have q0 := lv_neT c23_0 (a := 0) rfl; have q1 := lv_neT c23_1 (a := 1) rfl; have q2 := lv_neT c23_2 (a := 2) rfl; have q3 := lv_neT c23_3 (a := 3) rfl; omega) (by decide) ?_
      refine w_bipush C (pc := 79) dX1_part_79 (v := (-2)) (by decide) ?_
      exact w_retR C (pc := 81) dX1_part_81 rfl (Option.some.inj h)
    · have h := it_f h c
      refine w_bipush C (pc := 12) dX1_part_12 (v := (-2)) (by decide) ?_
      exact w_retR C (pc := 14) dX1_part_14 rfl (Option.some.inj h)
