theorem dX9_number_0 : decode cX9_number 0 = .ok (.aload_n 0, 1) := by decide +kernel
theorem dX9_number_1 : decode cX9_number 1 = .ok (.getfield 149, 3) := by decide +kernel
theorem dX9_number_4 : decode cX9_number 4 = .ok (.ifCond .eq 5, 3) := by decide +kernel
theorem dX9_number_7 : decode cX9_number 7 = .ok (.iconst 0, 1) := by decide +kernel
theorem dX9_number_8 : decode cX9_number 8 = .ok (.ireturn, 1) := by decide +kernel
theorem dX9_number_9 : decode cX9_number 9 = .ok (.aload_n 0, 1) := by decide +kernel
theorem dX9_number_10 : decode cX9_number 10 = .ok (.invokevirtual 152, 3) := by decide +kernel
theorem dX9_number_13 : decode cX9_number 13 = .ok (.istore_n 1, 1) := by decide +kernel
theorem dX9_number_14 : decode cX9_number 14 = .ok (.aload_n 0, 1) := by decide +kernel
theorem dX9_number_15 : decode cX9_number 15 = .ok (.aload_n 0, 1) := by decide +kernel
theorem dX9_number_16 : decode cX9_number 16 = .ok (.getfield 143, 3) := by decide +kernel
theorem dX9_number_19 : decode cX9_number 19 = .ok (.putfield 155, 3) := by decide +kernel
theorem dX9_number_22 : decode cX9_number 22 = .ok (.iload_n 1, 1) := by decide +kernel
theorem dX9_number_23 : decode cX9_number 23 = .ok (.bipush 45, 2) := by decide +kernel
theorem dX9_number_25 : decode cX9_number 25 = .ok (.if_icmp .ne 7, 3) := by decide +kernel
theorem dX9_number_28 : decode cX9_number 28 = .ok (.iconst 1, 1) := by decide +kernel
theorem dX9_number_29 : decode cX9_number 29 = .ok (.goto 4, 3) := by decide +kernel
theorem dX9_number_32 : decode cX9_number 32 = .ok (.iconst 0, 1) := by decide +kernel
theorem dX9_number_33 : decode cX9_number 33 = .ok (.istore_n 2, 1) := by decide +kernel
theorem dX9_number_34 : decode cX9_number 34 = .ok (.aload_n 0, 1) := by decide +kernel
theorem dX9_number_35 : decode cX9_number 35 = .ok (.iload_n 2, 1) := by decide +kernel
theorem dX9_number_36 : decode cX9_number 36 = .ok (.ifCond .eq 12, 3) := by decide +kernel
theorem dX9_number_39 : decode cX9_number 39 = .ok (.aload_n 0, 1) := by decide +kernel
theorem dX9_number_40 : decode cX9_number 40 = .ok (.getfield 143, 3) := by decide +kernel
theorem dX9_number_43 : decode cX9_number 43 = .ok (.iconst 1, 1) := by decide +kernel
theorem dX9_number_44 : decode cX9_number 44 = .ok (.iadd, 1) := by decide +kernel
theorem dX9_number_45 : decode cX9_number 45 = .ok (.goto 7, 3) := by decide +kernel
theorem dX9_number_48 : decode cX9_number 48 = .ok (.aload_n 0, 1) := by decide +kernel
theorem dX9_number_49 : decode cX9_number 49 = .ok (.getfield 143, 3) := by decide +kernel
theorem dX9_number_52 : decode cX9_number 52 = .ok (.invokevirtual 158, 3) := by decide +kernel
theorem dX9_number_55 : decode cX9_number 55 = .ok (.ifCond .ne 14, 3) := by decide +kernel
theorem dX9_number_58 : decode cX9_number 58 = .ok (.aload_n 0, 1) := by decide +kernel
theorem dX9_number_59 : decode cX9_number 59 = .ok (.iconst 1, 1) := by decide +kernel
theorem dX9_number_60 : decode cX9_number 60 = .ok (.aload_n 0, 1) := by decide +kernel
theorem dX9_number_61 : decode cX9_number 61 = .ok (.getfield 155, 3) := by decide +kernel
theorem dX9_number_64 : decode cX9_number 64 = .ok (.invokevirtual 161, 3) := by decide +kernel
theorem dX9_number_67 : decode cX9_number 67 = .ok (.iconst 0, 1) := by decide +kernel
theorem dX9_number_68 : decode cX9_number 68 = .ok (.ireturn, 1) := by decide +kernel
theorem dX9_number_69 : decode cX9_number 69 = .ok (.aload_n 0, 1) := by decide +kernel
theorem dX9_number_70 : decode cX9_number 70 = .ok (.dup, 1) := by decide +kernel
theorem dX9_number_71 : decode cX9_number 71 = .ok (.getfield 143, 3) := by decide +kernel
theorem dX9_number_74 : decode cX9_number 74 = .ok (.iload_n 2, 1) := by decide +kernel
theorem dX9_number_75 : decode cX9_number 75 = .ok (.ifCond .eq 7, 3) := by decide +kernel
theorem dX9_number_78 : decode cX9_number 78 = .ok (.iconst 1, 1) := by decide +kernel
theorem dX9_number_79 : decode cX9_number 79 = .ok (.goto 4, 3) := by decide +kernel
theorem dX9_number_82 : decode cX9_number 82 = .ok (.iconst 0, 1) := by decide +kernel
theorem dX9_number_83 : decode cX9_number 83 = .ok (.iadd, 1) := by decide +kernel
theorem dX9_number_84 : decode cX9_number 84 = .ok (.putfield 143, 3) := by decide +kernel
theorem dX9_number_87 : decode cX9_number 87 = .ok (.aload_n 0, 1) := by decide +kernel
theorem dX9_number_88 : decode cX9_number 88 = .ok (.getfield 143, 3) := by decide +kernel
theorem dX9_number_91 : decode cX9_number 91 = .ok (.istore_n 3, 1) := by decide +kernel
theorem dX9_number_92 : decode cX9_number 92 = .ok (.iconst 0, 1) := by decide +kernel
theorem dX9_number_93 : decode cX9_number 93 = .ok (.istore 4, 2) := by decide +kernel
theorem dX9_number_95 : decode cX9_number 95 = .ok (.aload_n 0, 1) := by decide +kernel
theorem dX9_number_96 : decode cX9_number 96 = .ok (.aload_n 0, 1) := by decide +kernel
theorem dX9_number_97 : decode cX9_number 97 = .ok (.getfield 143, 3) := by decide +kernel
theorem dX9_number_100 : decode cX9_number 100 = .ok (.invokevirtual 158, 3) := by decide +kernel
theorem dX9_number_103 : decode cX9_number 103 = .ok (.ifCond .eq 51, 3) := by decide +kernel
theorem dX9_number_106 : decode cX9_number 106 = .ok (.aload_n 0, 1) := by decide +kernel
theorem dX9_number_107 : decode cX9_number 107 = .ok (.getfield 143, 3) := by decide +kernel
theorem dX9_number_110 : decode cX9_number 110 = .ok (.iload_n 3, 1) := by decide +kernel
theorem dX9_number_111 : decode cX9_number 111 = .ok (.isub, 1) := by decide +kernel
theorem dX9_number_112 : decode cX9_number 112 = .ok (.iconst 3, 1) := by decide +kernel
theorem dX9_number_113 : decode cX9_number 113 = .ok (.if_icmp .ge 24, 3) := by decide +kernel
theorem dX9_number_116 : decode cX9_number 116 = .ok (.bipush 10, 2) := by decide +kernel
theorem dX9_number_118 : decode cX9_number 118 = .ok (.iload 4, 2) := by decide +kernel
theorem dX9_number_120 : decode cX9_number 120 = .ok (.imul, 1) := by decide +kernel
theorem dX9_number_121 : decode cX9_number 121 = .ok (.aload_n 0, 1) := by decide +kernel
theorem dX9_number_122 : decode cX9_number 122 = .ok (.getfield 16, 3) := by decide +kernel
theorem dX9_number_125 : decode cX9_number 125 = .ok (.aload_n 0, 1) := by decide +kernel
theorem dX9_number_126 : decode cX9_number 126 = .ok (.getfield 143, 3) := by decide +kernel
theorem dX9_number_129 : decode cX9_number 129 = .ok (.baload, 1) := by decide +kernel
theorem dX9_number_130 : decode cX9_number 130 = .ok (.iadd, 1) := by decide +kernel
theorem dX9_number_131 : decode cX9_number 131 = .ok (.bipush 48, 2) := by decide +kernel
theorem dX9_number_133 : decode cX9_number 133 = .ok (.isub, 1) := by decide +kernel
theorem dX9_number_134 : decode cX9_number 134 = .ok (.goto 5, 3) := by decide +kernel
theorem dX9_number_137 : decode cX9_number 137 = .ok (.iload 4, 2) := by decide +kernel
theorem dX9_number_139 : decode cX9_number 139 = .ok (.istore 4, 2) := by decide +kernel
theorem dX9_number_141 : decode cX9_number 141 = .ok (.aload_n 0, 1) := by decide +kernel
theorem dX9_number_142 : decode cX9_number 142 = .ok (.dup, 1) := by decide +kernel
theorem dX9_number_143 : decode cX9_number 143 = .ok (.getfield 143, 3) := by decide +kernel
theorem dX9_number_146 : decode cX9_number 146 = .ok (.iconst 1, 1) := by decide +kernel
theorem dX9_number_147 : decode cX9_number 147 = .ok (.iadd, 1) := by decide +kernel
theorem dX9_number_148 : decode cX9_number 148 = .ok (.putfield 143, 3) := by decide +kernel
theorem dX9_number_151 : decode cX9_number 151 = .ok (.goto (-56), 3) := by decide +kernel
theorem dX9_number_154 : decode cX9_number 154 = .ok (.aload_n 0, 1) := by decide +kernel
theorem dX9_number_155 : decode cX9_number 155 = .ok (.getfield 143, 3) := by decide +kernel
theorem dX9_number_158 : decode cX9_number 158 = .ok (.iload_n 3, 1) := by decide +kernel
theorem dX9_number_159 : decode cX9_number 159 = .ok (.isub, 1) := by decide +kernel
theorem dX9_number_160 : decode cX9_number 160 = .ok (.iconst 3, 1) := by decide +kernel
theorem dX9_number_161 : decode cX9_number 161 = .ok (.if_icmp .le 12, 3) := by decide +kernel
theorem dX9_number_164 : decode cX9_number 164 = .ok (.aload_n 0, 1) := by decide +kernel
theorem dX9_number_165 : decode cX9_number 165 = .ok (.iconst 1, 1) := by decide +kernel
theorem dX9_number_166 : decode cX9_number 166 = .ok (.aload_n 0, 1) := by decide +kernel
theorem dX9_number_167 : decode cX9_number 167 = .ok (.getfield 155, 3) := by decide +kernel
theorem dX9_number_170 : decode cX9_number 170 = .ok (.invokevirtual 161, 3) := by decide +kernel
theorem dX9_number_173 : decode cX9_number 173 = .ok (.iload_n 2, 1) := by decide +kernel
theorem dX9_number_174 : decode cX9_number 174 = .ok (.ifCond .eq 9, 3) := by decide +kernel
theorem dX9_number_177 : decode cX9_number 177 = .ok (.iload 4, 2) := by decide +kernel
theorem dX9_number_179 : decode cX9_number 179 = .ok (.ineg, 1) := by decide +kernel
theorem dX9_number_180 : decode cX9_number 180 = .ok (.goto 5, 3) := by decide +kernel
theorem dX9_number_183 : decode cX9_number 183 = .ok (.iload 4, 2) := by decide +kernel
theorem dX9_number_185 : decode cX9_number 185 = .ok (.ireturn, 1) := by decide +kernel
def pX9_number_L95 (x2 : Int32) (x3 : Int32) (s : Int32 × Mm) : Option ((Int32 × Mm) ⊕ (Int32 × Mm)) :=
(pX9_isDigitAt (s.2 0 7) s.2).bind fun v22 =>
if v22 = 0 then
(some (Sum.inr (s.1, s.2)))
else
(if 3 ≤ ((s.2 0 7) - x3) then
(bnd (s.1) fun v24 =>
bnd (mset s.2 0 7 ((s.2 0 7) + 1)) fun M25 =>
some (Sum.inl (v24, M25)))
else
((ald s.2 3 300 (s.2 0 7)).bind fun v27 =>
bnd (((10 * s.1) + v27) - 48) fun v29 =>
bnd (mset s.2 0 7 ((s.2 0 7) + 1)) fun M30 =>
some (Sum.inl (v29, M30))))
def pX9_number (M : Mm) : Option (Int32 × Mm) :=
if (M 0 5) = 0 then
((pX9_here M).bind fun v1 =>
bnd (v1.1) fun v3 =>
bnd (mset v1.2 0 8 (v1.2 0 7)) fun M4 =>
bnd (α := Int32) (if v3 = 45 then
(1)
else
(0)) fun j6 =>
bnd (α := Int32) (if j6 = 0 then
(M4 0 7)
else
((M4 0 7) + 1)) fun j9 =>
(pX9_isDigitAt j9 M4).bind fun v12 =>
if v12 = 0 then
(bnd (pX9_fails 1 (M4 0 8) M4) fun v14 =>
some (0, v14))
else
(bnd (α := Int32) (if j6 = 0 then
(0)
else
(1)) fun j16 =>
bnd (mset M4 0 7 ((M4 0 7) + j16)) fun M19 =>
bnd (M19 0 7) fun v21 =>
(itr (pX9_number_L95 j6 v21) fuel (0, M19)).bind fun x32 =>
bnd (α := Mm) (if ((x32.2 0 7) - v21) ≤ 3 then
(x32.2)
else
(bnd (pX9_fails 1 (x32.2 0 8) x32.2) fun v52 =>
v52)) fun j49 =>
if j6 = 0 then
(some (x32.1, j49))
else
(some (-x32.1, j49))))
else
(some (0, M))
abbrev zX9_number : Zx := (cX9_number, RX9, 5, 2, (some .int))
set_option maxRecDepth 100000 in
set_option maxHeartbeats 4000000 in
theorem tX9_number {l : Launch} {Y : Sx} {M : Mm} {q : Int32 × Mm} (hY : isB Y) (h : pX9_number M = some q) : Ct l Y yX9_number cX9_number 5 (some .int) 2 [.ref (adr Y 0)] M (some q.1) q.2 := by
  refine Ct.of (by decide) rfl (lv := [(0, .ref (adr Y 0))]) rfl ?_
  intro K hkl C
  change Cx K zX9_number Y at C
  subst hkl
  unfold pX9_number at h
  show Wp K zX9_number Y (Qm K Y (some q.1) q.2) M 0 [(0, .ref (adr Y 0))] []
  refine w_aload_n C (pc := 0) dX9_number_0 0 rfl ?_
  refine w_getI C (pc := 1) dX9_number_1 f_X9_149 (sB_0 hY) rfl ?_
  refine w_ifeq C (pc := 4) 9 dX9_number_4 (by decide) (fun c => ?_) (fun c => ?_)
  · have h := it_t h c
    refine w_aload_n C (pc := 9) dX9_number_9 0 rfl ?_
    obtain ⟨v1, e2, h⟩ := ob h
    refine w_cVi C (pc := 10) dX9_number_10 my_X9_here mi_X9_here ml_X9_152 (sB_0 hY) rfl rfl rfl [] rfl rfl (Nat.le_of_ble_eq_true rfl) (tX9_here hY  e2) ?_
    refine w_bnd h (fun v3 h => ?_)
    refine w_istore_n C (pc := 13) dX9_number_13 (lv' := [(0, .ref (adr Y 0)), (1, .int v3)]) rfl rfl rfl ?_
    refine w_aload_n C (pc := 14) dX9_number_14 0 rfl ?_
    refine w_aload_n C (pc := 15) dX9_number_15 0 rfl ?_
    refine w_getI C (pc := 16) dX9_number_16 f_X9_143 (sB_0 hY) rfl ?_
    obtain ⟨M4, e5, h⟩ := bn h
    refine w_putI C (pc := 19) dX9_number_19 fp_X9_155 (sB_0 hY) rfl ?_
    rw [e5]
    refine w_iload_n C (pc := 22) dX9_number_22 1 rfl ?_
    refine w_bipush C (pc := 23) dX9_number_23 (v := 45) (by decide) ?_
    obtain ⟨j6, e7, h8⟩ := bn h
    have Jj6 : Wp K zX9_number Y (Qm K Y (some q.1) q.2) M4 33 [(0, .ref (adr Y 0)), (1, .int v3)] [.int j6] := by
      refine w_istore_n C (pc := 33) dX9_number_33 (lv' := [(0, .ref (adr Y 0)), (1, .int v3), (2, .int j6)]) rfl rfl rfl ?_
      refine w_aload_n C (pc := 34) dX9_number_34 0 rfl ?_
      refine w_iload_n C (pc := 35) dX9_number_35 2 rfl ?_
      obtain ⟨j9, e10, h11⟩ := bn h8
      have Jj9 : Wp K zX9_number Y (Qm K Y (some q.1) q.2) M4 52 [(0, .ref (adr Y 0)), (1, .int v3), (2, .int j6)] [.int j9, .ref (adr Y 0)] := by
        obtain ⟨v12, e13, h11⟩ := ob h11
        refine w_cVi C (pc := 52) dX9_number_52 my_X9_isDigitAt mi_X9_isDigitAt ml_X9_158 (sB_0 hY) rfl rfl rfl [.int j9] rfl rfl (Nat.le_of_ble_eq_true rfl) (tX9_isDigitAt hY  e13) ?_
        refine w_ifne C (pc := 55) 69 dX9_number_55 (by decide) (fun c => ?_) (fun c => ?_)
        · have h11 := it_t h11 c
          refine w_aload_n C (pc := 58) dX9_number_58 0 rfl ?_
          refine w_iconst C (pc := 59) dX9_number_59 (v := 1) (by decide) ?_
          refine w_aload_n C (pc := 60) dX9_number_60 0 rfl ?_
          refine w_getI C (pc := 61) dX9_number_61 f_X9_155 (sB_0 hY) rfl ?_
          obtain ⟨v14, e15, h11⟩ := bn h11
          refine w_cVv C (pc := 64) dX9_number_64 my_X9_fails mi_X9_fails ml_X9_161 (sB_0 hY) rfl rfl rfl [.int 1, .int (M4 0 8)] rfl rfl (Nat.le_of_ble_eq_true rfl) (tX9_fails hY  e15) ?_
          refine w_iconst C (pc := 67) dX9_number_67 (v := 0) (by decide) ?_
          exact w_ret C (pc := 68) dX9_number_68 rfl (Option.some.inj h11)
        · have h11 := it_f h11 c
          refine w_aload_n C (pc := 69) dX9_number_69 0 rfl ?_
          refine w_dup C (pc := 70) dX9_number_70 rfl ?_
          refine w_getI C (pc := 71) dX9_number_71 f_X9_143 (sB_0 hY) rfl ?_
          refine w_iload_n C (pc := 74) dX9_number_74 2 rfl ?_
          obtain ⟨j16, e17, h18⟩ := bn h11
          have Jj16 : Wp K zX9_number Y (Qm K Y (some q.1) q.2) M4 83 [(0, .ref (adr Y 0)), (1, .int v3), (2, .int j6)] [.int j16, .int (M4 0 7), .ref (adr Y 0)] := by
            refine w_iadd C (pc := 83) dX9_number_83 ?_
            obtain ⟨M19, e20, h18⟩ := bn h18
            refine w_putI C (pc := 84) dX9_number_84 fp_X9_143 (sB_0 hY) rfl ?_
            rw [e20]
            refine w_aload_n C (pc := 87) dX9_number_87 0 rfl ?_
            refine w_getI C (pc := 88) dX9_number_88 f_X9_143 (sB_0 hY) rfl ?_
            refine w_bnd h18 (fun v21 h18 => ?_)
            refine w_istore_n C (pc := 91) dX9_number_91 (lv' := [(0, .ref (adr Y 0)), (1, .int v3), (2, .int j6), (3, .int v21)]) rfl rfl rfl ?_
            refine w_iconst C (pc := 92) dX9_number_92 (v := 0) (by decide) ?_
            refine w_istore C (pc := 93) dX9_number_93 (lv' := [(0, .ref (adr Y 0)), (1, .int v3), (2, .int j6), (3, .int v21), (4, .int 0)]) rfl rfl rfl ?_
            obtain ⟨x32, e33, h18⟩ := ob h18
            refine itr_W (P := fun s34 => Wp K zX9_number Y (Qm K Y (some q.1) q.2) s34.2 95 [(0, .ref (adr Y 0)), (1, .int v3), (2, .int j6), (3, .int v21), (4, .int s34.1)] []) (R := fun x32 => Wp K zX9_number Y (Qm K Y (some q.1) q.2) x32.2 154 [(0, .ref (adr Y 0)), (1, .int v3), (2, .int j6), (3, .int v21), (4, .int x32.1)] []) ?_ fuel (0, M19) x32 e33 ?_
            · intro s34 r35 h38 ki36 kx37
              unfold pX9_number_L95 at h38
              show Wp K zX9_number Y (Qm K Y (some q.1) q.2) s34.2 95 [(0, .ref (adr Y 0)), (1, .int v3), (2, .int j6), (3, .int v21), (4, .int s34.1)] []
              refine w_aload_n C (pc := 95) dX9_number_95 0 rfl ?_
              refine w_aload_n C (pc := 96) dX9_number_96 0 rfl ?_
              refine w_getI C (pc := 97) dX9_number_97 f_X9_143 (sB_0 hY) rfl ?_
              obtain ⟨v39, e40, h38⟩ := ob h38
              refine w_cVi C (pc := 100) dX9_number_100 my_X9_isDigitAt mi_X9_isDigitAt ml_X9_158 (sB_0 hY) rfl rfl rfl [.int (s34.2 0 7)] rfl rfl (Nat.le_of_ble_eq_true rfl) (tX9_isDigitAt hY  e40) ?_
              refine w_ifeq C (pc := 103) 154 dX9_number_103 (by decide) (fun c => ?_) (fun c => ?_)
              · have h38 := it_t h38 c
                obtain rfl := Option.some.inj h38
                have k9 := kx37 (s34.1, s34.2) rfl
                try dsimp only at k9
                exact k9
              · have h38 := it_f h38 c
                refine w_aload_n C (pc := 106) dX9_number_106 0 rfl ?_
                refine w_getI C (pc := 107) dX9_number_107 f_X9_143 (sB_0 hY) rfl ?_
                refine w_iload_n C (pc := 110) dX9_number_110 3 rfl ?_
                refine w_isub C (pc := 111) dX9_number_111 ?_
                refine w_iconst C (pc := 112) dX9_number_112 (v := 3) (by decide) ?_
                refine w_icge C (pc := 113) 137 dX9_number_113 (by decide) (fun c => ?_) (fun c => ?_)
                · have h38 := it_t h38 c
                  refine w_iload C (pc := 137) dX9_number_137 4 rfl ?_
                  refine w_bnd h38 (fun v41 h38 => ?_)
                  refine w_istore C (pc := 139) dX9_number_139 (lv' := [(0, .ref (adr Y 0)), (1, .int v3), (2, .int j6), (3, .int v21), (4, .int v41)]) rfl rfl rfl ?_
                  refine w_aload_n C (pc := 141) dX9_number_141 0 rfl ?_
                  refine w_dup C (pc := 142) dX9_number_142 rfl ?_
                  refine w_getI C (pc := 143) dX9_number_143 f_X9_143 (sB_0 hY) rfl ?_
                  refine w_iconst C (pc := 146) dX9_number_146 (v := 1) (by decide) ?_
                  refine w_iadd C (pc := 147) dX9_number_147 ?_
                  obtain ⟨M42, e43, h38⟩ := bn h38
                  refine w_putI C (pc := 148) dX9_number_148 fp_X9_143 (sB_0 hY) rfl ?_
                  rw [e43]
                  refine w_goto C (pc := 151) 95 dX9_number_151 (by decide) ?_
                  obtain rfl := Option.some.inj h38
                  have k9 := ki36 (v41, M42) rfl
                  try dsimp only at k9
                  exact k9
                · have h38 := it_f h38 c
                  refine w_bipush C (pc := 116) dX9_number_116 (v := 10) (by decide) ?_
                  refine w_iload C (pc := 118) dX9_number_118 4 rfl ?_
                  refine w_imul C (pc := 120) dX9_number_120 ?_
                  refine w_aload_n C (pc := 121) dX9_number_121 0 rfl ?_
                  refine w_getR C (pc := 122) dX9_number_122 f_X9_16 (sB_0 hY) rfl ?_
                  refine w_aload_n C (pc := 125) dX9_number_125 0 rfl ?_
                  refine w_getI C (pc := 126) dX9_number_126 f_X9_143 (sB_0 hY) rfl ?_
                  obtain ⟨v44, e45, h38⟩ := ob h38
                  refine w_bald C (pc := 129) dX9_number_129 (sB_3 hY) e45 ?_
                  refine w_iadd C (pc := 130) dX9_number_130 ?_
                  refine w_bipush C (pc := 131) dX9_number_131 (v := 48) (by decide) ?_
                  refine w_isub C (pc := 133) dX9_number_133 ?_
                  refine w_goto C (pc := 134) 139 dX9_number_134 (by decide) ?_
                  refine w_bnd h38 (fun v46 h38 => ?_)
                  refine w_istore C (pc := 139) dX9_number_139 (lv' := [(0, .ref (adr Y 0)), (1, .int v3), (2, .int j6), (3, .int v21), (4, .int v46)]) rfl rfl rfl ?_
                  refine w_aload_n C (pc := 141) dX9_number_141 0 rfl ?_
                  refine w_dup C (pc := 142) dX9_number_142 rfl ?_
                  refine w_getI C (pc := 143) dX9_number_143 f_X9_143 (sB_0 hY) rfl ?_
                  refine w_iconst C (pc := 146) dX9_number_146 (v := 1) (by decide) ?_
                  refine w_iadd C (pc := 147) dX9_number_147 ?_
                  obtain ⟨M47, e48, h38⟩ := bn h38
                  refine w_putI C (pc := 148) dX9_number_148 fp_X9_143 (sB_0 hY) rfl ?_
                  rw [e48]
                  refine w_goto C (pc := 151) 95 dX9_number_151 (by decide) ?_
                  obtain rfl := Option.some.inj h38
                  have k9 := ki36 (v46, M47) rfl
                  try dsimp only at k9
                  exact k9
            · refine w_aload_n C (pc := 154) dX9_number_154 0 rfl ?_
              refine w_getI C (pc := 155) dX9_number_155 f_X9_143 (sB_0 hY) rfl ?_
              refine w_iload_n C (pc := 158) dX9_number_158 3 rfl ?_
              refine w_isub C (pc := 159) dX9_number_159 ?_
              refine w_iconst C (pc := 160) dX9_number_160 (v := 3) (by decide) ?_
              obtain ⟨j49, e50, h51⟩ := bn h18
              have Jj49 : Wp K zX9_number Y (Qm K Y (some q.1) q.2) j49 173 [(0, .ref (adr Y 0)), (1, .int v3), (2, .int j6), (3, .int v21), (4, .int x32.1)] [] := by
                refine w_iload_n C (pc := 173) dX9_number_173 2 rfl ?_
                refine w_ifeq C (pc := 174) 183 dX9_number_174 (by decide) (fun c => ?_) (fun c => ?_)
                · have h51 := it_t h51 c
                  refine w_iload C (pc := 183) dX9_number_183 4 rfl ?_
                  exact w_ret C (pc := 185) dX9_number_185 rfl (Option.some.inj h51)
                · have h51 := it_f h51 c
                  refine w_iload C (pc := 177) dX9_number_177 4 rfl ?_
                  refine w_ineg C (pc := 179) dX9_number_179 ?_
                  refine w_goto C (pc := 180) 185 dX9_number_180 (by decide) ?_
                  exact w_ret C (pc := 185) dX9_number_185 rfl (Option.some.inj h51)
              refine w_icle C (pc := 161) 173 dX9_number_161 (by decide) (fun c => ?_) (fun c => ?_)
              · have e50 := it_t e50 c
                obtain rfl := e50
                exact Jj49
              · have e50 := it_f e50 c
                refine w_aload_n C (pc := 164) dX9_number_164 0 rfl ?_
                refine w_iconst C (pc := 165) dX9_number_165 (v := 1) (by decide) ?_
                refine w_aload_n C (pc := 166) dX9_number_166 0 rfl ?_
                refine w_getI C (pc := 167) dX9_number_167 f_X9_155 (sB_0 hY) rfl ?_
                obtain ⟨v52, e53, e50⟩ := bn e50
                refine w_cVv C (pc := 170) dX9_number_170 my_X9_fails mi_X9_fails ml_X9_161 (sB_0 hY) rfl rfl rfl [.int 1, .int (x32.2 0 8)] rfl rfl (Nat.le_of_ble_eq_true rfl) (tX9_fails hY  e53) ?_
                obtain rfl := e50
                exact Jj49
          refine w_ifeq C (pc := 75) 82 dX9_number_75 (by decide) (fun c => ?_) (fun c => ?_)
          · have e17 := it_t e17 c
            refine w_iconst C (pc := 82) dX9_number_82 (v := 0) (by decide) ?_
            obtain rfl := e17
            exact Jj16
          · have e17 := it_f e17 c
            refine w_iconst C (pc := 78) dX9_number_78 (v := 1) (by decide) ?_
            refine w_goto C (pc := 79) 83 dX9_number_79 (by decide) ?_
            obtain rfl := e17
            exact Jj16
      refine w_ifeq C (pc := 36) 48 dX9_number_36 (by decide) (fun c => ?_) (fun c => ?_)
      · have e10 := it_t e10 c
        refine w_aload_n C (pc := 48) dX9_number_48 0 rfl ?_
        refine w_getI C (pc := 49) dX9_number_49 f_X9_143 (sB_0 hY) rfl ?_
        obtain rfl := e10
        exact Jj9
      · have e10 := it_f e10 c
        refine w_aload_n C (pc := 39) dX9_number_39 0 rfl ?_
        refine w_getI C (pc := 40) dX9_number_40 f_X9_143 (sB_0 hY) rfl ?_
        refine w_iconst C (pc := 43) dX9_number_43 (v := 1) (by decide) ?_
        refine w_iadd C (pc := 44) dX9_number_44 ?_
        refine w_goto C (pc := 45) 52 dX9_number_45 (by decide) ?_
        obtain rfl := e10
        exact Jj9
    refine w_icne C (pc := 25) 32 dX9_number_25 (by decide) (fun c => ?_) (fun c => ?_)
    · have e7 := it_t e7 c
      refine w_iconst C (pc := 28) dX9_number_28 (v := 1) (by decide) ?_
      refine w_goto C (pc := 29) 33 dX9_number_29 (by decide) ?_
      obtain rfl := e7
      exact Jj6
    · have e7 := it_f e7 c
      refine w_iconst C (pc := 32) dX9_number_32 (v := 0) (by decide) ?_
      obtain rfl := e7
      exact Jj6
  · have h := it_f h c
    refine w_iconst C (pc := 7) dX9_number_7 (v := 0) (by decide) ?_
    exact w_ret C (pc := 8) dX9_number_8 rfl (Option.some.inj h)
theorem dX9_numberIn_0 : decode cX9_numberIn 0 = .ok (.aload_n 0, 1) := by decide +kernel
theorem dX9_numberIn_1 : decode cX9_numberIn 1 = .ok (.invokevirtual 165, 3) := by decide +kernel
theorem dX9_numberIn_4 : decode cX9_numberIn 4 = .ok (.istore_n 3, 1) := by decide +kernel
theorem dX9_numberIn_5 : decode cX9_numberIn 5 = .ok (.aload_n 0, 1) := by decide +kernel
theorem dX9_numberIn_6 : decode cX9_numberIn 6 = .ok (.getfield 149, 3) := by decide +kernel
theorem dX9_numberIn_9 : decode cX9_numberIn 9 = .ok (.ifCond .ne 21, 3) := by decide +kernel
theorem dX9_numberIn_12 : decode cX9_numberIn 12 = .ok (.iload_n 3, 1) := by decide +kernel
theorem dX9_numberIn_13 : decode cX9_numberIn 13 = .ok (.iload_n 1, 1) := by decide +kernel
theorem dX9_numberIn_14 : decode cX9_numberIn 14 = .ok (.iload_n 2, 1) := by decide +kernel
theorem dX9_numberIn_15 : decode cX9_numberIn 15 = .ok (.invokestatic 70, 3) := by decide +kernel
theorem dX9_numberIn_18 : decode cX9_numberIn 18 = .ok (.ifCond .ne 12, 3) := by decide +kernel
theorem dX9_numberIn_21 : decode cX9_numberIn 21 = .ok (.aload_n 0, 1) := by decide +kernel
theorem dX9_numberIn_22 : decode cX9_numberIn 22 = .ok (.iconst 2, 1) := by decide +kernel
theorem dX9_numberIn_23 : decode cX9_numberIn 23 = .ok (.aload_n 0, 1) := by decide +kernel
theorem dX9_numberIn_24 : decode cX9_numberIn 24 = .ok (.getfield 155, 3) := by decide +kernel
theorem dX9_numberIn_27 : decode cX9_numberIn 27 = .ok (.invokevirtual 161, 3) := by decide +kernel
theorem dX9_numberIn_30 : decode cX9_numberIn 30 = .ok (.iload_n 3, 1) := by decide +kernel
theorem dX9_numberIn_31 : decode cX9_numberIn 31 = .ok (.ireturn, 1) := by decide +kernel
def pX9_numberIn (x1 : Int32) (x2 : Int32) (M : Mm) : Option (Int32 × Mm) :=
(pX9_number M).bind fun v1 =>
bnd (v1.1) fun v3 =>
if (v1.2 0 5) = 0 then
(if (pX9_isIn v3 x1 x2) = 0 then
(bnd (pX9_fails 2 (v1.2 0 8) v1.2) fun v4 =>
some (v3, v4))
else
(some (v3, v1.2)))
else
(some (v3, v1.2))
abbrev zX9_numberIn : Zx := (cX9_numberIn, RX9, 4, 3, (some .int))
set_option maxRecDepth 100000 in
set_option maxHeartbeats 4000000 in
theorem tX9_numberIn {l : Launch} {Y : Sx} {M : Mm} {x1 : Int32} {x2 : Int32} {q : Int32 × Mm} (hY : isB Y) (h : pX9_numberIn x1 x2 M = some q) : Ct l Y yX9_numberIn cX9_numberIn 4 (some .int) 3 [.ref (adr Y 0), .int x1, .int x2] M (some q.1) q.2 := by
  refine Ct.of (by decide) rfl (lv := [(0, .ref (adr Y 0)), (1, .int x1), (2, .int x2)]) rfl ?_
  intro K hkl C
  change Cx K zX9_numberIn Y at C
  subst hkl
  unfold pX9_numberIn at h
  show Wp K zX9_numberIn Y (Qm K Y (some q.1) q.2) M 0 [(0, .ref (adr Y 0)), (1, .int x1), (2, .int x2)] []
  refine w_aload_n C (pc := 0) dX9_numberIn_0 0 rfl ?_
  obtain ⟨v1, e2, h⟩ := ob h
  refine w_cVi C (pc := 1) dX9_numberIn_1 my_X9_number mi_X9_number ml_X9_165 (sB_0 hY) rfl rfl rfl [] rfl rfl (Nat.le_of_ble_eq_true rfl) (tX9_number hY  e2) ?_
  refine w_bnd h (fun v3 h => ?_)
  refine w_istore_n C (pc := 4) dX9_numberIn_4 (lv' := [(0, .ref (adr Y 0)), (1, .int x1), (2, .int x2), (3, .int v3)]) rfl rfl rfl ?_
  refine w_aload_n C (pc := 5) dX9_numberIn_5 0 rfl ?_
  refine w_getI C (pc := 6) dX9_numberIn_6 f_X9_149 (sB_0 hY) rfl ?_
  refine w_ifne C (pc := 9) 30 dX9_numberIn_9 (by decide) (fun c => ?_) (fun c => ?_)
  · have h := it_t h c
    refine w_iload_n C (pc := 12) dX9_numberIn_12 3 rfl ?_
    refine w_iload_n C (pc := 13) dX9_numberIn_13 1 rfl ?_
    refine w_iload_n C (pc := 14) dX9_numberIn_14 2 rfl ?_
    refine w_cSi C (pc := 15) dX9_numberIn_15 my_X9_isIn ms_X9_isIn ml_X9_70 rfl rfl [.int v3, .int x1, .int x2] rfl rfl (Nat.le_of_ble_eq_true rfl) (tX9_isIn  rfl) ?_
    refine w_ifne C (pc := 18) 30 dX9_numberIn_18 (by decide) (fun c => ?_) (fun c => ?_)
    · have h := it_t h c
      refine w_aload_n C (pc := 21) dX9_numberIn_21 0 rfl ?_
      refine w_iconst C (pc := 22) dX9_numberIn_22 (v := 2) (by decide) ?_
      refine w_aload_n C (pc := 23) dX9_numberIn_23 0 rfl ?_
      refine w_getI C (pc := 24) dX9_numberIn_24 f_X9_155 (sB_0 hY) rfl ?_
      obtain ⟨v4, e5, h⟩ := bn h
      refine w_cVv C (pc := 27) dX9_numberIn_27 my_X9_fails mi_X9_fails ml_X9_161 (sB_0 hY) rfl rfl rfl [.int 2, .int (v1.2 0 8)] rfl rfl (Nat.le_of_ble_eq_true rfl) (tX9_fails hY  e5) ?_
      refine w_iload_n C (pc := 30) dX9_numberIn_30 3 rfl ?_
      exact w_ret C (pc := 31) dX9_numberIn_31 rfl (Option.some.inj h)
    · have h := it_f h c
      refine w_iload_n C (pc := 30) dX9_numberIn_30 3 rfl ?_
      exact w_ret C (pc := 31) dX9_numberIn_31 rfl (Option.some.inj h)
  · have h := it_f h c
    refine w_iload_n C (pc := 30) dX9_numberIn_30 3 rfl ?_
    exact w_ret C (pc := 31) dX9_numberIn_31 rfl (Option.some.inj h)
theorem dX9_numberOf_0 : decode cX9_numberOf 0 = .ok (.aload_n 0, 1) := by decide +kernel
theorem dX9_numberOf_1 : decode cX9_numberOf 1 = .ok (.invokevirtual 165, 3) := by decide +kernel
theorem dX9_numberOf_4 : decode cX9_numberOf 4 = .ok (.istore_n 2, 1) := by decide +kernel
theorem dX9_numberOf_5 : decode cX9_numberOf 5 = .ok (.aload_n 0, 1) := by decide +kernel
theorem dX9_numberOf_6 : decode cX9_numberOf 6 = .ok (.getfield 149, 3) := by decide +kernel
theorem dX9_numberOf_9 : decode cX9_numberOf 9 = .ok (.ifCond .ne 20, 3) := by decide +kernel
theorem dX9_numberOf_12 : decode cX9_numberOf 12 = .ok (.iload_n 1, 1) := by decide +kernel
theorem dX9_numberOf_13 : decode cX9_numberOf 13 = .ok (.iload_n 2, 1) := by decide +kernel
theorem dX9_numberOf_14 : decode cX9_numberOf 14 = .ok (.invokestatic 89, 3) := by decide +kernel
theorem dX9_numberOf_17 : decode cX9_numberOf 17 = .ok (.ifCond .ne 12, 3) := by decide +kernel
theorem dX9_numberOf_20 : decode cX9_numberOf 20 = .ok (.aload_n 0, 1) := by decide +kernel
theorem dX9_numberOf_21 : decode cX9_numberOf 21 = .ok (.iconst 2, 1) := by decide +kernel
theorem dX9_numberOf_22 : decode cX9_numberOf 22 = .ok (.aload_n 0, 1) := by decide +kernel
theorem dX9_numberOf_23 : decode cX9_numberOf 23 = .ok (.getfield 155, 3) := by decide +kernel
theorem dX9_numberOf_26 : decode cX9_numberOf 26 = .ok (.invokevirtual 161, 3) := by decide +kernel
theorem dX9_numberOf_29 : decode cX9_numberOf 29 = .ok (.iload_n 2, 1) := by decide +kernel
theorem dX9_numberOf_30 : decode cX9_numberOf 30 = .ok (.ireturn, 1) := by decide +kernel
def pX9_numberOf (x1 : Int32) (M : Mm) : Option (Int32 × Mm) :=
(pX9_number M).bind fun v1 =>
bnd (v1.1) fun v3 =>
if (v1.2 0 5) = 0 then
(if (pX9_mayBe x1 v3) = 0 then
(bnd (pX9_fails 2 (v1.2 0 8) v1.2) fun v4 =>
some (v3, v4))
else
(some (v3, v1.2)))
else
(some (v3, v1.2))
abbrev zX9_numberOf : Zx := (cX9_numberOf, RX9, 3, 3, (some .int))
set_option maxRecDepth 100000 in
set_option maxHeartbeats 4000000 in
theorem tX9_numberOf {l : Launch} {Y : Sx} {M : Mm} {x1 : Int32} {q : Int32 × Mm} (hY : isB Y) (h : pX9_numberOf x1 M = some q) : Ct l Y yX9_numberOf cX9_numberOf 3 (some .int) 3 [.ref (adr Y 0), .int x1] M (some q.1) q.2 := by
  refine Ct.of (by decide) rfl (lv := [(0, .ref (adr Y 0)), (1, .int x1)]) rfl ?_
  intro K hkl C
  change Cx K zX9_numberOf Y at C
  subst hkl
  unfold pX9_numberOf at h
  show Wp K zX9_numberOf Y (Qm K Y (some q.1) q.2) M 0 [(0, .ref (adr Y 0)), (1, .int x1)] []
  refine w_aload_n C (pc := 0) dX9_numberOf_0 0 rfl ?_
  obtain ⟨v1, e2, h⟩ := ob h
  refine w_cVi C (pc := 1) dX9_numberOf_1 my_X9_number mi_X9_number ml_X9_165 (sB_0 hY) rfl rfl rfl [] rfl rfl (Nat.le_of_ble_eq_true rfl) (tX9_number hY  e2) ?_
  refine w_bnd h (fun v3 h => ?_)
  refine w_istore_n C (pc := 4) dX9_numberOf_4 (lv' := [(0, .ref (adr Y 0)), (1, .int x1), (2, .int v3)]) rfl rfl rfl ?_
  refine w_aload_n C (pc := 5) dX9_numberOf_5 0 rfl ?_
  refine w_getI C (pc := 6) dX9_numberOf_6 f_X9_149 (sB_0 hY) rfl ?_
  refine w_ifne C (pc := 9) 29 dX9_numberOf_9 (by decide) (fun c => ?_) (fun c => ?_)
  · have h := it_t h c
    refine w_iload_n C (pc := 12) dX9_numberOf_12 1 rfl ?_
    refine w_iload_n C (pc := 13) dX9_numberOf_13 2 rfl ?_
    refine w_cSi C (pc := 14) dX9_numberOf_14 my_X9_mayBe ms_X9_mayBe ml_X9_89 rfl rfl [.int x1, .int v3] rfl rfl (Nat.le_of_ble_eq_true rfl) (tX9_mayBe  rfl) ?_
    refine w_ifne C (pc := 17) 29 dX9_numberOf_17 (by decide) (fun c => ?_) (fun c => ?_)
    · have h := it_t h c
      refine w_aload_n C (pc := 20) dX9_numberOf_20 0 rfl ?_
      refine w_iconst C (pc := 21) dX9_numberOf_21 (v := 2) (by decide) ?_
      refine w_aload_n C (pc := 22) dX9_numberOf_22 0 rfl ?_
      refine w_getI C (pc := 23) dX9_numberOf_23 f_X9_155 (sB_0 hY) rfl ?_
      obtain ⟨v4, e5, h⟩ := bn h
      refine w_cVv C (pc := 26) dX9_numberOf_26 my_X9_fails mi_X9_fails ml_X9_161 (sB_0 hY) rfl rfl rfl [.int 2, .int (v1.2 0 8)] rfl rfl (Nat.le_of_ble_eq_true rfl) (tX9_fails hY  e5) ?_
      refine w_iload_n C (pc := 29) dX9_numberOf_29 2 rfl ?_
      exact w_ret C (pc := 30) dX9_numberOf_30 rfl (Option.some.inj h)
    · have h := it_f h c
      refine w_iload_n C (pc := 29) dX9_numberOf_29 2 rfl ?_
      exact w_ret C (pc := 30) dX9_numberOf_30 rfl (Option.some.inj h)
  · have h := it_f h c
    refine w_iload_n C (pc := 29) dX9_numberOf_29 2 rfl ?_
    exact w_ret C (pc := 30) dX9_numberOf_30 rfl (Option.some.inj h)
theorem dX9_place_0 : decode cX9_place 0 = .ok (.aload_n 0, 1) := by decide +kernel
theorem dX9_place_1 : decode cX9_place 1 = .ok (.iconst 0, 1) := by decide +kernel
theorem dX9_place_2 : decode cX9_place 2 = .ok (.putfield 66, 3) := by decide +kernel
theorem dX9_place_5 : decode cX9_place 5 = .ok (.aload_n 0, 1) := by decide +kernel
theorem dX9_place_6 : decode cX9_place 6 = .ok (.iload_n 1, 1) := by decide +kernel
theorem dX9_place_7 : decode cX9_place 7 = .ok (.invokevirtual 128, 3) := by decide +kernel
theorem dX9_place_10 : decode cX9_place 10 = .ok (.ifCond .eq 21, 3) := by decide +kernel
theorem dX9_place_13 : decode cX9_place 13 = .ok (.iload_n 2, 1) := by decide +kernel
theorem dX9_place_14 : decode cX9_place 14 = .ok (.iconst 0, 1) := by decide +kernel
theorem dX9_place_15 : decode cX9_place 15 = .ok (.iconst 4, 1) := by decide +kernel
theorem dX9_place_16 : decode cX9_place 16 = .ok (.invokestatic 70, 3) := by decide +kernel
theorem dX9_place_19 : decode cX9_place 19 = .ok (.ifCond .eq 12, 3) := by decide +kernel
theorem dX9_place_22 : decode cX9_place 22 = .ok (.aload_n 0, 1) := by decide +kernel
theorem dX9_place_23 : decode cX9_place 23 = .ok (.iload_n 1, 1) := by decide +kernel
theorem dX9_place_24 : decode cX9_place 24 = .ok (.iload_n 2, 1) := by decide +kernel
theorem dX9_place_25 : decode cX9_place 25 = .ok (.invokevirtual 82, 3) := by decide +kernel
theorem dX9_place_28 : decode cX9_place 28 = .ok (.goto 4, 3) := by decide +kernel
theorem dX9_place_31 : decode cX9_place 31 = .ok (.iconst (-1), 1) := by decide +kernel
theorem dX9_place_32 : decode cX9_place 32 = .ok (.ireturn, 1) := by decide +kernel
def pX9_place (x1 : Int32) (x2 : Int32) (M : Mm) : Option (Int32 × Mm) :=
bnd (mset M 0 0 0) fun M1 =>
(pX9_isPlace x1 M1).bind fun v3 =>
if v3 = 0 then
(some ((-1), M1))
else
(if (pX9_isIn x2 0 4) = 0 then
(some ((-1), M1))
else
((pX9_placeOf x1 x2 M1).bind fun v5 =>
some (v5, M1)))
abbrev zX9_place : Zx := (cX9_place, RX9, 3, 2, (some .int))
set_option maxRecDepth 100000 in
set_option maxHeartbeats 4000000 in
theorem tX9_place {l : Launch} {Y : Sx} {M : Mm} {x1 : Int32} {x2 : Int32} {q : Int32 × Mm} (hY : isB Y) (h : pX9_place x1 x2 M = some q) : Ct l Y yX9_place cX9_place 3 (some .int) 2 [.ref (adr Y 0), .int x1, .int x2] M (some q.1) q.2 := by
  refine Ct.of (by decide) rfl (lv := [(0, .ref (adr Y 0)), (1, .int x1), (2, .int x2)]) rfl ?_
  intro K hkl C
  change Cx K zX9_place Y at C
  subst hkl
  unfold pX9_place at h
  show Wp K zX9_place Y (Qm K Y (some q.1) q.2) M 0 [(0, .ref (adr Y 0)), (1, .int x1), (2, .int x2)] []
  refine w_aload_n C (pc := 0) dX9_place_0 0 rfl ?_
  refine w_iconst C (pc := 1) dX9_place_1 (v := 0) (by decide) ?_
  obtain ⟨M1, e2, h⟩ := bn h
  refine w_putI C (pc := 2) dX9_place_2 fp_X9_66 (sB_0 hY) rfl ?_
  rw [e2]
  refine w_aload_n C (pc := 5) dX9_place_5 0 rfl ?_
  refine w_iload_n C (pc := 6) dX9_place_6 1 rfl ?_
  obtain ⟨v3, e4, h⟩ := ob h
  refine w_cVi C (pc := 7) dX9_place_7 my_X9_isPlace mi_X9_isPlace ml_X9_128 (sB_0 hY) rfl rfl rfl [.int x1] rfl rfl (Nat.le_of_ble_eq_true rfl) (tX9_isPlace hY  e4) ?_
  refine w_ifeq C (pc := 10) 31 dX9_place_10 (by decide) (fun c => ?_) (fun c => ?_)
  · have h := it_t h c
    refine w_iconst C (pc := 31) dX9_place_31 (v := (-1)) (by decide) ?_
    exact w_ret C (pc := 32) dX9_place_32 rfl (Option.some.inj h)
  · have h := it_f h c
    refine w_iload_n C (pc := 13) dX9_place_13 2 rfl ?_
    refine w_iconst C (pc := 14) dX9_place_14 (v := 0) (by decide) ?_
    refine w_iconst C (pc := 15) dX9_place_15 (v := 4) (by decide) ?_
    refine w_cSi C (pc := 16) dX9_place_16 my_X9_isIn ms_X9_isIn ml_X9_70 rfl rfl [.int x2, .int 0, .int 4] rfl rfl (Nat.le_of_ble_eq_true rfl) (tX9_isIn  rfl) ?_
    refine w_ifeq C (pc := 19) 31 dX9_place_19 (by decide) (fun c => ?_) (fun c => ?_)
    · have h := it_t h c
      refine w_iconst C (pc := 31) dX9_place_31 (v := (-1)) (by decide) ?_
      exact w_ret C (pc := 32) dX9_place_32 rfl (Option.some.inj h)
    · have h := it_f h c
      refine w_aload_n C (pc := 22) dX9_place_22 0 rfl ?_
      refine w_iload_n C (pc := 23) dX9_place_23 1 rfl ?_
      refine w_iload_n C (pc := 24) dX9_place_24 2 rfl ?_
      obtain ⟨v5, e6, h⟩ := ob h
      refine w_cVi C (pc := 25) dX9_place_25 my_X9_placeOf mi_X9_placeOf ml_X9_82 (sB_0 hY) rfl rfl rfl [.int x1, .int x2] rfl rfl (Nat.le_of_ble_eq_true rfl) (tX9_placeOf hY  e6) ?_
      refine w_goto C (pc := 28) 32 dX9_place_28 (by decide) ?_
      exact w_ret C (pc := 32) dX9_place_32 rfl (Option.some.inj h)
theorem dX9_rowGoesOn_0 : decode cX9_rowGoesOn 0 = .ok (.aload_n 0, 1) := by decide +kernel
theorem dX9_rowGoesOn_1 : decode cX9_rowGoesOn 1 = .ok (.iconst 1, 1) := by decide +kernel
theorem dX9_rowGoesOn_2 : decode cX9_rowGoesOn 2 = .ok (.aload_n 0, 1) := by decide +kernel
theorem dX9_rowGoesOn_3 : decode cX9_rowGoesOn 3 = .ok (.invokevirtual 74, 3) := by decide +kernel
theorem dX9_rowGoesOn_6 : decode cX9_rowGoesOn 6 = .ok (.invokevirtual 178, 3) := by decide +kernel
theorem dX9_rowGoesOn_9 : decode cX9_rowGoesOn 9 = .ok (.istore_n 1, 1) := by decide +kernel
theorem dX9_rowGoesOn_10 : decode cX9_rowGoesOn 10 = .ok (.aload_n 0, 1) := by decide +kernel
theorem dX9_rowGoesOn_11 : decode cX9_rowGoesOn 11 = .ok (.getfield 149, 3) := by decide +kernel
theorem dX9_rowGoesOn_14 : decode cX9_rowGoesOn 14 = .ok (.ifCond .ne 24, 3) := by decide +kernel
theorem dX9_rowGoesOn_17 : decode cX9_rowGoesOn 17 = .ok (.aload_n 0, 1) := by decide +kernel
theorem dX9_rowGoesOn_18 : decode cX9_rowGoesOn 18 = .ok (.getfield 7, 3) := by decide +kernel
theorem dX9_rowGoesOn_21 : decode cX9_rowGoesOn 21 = .ok (.bipush 60, 2) := by decide +kernel
theorem dX9_rowGoesOn_23 : decode cX9_rowGoesOn 23 = .ok (.iaload, 1) := by decide +kernel
theorem dX9_rowGoesOn_24 : decode cX9_rowGoesOn 24 = .ok (.bipush 8, 2) := by decide +kernel
theorem dX9_rowGoesOn_26 : decode cX9_rowGoesOn 26 = .ok (.if_icmp .ne 12, 3) := by decide +kernel
theorem dX9_rowGoesOn_29 : decode cX9_rowGoesOn 29 = .ok (.aload_n 0, 1) := by decide +kernel
theorem dX9_rowGoesOn_30 : decode cX9_rowGoesOn 30 = .ok (.iconst 3, 1) := by decide +kernel
theorem dX9_rowGoesOn_31 : decode cX9_rowGoesOn 31 = .ok (.aload_n 0, 1) := by decide +kernel
theorem dX9_rowGoesOn_32 : decode cX9_rowGoesOn 32 = .ok (.getfield 155, 3) := by decide +kernel
theorem dX9_rowGoesOn_35 : decode cX9_rowGoesOn 35 = .ok (.invokevirtual 161, 3) := by decide +kernel
theorem dX9_rowGoesOn_38 : decode cX9_rowGoesOn 38 = .ok (.aload_n 0, 1) := by decide +kernel
theorem dX9_rowGoesOn_39 : decode cX9_rowGoesOn 39 = .ok (.getfield 149, 3) := by decide +kernel
theorem dX9_rowGoesOn_42 : decode cX9_rowGoesOn 42 = .ok (.ifCond .ne 8, 3) := by decide +kernel
theorem dX9_rowGoesOn_45 : decode cX9_rowGoesOn 45 = .ok (.aload_n 0, 1) := by decide +kernel
theorem dX9_rowGoesOn_46 : decode cX9_rowGoesOn 46 = .ok (.iload_n 1, 1) := by decide +kernel
theorem dX9_rowGoesOn_47 : decode cX9_rowGoesOn 47 = .ok (.invokevirtual 110, 3) := by decide +kernel
theorem dX9_rowGoesOn_50 : decode cX9_rowGoesOn 50 = .ok (.return_, 1) := by decide +kernel
def pX9_rowGoesOn (M : Mm) : Option (Mm) :=
(pX9_customers M).bind fun v1 =>
(pX9_numberIn 1 v1 M).bind fun v3 =>
bnd (v3.1) fun v5 =>
Option.bind (α := Mm) (if (v3.2 0 5) = 0 then
((ald v3.2 1 160 60).bind fun v11 =>
if v11 = 8 then
(bnd (pX9_fails 3 (v3.2 0 8) v3.2) fun v13 =>
some v13)
else
(some v3.2))
else
(some v3.2)) fun j6 =>
if (j6 0 5) = 0 then
((pX9_stopsAt v5 j6).bind fun v9 =>
some v9)
else
(some j6)
abbrev zX9_rowGoesOn : Zx := (cX9_rowGoesOn, RX9, 2, 4, none)
set_option maxRecDepth 100000 in
set_option maxHeartbeats 4000000 in
theorem tX9_rowGoesOn {l : Launch} {Y : Sx} {M : Mm} {q : Mm} (hY : isB Y) (h : pX9_rowGoesOn M = some q) : Ct l Y yX9_rowGoesOn cX9_rowGoesOn 2 none 4 [.ref (adr Y 0)] M none q := by
  refine Ct.of (by decide) rfl (lv := [(0, .ref (adr Y 0))]) rfl ?_
  intro K hkl C
  change Cx K zX9_rowGoesOn Y at C
  subst hkl
  unfold pX9_rowGoesOn at h
  show Wp K zX9_rowGoesOn Y (Qm K Y none q) M 0 [(0, .ref (adr Y 0))] []
  refine w_aload_n C (pc := 0) dX9_rowGoesOn_0 0 rfl ?_
  refine w_iconst C (pc := 1) dX9_rowGoesOn_1 (v := 1) (by decide) ?_
  refine w_aload_n C (pc := 2) dX9_rowGoesOn_2 0 rfl ?_
  obtain ⟨v1, e2, h⟩ := ob h
  refine w_cVi C (pc := 3) dX9_rowGoesOn_3 my_X9_customers mi_X9_customers ml_X9_74 (sB_0 hY) rfl rfl rfl [] rfl rfl (Nat.le_of_ble_eq_true rfl) (tX9_customers hY  e2) ?_
  obtain ⟨v3, e4, h⟩ := ob h
  refine w_cVi C (pc := 6) dX9_rowGoesOn_6 my_X9_numberIn mi_X9_numberIn ml_X9_178 (sB_0 hY) rfl rfl rfl [.int 1, .int v1] rfl rfl (Nat.le_of_ble_eq_true rfl) (tX9_numberIn hY  e4) ?_
  refine w_bnd h (fun v5 h => ?_)
  refine w_istore_n C (pc := 9) dX9_rowGoesOn_9 (lv' := [(0, .ref (adr Y 0)), (1, .int v5)]) rfl rfl rfl ?_
  refine w_aload_n C (pc := 10) dX9_rowGoesOn_10 0 rfl ?_
  refine w_getI C (pc := 11) dX9_rowGoesOn_11 f_X9_149 (sB_0 hY) rfl ?_
  obtain ⟨j6, e7, h8⟩ := ob h
  have Jj6 : Wp K zX9_rowGoesOn Y (Qm K Y none q) j6 38 [(0, .ref (adr Y 0)), (1, .int v5)] [] := by
    refine w_aload_n C (pc := 38) dX9_rowGoesOn_38 0 rfl ?_
    refine w_getI C (pc := 39) dX9_rowGoesOn_39 f_X9_149 (sB_0 hY) rfl ?_
    refine w_ifne C (pc := 42) 50 dX9_rowGoesOn_42 (by decide) (fun c => ?_) (fun c => ?_)
    · have h8 := it_t h8 c
      refine w_aload_n C (pc := 45) dX9_rowGoesOn_45 0 rfl ?_
      refine w_iload_n C (pc := 46) dX9_rowGoesOn_46 1 rfl ?_
      obtain ⟨v9, e10, h8⟩ := ob h8
      refine w_cVv C (pc := 47) dX9_rowGoesOn_47 my_X9_stopsAt mi_X9_stopsAt ml_X9_110 (sB_0 hY) rfl rfl rfl [.int v5] rfl rfl (Nat.le_of_ble_eq_true rfl) (tX9_stopsAt hY  e10) ?_
      exact w_retV C (pc := 50) dX9_rowGoesOn_50 rfl (Option.some.inj h8)
    · have h8 := it_f h8 c
      exact w_retV C (pc := 50) dX9_rowGoesOn_50 rfl (Option.some.inj h8)
  refine w_ifne C (pc := 14) 38 dX9_rowGoesOn_14 (by decide) (fun c => ?_) (fun c => ?_)
  · have e7 := it_t e7 c
    refine w_aload_n C (pc := 17) dX9_rowGoesOn_17 0 rfl ?_
    refine w_getR C (pc := 18) dX9_rowGoesOn_18 f_X9_7 (sB_0 hY) rfl ?_
    refine w_bipush C (pc := 21) dX9_rowGoesOn_21 (v := 60) (by decide) ?_
    obtain ⟨v11, e12, e7⟩ := ob e7
    refine w_iald C (pc := 23) dX9_rowGoesOn_23 (sB_1 hY) e12 ?_
    refine w_bipush C (pc := 24) dX9_rowGoesOn_24 (v := 8) (by decide) ?_
    refine w_icne C (pc := 26) 38 dX9_rowGoesOn_26 (by decide) (fun c => ?_) (fun c => ?_)
    · have e7 := it_t e7 c
      refine w_aload_n C (pc := 29) dX9_rowGoesOn_29 0 rfl ?_
      refine w_iconst C (pc := 30) dX9_rowGoesOn_30 (v := 3) (by decide) ?_
      refine w_aload_n C (pc := 31) dX9_rowGoesOn_31 0 rfl ?_
      refine w_getI C (pc := 32) dX9_rowGoesOn_32 f_X9_155 (sB_0 hY) rfl ?_
      obtain ⟨v13, e14, e7⟩ := bn e7
      refine w_cVv C (pc := 35) dX9_rowGoesOn_35 my_X9_fails mi_X9_fails ml_X9_161 (sB_0 hY) rfl rfl rfl [.int 3, .int (v3.2 0 8)] rfl rfl (Nat.le_of_ble_eq_true rfl) (tX9_fails hY  e14) ?_
      obtain rfl := Option.some.inj e7
      exact Jj6
    · have e7 := it_f e7 c
      obtain rfl := Option.some.inj e7
      exact Jj6
  · have e7 := it_f e7 c
    obtain rfl := Option.some.inj e7
    exact Jj6
theorem dX9_set_0 : decode cX9_set 0 = .ok (.aload_n 0, 1) := by decide +kernel
theorem dX9_set_1 : decode cX9_set 1 = .ok (.iconst 0, 1) := by decide +kernel
theorem dX9_set_2 : decode cX9_set 2 = .ok (.putfield 66, 3) := by decide +kernel
theorem dX9_set_5 : decode cX9_set 5 = .ok (.iload_n 1, 1) := by decide +kernel
theorem dX9_set_6 : decode cX9_set 6 = .ok (.iconst 0, 1) := by decide +kernel
theorem dX9_set_7 : decode cX9_set 7 = .ok (.bipush 9, 2) := by decide +kernel
theorem dX9_set_9 : decode cX9_set 9 = .ok (.invokestatic 70, 3) := by decide +kernel
theorem dX9_set_12 : decode cX9_set 12 = .ok (.ifCond .eq 20, 3) := by decide +kernel
theorem dX9_set_15 : decode cX9_set 15 = .ok (.iload_n 1, 1) := by decide +kernel
theorem dX9_set_16 : decode cX9_set 16 = .ok (.iload_n 2, 1) := by decide +kernel
theorem dX9_set_17 : decode cX9_set 17 = .ok (.invokestatic 100, 3) := by decide +kernel
theorem dX9_set_20 : decode cX9_set 20 = .ok (.ifCond .eq 12, 3) := by decide +kernel
theorem dX9_set_23 : decode cX9_set 23 = .ok (.aload_n 0, 1) := by decide +kernel
theorem dX9_set_24 : decode cX9_set 24 = .ok (.iload_n 1, 1) := by decide +kernel
theorem dX9_set_25 : decode cX9_set 25 = .ok (.invokevirtual 78, 3) := by decide +kernel
theorem dX9_set_28 : decode cX9_set 28 = .ok (.iload_n 2, 1) := by decide +kernel
theorem dX9_set_29 : decode cX9_set 29 = .ok (.if_icmp .ne 5, 3) := by decide +kernel
theorem dX9_set_32 : decode cX9_set 32 = .ok (.iconst 0, 1) := by decide +kernel
theorem dX9_set_33 : decode cX9_set 33 = .ok (.ireturn, 1) := by decide +kernel
theorem dX9_set_34 : decode cX9_set 34 = .ok (.aload_n 0, 1) := by decide +kernel
theorem dX9_set_35 : decode cX9_set 35 = .ok (.getfield 7, 3) := by decide +kernel
theorem dX9_set_38 : decode cX9_set 38 = .ok (.bipush 50, 2) := by decide +kernel
theorem dX9_set_40 : decode cX9_set 40 = .ok (.iload_n 1, 1) := by decide +kernel
theorem dX9_set_41 : decode cX9_set 41 = .ok (.iadd, 1) := by decide +kernel
theorem dX9_set_42 : decode cX9_set 42 = .ok (.iload_n 2, 1) := by decide +kernel
theorem dX9_set_43 : decode cX9_set 43 = .ok (.iastore, 1) := by decide +kernel
theorem dX9_set_44 : decode cX9_set 44 = .ok (.iconst 1, 1) := by decide +kernel
theorem dX9_set_45 : decode cX9_set 45 = .ok (.ireturn, 1) := by decide +kernel
def pX9_set (x1 : Int32) (x2 : Int32) (M : Mm) : Option (Int32 × Mm) :=
bnd (mset M 0 0 0) fun M1 =>
if (pX9_isIn x1 0 9) = 0 then
(some (0, M1))
else
(if (pX9_maySet x1 x2) = 0 then
(some (0, M1))
else
((pX9_of x1 M1).bind fun v3 =>
if v3 = x2 then
(some (0, M1))
else
((ast M1 1 160 (50 + x1) x2).bind fun M5 =>
some (1, M5))))
abbrev zX9_set : Zx := (cX9_set, RX9, 3, 2, (some .boolean))
set_option maxRecDepth 100000 in
set_option maxHeartbeats 4000000 in
theorem tX9_set {l : Launch} {Y : Sx} {M : Mm} {x1 : Int32} {x2 : Int32} {q : Int32 × Mm} (hY : isB Y) (h : pX9_set x1 x2 M = some q) : Ct l Y yX9_set cX9_set 3 (some .boolean) 2 [.ref (adr Y 0), .int x1, .int x2] M (some q.1) q.2 := by
  refine Ct.of (by decide) rfl (lv := [(0, .ref (adr Y 0)), (1, .int x1), (2, .int x2)]) rfl ?_
  intro K hkl C
  change Cx K zX9_set Y at C
  subst hkl
  unfold pX9_set at h
  show Wp K zX9_set Y (Qm K Y (some q.1) q.2) M 0 [(0, .ref (adr Y 0)), (1, .int x1), (2, .int x2)] []
  refine w_aload_n C (pc := 0) dX9_set_0 0 rfl ?_
  refine w_iconst C (pc := 1) dX9_set_1 (v := 0) (by decide) ?_
  obtain ⟨M1, e2, h⟩ := bn h
  refine w_putI C (pc := 2) dX9_set_2 fp_X9_66 (sB_0 hY) rfl ?_
  rw [e2]
  refine w_iload_n C (pc := 5) dX9_set_5 1 rfl ?_
  refine w_iconst C (pc := 6) dX9_set_6 (v := 0) (by decide) ?_
  refine w_bipush C (pc := 7) dX9_set_7 (v := 9) (by decide) ?_
  refine w_cSi C (pc := 9) dX9_set_9 my_X9_isIn ms_X9_isIn ml_X9_70 rfl rfl [.int x1, .int 0, .int 9] rfl rfl (Nat.le_of_ble_eq_true rfl) (tX9_isIn  rfl) ?_
  refine w_ifeq C (pc := 12) 32 dX9_set_12 (by decide) (fun c => ?_) (fun c => ?_)
  · have h := it_t h c
    refine w_iconst C (pc := 32) dX9_set_32 (v := 0) (by decide) ?_
    exact w_retz C (pc := 33) dX9_set_33 rfl (by decide) (Option.some.inj h)
  · have h := it_f h c
    refine w_iload_n C (pc := 15) dX9_set_15 1 rfl ?_
    refine w_iload_n C (pc := 16) dX9_set_16 2 rfl ?_
    refine w_cSi C (pc := 17) dX9_set_17 my_X9_maySet ms_X9_maySet ml_X9_100 rfl rfl [.int x1, .int x2] rfl rfl (Nat.le_of_ble_eq_true rfl) (tX9_maySet  rfl) ?_
    refine w_ifeq C (pc := 20) 32 dX9_set_20 (by decide) (fun c => ?_) (fun c => ?_)
    · have h := it_t h c
      refine w_iconst C (pc := 32) dX9_set_32 (v := 0) (by decide) ?_
      exact w_retz C (pc := 33) dX9_set_33 rfl (by decide) (Option.some.inj h)
    · have h := it_f h c
      refine w_aload_n C (pc := 23) dX9_set_23 0 rfl ?_
      refine w_iload_n C (pc := 24) dX9_set_24 1 rfl ?_
      obtain ⟨v3, e4, h⟩ := ob h
      refine w_cVi C (pc := 25) dX9_set_25 my_X9_of mi_X9_of ml_X9_78 (sB_0 hY) rfl rfl rfl [.int x1] rfl rfl (Nat.le_of_ble_eq_true rfl) (tX9_of hY  e4) ?_
      refine w_iload_n C (pc := 28) dX9_set_28 2 rfl ?_
      refine w_icne C (pc := 29) 34 dX9_set_29 (by decide) (fun c => ?_) (fun c => ?_)
      · have h := it_t h c
        refine w_iconst C (pc := 32) dX9_set_32 (v := 0) (by decide) ?_
        exact w_retz C (pc := 33) dX9_set_33 rfl (by decide) (Option.some.inj h)
      · have h := it_f h c
        refine w_aload_n C (pc := 34) dX9_set_34 0 rfl ?_
        refine w_getR C (pc := 35) dX9_set_35 f_X9_7 (sB_0 hY) rfl ?_
        refine w_bipush C (pc := 38) dX9_set_38 (v := 50) (by decide) ?_
        refine w_iload_n C (pc := 40) dX9_set_40 1 rfl ?_
        refine w_iadd C (pc := 41) dX9_set_41 ?_
        refine w_iload_n C (pc := 42) dX9_set_42 2 rfl ?_
        obtain ⟨M5, e6, h⟩ := ob h
        refine w_iast C (pc := 43) dX9_set_43 (sB_1 hY) e6 ?_
        refine w_iconst C (pc := 44) dX9_set_44 (v := 1) (by decide) ?_
        exact w_retz C (pc := 45) dX9_set_45 rfl (by decide) (Option.some.inj h)
theorem dX9_sortie_0 : decode cX9_sortie 0 = .ok (.aload_n 0, 1) := by decide +kernel
theorem dX9_sortie_1 : decode cX9_sortie 1 = .ok (.iload_n 1, 1) := by decide +kernel
theorem dX9_sortie_2 : decode cX9_sortie 2 = .ok (.iconst 0, 1) := by decide +kernel
theorem dX9_sortie_3 : decode cX9_sortie 3 = .ok (.aload_n 0, 1) := by decide +kernel
theorem dX9_sortie_4 : decode cX9_sortie 4 = .ok (.invokevirtual 118, 3) := by decide +kernel
theorem dX9_sortie_7 : decode cX9_sortie 7 = .ok (.iconst 1, 1) := by decide +kernel
theorem dX9_sortie_8 : decode cX9_sortie 8 = .ok (.isub, 1) := by decide +kernel
theorem dX9_sortie_9 : decode cX9_sortie 9 = .ok (.invokestatic 70, 3) := by decide +kernel
theorem dX9_sortie_12 : decode cX9_sortie 12 = .ok (.ifCond .eq 16, 3) := by decide +kernel
theorem dX9_sortie_15 : decode cX9_sortie 15 = .ok (.iload_n 2, 1) := by decide +kernel
theorem dX9_sortie_16 : decode cX9_sortie 16 = .ok (.iconst 0, 1) := by decide +kernel
theorem dX9_sortie_17 : decode cX9_sortie 17 = .ok (.iconst 3, 1) := by decide +kernel
theorem dX9_sortie_18 : decode cX9_sortie 18 = .ok (.invokestatic 70, 3) := by decide +kernel
theorem dX9_sortie_21 : decode cX9_sortie 21 = .ok (.ifCond .eq 7, 3) := by decide +kernel
theorem dX9_sortie_24 : decode cX9_sortie 24 = .ok (.iconst 0, 1) := by decide +kernel
theorem dX9_sortie_25 : decode cX9_sortie 25 = .ok (.goto 4, 3) := by decide +kernel
theorem dX9_sortie_28 : decode cX9_sortie 28 = .ok (.iconst 1, 1) := by decide +kernel
theorem dX9_sortie_29 : decode cX9_sortie 29 = .ok (.putfield 66, 3) := by decide +kernel
theorem dX9_sortie_32 : decode cX9_sortie 32 = .ok (.aload_n 0, 1) := by decide +kernel
theorem dX9_sortie_33 : decode cX9_sortie 33 = .ok (.getfield 66, 3) := by decide +kernel
theorem dX9_sortie_36 : decode cX9_sortie 36 = .ok (.iconst 1, 1) := by decide +kernel
theorem dX9_sortie_37 : decode cX9_sortie 37 = .ok (.if_icmp .ne 7, 3) := by decide +kernel
theorem dX9_sortie_40 : decode cX9_sortie 40 = .ok (.iconst 0, 1) := by decide +kernel
theorem dX9_sortie_41 : decode cX9_sortie 41 = .ok (.goto 9, 3) := by decide +kernel
theorem dX9_sortie_44 : decode cX9_sortie 44 = .ok (.aload_n 0, 1) := by decide +kernel
theorem dX9_sortie_45 : decode cX9_sortie 45 = .ok (.iload_n 1, 1) := by decide +kernel
theorem dX9_sortie_46 : decode cX9_sortie 46 = .ok (.iload_n 2, 1) := by decide +kernel
theorem dX9_sortie_47 : decode cX9_sortie 47 = .ok (.invokevirtual 137, 3) := by decide +kernel
theorem dX9_sortie_50 : decode cX9_sortie 50 = .ok (.ireturn, 1) := by decide +kernel
def pX9_sortie (x1 : Int32) (x2 : Int32) (M : Mm) : Option (Int32 × Mm) :=
(pX9_sorties M).bind fun v1 =>
if (pX9_isIn x1 0 (v1 - 1)) = 0 then
(bnd (mset M 0 0 1) fun M3 =>
if (M3 0 0) = 1 then
(some (0, M3))
else
((pX9_sortieOf x1 x2 M3).bind fun v5 =>
some (v5, M3)))
else
(if (pX9_isIn x2 0 3) = 0 then
(bnd (mset M 0 0 1) fun M7 =>
if (M7 0 0) = 1 then
(some (0, M7))
else
((pX9_sortieOf x1 x2 M7).bind fun v9 =>
some (v9, M7)))
else
(bnd (mset M 0 0 0) fun M11 =>
if (M11 0 0) = 1 then
(some (0, M11))
else
((pX9_sortieOf x1 x2 M11).bind fun v13 =>
some (v13, M11))))
abbrev zX9_sortie : Zx := (cX9_sortie, RX9, 3, 1, (some .int))
set_option maxRecDepth 100000 in
set_option maxHeartbeats 4000000 in
theorem tX9_sortie {l : Launch} {Y : Sx} {M : Mm} {x1 : Int32} {x2 : Int32} {q : Int32 × Mm} (hY : isB Y) (h : pX9_sortie x1 x2 M = some q) : Ct l Y yX9_sortie cX9_sortie 3 (some .int) 1 [.ref (adr Y 0), .int x1, .int x2] M (some q.1) q.2 := by
  refine Ct.of (by decide) rfl (lv := [(0, .ref (adr Y 0)), (1, .int x1), (2, .int x2)]) rfl ?_
  intro K hkl C
  change Cx K zX9_sortie Y at C
  subst hkl
  unfold pX9_sortie at h
  show Wp K zX9_sortie Y (Qm K Y (some q.1) q.2) M 0 [(0, .ref (adr Y 0)), (1, .int x1), (2, .int x2)] []
  refine w_aload_n C (pc := 0) dX9_sortie_0 0 rfl ?_
  refine w_iload_n C (pc := 1) dX9_sortie_1 1 rfl ?_
  refine w_iconst C (pc := 2) dX9_sortie_2 (v := 0) (by decide) ?_
  refine w_aload_n C (pc := 3) dX9_sortie_3 0 rfl ?_
  obtain ⟨v1, e2, h⟩ := ob h
  refine w_cVi C (pc := 4) dX9_sortie_4 my_X9_sorties mi_X9_sorties ml_X9_118 (sB_0 hY) rfl rfl rfl [] rfl rfl (Nat.le_of_ble_eq_true rfl) (tX9_sorties hY  e2) ?_
  refine w_iconst C (pc := 7) dX9_sortie_7 (v := 1) (by decide) ?_
  refine w_isub C (pc := 8) dX9_sortie_8 ?_
  refine w_cSi C (pc := 9) dX9_sortie_9 my_X9_isIn ms_X9_isIn ml_X9_70 rfl rfl [.int x1, .int 0, .int (v1 - 1)] rfl rfl (Nat.le_of_ble_eq_true rfl) (tX9_isIn  rfl) ?_
  refine w_ifeq C (pc := 12) 28 dX9_sortie_12 (by decide) (fun c => ?_) (fun c => ?_)
  · have h := it_t h c
    refine w_iconst C (pc := 28) dX9_sortie_28 (v := 1) (by decide) ?_
    obtain ⟨M3, e4, h⟩ := bn h
    refine w_putI C (pc := 29) dX9_sortie_29 fp_X9_66 (sB_0 hY) rfl ?_
    rw [e4]
    refine w_aload_n C (pc := 32) dX9_sortie_32 0 rfl ?_
    refine w_getI C (pc := 33) dX9_sortie_33 f_X9_66 (sB_0 hY) rfl ?_
    refine w_iconst C (pc := 36) dX9_sortie_36 (v := 1) (by decide) ?_
    refine w_icne C (pc := 37) 44 dX9_sortie_37 (by decide) (fun c => ?_) (fun c => ?_)
    · have h := it_t h c
      refine w_iconst C (pc := 40) dX9_sortie_40 (v := 0) (by decide) ?_
      refine w_goto C (pc := 41) 50 dX9_sortie_41 (by decide) ?_
      exact w_ret C (pc := 50) dX9_sortie_50 rfl (Option.some.inj h)
    · have h := it_f h c
      refine w_aload_n C (pc := 44) dX9_sortie_44 0 rfl ?_
      refine w_iload_n C (pc := 45) dX9_sortie_45 1 rfl ?_
      refine w_iload_n C (pc := 46) dX9_sortie_46 2 rfl ?_
      obtain ⟨v5, e6, h⟩ := ob h
      refine w_cVi C (pc := 47) dX9_sortie_47 my_X9_sortieOf mi_X9_sortieOf ml_X9_137 (sB_0 hY) rfl rfl rfl [.int x1, .int x2] rfl rfl (Nat.le_of_ble_eq_true rfl) (tX9_sortieOf hY  e6) ?_
      exact w_ret C (pc := 50) dX9_sortie_50 rfl (Option.some.inj h)
  · have h := it_f h c
    refine w_iload_n C (pc := 15) dX9_sortie_15 2 rfl ?_
    refine w_iconst C (pc := 16) dX9_sortie_16 (v := 0) (by decide) ?_
    refine w_iconst C (pc := 17) dX9_sortie_17 (v := 3) (by decide) ?_
    refine w_cSi C (pc := 18) dX9_sortie_18 my_X9_isIn ms_X9_isIn ml_X9_70 rfl rfl [.int x2, .int 0, .int 3] rfl rfl (Nat.le_of_ble_eq_true rfl) (tX9_isIn  rfl) ?_
    refine w_ifeq C (pc := 21) 28 dX9_sortie_21 (by decide) (fun c => ?_) (fun c => ?_)
    · have h := it_t h c
      refine w_iconst C (pc := 28) dX9_sortie_28 (v := 1) (by decide) ?_
      obtain ⟨M7, e8, h⟩ := bn h
      refine w_putI C (pc := 29) dX9_sortie_29 fp_X9_66 (sB_0 hY) rfl ?_
      rw [e8]
      refine w_aload_n C (pc := 32) dX9_sortie_32 0 rfl ?_
      refine w_getI C (pc := 33) dX9_sortie_33 f_X9_66 (sB_0 hY) rfl ?_
      refine w_iconst C (pc := 36) dX9_sortie_36 (v := 1) (by decide) ?_
      refine w_icne C (pc := 37) 44 dX9_sortie_37 (by decide) (fun c => ?_) (fun c => ?_)
      · have h := it_t h c
        refine w_iconst C (pc := 40) dX9_sortie_40 (v := 0) (by decide) ?_
        refine w_goto C (pc := 41) 50 dX9_sortie_41 (by decide) ?_
        exact w_ret C (pc := 50) dX9_sortie_50 rfl (Option.some.inj h)
      · have h := it_f h c
        refine w_aload_n C (pc := 44) dX9_sortie_44 0 rfl ?_
        refine w_iload_n C (pc := 45) dX9_sortie_45 1 rfl ?_
        refine w_iload_n C (pc := 46) dX9_sortie_46 2 rfl ?_
        obtain ⟨v9, e10, h⟩ := ob h
        refine w_cVi C (pc := 47) dX9_sortie_47 my_X9_sortieOf mi_X9_sortieOf ml_X9_137 (sB_0 hY) rfl rfl rfl [.int x1, .int x2] rfl rfl (Nat.le_of_ble_eq_true rfl) (tX9_sortieOf hY  e10) ?_
        exact w_ret C (pc := 50) dX9_sortie_50 rfl (Option.some.inj h)
    · have h := it_f h c
      refine w_iconst C (pc := 24) dX9_sortie_24 (v := 0) (by decide) ?_
      refine w_goto C (pc := 25) 29 dX9_sortie_25 (by decide) ?_
      obtain ⟨M11, e12, h⟩ := bn h
      refine w_putI C (pc := 29) dX9_sortie_29 fp_X9_66 (sB_0 hY) rfl ?_
      rw [e12]
      refine w_aload_n C (pc := 32) dX9_sortie_32 0 rfl ?_
      refine w_getI C (pc := 33) dX9_sortie_33 f_X9_66 (sB_0 hY) rfl ?_
      refine w_iconst C (pc := 36) dX9_sortie_36 (v := 1) (by decide) ?_
      refine w_icne C (pc := 37) 44 dX9_sortie_37 (by decide) (fun c => ?_) (fun c => ?_)
      · have h := it_t h c
        refine w_iconst C (pc := 40) dX9_sortie_40 (v := 0) (by decide) ?_
        refine w_goto C (pc := 41) 50 dX9_sortie_41 (by decide) ?_
        exact w_ret C (pc := 50) dX9_sortie_50 rfl (Option.some.inj h)
      · have h := it_f h c
        refine w_aload_n C (pc := 44) dX9_sortie_44 0 rfl ?_
        refine w_iload_n C (pc := 45) dX9_sortie_45 1 rfl ?_
        refine w_iload_n C (pc := 46) dX9_sortie_46 2 rfl ?_
        obtain ⟨v13, e14, h⟩ := ob h
        refine w_cVi C (pc := 47) dX9_sortie_47 my_X9_sortieOf mi_X9_sortieOf ml_X9_137 (sB_0 hY) rfl rfl rfl [.int x1, .int x2] rfl rfl (Nat.le_of_ble_eq_true rfl) (tX9_sortieOf hY  e14) ?_
        exact w_ret C (pc := 50) dX9_sortie_50 rfl (Option.some.inj h)
theorem dX9_split_0 : decode cX9_split 0 = .ok (.aload_n 0, 1) := by decide +kernel
theorem dX9_split_1 : decode cX9_split 1 = .ok (.iconst 0, 1) := by decide +kernel
theorem dX9_split_2 : decode cX9_split 2 = .ok (.putfield 66, 3) := by decide +kernel
theorem dX9_split_5 : decode cX9_split 5 = .ok (.aload_n 0, 1) := by decide +kernel
theorem dX9_split_6 : decode cX9_split 6 = .ok (.iload_n 1, 1) := by decide +kernel
theorem dX9_split_7 : decode cX9_split 7 = .ok (.invokevirtual 239, 3) := by decide +kernel
theorem dX9_split_10 : decode cX9_split 10 = .ok (.ifCond .eq 16, 3) := by decide +kernel
theorem dX9_split_13 : decode cX9_split 13 = .ok (.aload_n 0, 1) := by decide +kernel
theorem dX9_split_14 : decode cX9_split 14 = .ok (.aload_n 0, 1) := by decide +kernel
theorem dX9_split_15 : decode cX9_split 15 = .ok (.bipush 8, 2) := by decide +kernel
theorem dX9_split_17 : decode cX9_split 17 = .ok (.invokevirtual 78, 3) := by decide +kernel
theorem dX9_split_20 : decode cX9_split 20 = .ok (.invokevirtual 242, 3) := by decide +kernel
theorem dX9_split_23 : decode cX9_split 23 = .ok (.goto 4, 3) := by decide +kernel
theorem dX9_split_26 : decode cX9_split 26 = .ok (.iconst (-1), 1) := by decide +kernel
theorem dX9_split_27 : decode cX9_split 27 = .ok (.ireturn, 1) := by decide +kernel
def pX9_split (x1 : Int32) (M : Mm) : Option (Int32 × Mm) :=
bnd (mset M 0 0 0) fun M1 =>
(pX9_lays x1 M1).bind fun v3 =>
if v3.1 = 0 then
(some ((-1), v3.2))
else
((pX9_of 8 v3.2).bind fun v5 =>
(pX9_splits v5 v3.2).bind fun v7 =>
some (v7.1, v7.2))
abbrev zX9_split : Zx := (cX9_split, RX9, 2, 4, (some .int))
set_option maxRecDepth 100000 in
set_option maxHeartbeats 4000000 in
theorem tX9_split {l : Launch} {Y : Sx} {M : Mm} {x1 : Int32} {q : Int32 × Mm} (hY : isB Y) (h : pX9_split x1 M = some q) : Ct l Y yX9_split cX9_split 2 (some .int) 4 [.ref (adr Y 0), .int x1] M (some q.1) q.2 := by
  refine Ct.of (by decide) rfl (lv := [(0, .ref (adr Y 0)), (1, .int x1)]) rfl ?_
  intro K hkl C
  change Cx K zX9_split Y at C
  subst hkl
  unfold pX9_split at h
  show Wp K zX9_split Y (Qm K Y (some q.1) q.2) M 0 [(0, .ref (adr Y 0)), (1, .int x1)] []
  refine w_aload_n C (pc := 0) dX9_split_0 0 rfl ?_
  refine w_iconst C (pc := 1) dX9_split_1 (v := 0) (by decide) ?_
  obtain ⟨M1, e2, h⟩ := bn h
  refine w_putI C (pc := 2) dX9_split_2 fp_X9_66 (sB_0 hY) rfl ?_
  rw [e2]
  refine w_aload_n C (pc := 5) dX9_split_5 0 rfl ?_
  refine w_iload_n C (pc := 6) dX9_split_6 1 rfl ?_
  obtain ⟨v3, e4, h⟩ := ob h
  refine w_cVi C (pc := 7) dX9_split_7 my_X9_lays mi_X9_lays ml_X9_239 (sB_0 hY) rfl rfl rfl [.int x1] rfl rfl (Nat.le_of_ble_eq_true rfl) (tX9_lays hY  e4) ?_
  refine w_ifeq C (pc := 10) 26 dX9_split_10 (by decide) (fun c => ?_) (fun c => ?_)
  · have h := it_t h c
    refine w_iconst C (pc := 26) dX9_split_26 (v := (-1)) (by decide) ?_
    exact w_ret C (pc := 27) dX9_split_27 rfl (Option.some.inj h)
  · have h := it_f h c
    refine w_aload_n C (pc := 13) dX9_split_13 0 rfl ?_
    refine w_aload_n C (pc := 14) dX9_split_14 0 rfl ?_
    refine w_bipush C (pc := 15) dX9_split_15 (v := 8) (by decide) ?_
    obtain ⟨v5, e6, h⟩ := ob h
    refine w_cVi C (pc := 17) dX9_split_17 my_X9_of mi_X9_of ml_X9_78 (sB_0 hY) rfl rfl rfl [.int 8] rfl rfl (Nat.le_of_ble_eq_true rfl) (tX9_of hY  e6) ?_
    obtain ⟨v7, e8, h⟩ := ob h
    refine w_cVi C (pc := 20) dX9_split_20 my_X9_splits mi_X9_splits ml_X9_242 (sB_0 hY) rfl rfl rfl [.int v5] rfl rfl (Nat.le_of_ble_eq_true rfl) (tX9_splits hY  e8) ?_
    refine w_goto C (pc := 23) 27 dX9_split_23 (by decide) ?_
    exact w_ret C (pc := 27) dX9_split_27 rfl (Option.some.inj h)
theorem dX9_splitBy_0 : decode cX9_splitBy 0 = .ok (.aload_n 0, 1) := by decide +kernel
theorem dX9_splitBy_1 : decode cX9_splitBy 1 = .ok (.iconst 2, 1) := by decide +kernel
theorem dX9_splitBy_2 : decode cX9_splitBy 2 = .ok (.invokevirtual 78, 3) := by decide +kernel
theorem dX9_splitBy_5 : decode cX9_splitBy 5 = .ok (.istore_n 2, 1) := by decide +kernel
theorem dX9_splitBy_6 : decode cX9_splitBy 6 = .ok (.aload_n 0, 1) := by decide +kernel
theorem dX9_splitBy_7 : decode cX9_splitBy 7 = .ok (.iconst 3, 1) := by decide +kernel
theorem dX9_splitBy_8 : decode cX9_splitBy 8 = .ok (.invokevirtual 78, 3) := by decide +kernel
theorem dX9_splitBy_11 : decode cX9_splitBy 11 = .ok (.istore_n 3, 1) := by decide +kernel
theorem dX9_splitBy_12 : decode cX9_splitBy 12 = .ok (.aload_n 0, 1) := by decide +kernel
theorem dX9_splitBy_13 : decode cX9_splitBy 13 = .ok (.getfield 7, 3) := by decide +kernel
theorem dX9_splitBy_16 : decode cX9_splitBy 16 = .ok (.bipush 52, 2) := by decide +kernel
theorem dX9_splitBy_18 : decode cX9_splitBy 18 = .ok (.iload_n 1, 1) := by decide +kernel
theorem dX9_splitBy_19 : decode cX9_splitBy 19 = .ok (.iconst 3, 1) := by decide +kernel
theorem dX9_splitBy_20 : decode cX9_splitBy 20 = .ok (.irem, 1) := by decide +kernel
theorem dX9_splitBy_21 : decode cX9_splitBy 21 = .ok (.iconst 1, 1) := by decide +kernel
theorem dX9_splitBy_22 : decode cX9_splitBy 22 = .ok (.isub, 1) := by decide +kernel
theorem dX9_splitBy_23 : decode cX9_splitBy 23 = .ok (.iastore, 1) := by decide +kernel
theorem dX9_splitBy_24 : decode cX9_splitBy 24 = .ok (.aload_n 0, 1) := by decide +kernel
theorem dX9_splitBy_25 : decode cX9_splitBy 25 = .ok (.getfield 7, 3) := by decide +kernel
theorem dX9_splitBy_28 : decode cX9_splitBy 28 = .ok (.bipush 53, 2) := by decide +kernel
theorem dX9_splitBy_30 : decode cX9_splitBy 30 = .ok (.iload_n 1, 1) := by decide +kernel
theorem dX9_splitBy_31 : decode cX9_splitBy 31 = .ok (.iconst 3, 1) := by decide +kernel
theorem dX9_splitBy_32 : decode cX9_splitBy 32 = .ok (.idiv, 1) := by decide +kernel
theorem dX9_splitBy_33 : decode cX9_splitBy 33 = .ok (.iconst 1, 1) := by decide +kernel
theorem dX9_splitBy_34 : decode cX9_splitBy 34 = .ok (.isub, 1) := by decide +kernel
theorem dX9_splitBy_35 : decode cX9_splitBy 35 = .ok (.iastore, 1) := by decide +kernel
theorem dX9_splitBy_36 : decode cX9_splitBy 36 = .ok (.aload_n 0, 1) := by decide +kernel
theorem dX9_splitBy_37 : decode cX9_splitBy 37 = .ok (.aload_n 0, 1) := by decide +kernel
theorem dX9_splitBy_38 : decode cX9_splitBy 38 = .ok (.bipush 8, 2) := by decide +kernel
theorem dX9_splitBy_40 : decode cX9_splitBy 40 = .ok (.invokevirtual 78, 3) := by decide +kernel
theorem dX9_splitBy_43 : decode cX9_splitBy 43 = .ok (.invokevirtual 242, 3) := by decide +kernel
theorem dX9_splitBy_46 : decode cX9_splitBy 46 = .ok (.istore 4, 2) := by decide +kernel
theorem dX9_splitBy_48 : decode cX9_splitBy 48 = .ok (.aload_n 0, 1) := by decide +kernel
theorem dX9_splitBy_49 : decode cX9_splitBy 49 = .ok (.getfield 7, 3) := by decide +kernel
theorem dX9_splitBy_52 : decode cX9_splitBy 52 = .ok (.bipush 52, 2) := by decide +kernel
theorem dX9_splitBy_54 : decode cX9_splitBy 54 = .ok (.iload_n 2, 1) := by decide +kernel
theorem dX9_splitBy_55 : decode cX9_splitBy 55 = .ok (.iastore, 1) := by decide +kernel
theorem dX9_splitBy_56 : decode cX9_splitBy 56 = .ok (.aload_n 0, 1) := by decide +kernel
theorem dX9_splitBy_57 : decode cX9_splitBy 57 = .ok (.getfield 7, 3) := by decide +kernel
theorem dX9_splitBy_60 : decode cX9_splitBy 60 = .ok (.bipush 53, 2) := by decide +kernel
theorem dX9_splitBy_62 : decode cX9_splitBy 62 = .ok (.iload_n 3, 1) := by decide +kernel
theorem dX9_splitBy_63 : decode cX9_splitBy 63 = .ok (.iastore, 1) := by decide +kernel
theorem dX9_splitBy_64 : decode cX9_splitBy 64 = .ok (.iload 4, 2) := by decide +kernel
theorem dX9_splitBy_66 : decode cX9_splitBy 66 = .ok (.ireturn, 1) := by decide +kernel
def pX9_splitBy (x1 : Int32) (M : Mm) : Option (Int32 × Mm) :=
(pX9_of 2 M).bind fun v1 =>
(pX9_of 3 M).bind fun v3 =>
(ast M 1 160 52 ((rmi x1 3) - 1)).bind fun M5 =>
(ast M5 1 160 53 ((x1 / 3) - 1)).bind fun M7 =>
(pX9_of 8 M7).bind fun v9 =>
(pX9_splits v9 M7).bind fun v11 =>
bnd (v11.1) fun v13 =>
(ast v11.2 1 160 52 v1).bind fun M14 =>
(ast M14 1 160 53 v3).bind fun M16 =>
some (v13, M16)
abbrev zX9_splitBy : Zx := (cX9_splitBy, RX9, 5, 4, (some .int))
set_option maxRecDepth 100000 in
set_option maxHeartbeats 4000000 in
theorem tX9_splitBy {l : Launch} {Y : Sx} {M : Mm} {x1 : Int32} {q : Int32 × Mm} (hY : isB Y) (h : pX9_splitBy x1 M = some q) : Ct l Y yX9_splitBy cX9_splitBy 5 (some .int) 4 [.ref (adr Y 0), .int x1] M (some q.1) q.2 := by
  refine Ct.of (by decide) rfl (lv := [(0, .ref (adr Y 0)), (1, .int x1)]) rfl ?_
  intro K hkl C
  change Cx K zX9_splitBy Y at C
  subst hkl
  unfold pX9_splitBy at h
  show Wp K zX9_splitBy Y (Qm K Y (some q.1) q.2) M 0 [(0, .ref (adr Y 0)), (1, .int x1)] []
  refine w_aload_n C (pc := 0) dX9_splitBy_0 0 rfl ?_
  refine w_iconst C (pc := 1) dX9_splitBy_1 (v := 2) (by decide) ?_
  obtain ⟨v1, e2, h⟩ := ob h
  refine w_cVi C (pc := 2) dX9_splitBy_2 my_X9_of mi_X9_of ml_X9_78 (sB_0 hY) rfl rfl rfl [.int 2] rfl rfl (Nat.le_of_ble_eq_true rfl) (tX9_of hY  e2) ?_
  refine w_istore_n C (pc := 5) dX9_splitBy_5 (lv' := [(0, .ref (adr Y 0)), (1, .int x1), (2, .int v1)]) rfl rfl rfl ?_
  refine w_aload_n C (pc := 6) dX9_splitBy_6 0 rfl ?_
  refine w_iconst C (pc := 7) dX9_splitBy_7 (v := 3) (by decide) ?_
  obtain ⟨v3, e4, h⟩ := ob h
  refine w_cVi C (pc := 8) dX9_splitBy_8 my_X9_of mi_X9_of ml_X9_78 (sB_0 hY) rfl rfl rfl [.int 3] rfl rfl (Nat.le_of_ble_eq_true rfl) (tX9_of hY  e4) ?_
  refine w_istore_n C (pc := 11) dX9_splitBy_11 (lv' := [(0, .ref (adr Y 0)), (1, .int x1), (2, .int v1), (3, .int v3)]) rfl rfl rfl ?_
  refine w_aload_n C (pc := 12) dX9_splitBy_12 0 rfl ?_
  refine w_getR C (pc := 13) dX9_splitBy_13 f_X9_7 (sB_0 hY) rfl ?_
  refine w_bipush C (pc := 16) dX9_splitBy_16 (v := 52) (by decide) ?_
  refine w_iload_n C (pc := 18) dX9_splitBy_18 1 rfl ?_
  refine w_iconst C (pc := 19) dX9_splitBy_19 (v := 3) (by decide) ?_
  refine w_irem C (pc := 20) dX9_splitBy_20 (by decide) ?_
  refine w_iconst C (pc := 21) dX9_splitBy_21 (v := 1) (by decide) ?_
  refine w_isub C (pc := 22) dX9_splitBy_22 ?_
  obtain ⟨M5, e6, h⟩ := ob h
  refine w_iast C (pc := 23) dX9_splitBy_23 (sB_1 hY) e6 ?_
  refine w_aload_n C (pc := 24) dX9_splitBy_24 0 rfl ?_
  refine w_getR C (pc := 25) dX9_splitBy_25 f_X9_7 (sB_0 hY) rfl ?_
  refine w_bipush C (pc := 28) dX9_splitBy_28 (v := 53) (by decide) ?_
  refine w_iload_n C (pc := 30) dX9_splitBy_30 1 rfl ?_
  refine w_iconst C (pc := 31) dX9_splitBy_31 (v := 3) (by decide) ?_
  refine w_idiv C (pc := 32) dX9_splitBy_32 (by decide) ?_
  refine w_iconst C (pc := 33) dX9_splitBy_33 (v := 1) (by decide) ?_
  refine w_isub C (pc := 34) dX9_splitBy_34 ?_
  obtain ⟨M7, e8, h⟩ := ob h
  refine w_iast C (pc := 35) dX9_splitBy_35 (sB_1 hY) e8 ?_
  refine w_aload_n C (pc := 36) dX9_splitBy_36 0 rfl ?_
  refine w_aload_n C (pc := 37) dX9_splitBy_37 0 rfl ?_
  refine w_bipush C (pc := 38) dX9_splitBy_38 (v := 8) (by decide) ?_
  obtain ⟨v9, e10, h⟩ := ob h
  refine w_cVi C (pc := 40) dX9_splitBy_40 my_X9_of mi_X9_of ml_X9_78 (sB_0 hY) rfl rfl rfl [.int 8] rfl rfl (Nat.le_of_ble_eq_true rfl) (tX9_of hY  e10) ?_
  obtain ⟨v11, e12, h⟩ := ob h
  refine w_cVi C (pc := 43) dX9_splitBy_43 my_X9_splits mi_X9_splits ml_X9_242 (sB_0 hY) rfl rfl rfl [.int v9] rfl rfl (Nat.le_of_ble_eq_true rfl) (tX9_splits hY  e12) ?_
  refine w_bnd h (fun v13 h => ?_)
  refine w_istore C (pc := 46) dX9_splitBy_46 (lv' := [(0, .ref (adr Y 0)), (1, .int x1), (2, .int v1), (3, .int v3), (4, .int v13)]) rfl rfl rfl ?_
  refine w_aload_n C (pc := 48) dX9_splitBy_48 0 rfl ?_
  refine w_getR C (pc := 49) dX9_splitBy_49 f_X9_7 (sB_0 hY) rfl ?_
  refine w_bipush C (pc := 52) dX9_splitBy_52 (v := 52) (by decide) ?_
  refine w_iload_n C (pc := 54) dX9_splitBy_54 2 rfl ?_
  obtain ⟨M14, e15, h⟩ := ob h
  refine w_iast C (pc := 55) dX9_splitBy_55 (sB_1 hY) e15 ?_
  refine w_aload_n C (pc := 56) dX9_splitBy_56 0 rfl ?_
  refine w_getR C (pc := 57) dX9_splitBy_57 f_X9_7 (sB_0 hY) rfl ?_
  refine w_bipush C (pc := 60) dX9_splitBy_60 (v := 53) (by decide) ?_
  refine w_iload_n C (pc := 62) dX9_splitBy_62 3 rfl ?_
  obtain ⟨M16, e17, h⟩ := ob h
  refine w_iast C (pc := 63) dX9_splitBy_63 (sB_1 hY) e17 ?_
  refine w_iload C (pc := 64) dX9_splitBy_64 4 rfl ?_
  exact w_ret C (pc := 66) dX9_splitBy_66 rfl (Option.some.inj h)
theorem dX9_word_0 : decode cX9_word 0 = .ok (.aload_n 0, 1) := by decide +kernel
theorem dX9_word_1 : decode cX9_word 1 = .ok (.invokevirtual 152, 3) := by decide +kernel
theorem dX9_word_4 : decode cX9_word 4 = .ok (.istore_n 1, 1) := by decide +kernel
theorem dX9_word_5 : decode cX9_word 5 = .ok (.aload_n 0, 1) := by decide +kernel
theorem dX9_word_6 : decode cX9_word 6 = .ok (.aload_n 0, 1) := by decide +kernel
theorem dX9_word_7 : decode cX9_word 7 = .ok (.getfield 143, 3) := by decide +kernel
theorem dX9_word_10 : decode cX9_word 10 = .ok (.putfield 155, 3) := by decide +kernel
theorem dX9_word_13 : decode cX9_word 13 = .ok (.iload_n 1, 1) := by decide +kernel
theorem dX9_word_14 : decode cX9_word 14 = .ok (.bipush 97, 2) := by decide +kernel
theorem dX9_word_16 : decode cX9_word 16 = .ok (.bipush 122, 2) := by decide +kernel
theorem dX9_word_18 : decode cX9_word 18 = .ok (.invokestatic 70, 3) := by decide +kernel
theorem dX9_word_21 : decode cX9_word 21 = .ok (.ifCond .ne 5, 3) := by decide +kernel
theorem dX9_word_24 : decode cX9_word 24 = .ok (.iconst 0, 1) := by decide +kernel
theorem dX9_word_25 : decode cX9_word 25 = .ok (.ireturn, 1) := by decide +kernel
theorem dX9_word_26 : decode cX9_word 26 = .ok (.iconst 0, 1) := by decide +kernel
theorem dX9_word_27 : decode cX9_word 27 = .ok (.istore_n 2, 1) := by decide +kernel
theorem dX9_word_28 : decode cX9_word 28 = .ok (.aload_n 0, 1) := by decide +kernel
theorem dX9_word_29 : decode cX9_word 29 = .ok (.getfield 143, 3) := by decide +kernel
theorem dX9_word_32 : decode cX9_word 32 = .ok (.aload_n 0, 1) := by decide +kernel
theorem dX9_word_33 : decode cX9_word 33 = .ok (.getfield 146, 3) := by decide +kernel
theorem dX9_word_36 : decode cX9_word 36 = .ok (.if_icmp .ge 71, 3) := by decide +kernel
theorem dX9_word_39 : decode cX9_word 39 = .ok (.aload_n 0, 1) := by decide +kernel
theorem dX9_word_40 : decode cX9_word 40 = .ok (.getfield 16, 3) := by decide +kernel
theorem dX9_word_43 : decode cX9_word 43 = .ok (.aload_n 0, 1) := by decide +kernel
theorem dX9_word_44 : decode cX9_word 44 = .ok (.getfield 143, 3) := by decide +kernel
theorem dX9_word_47 : decode cX9_word 47 = .ok (.baload, 1) := by decide +kernel
theorem dX9_word_48 : decode cX9_word 48 = .ok (.bipush 97, 2) := by decide +kernel
theorem dX9_word_50 : decode cX9_word 50 = .ok (.bipush 122, 2) := by decide +kernel
theorem dX9_word_52 : decode cX9_word 52 = .ok (.invokestatic 70, 3) := by decide +kernel
theorem dX9_word_55 : decode cX9_word 55 = .ok (.ifCond .eq 52, 3) := by decide +kernel
theorem dX9_word_58 : decode cX9_word 58 = .ok (.aload_n 0, 1) := by decide +kernel
theorem dX9_word_59 : decode cX9_word 59 = .ok (.getfield 143, 3) := by decide +kernel
theorem dX9_word_62 : decode cX9_word 62 = .ok (.aload_n 0, 1) := by decide +kernel
theorem dX9_word_63 : decode cX9_word 63 = .ok (.getfield 155, 3) := by decide +kernel
theorem dX9_word_66 : decode cX9_word 66 = .ok (.isub, 1) := by decide +kernel
theorem dX9_word_67 : decode cX9_word 67 = .ok (.bipush 6, 2) := by decide +kernel
theorem dX9_word_69 : decode cX9_word 69 = .ok (.if_icmp .ge 23, 3) := by decide +kernel
theorem dX9_word_72 : decode cX9_word 72 = .ok (.bipush 32, 2) := by decide +kernel
theorem dX9_word_74 : decode cX9_word 74 = .ok (.iload_n 2, 1) := by decide +kernel
theorem dX9_word_75 : decode cX9_word 75 = .ok (.imul, 1) := by decide +kernel
theorem dX9_word_76 : decode cX9_word 76 = .ok (.aload_n 0, 1) := by decide +kernel
theorem dX9_word_77 : decode cX9_word 77 = .ok (.getfield 16, 3) := by decide +kernel
theorem dX9_word_80 : decode cX9_word 80 = .ok (.aload_n 0, 1) := by decide +kernel
theorem dX9_word_81 : decode cX9_word 81 = .ok (.getfield 143, 3) := by decide +kernel
theorem dX9_word_84 : decode cX9_word 84 = .ok (.baload, 1) := by decide +kernel
theorem dX9_word_85 : decode cX9_word 85 = .ok (.iadd, 1) := by decide +kernel
theorem dX9_word_86 : decode cX9_word 86 = .ok (.bipush 96, 2) := by decide +kernel
theorem dX9_word_88 : decode cX9_word 88 = .ok (.isub, 1) := by decide +kernel
theorem dX9_word_89 : decode cX9_word 89 = .ok (.goto 4, 3) := by decide +kernel
theorem dX9_word_92 : decode cX9_word 92 = .ok (.iconst 0, 1) := by decide +kernel
theorem dX9_word_93 : decode cX9_word 93 = .ok (.istore_n 2, 1) := by decide +kernel
theorem dX9_word_94 : decode cX9_word 94 = .ok (.aload_n 0, 1) := by decide +kernel
theorem dX9_word_95 : decode cX9_word 95 = .ok (.dup, 1) := by decide +kernel
theorem dX9_word_96 : decode cX9_word 96 = .ok (.getfield 143, 3) := by decide +kernel
theorem dX9_word_99 : decode cX9_word 99 = .ok (.iconst 1, 1) := by decide +kernel
theorem dX9_word_100 : decode cX9_word 100 = .ok (.iadd, 1) := by decide +kernel
theorem dX9_word_101 : decode cX9_word 101 = .ok (.putfield 143, 3) := by decide +kernel
theorem dX9_word_104 : decode cX9_word 104 = .ok (.goto (-76), 3) := by decide +kernel
theorem dX9_word_107 : decode cX9_word 107 = .ok (.iload_n 2, 1) := by decide +kernel
theorem dX9_word_108 : decode cX9_word 108 = .ok (.ireturn, 1) := by decide +kernel
def pX9_word_L28 (s : Int32 × Mm) : Option ((Int32 × Mm) ⊕ (Int32 × Mm)) :=
if (s.2 0 6) ≤ (s.2 0 7) then
(some (Sum.inr (s.1, s.2)))
else
((ald s.2 3 300 (s.2 0 7)).bind fun v6 =>
if (pX9_isIn v6 97 122) = 0 then
(some (Sum.inr (s.1, s.2)))
else
(if 6 ≤ ((s.2 0 7) - (s.2 0 8)) then
(bnd (mset s.2 0 7 ((s.2 0 7) + 1)) fun M8 =>
some (Sum.inl (0, M8)))
else
((ald s.2 3 300 (s.2 0 7)).bind fun v10 =>
bnd (((32 * s.1) + v10) - 96) fun v12 =>
bnd (mset s.2 0 7 ((s.2 0 7) + 1)) fun M13 =>
some (Sum.inl (v12, M13)))))
def pX9_word (M : Mm) : Option (Int32 × Mm) :=
(pX9_here M).bind fun v1 =>
bnd (v1.1) fun v3 =>
bnd (mset v1.2 0 8 (v1.2 0 7)) fun M4 =>
if (pX9_isIn v3 97 122) = 0 then
(some (0, M4))
else
((itr (pX9_word_L28) fuel (0, M4)).bind fun x15 =>
some (x15.1, x15.2))
abbrev zX9_word : Zx := (cX9_word, RX9, 3, 1, (some .int))
set_option maxRecDepth 100000 in
set_option maxHeartbeats 4000000 in
theorem tX9_word {l : Launch} {Y : Sx} {M : Mm} {q : Int32 × Mm} (hY : isB Y) (h : pX9_word M = some q) : Ct l Y yX9_word cX9_word 3 (some .int) 1 [.ref (adr Y 0)] M (some q.1) q.2 := by
  refine Ct.of (by decide) rfl (lv := [(0, .ref (adr Y 0))]) rfl ?_
  intro K hkl C
  change Cx K zX9_word Y at C
  subst hkl
  unfold pX9_word at h
  show Wp K zX9_word Y (Qm K Y (some q.1) q.2) M 0 [(0, .ref (adr Y 0))] []
  refine w_aload_n C (pc := 0) dX9_word_0 0 rfl ?_
  obtain ⟨v1, e2, h⟩ := ob h
  refine w_cVi C (pc := 1) dX9_word_1 my_X9_here mi_X9_here ml_X9_152 (sB_0 hY) rfl rfl rfl [] rfl rfl (Nat.le_of_ble_eq_true rfl) (tX9_here hY  e2) ?_
  refine w_bnd h (fun v3 h => ?_)
  refine w_istore_n C (pc := 4) dX9_word_4 (lv' := [(0, .ref (adr Y 0)), (1, .int v3)]) rfl rfl rfl ?_
  refine w_aload_n C (pc := 5) dX9_word_5 0 rfl ?_
  refine w_aload_n C (pc := 6) dX9_word_6 0 rfl ?_
  refine w_getI C (pc := 7) dX9_word_7 f_X9_143 (sB_0 hY) rfl ?_
  obtain ⟨M4, e5, h⟩ := bn h
  refine w_putI C (pc := 10) dX9_word_10 fp_X9_155 (sB_0 hY) rfl ?_
  rw [e5]
  refine w_iload_n C (pc := 13) dX9_word_13 1 rfl ?_
  refine w_bipush C (pc := 14) dX9_word_14 (v := 97) (by decide) ?_
  refine w_bipush C (pc := 16) dX9_word_16 (v := 122) (by decide) ?_
  refine w_cSi C (pc := 18) dX9_word_18 my_X9_isIn ms_X9_isIn ml_X9_70 rfl rfl [.int v3, .int 97, .int 122] rfl rfl (Nat.le_of_ble_eq_true rfl) (tX9_isIn  rfl) ?_
  refine w_ifne C (pc := 21) 26 dX9_word_21 (by decide) (fun c => ?_) (fun c => ?_)
  · have h := it_t h c
    refine w_iconst C (pc := 24) dX9_word_24 (v := 0) (by decide) ?_
    exact w_ret C (pc := 25) dX9_word_25 rfl (Option.some.inj h)
  · have h := it_f h c
    refine w_iconst C (pc := 26) dX9_word_26 (v := 0) (by decide) ?_
    refine w_istore_n C (pc := 27) dX9_word_27 (lv' := [(0, .ref (adr Y 0)), (1, .int v3), (2, .int 0)]) rfl rfl rfl ?_
    obtain ⟨x15, e16, h⟩ := ob h
    refine itr_W (P := fun s17 => Wp K zX9_word Y (Qm K Y (some q.1) q.2) s17.2 28 [(0, .ref (adr Y 0)), (1, .int v3), (2, .int s17.1)] []) (R := fun x15 => Wp K zX9_word Y (Qm K Y (some q.1) q.2) x15.2 107 [(0, .ref (adr Y 0)), (1, .int v3), (2, .int x15.1)] []) ?_ fuel (0, M4) x15 e16 ?_
    · intro s17 r18 h21 ki19 kx20
      unfold pX9_word_L28 at h21
      show Wp K zX9_word Y (Qm K Y (some q.1) q.2) s17.2 28 [(0, .ref (adr Y 0)), (1, .int v3), (2, .int s17.1)] []
      refine w_aload_n C (pc := 28) dX9_word_28 0 rfl ?_
      refine w_getI C (pc := 29) dX9_word_29 f_X9_143 (sB_0 hY) rfl ?_
      refine w_aload_n C (pc := 32) dX9_word_32 0 rfl ?_
      refine w_getI C (pc := 33) dX9_word_33 f_X9_146 (sB_0 hY) rfl ?_
      refine w_icge C (pc := 36) 107 dX9_word_36 (by decide) (fun c => ?_) (fun c => ?_)
      · have h21 := it_t h21 c
        obtain rfl := Option.some.inj h21
        have k9 := kx20 (s17.1, s17.2) rfl
        try dsimp only at k9
        exact k9
      · have h21 := it_f h21 c
        refine w_aload_n C (pc := 39) dX9_word_39 0 rfl ?_
        refine w_getR C (pc := 40) dX9_word_40 f_X9_16 (sB_0 hY) rfl ?_
        refine w_aload_n C (pc := 43) dX9_word_43 0 rfl ?_
        refine w_getI C (pc := 44) dX9_word_44 f_X9_143 (sB_0 hY) rfl ?_
        obtain ⟨v22, e23, h21⟩ := ob h21
        refine w_bald C (pc := 47) dX9_word_47 (sB_3 hY) e23 ?_
        refine w_bipush C (pc := 48) dX9_word_48 (v := 97) (by decide) ?_
        refine w_bipush C (pc := 50) dX9_word_50 (v := 122) (by decide) ?_
        refine w_cSi C (pc := 52) dX9_word_52 my_X9_isIn ms_X9_isIn ml_X9_70 rfl rfl [.int v22, .int 97, .int 122] rfl rfl (Nat.le_of_ble_eq_true rfl) (tX9_isIn  rfl) ?_
        refine w_ifeq C (pc := 55) 107 dX9_word_55 (by decide) (fun c => ?_) (fun c => ?_)
        · have h21 := it_t h21 c
          obtain rfl := Option.some.inj h21
          have k9 := kx20 (s17.1, s17.2) rfl
          try dsimp only at k9
          exact k9
        · have h21 := it_f h21 c
          refine w_aload_n C (pc := 58) dX9_word_58 0 rfl ?_
          refine w_getI C (pc := 59) dX9_word_59 f_X9_143 (sB_0 hY) rfl ?_
          refine w_aload_n C (pc := 62) dX9_word_62 0 rfl ?_
          refine w_getI C (pc := 63) dX9_word_63 f_X9_155 (sB_0 hY) rfl ?_
          refine w_isub C (pc := 66) dX9_word_66 ?_
          refine w_bipush C (pc := 67) dX9_word_67 (v := 6) (by decide) ?_
          refine w_icge C (pc := 69) 92 dX9_word_69 (by decide) (fun c => ?_) (fun c => ?_)
          · have h21 := it_t h21 c
            refine w_iconst C (pc := 92) dX9_word_92 (v := 0) (by decide) ?_
            refine w_istore_n C (pc := 93) dX9_word_93 (lv' := [(0, .ref (adr Y 0)), (1, .int v3), (2, .int 0)]) rfl rfl rfl ?_
            refine w_aload_n C (pc := 94) dX9_word_94 0 rfl ?_
            refine w_dup C (pc := 95) dX9_word_95 rfl ?_
            refine w_getI C (pc := 96) dX9_word_96 f_X9_143 (sB_0 hY) rfl ?_
            refine w_iconst C (pc := 99) dX9_word_99 (v := 1) (by decide) ?_
            refine w_iadd C (pc := 100) dX9_word_100 ?_
            obtain ⟨M24, e25, h21⟩ := bn h21
            refine w_putI C (pc := 101) dX9_word_101 fp_X9_143 (sB_0 hY) rfl ?_
            rw [e25]
            refine w_goto C (pc := 104) 28 dX9_word_104 (by decide) ?_
            obtain rfl := Option.some.inj h21
            have k9 := ki19 (0, M24) rfl
            try dsimp only at k9
            exact k9
          · have h21 := it_f h21 c
            refine w_bipush C (pc := 72) dX9_word_72 (v := 32) (by decide) ?_
            refine w_iload_n C (pc := 74) dX9_word_74 2 rfl ?_
            refine w_imul C (pc := 75) dX9_word_75 ?_
            refine w_aload_n C (pc := 76) dX9_word_76 0 rfl ?_
            refine w_getR C (pc := 77) dX9_word_77 f_X9_16 (sB_0 hY) rfl ?_
            refine w_aload_n C (pc := 80) dX9_word_80 0 rfl ?_
            refine w_getI C (pc := 81) dX9_word_81 f_X9_143 (sB_0 hY) rfl ?_
            obtain ⟨v26, e27, h21⟩ := ob h21
            refine w_bald C (pc := 84) dX9_word_84 (sB_3 hY) e27 ?_
            refine w_iadd C (pc := 85) dX9_word_85 ?_
            refine w_bipush C (pc := 86) dX9_word_86 (v := 96) (by decide) ?_
            refine w_isub C (pc := 88) dX9_word_88 ?_
            refine w_goto C (pc := 89) 93 dX9_word_89 (by decide) ?_
            refine w_bnd h21 (fun v28 h21 => ?_)
            refine w_istore_n C (pc := 93) dX9_word_93 (lv' := [(0, .ref (adr Y 0)), (1, .int v3), (2, .int v28)]) rfl rfl rfl ?_
            refine w_aload_n C (pc := 94) dX9_word_94 0 rfl ?_
            refine w_dup C (pc := 95) dX9_word_95 rfl ?_
            refine w_getI C (pc := 96) dX9_word_96 f_X9_143 (sB_0 hY) rfl ?_
            refine w_iconst C (pc := 99) dX9_word_99 (v := 1) (by decide) ?_
            refine w_iadd C (pc := 100) dX9_word_100 ?_
            obtain ⟨M29, e30, h21⟩ := bn h21
            refine w_putI C (pc := 101) dX9_word_101 fp_X9_143 (sB_0 hY) rfl ?_
            rw [e30]
            refine w_goto C (pc := 104) 28 dX9_word_104 (by decide) ?_
            obtain rfl := Option.some.inj h21
            have k9 := ki19 (v28, M29) rfl
            try dsimp only at k9
            exact k9
    · refine w_iload_n C (pc := 107) dX9_word_107 2 rfl ?_
      exact w_ret C (pc := 108) dX9_word_108 rfl (Option.some.inj h)
theorem dX9_statement_0 : decode cX9_statement 0 = .ok (.aload_n 0, 1) := by decide +kernel
theorem dX9_statement_1 : decode cX9_statement 1 = .ok (.invokevirtual 168, 3) := by decide +kernel
theorem dX9_statement_4 : decode cX9_statement 4 = .ok (.istore_n 1, 1) := by decide +kernel
theorem dX9_statement_5 : decode cX9_statement 5 = .ok (.iload_n 1, 1) := by decide +kernel
theorem dX9_statement_6 : decode cX9_statement 6 = .ok (.iconst 4, 1) := by decide +kernel
theorem dX9_statement_7 : decode cX9_statement 7 = .ok (.iconst 5, 1) := by decide +kernel
theorem dX9_statement_8 : decode cX9_statement 8 = .ok (.bipush 16, 2) := by decide +kernel
theorem dX9_statement_10 : decode cX9_statement 10 = .ok (.invokestatic 171, 3) := by decide +kernel
theorem dX9_statement_13 : decode cX9_statement 13 = .ok (.bipush 32, 2) := by decide +kernel
theorem dX9_statement_15 : decode cX9_statement 15 = .ok (.imul, 1) := by decide +kernel
theorem dX9_statement_16 : decode cX9_statement 16 = .ok (.bipush 15, 2) := by decide +kernel
theorem dX9_statement_18 : decode cX9_statement 18 = .ok (.iadd, 1) := by decide +kernel
theorem dX9_statement_19 : decode cX9_statement 19 = .ok (.bipush 32, 2) := by decide +kernel
theorem dX9_statement_21 : decode cX9_statement 21 = .ok (.imul, 1) := by decide +kernel
theorem dX9_statement_22 : decode cX9_statement 22 = .ok (.bipush 20, 2) := by decide +kernel
theorem dX9_statement_24 : decode cX9_statement 24 = .ok (.iadd, 1) := by decide +kernel
theorem dX9_statement_25 : decode cX9_statement 25 = .ok (.if_icmp .ne 40, 3) := by decide +kernel
theorem dX9_statement_28 : decode cX9_statement 28 = .ok (.aload_n 0, 1) := by decide +kernel
theorem dX9_statement_29 : decode cX9_statement 29 = .ok (.iconst 0, 1) := by decide +kernel
theorem dX9_statement_30 : decode cX9_statement 30 = .ok (.invokevirtual 175, 3) := by decide +kernel
theorem dX9_statement_33 : decode cX9_statement 33 = .ok (.istore_n 2, 1) := by decide +kernel
theorem dX9_statement_34 : decode cX9_statement 34 = .ok (.aload_n 0, 1) := by decide +kernel
theorem dX9_statement_35 : decode cX9_statement 35 = .ok (.iconst 1, 1) := by decide +kernel
theorem dX9_statement_36 : decode cX9_statement 36 = .ok (.invokevirtual 175, 3) := by decide +kernel
theorem dX9_statement_39 : decode cX9_statement 39 = .ok (.istore_n 3, 1) := by decide +kernel
theorem dX9_statement_40 : decode cX9_statement 40 = .ok (.aload_n 0, 1) := by decide +kernel
theorem dX9_statement_41 : decode cX9_statement 41 = .ok (.getfield 149, 3) := by decide +kernel
theorem dX9_statement_44 : decode cX9_statement 44 = .ok (.ifCond .eq 4, 3) := by decide +kernel
theorem dX9_statement_47 : decode cX9_statement 47 = .ok (.return_, 1) := by decide +kernel
theorem dX9_statement_48 : decode cX9_statement 48 = .ok (.aload_n 0, 1) := by decide +kernel
theorem dX9_statement_49 : decode cX9_statement 49 = .ok (.getfield 7, 3) := by decide +kernel
theorem dX9_statement_52 : decode cX9_statement 52 = .ok (.iconst 1, 1) := by decide +kernel
theorem dX9_statement_53 : decode cX9_statement 53 = .ok (.iload_n 2, 1) := by decide +kernel
theorem dX9_statement_54 : decode cX9_statement 54 = .ok (.iastore, 1) := by decide +kernel
theorem dX9_statement_55 : decode cX9_statement 55 = .ok (.aload_n 0, 1) := by decide +kernel
theorem dX9_statement_56 : decode cX9_statement 56 = .ok (.getfield 7, 3) := by decide +kernel
theorem dX9_statement_59 : decode cX9_statement 59 = .ok (.iconst 2, 1) := by decide +kernel
theorem dX9_statement_60 : decode cX9_statement 60 = .ok (.iload_n 3, 1) := by decide +kernel
theorem dX9_statement_61 : decode cX9_statement 61 = .ok (.iastore, 1) := by decide +kernel
theorem dX9_statement_62 : decode cX9_statement 62 = .ok (.goto 292, 3) := by decide +kernel
theorem dX9_statement_65 : decode cX9_statement 65 = .ok (.iload_n 1, 1) := by decide +kernel
theorem dX9_statement_66 : decode cX9_statement 66 = .ok (.iconst 0, 1) := by decide +kernel
theorem dX9_statement_67 : decode cX9_statement 67 = .ok (.bipush 20, 2) := by decide +kernel
theorem dX9_statement_69 : decode cX9_statement 69 = .ok (.bipush 15, 2) := by decide +kernel
theorem dX9_statement_71 : decode cX9_statement 71 = .ok (.invokestatic 171, 3) := by decide +kernel
theorem dX9_statement_74 : decode cX9_statement 74 = .ok (.if_icmp .ne 76, 3) := by decide +kernel
theorem dX9_statement_77 : decode cX9_statement 77 = .ok (.aload_n 0, 1) := by decide +kernel
theorem dX9_statement_78 : decode cX9_statement 78 = .ok (.invokevirtual 74, 3) := by decide +kernel
theorem dX9_statement_81 : decode cX9_statement 81 = .ok (.bipush 8, 2) := by decide +kernel
theorem dX9_statement_83 : decode cX9_statement 83 = .ok (.if_icmp .ne 12, 3) := by decide +kernel
theorem dX9_statement_86 : decode cX9_statement 86 = .ok (.aload_n 0, 1) := by decide +kernel
theorem dX9_statement_87 : decode cX9_statement 87 = .ok (.iconst 3, 1) := by decide +kernel
theorem dX9_statement_88 : decode cX9_statement 88 = .ok (.aload_n 0, 1) := by decide +kernel
theorem dX9_statement_89 : decode cX9_statement 89 = .ok (.getfield 155, 3) := by decide +kernel
theorem dX9_statement_92 : decode cX9_statement 92 = .ok (.invokevirtual 161, 3) := by decide +kernel
theorem dX9_statement_95 : decode cX9_statement 95 = .ok (.aload_n 0, 1) := by decide +kernel
theorem dX9_statement_96 : decode cX9_statement 96 = .ok (.iconst 0, 1) := by decide +kernel
theorem dX9_statement_97 : decode cX9_statement 97 = .ok (.invokevirtual 175, 3) := by decide +kernel
theorem dX9_statement_100 : decode cX9_statement 100 = .ok (.istore_n 2, 1) := by decide +kernel
theorem dX9_statement_101 : decode cX9_statement 101 = .ok (.aload_n 0, 1) := by decide +kernel
theorem dX9_statement_102 : decode cX9_statement 102 = .ok (.iconst 1, 1) := by decide +kernel
theorem dX9_statement_103 : decode cX9_statement 103 = .ok (.invokevirtual 175, 3) := by decide +kernel
theorem dX9_statement_106 : decode cX9_statement 106 = .ok (.istore_n 3, 1) := by decide +kernel
theorem dX9_statement_107 : decode cX9_statement 107 = .ok (.aload_n 0, 1) := by decide +kernel
theorem dX9_statement_108 : decode cX9_statement 108 = .ok (.iconst 2, 1) := by decide +kernel
theorem dX9_statement_109 : decode cX9_statement 109 = .ok (.invokevirtual 175, 3) := by decide +kernel
theorem dX9_statement_112 : decode cX9_statement 112 = .ok (.istore 4, 2) := by decide +kernel
theorem dX9_statement_114 : decode cX9_statement 114 = .ok (.aload_n 0, 1) := by decide +kernel
theorem dX9_statement_115 : decode cX9_statement 115 = .ok (.iconst 3, 1) := by decide +kernel
theorem dX9_statement_116 : decode cX9_statement 116 = .ok (.invokevirtual 175, 3) := by decide +kernel
theorem dX9_statement_119 : decode cX9_statement 119 = .ok (.istore 5, 2) := by decide +kernel
theorem dX9_statement_121 : decode cX9_statement 121 = .ok (.aload_n 0, 1) := by decide +kernel
theorem dX9_statement_122 : decode cX9_statement 122 = .ok (.iconst 4, 1) := by decide +kernel
theorem dX9_statement_123 : decode cX9_statement 123 = .ok (.invokevirtual 175, 3) := by decide +kernel
theorem dX9_statement_126 : decode cX9_statement 126 = .ok (.istore 6, 2) := by decide +kernel
theorem dX9_statement_128 : decode cX9_statement 128 = .ok (.aload_n 0, 1) := by decide +kernel
theorem dX9_statement_129 : decode cX9_statement 129 = .ok (.getfield 149, 3) := by decide +kernel
theorem dX9_statement_132 : decode cX9_statement 132 = .ok (.ifCond .ne 15, 3) := by decide +kernel
theorem dX9_statement_135 : decode cX9_statement 135 = .ok (.aload_n 0, 1) := by decide +kernel
theorem dX9_statement_136 : decode cX9_statement 136 = .ok (.iload_n 2, 1) := by decide +kernel
theorem dX9_statement_137 : decode cX9_statement 137 = .ok (.iload_n 3, 1) := by decide +kernel
theorem dX9_statement_138 : decode cX9_statement 138 = .ok (.iload 4, 2) := by decide +kernel
theorem dX9_statement_140 : decode cX9_statement 140 = .ok (.iload 5, 2) := by decide +kernel
theorem dX9_statement_142 : decode cX9_statement 142 = .ok (.iload 6, 2) := by decide +kernel
theorem dX9_statement_144 : decode cX9_statement 144 = .ok (.invokevirtual 93, 3) := by decide +kernel
theorem dX9_statement_147 : decode cX9_statement 147 = .ok (.goto 207, 3) := by decide +kernel
theorem dX9_statement_150 : decode cX9_statement 150 = .ok (.iload_n 1, 1) := by decide +kernel
theorem dX9_statement_151 : decode cX9_statement 151 = .ok (.bipush 19, 2) := by decide +kernel
theorem dX9_statement_153 : decode cX9_statement 153 = .ok (.iconst 5, 1) := by decide +kernel
theorem dX9_statement_154 : decode cX9_statement 154 = .ok (.bipush 20, 2) := by decide +kernel
theorem dX9_statement_156 : decode cX9_statement 156 = .ok (.invokestatic 171, 3) := by decide +kernel
theorem dX9_statement_159 : decode cX9_statement 159 = .ok (.if_icmp .ne 60, 3) := by decide +kernel
theorem dX9_statement_162 : decode cX9_statement 162 = .ok (.aload_n 0, 1) := by decide +kernel
theorem dX9_statement_163 : decode cX9_statement 163 = .ok (.iconst 0, 1) := by decide +kernel
theorem dX9_statement_164 : decode cX9_statement 164 = .ok (.bipush 9, 2) := by decide +kernel
theorem dX9_statement_166 : decode cX9_statement 166 = .ok (.invokevirtual 178, 3) := by decide +kernel
theorem dX9_statement_169 : decode cX9_statement 169 = .ok (.istore_n 2, 1) := by decide +kernel
theorem dX9_statement_170 : decode cX9_statement 170 = .ok (.aload_n 0, 1) := by decide +kernel
theorem dX9_statement_171 : decode cX9_statement 171 = .ok (.invokevirtual 165, 3) := by decide +kernel
theorem dX9_statement_174 : decode cX9_statement 174 = .ok (.istore_n 3, 1) := by decide +kernel
theorem dX9_statement_175 : decode cX9_statement 175 = .ok (.aload_n 0, 1) := by decide +kernel
theorem dX9_statement_176 : decode cX9_statement 176 = .ok (.getfield 149, 3) := by decide +kernel
theorem dX9_statement_179 : decode cX9_statement 179 = .ok (.ifCond .ne 20, 3) := by decide +kernel
theorem dX9_statement_182 : decode cX9_statement 182 = .ok (.iload_n 2, 1) := by decide +kernel
theorem dX9_statement_183 : decode cX9_statement 183 = .ok (.iload_n 3, 1) := by decide +kernel
theorem dX9_statement_184 : decode cX9_statement 184 = .ok (.invokestatic 100, 3) := by decide +kernel
theorem dX9_statement_187 : decode cX9_statement 187 = .ok (.ifCond .ne 12, 3) := by decide +kernel
theorem dX9_statement_190 : decode cX9_statement 190 = .ok (.aload_n 0, 1) := by decide +kernel
theorem dX9_statement_191 : decode cX9_statement 191 = .ok (.iconst 2, 1) := by decide +kernel
theorem dX9_statement_192 : decode cX9_statement 192 = .ok (.aload_n 0, 1) := by decide +kernel
theorem dX9_statement_193 : decode cX9_statement 193 = .ok (.getfield 155, 3) := by decide +kernel
theorem dX9_statement_196 : decode cX9_statement 196 = .ok (.invokevirtual 161, 3) := by decide +kernel
theorem dX9_statement_199 : decode cX9_statement 199 = .ok (.aload_n 0, 1) := by decide +kernel
theorem dX9_statement_200 : decode cX9_statement 200 = .ok (.getfield 149, 3) := by decide +kernel
theorem dX9_statement_203 : decode cX9_statement 203 = .ok (.ifCond .ne 13, 3) := by decide +kernel
theorem dX9_statement_206 : decode cX9_statement 206 = .ok (.aload_n 0, 1) := by decide +kernel
theorem dX9_statement_207 : decode cX9_statement 207 = .ok (.getfield 7, 3) := by decide +kernel
theorem dX9_statement_210 : decode cX9_statement 210 = .ok (.bipush 50, 2) := by decide +kernel
theorem dX9_statement_212 : decode cX9_statement 212 = .ok (.iload_n 2, 1) := by decide +kernel
theorem dX9_statement_213 : decode cX9_statement 213 = .ok (.iadd, 1) := by decide +kernel
theorem dX9_statement_214 : decode cX9_statement 214 = .ok (.iload_n 3, 1) := by decide +kernel
theorem dX9_statement_215 : decode cX9_statement 215 = .ok (.iastore, 1) := by decide +kernel
theorem dX9_statement_216 : decode cX9_statement 216 = .ok (.goto 138, 3) := by decide +kernel
theorem dX9_statement_219 : decode cX9_statement 219 = .ok (.iload_n 1, 1) := by decide +kernel
theorem dX9_statement_220 : decode cX9_statement 220 = .ok (.bipush 18, 2) := by decide +kernel
theorem dX9_statement_222 : decode cX9_statement 222 = .ok (.bipush 15, 2) := by decide +kernel
theorem dX9_statement_224 : decode cX9_statement 224 = .ok (.bipush 23, 2) := by decide +kernel
theorem dX9_statement_226 : decode cX9_statement 226 = .ok (.invokestatic 171, 3) := by decide +kernel
theorem dX9_statement_229 : decode cX9_statement 229 = .ok (.if_icmp .ne 30, 3) := by decide +kernel
theorem dX9_statement_232 : decode cX9_statement 232 = .ok (.aload_n 0, 1) := by decide +kernel
theorem dX9_statement_233 : decode cX9_statement 233 = .ok (.invokevirtual 97, 3) := by decide +kernel
theorem dX9_statement_236 : decode cX9_statement 236 = .ok (.aload_n 0, 1) := by decide +kernel
theorem dX9_statement_237 : decode cX9_statement 237 = .ok (.getfield 149, 3) := by decide +kernel
theorem dX9_statement_240 : decode cX9_statement 240 = .ok (.ifCond .ne 114, 3) := by decide +kernel
theorem dX9_statement_243 : decode cX9_statement 243 = .ok (.aload_n 0, 1) := by decide +kernel
theorem dX9_statement_244 : decode cX9_statement 244 = .ok (.invokevirtual 152, 3) := by decide +kernel
theorem dX9_statement_247 : decode cX9_statement 247 = .ok (.bipush 59, 2) := by decide +kernel
theorem dX9_statement_249 : decode cX9_statement 249 = .ok (.if_icmp .eq 105, 3) := by decide +kernel
theorem dX9_statement_252 : decode cX9_statement 252 = .ok (.aload_n 0, 1) := by decide +kernel
theorem dX9_statement_253 : decode cX9_statement 253 = .ok (.invokevirtual 181, 3) := by decide +kernel
theorem dX9_statement_256 : decode cX9_statement 256 = .ok (.goto (-20), 3) := by decide +kernel
theorem dX9_statement_259 : decode cX9_statement 259 = .ok (.iload_n 1, 1) := by decide +kernel
theorem dX9_statement_260 : decode cX9_statement 260 = .ok (.bipush 6, 2) := by decide +kernel
theorem dX9_statement_262 : decode cX9_statement 262 = .ok (.bipush 12, 2) := by decide +kernel
theorem dX9_statement_264 : decode cX9_statement 264 = .ok (.bipush 25, 2) := by decide +kernel
theorem dX9_statement_266 : decode cX9_statement 266 = .ok (.invokestatic 171, 3) := by decide +kernel
theorem dX9_statement_269 : decode cX9_statement 269 = .ok (.if_icmp .ne 76, 3) := by decide +kernel
theorem dX9_statement_272 : decode cX9_statement 272 = .ok (.aload_n 0, 1) := by decide +kernel
theorem dX9_statement_273 : decode cX9_statement 273 = .ok (.invokevirtual 118, 3) := by decide +kernel
theorem dX9_statement_276 : decode cX9_statement 276 = .ok (.bipush 8, 2) := by decide +kernel
theorem dX9_statement_278 : decode cX9_statement 278 = .ok (.if_icmp .ne 12, 3) := by decide +kernel
theorem dX9_statement_281 : decode cX9_statement 281 = .ok (.aload_n 0, 1) := by decide +kernel
theorem dX9_statement_282 : decode cX9_statement 282 = .ok (.iconst 3, 1) := by decide +kernel
theorem dX9_statement_283 : decode cX9_statement 283 = .ok (.aload_n 0, 1) := by decide +kernel
theorem dX9_statement_284 : decode cX9_statement 284 = .ok (.getfield 155, 3) := by decide +kernel
theorem dX9_statement_287 : decode cX9_statement 287 = .ok (.invokevirtual 161, 3) := by decide +kernel
theorem dX9_statement_290 : decode cX9_statement 290 = .ok (.aload_n 0, 1) := by decide +kernel
theorem dX9_statement_291 : decode cX9_statement 291 = .ok (.iconst 0, 1) := by decide +kernel
theorem dX9_statement_292 : decode cX9_statement 292 = .ok (.iconst 1, 1) := by decide +kernel
theorem dX9_statement_293 : decode cX9_statement 293 = .ok (.invokevirtual 178, 3) := by decide +kernel
theorem dX9_statement_296 : decode cX9_statement 296 = .ok (.istore_n 2, 1) := by decide +kernel
theorem dX9_statement_297 : decode cX9_statement 297 = .ok (.aload_n 0, 1) := by decide +kernel
theorem dX9_statement_298 : decode cX9_statement 298 = .ok (.iconst 0, 1) := by decide +kernel
theorem dX9_statement_299 : decode cX9_statement 299 = .ok (.bipush 9, 2) := by decide +kernel
theorem dX9_statement_301 : decode cX9_statement 301 = .ok (.invokevirtual 178, 3) := by decide +kernel
theorem dX9_statement_304 : decode cX9_statement 304 = .ok (.istore_n 3, 1) := by decide +kernel
theorem dX9_statement_305 : decode cX9_statement 305 = .ok (.aload_n 0, 1) := by decide +kernel
theorem dX9_statement_306 : decode cX9_statement 306 = .ok (.iconst 1, 1) := by decide +kernel
theorem dX9_statement_307 : decode cX9_statement 307 = .ok (.aload_n 0, 1) := by decide +kernel
theorem dX9_statement_308 : decode cX9_statement 308 = .ok (.invokevirtual 74, 3) := by decide +kernel
theorem dX9_statement_311 : decode cX9_statement 311 = .ok (.invokevirtual 178, 3) := by decide +kernel
theorem dX9_statement_314 : decode cX9_statement 314 = .ok (.istore 4, 2) := by decide +kernel
theorem dX9_statement_316 : decode cX9_statement 316 = .ok (.aload_n 0, 1) := by decide +kernel
theorem dX9_statement_317 : decode cX9_statement 317 = .ok (.iconst 0, 1) := by decide +kernel
theorem dX9_statement_318 : decode cX9_statement 318 = .ok (.bipush 9, 2) := by decide +kernel
theorem dX9_statement_320 : decode cX9_statement 320 = .ok (.invokevirtual 178, 3) := by decide +kernel
theorem dX9_statement_323 : decode cX9_statement 323 = .ok (.istore 5, 2) := by decide +kernel
theorem dX9_statement_325 : decode cX9_statement 325 = .ok (.aload_n 0, 1) := by decide +kernel
theorem dX9_statement_326 : decode cX9_statement 326 = .ok (.getfield 149, 3) := by decide +kernel
theorem dX9_statement_329 : decode cX9_statement 329 = .ok (.ifCond .ne 13, 3) := by decide +kernel
theorem dX9_statement_332 : decode cX9_statement 332 = .ok (.aload_n 0, 1) := by decide +kernel
theorem dX9_statement_333 : decode cX9_statement 333 = .ok (.iload_n 2, 1) := by decide +kernel
theorem dX9_statement_334 : decode cX9_statement 334 = .ok (.iload_n 3, 1) := by decide +kernel
theorem dX9_statement_335 : decode cX9_statement 335 = .ok (.iload 4, 2) := by decide +kernel
theorem dX9_statement_337 : decode cX9_statement 337 = .ok (.iload 5, 2) := by decide +kernel
theorem dX9_statement_339 : decode cX9_statement 339 = .ok (.invokevirtual 121, 3) := by decide +kernel
theorem dX9_statement_342 : decode cX9_statement 342 = .ok (.goto 12, 3) := by decide +kernel
theorem dX9_statement_345 : decode cX9_statement 345 = .ok (.aload_n 0, 1) := by decide +kernel
theorem dX9_statement_346 : decode cX9_statement 346 = .ok (.iconst 1, 1) := by decide +kernel
theorem dX9_statement_347 : decode cX9_statement 347 = .ok (.aload_n 0, 1) := by decide +kernel
theorem dX9_statement_348 : decode cX9_statement 348 = .ok (.getfield 155, 3) := by decide +kernel
theorem dX9_statement_351 : decode cX9_statement 351 = .ok (.invokevirtual 161, 3) := by decide +kernel
theorem dX9_statement_354 : decode cX9_statement 354 = .ok (.return_, 1) := by decide +kernel
def pX9_statement_L236 (s : Mm) : Option ((Mm) ⊕ (Mm)) :=
if (s 0 5) = 0 then
((pX9_here s).bind fun v53 =>
if v53.1 = 59 then
(some (Sum.inr v53.2))
else
((pX9_rowGoesOn v53.2).bind fun v55 =>
some (Sum.inl v55)))
else
(some (Sum.inr s))
def pX9_statement (M : Mm) : Option (Mm) :=
(pX9_word M).bind fun v1 =>
bnd (v1.1) fun v3 =>
if v3 = (((((pX9_letters 4 5 16) * 32) + 15) * 32) + 20) then
((pX9_numberOf 0 v1.2).bind fun v4 =>
bnd (v4.1) fun v6 =>
(pX9_numberOf 1 v4.2).bind fun v7 =>
bnd (v7.1) fun v9 =>
if (v7.2 0 5) = 0 then
((ast v7.2 1 160 1 v6).bind fun M10 =>
(ast M10 1 160 2 v9).bind fun M12 =>
some M12)
else
(some v7.2))
else
(if v3 = (pX9_letters 0 20 15) then
((pX9_customers v1.2).bind fun v14 =>
bnd (α := Mm) (if v14 = 8 then
(bnd (pX9_fails 3 (v1.2 0 8) v1.2) fun v36 =>
v36)
else
(v1.2)) fun j16 =>
(pX9_numberOf 0 j16).bind fun v19 =>
bnd (v19.1) fun v21 =>
(pX9_numberOf 1 v19.2).bind fun v22 =>
bnd (v22.1) fun v24 =>
(pX9_numberOf 2 v22.2).bind fun v25 =>
bnd (v25.1) fun v27 =>
(pX9_numberOf 3 v25.2).bind fun v28 =>
bnd (v28.1) fun v30 =>
(pX9_numberOf 4 v28.2).bind fun v31 =>
bnd (v31.1) fun v33 =>
if (v31.2 0 5) = 0 then
((pX9_more v21 v24 v27 v30 v33 v31.2).bind fun v34 =>
some v34)
else
(some v31.2))
else
(if v3 = (pX9_letters 19 5 20) then
((pX9_numberIn 0 9 v1.2).bind fun v38 =>
bnd (v38.1) fun v40 =>
(pX9_number v38.2).bind fun v41 =>
bnd (v41.1) fun v43 =>
bnd (α := Mm) (if (v41.2 0 5) = 0 then
(if (pX9_maySet v40 v43) = 0 then
(bnd (pX9_fails 2 (v41.2 0 8) v41.2) fun v49 =>
v49)
else
(v41.2))
else
(v41.2)) fun j44 =>
if (j44 0 5) = 0 then
((ast j44 1 160 (50 + v40) v43).bind fun M47 =>
some M47)
else
(some j44))
else
(if v3 = (pX9_letters 18 15 23) then
((pX9_clears v1.2).bind fun v51 =>
(itr (pX9_statement_L236) fuel v51).bind fun x57 =>
some x57)
else
(if v3 = (pX9_letters 6 12 25) then
((pX9_sorties v1.2).bind fun v68 =>
bnd (α := Mm) (if v68 = 8 then
(bnd (pX9_fails 3 (v1.2 0 8) v1.2) fun v89 =>
v89)
else
(v1.2)) fun j70 =>
(pX9_numberIn 0 1 j70).bind fun v73 =>
bnd (v73.1) fun v75 =>
(pX9_numberIn 0 9 v73.2).bind fun v76 =>
bnd (v76.1) fun v78 =>
(pX9_customers v76.2).bind fun v79 =>
(pX9_numberIn 1 v79 v76.2).bind fun v81 =>
bnd (v81.1) fun v83 =>
(pX9_numberIn 0 9 v81.2).bind fun v84 =>
bnd (v84.1) fun v86 =>
if (v84.2 0 5) = 0 then
((pX9_sends v75 v78 v83 v86 v84.2).bind fun v87 =>
some v87)
else
(some v84.2))
else
(bnd (pX9_fails 1 (v1.2 0 8) v1.2) fun v91 =>
some v91)))))
abbrev zX9_statement : Zx := (cX9_statement, RX9, 7, 5, none)
set_option maxRecDepth 100000 in
set_option maxHeartbeats 4000000 in
theorem tX9_statement {l : Launch} {Y : Sx} {M : Mm} {q : Mm} (hY : isB Y) (h : pX9_statement M = some q) : Ct l Y yX9_statement cX9_statement 7 none 5 [.ref (adr Y 0)] M none q := by
  refine Ct.of (by decide) rfl (lv := [(0, .ref (adr Y 0))]) rfl ?_
  intro K hkl C
  change Cx K zX9_statement Y at C
  subst hkl
  unfold pX9_statement at h
  show Wp K zX9_statement Y (Qm K Y none q) M 0 [(0, .ref (adr Y 0))] []
  refine w_aload_n C (pc := 0) dX9_statement_0 0 rfl ?_
  obtain ⟨v1, e2, h⟩ := ob h
  refine w_cVi C (pc := 1) dX9_statement_1 my_X9_word mi_X9_word ml_X9_168 (sB_0 hY) rfl rfl rfl [] rfl rfl (Nat.le_of_ble_eq_true rfl) (tX9_word hY  e2) ?_
  refine w_bnd h (fun v3 h => ?_)
  refine w_istore_n C (pc := 4) dX9_statement_4 (lv' := [(0, .ref (adr Y 0)), (1, .int v3)]) rfl rfl rfl ?_
  refine w_iload_n C (pc := 5) dX9_statement_5 1 rfl ?_
  refine w_iconst C (pc := 6) dX9_statement_6 (v := 4) (by decide) ?_
  refine w_iconst C (pc := 7) dX9_statement_7 (v := 5) (by decide) ?_
  refine w_bipush C (pc := 8) dX9_statement_8 (v := 16) (by decide) ?_
  refine w_cSi C (pc := 10) dX9_statement_10 my_X9_letters ms_X9_letters ml_X9_171 rfl rfl [.int 4, .int 5, .int 16] rfl rfl (Nat.le_of_ble_eq_true rfl) (tX9_letters  rfl) ?_
  refine w_bipush C (pc := 13) dX9_statement_13 (v := 32) (by decide) ?_
  refine w_imul C (pc := 15) dX9_statement_15 ?_
  refine w_bipush C (pc := 16) dX9_statement_16 (v := 15) (by decide) ?_
  refine w_iadd C (pc := 18) dX9_statement_18 ?_
  refine w_bipush C (pc := 19) dX9_statement_19 (v := 32) (by decide) ?_
  refine w_imul C (pc := 21) dX9_statement_21 ?_
  refine w_bipush C (pc := 22) dX9_statement_22 (v := 20) (by decide) ?_
  refine w_iadd C (pc := 24) dX9_statement_24 ?_
  refine w_icne C (pc := 25) 65 dX9_statement_25 (by decide) (fun c => ?_) (fun c => ?_)
  · have h := it_t h c
    refine w_aload_n C (pc := 28) dX9_statement_28 0 rfl ?_
    refine w_iconst C (pc := 29) dX9_statement_29 (v := 0) (by decide) ?_
    obtain ⟨v4, e5, h⟩ := ob h
    refine w_cVi C (pc := 30) dX9_statement_30 my_X9_numberOf mi_X9_numberOf ml_X9_175 (sB_0 hY) rfl rfl rfl [.int 0] rfl rfl (Nat.le_of_ble_eq_true rfl) (tX9_numberOf hY  e5) ?_
    refine w_bnd h (fun v6 h => ?_)
    refine w_istore_n C (pc := 33) dX9_statement_33 (lv' := [(0, .ref (adr Y 0)), (1, .int v3), (2, .int v6)]) rfl rfl rfl ?_
    refine w_aload_n C (pc := 34) dX9_statement_34 0 rfl ?_
    refine w_iconst C (pc := 35) dX9_statement_35 (v := 1) (by decide) ?_
    obtain ⟨v7, e8, h⟩ := ob h
    refine w_cVi C (pc := 36) dX9_statement_36 my_X9_numberOf mi_X9_numberOf ml_X9_175 (sB_0 hY) rfl rfl rfl [.int 1] rfl rfl (Nat.le_of_ble_eq_true rfl) (tX9_numberOf hY  e8) ?_
    refine w_bnd h (fun v9 h => ?_)
    refine w_istore_n C (pc := 39) dX9_statement_39 (lv' := [(0, .ref (adr Y 0)), (1, .int v3), (2, .int v6), (3, .int v9)]) rfl rfl rfl ?_
    refine w_aload_n C (pc := 40) dX9_statement_40 0 rfl ?_
    refine w_getI C (pc := 41) dX9_statement_41 f_X9_149 (sB_0 hY) rfl ?_
    refine w_ifeq C (pc := 44) 48 dX9_statement_44 (by decide) (fun c => ?_) (fun c => ?_)
    · have h := it_t h c
      refine w_aload_n C (pc := 48) dX9_statement_48 0 rfl ?_
      refine w_getR C (pc := 49) dX9_statement_49 f_X9_7 (sB_0 hY) rfl ?_
      refine w_iconst C (pc := 52) dX9_statement_52 (v := 1) (by decide) ?_
      refine w_iload_n C (pc := 53) dX9_statement_53 2 rfl ?_
      obtain ⟨M10, e11, h⟩ := ob h
      refine w_iast C (pc := 54) dX9_statement_54 (sB_1 hY) e11 ?_
      refine w_aload_n C (pc := 55) dX9_statement_55 0 rfl ?_
      refine w_getR C (pc := 56) dX9_statement_56 f_X9_7 (sB_0 hY) rfl ?_
      refine w_iconst C (pc := 59) dX9_statement_59 (v := 2) (by decide) ?_
      refine w_iload_n C (pc := 60) dX9_statement_60 3 rfl ?_
      obtain ⟨M12, e13, h⟩ := ob h
      refine w_iast C (pc := 61) dX9_statement_61 (sB_1 hY) e13 ?_
      refine w_goto C (pc := 62) 354 dX9_statement_62 (by decide) ?_
      exact w_retV C (pc := 354) dX9_statement_354 rfl (Option.some.inj h)
    · have h := it_f h c
      exact w_retV C (pc := 47) dX9_statement_47 rfl (Option.some.inj h)
  · have h := it_f h c
    refine w_iload_n C (pc := 65) dX9_statement_65 1 rfl ?_
    refine w_iconst C (pc := 66) dX9_statement_66 (v := 0) (by decide) ?_
    refine w_bipush C (pc := 67) dX9_statement_67 (v := 20) (by decide) ?_
    refine w_bipush C (pc := 69) dX9_statement_69 (v := 15) (by decide) ?_
    refine w_cSi C (pc := 71) dX9_statement_71 my_X9_letters ms_X9_letters ml_X9_171 rfl rfl [.int 0, .int 20, .int 15] rfl rfl (Nat.le_of_ble_eq_true rfl) (tX9_letters  rfl) ?_
    refine w_icne C (pc := 74) 150 dX9_statement_74 (by decide) (fun c => ?_) (fun c => ?_)
    · have h := it_t h c
      refine w_aload_n C (pc := 77) dX9_statement_77 0 rfl ?_
      obtain ⟨v14, e15, h⟩ := ob h
      refine w_cVi C (pc := 78) dX9_statement_78 my_X9_customers mi_X9_customers ml_X9_74 (sB_0 hY) rfl rfl rfl [] rfl rfl (Nat.le_of_ble_eq_true rfl) (tX9_customers hY  e15) ?_
      refine w_bipush C (pc := 81) dX9_statement_81 (v := 8) (by decide) ?_
      obtain ⟨j16, e17, h18⟩ := bn h
      have Jj16 : Wp K zX9_statement Y (Qm K Y none q) j16 95 [(0, .ref (adr Y 0)), (1, .int v3)] [] := by
        refine w_aload_n C (pc := 95) dX9_statement_95 0 rfl ?_
        refine w_iconst C (pc := 96) dX9_statement_96 (v := 0) (by decide) ?_
        obtain ⟨v19, e20, h18⟩ := ob h18
        refine w_cVi C (pc := 97) dX9_statement_97 my_X9_numberOf mi_X9_numberOf ml_X9_175 (sB_0 hY) rfl rfl rfl [.int 0] rfl rfl (Nat.le_of_ble_eq_true rfl) (tX9_numberOf hY  e20) ?_
        refine w_bnd h18 (fun v21 h18 => ?_)
        refine w_istore_n C (pc := 100) dX9_statement_100 (lv' := [(0, .ref (adr Y 0)), (1, .int v3), (2, .int v21)]) rfl rfl rfl ?_
        refine w_aload_n C (pc := 101) dX9_statement_101 0 rfl ?_
        refine w_iconst C (pc := 102) dX9_statement_102 (v := 1) (by decide) ?_
        obtain ⟨v22, e23, h18⟩ := ob h18
        refine w_cVi C (pc := 103) dX9_statement_103 my_X9_numberOf mi_X9_numberOf ml_X9_175 (sB_0 hY) rfl rfl rfl [.int 1] rfl rfl (Nat.le_of_ble_eq_true rfl) (tX9_numberOf hY  e23) ?_
        refine w_bnd h18 (fun v24 h18 => ?_)
        refine w_istore_n C (pc := 106) dX9_statement_106 (lv' := [(0, .ref (adr Y 0)), (1, .int v3), (2, .int v21), (3, .int v24)]) rfl rfl rfl ?_
        refine w_aload_n C (pc := 107) dX9_statement_107 0 rfl ?_
        refine w_iconst C (pc := 108) dX9_statement_108 (v := 2) (by decide) ?_
        obtain ⟨v25, e26, h18⟩ := ob h18
        refine w_cVi C (pc := 109) dX9_statement_109 my_X9_numberOf mi_X9_numberOf ml_X9_175 (sB_0 hY) rfl rfl rfl [.int 2] rfl rfl (Nat.le_of_ble_eq_true rfl) (tX9_numberOf hY  e26) ?_
        refine w_bnd h18 (fun v27 h18 => ?_)
        refine w_istore C (pc := 112) dX9_statement_112 (lv' := [(0, .ref (adr Y 0)), (1, .int v3), (2, .int v21), (3, .int v24), (4, .int v27)]) rfl rfl rfl ?_
        refine w_aload_n C (pc := 114) dX9_statement_114 0 rfl ?_
        refine w_iconst C (pc := 115) dX9_statement_115 (v := 3) (by decide) ?_
        obtain ⟨v28, e29, h18⟩ := ob h18
        refine w_cVi C (pc := 116) dX9_statement_116 my_X9_numberOf mi_X9_numberOf ml_X9_175 (sB_0 hY) rfl rfl rfl [.int 3] rfl rfl (Nat.le_of_ble_eq_true rfl) (tX9_numberOf hY  e29) ?_
        refine w_bnd h18 (fun v30 h18 => ?_)
        refine w_istore C (pc := 119) dX9_statement_119 (lv' := [(0, .ref (adr Y 0)), (1, .int v3), (2, .int v21), (3, .int v24), (4, .int v27), (5, .int v30)]) rfl rfl rfl ?_
        refine w_aload_n C (pc := 121) dX9_statement_121 0 rfl ?_
        refine w_iconst C (pc := 122) dX9_statement_122 (v := 4) (by decide) ?_
        obtain ⟨v31, e32, h18⟩ := ob h18
        refine w_cVi C (pc := 123) dX9_statement_123 my_X9_numberOf mi_X9_numberOf ml_X9_175 (sB_0 hY) rfl rfl rfl [.int 4] rfl rfl (Nat.le_of_ble_eq_true rfl) (tX9_numberOf hY  e32) ?_
        refine w_bnd h18 (fun v33 h18 => ?_)
        refine w_istore C (pc := 126) dX9_statement_126 (lv' := [(0, .ref (adr Y 0)), (1, .int v3), (2, .int v21), (3, .int v24), (4, .int v27), (5, .int v30), (6, .int v33)]) rfl rfl rfl ?_
        refine w_aload_n C (pc := 128) dX9_statement_128 0 rfl ?_
        refine w_getI C (pc := 129) dX9_statement_129 f_X9_149 (sB_0 hY) rfl ?_
        refine w_ifne C (pc := 132) 147 dX9_statement_132 (by decide) (fun c => ?_) (fun c => ?_)
        · have h18 := it_t h18 c
          refine w_aload_n C (pc := 135) dX9_statement_135 0 rfl ?_
          refine w_iload_n C (pc := 136) dX9_statement_136 2 rfl ?_
          refine w_iload_n C (pc := 137) dX9_statement_137 3 rfl ?_
          refine w_iload C (pc := 138) dX9_statement_138 4 rfl ?_
          refine w_iload C (pc := 140) dX9_statement_140 5 rfl ?_
          refine w_iload C (pc := 142) dX9_statement_142 6 rfl ?_
          obtain ⟨v34, e35, h18⟩ := ob h18
          refine w_cVv C (pc := 144) dX9_statement_144 my_X9_more mi_X9_more ml_X9_93 (sB_0 hY) rfl rfl rfl [.int v21, .int v24, .int v27, .int v30, .int v33] rfl rfl (Nat.le_of_ble_eq_true rfl) (tX9_more hY  e35) ?_
          refine w_goto C (pc := 147) 354 dX9_statement_147 (by decide) ?_
          exact w_retV C (pc := 354) dX9_statement_354 rfl (Option.some.inj h18)
        · have h18 := it_f h18 c
          refine w_goto C (pc := 147) 354 dX9_statement_147 (by decide) ?_
          exact w_retV C (pc := 354) dX9_statement_354 rfl (Option.some.inj h18)
      refine w_icne C (pc := 83) 95 dX9_statement_83 (by decide) (fun c => ?_) (fun c => ?_)
      · have e17 := it_t e17 c
        refine w_aload_n C (pc := 86) dX9_statement_86 0 rfl ?_
        refine w_iconst C (pc := 87) dX9_statement_87 (v := 3) (by decide) ?_
        refine w_aload_n C (pc := 88) dX9_statement_88 0 rfl ?_
        refine w_getI C (pc := 89) dX9_statement_89 f_X9_155 (sB_0 hY) rfl ?_
        obtain ⟨v36, e37, e17⟩ := bn e17
        refine w_cVv C (pc := 92) dX9_statement_92 my_X9_fails mi_X9_fails ml_X9_161 (sB_0 hY) rfl rfl rfl [.int 3, .int (v1.2 0 8)] rfl rfl (Nat.le_of_ble_eq_true rfl) (tX9_fails hY  e37) ?_
        obtain rfl := e17
        exact Jj16
      · have e17 := it_f e17 c
        obtain rfl := e17
        exact Jj16
    · have h := it_f h c
      refine w_iload_n C (pc := 150) dX9_statement_150 1 rfl ?_
      refine w_bipush C (pc := 151) dX9_statement_151 (v := 19) (by decide) ?_
      refine w_iconst C (pc := 153) dX9_statement_153 (v := 5) (by decide) ?_
      refine w_bipush C (pc := 154) dX9_statement_154 (v := 20) (by decide) ?_
      refine w_cSi C (pc := 156) dX9_statement_156 my_X9_letters ms_X9_letters ml_X9_171 rfl rfl [.int 19, .int 5, .int 20] rfl rfl (Nat.le_of_ble_eq_true rfl) (tX9_letters  rfl) ?_
      refine w_icne C (pc := 159) 219 dX9_statement_159 (by decide) (fun c => ?_) (fun c => ?_)
      · have h := it_t h c
        refine w_aload_n C (pc := 162) dX9_statement_162 0 rfl ?_
        refine w_iconst C (pc := 163) dX9_statement_163 (v := 0) (by decide) ?_
        refine w_bipush C (pc := 164) dX9_statement_164 (v := 9) (by decide) ?_
        obtain ⟨v38, e39, h⟩ := ob h
        refine w_cVi C (pc := 166) dX9_statement_166 my_X9_numberIn mi_X9_numberIn ml_X9_178 (sB_0 hY) rfl rfl rfl [.int 0, .int 9] rfl rfl (Nat.le_of_ble_eq_true rfl) (tX9_numberIn hY  e39) ?_
        refine w_bnd h (fun v40 h => ?_)
        refine w_istore_n C (pc := 169) dX9_statement_169 (lv' := [(0, .ref (adr Y 0)), (1, .int v3), (2, .int v40)]) rfl rfl rfl ?_
        refine w_aload_n C (pc := 170) dX9_statement_170 0 rfl ?_
        obtain ⟨v41, e42, h⟩ := ob h
        refine w_cVi C (pc := 171) dX9_statement_171 my_X9_number mi_X9_number ml_X9_165 (sB_0 hY) rfl rfl rfl [] rfl rfl (Nat.le_of_ble_eq_true rfl) (tX9_number hY  e42) ?_
        refine w_bnd h (fun v43 h => ?_)
        refine w_istore_n C (pc := 174) dX9_statement_174 (lv' := [(0, .ref (adr Y 0)), (1, .int v3), (2, .int v40), (3, .int v43)]) rfl rfl rfl ?_
        refine w_aload_n C (pc := 175) dX9_statement_175 0 rfl ?_
        refine w_getI C (pc := 176) dX9_statement_176 f_X9_149 (sB_0 hY) rfl ?_
        obtain ⟨j44, e45, h46⟩ := bn h
        have Jj44 : Wp K zX9_statement Y (Qm K Y none q) j44 199 [(0, .ref (adr Y 0)), (1, .int v3), (2, .int v40), (3, .int v43)] [] := by
          refine w_aload_n C (pc := 199) dX9_statement_199 0 rfl ?_
          refine w_getI C (pc := 200) dX9_statement_200 f_X9_149 (sB_0 hY) rfl ?_
          refine w_ifne C (pc := 203) 216 dX9_statement_203 (by decide) (fun c => ?_) (fun c => ?_)
          · have h46 := it_t h46 c
            refine w_aload_n C (pc := 206) dX9_statement_206 0 rfl ?_
            refine w_getR C (pc := 207) dX9_statement_207 f_X9_7 (sB_0 hY) rfl ?_
            refine w_bipush C (pc := 210) dX9_statement_210 (v := 50) (by decide) ?_
            refine w_iload_n C (pc := 212) dX9_statement_212 2 rfl ?_
            refine w_iadd C (pc := 213) dX9_statement_213 ?_
            refine w_iload_n C (pc := 214) dX9_statement_214 3 rfl ?_
            obtain ⟨M47, e48, h46⟩ := ob h46
            refine w_iast C (pc := 215) dX9_statement_215 (sB_1 hY) e48 ?_
            refine w_goto C (pc := 216) 354 dX9_statement_216 (by decide) ?_
            exact w_retV C (pc := 354) dX9_statement_354 rfl (Option.some.inj h46)
          · have h46 := it_f h46 c
            refine w_goto C (pc := 216) 354 dX9_statement_216 (by decide) ?_
            exact w_retV C (pc := 354) dX9_statement_354 rfl (Option.some.inj h46)
        refine w_ifne C (pc := 179) 199 dX9_statement_179 (by decide) (fun c => ?_) (fun c => ?_)
        · have e45 := it_t e45 c
          refine w_iload_n C (pc := 182) dX9_statement_182 2 rfl ?_
          refine w_iload_n C (pc := 183) dX9_statement_183 3 rfl ?_
          refine w_cSi C (pc := 184) dX9_statement_184 my_X9_maySet ms_X9_maySet ml_X9_100 rfl rfl [.int v40, .int v43] rfl rfl (Nat.le_of_ble_eq_true rfl) (tX9_maySet  rfl) ?_
          refine w_ifne C (pc := 187) 199 dX9_statement_187 (by decide) (fun c => ?_) (fun c => ?_)
          · have e45 := it_t e45 c
            refine w_aload_n C (pc := 190) dX9_statement_190 0 rfl ?_
            refine w_iconst C (pc := 191) dX9_statement_191 (v := 2) (by decide) ?_
            refine w_aload_n C (pc := 192) dX9_statement_192 0 rfl ?_
            refine w_getI C (pc := 193) dX9_statement_193 f_X9_155 (sB_0 hY) rfl ?_
            obtain ⟨v49, e50, e45⟩ := bn e45
            refine w_cVv C (pc := 196) dX9_statement_196 my_X9_fails mi_X9_fails ml_X9_161 (sB_0 hY) rfl rfl rfl [.int 2, .int (v41.2 0 8)] rfl rfl (Nat.le_of_ble_eq_true rfl) (tX9_fails hY  e50) ?_
            obtain rfl := e45
            exact Jj44
          · have e45 := it_f e45 c
            obtain rfl := e45
            exact Jj44
        · have e45 := it_f e45 c
          obtain rfl := e45
          exact Jj44
      · have h := it_f h c
        refine w_iload_n C (pc := 219) dX9_statement_219 1 rfl ?_
        refine w_bipush C (pc := 220) dX9_statement_220 (v := 18) (by decide) ?_
        refine w_bipush C (pc := 222) dX9_statement_222 (v := 15) (by decide) ?_
        refine w_bipush C (pc := 224) dX9_statement_224 (v := 23) (by decide) ?_
        refine w_cSi C (pc := 226) dX9_statement_226 my_X9_letters ms_X9_letters ml_X9_171 rfl rfl [.int 18, .int 15, .int 23] rfl rfl (Nat.le_of_ble_eq_true rfl) (tX9_letters  rfl) ?_
        refine w_icne C (pc := 229) 259 dX9_statement_229 (by decide) (fun c => ?_) (fun c => ?_)
        · have h := it_t h c
          refine w_aload_n C (pc := 232) dX9_statement_232 0 rfl ?_
          obtain ⟨v51, e52, h⟩ := ob h
          refine w_cVv C (pc := 233) dX9_statement_233 my_X9_clears mi_X9_clears ml_X9_97 (sB_0 hY) rfl rfl rfl [] rfl rfl (Nat.le_of_ble_eq_true rfl) (tX9_clears hY  e52) ?_
          obtain ⟨x57, e58, h⟩ := ob h
          refine itr_W (P := fun s59 => Wp K zX9_statement Y (Qm K Y none q) s59 236 [(0, .ref (adr Y 0)), (1, .int v3)] []) (R := fun x57 => Wp K zX9_statement Y (Qm K Y none q) x57 354 [(0, .ref (adr Y 0)), (1, .int v3)] []) ?_ fuel v51 x57 e58 ?_
          · intro s59 r60 h63 ki61 kx62
            unfold pX9_statement_L236 at h63
            show Wp K zX9_statement Y (Qm K Y none q) s59 236 [(0, .ref (adr Y 0)), (1, .int v3)] []
            refine w_aload_n C (pc := 236) dX9_statement_236 0 rfl ?_
            refine w_getI C (pc := 237) dX9_statement_237 f_X9_149 (sB_0 hY) rfl ?_
            refine w_ifne C (pc := 240) 354 dX9_statement_240 (by decide) (fun c => ?_) (fun c => ?_)
            · have h63 := it_t h63 c
              refine w_aload_n C (pc := 243) dX9_statement_243 0 rfl ?_
              obtain ⟨v64, e65, h63⟩ := ob h63
              refine w_cVi C (pc := 244) dX9_statement_244 my_X9_here mi_X9_here ml_X9_152 (sB_0 hY) rfl rfl rfl [] rfl rfl (Nat.le_of_ble_eq_true rfl) (tX9_here hY  e65) ?_
              refine w_bipush C (pc := 247) dX9_statement_247 (v := 59) (by decide) ?_
              refine w_iceq C (pc := 249) 354 dX9_statement_249 (by decide) (fun c => ?_) (fun c => ?_)
              · have h63 := it_t h63 c
                obtain rfl := Option.some.inj h63
                have k9 := kx62 v64.2 rfl
                try dsimp only at k9
                exact k9
              · have h63 := it_f h63 c
                refine w_aload_n C (pc := 252) dX9_statement_252 0 rfl ?_
                obtain ⟨v66, e67, h63⟩ := ob h63
                refine w_cVv C (pc := 253) dX9_statement_253 my_X9_rowGoesOn mi_X9_rowGoesOn ml_X9_181 (sB_0 hY) rfl rfl rfl [] rfl rfl (Nat.le_of_ble_eq_true rfl) (tX9_rowGoesOn hY  e67) ?_
                refine w_goto C (pc := 256) 236 dX9_statement_256 (by decide) ?_
                obtain rfl := Option.some.inj h63
                have k9 := ki61 v66 rfl
                try dsimp only at k9
                exact k9
            · have h63 := it_f h63 c
              obtain rfl := Option.some.inj h63
              have k9 := kx62 s59 rfl
              try dsimp only at k9
              exact k9
          · exact w_retV C (pc := 354) dX9_statement_354 rfl (Option.some.inj h)
        · have h := it_f h c
          refine w_iload_n C (pc := 259) dX9_statement_259 1 rfl ?_
          refine w_bipush C (pc := 260) dX9_statement_260 (v := 6) (by decide) ?_
          refine w_bipush C (pc := 262) dX9_statement_262 (v := 12) (by decide) ?_
          refine w_bipush C (pc := 264) dX9_statement_264 (v := 25) (by decide) ?_
          refine w_cSi C (pc := 266) dX9_statement_266 my_X9_letters ms_X9_letters ml_X9_171 rfl rfl [.int 6, .int 12, .int 25] rfl rfl (Nat.le_of_ble_eq_true rfl) (tX9_letters  rfl) ?_
          refine w_icne C (pc := 269) 345 dX9_statement_269 (by decide) (fun c => ?_) (fun c => ?_)
          · have h := it_t h c
            refine w_aload_n C (pc := 272) dX9_statement_272 0 rfl ?_
            obtain ⟨v68, e69, h⟩ := ob h
            refine w_cVi C (pc := 273) dX9_statement_273 my_X9_sorties mi_X9_sorties ml_X9_118 (sB_0 hY) rfl rfl rfl [] rfl rfl (Nat.le_of_ble_eq_true rfl) (tX9_sorties hY  e69) ?_
            refine w_bipush C (pc := 276) dX9_statement_276 (v := 8) (by decide) ?_
            obtain ⟨j70, e71, h72⟩ := bn h
            have Jj70 : Wp K zX9_statement Y (Qm K Y none q) j70 290 [(0, .ref (adr Y 0)), (1, .int v3)] [] := by
              refine w_aload_n C (pc := 290) dX9_statement_290 0 rfl ?_
              refine w_iconst C (pc := 291) dX9_statement_291 (v := 0) (by decide) ?_
              refine w_iconst C (pc := 292) dX9_statement_292 (v := 1) (by decide) ?_
              obtain ⟨v73, e74, h72⟩ := ob h72
              refine w_cVi C (pc := 293) dX9_statement_293 my_X9_numberIn mi_X9_numberIn ml_X9_178 (sB_0 hY) rfl rfl rfl [.int 0, .int 1] rfl rfl (Nat.le_of_ble_eq_true rfl) (tX9_numberIn hY  e74) ?_
              refine w_bnd h72 (fun v75 h72 => ?_)
              refine w_istore_n C (pc := 296) dX9_statement_296 (lv' := [(0, .ref (adr Y 0)), (1, .int v3), (2, .int v75)]) rfl rfl rfl ?_
              refine w_aload_n C (pc := 297) dX9_statement_297 0 rfl ?_
              refine w_iconst C (pc := 298) dX9_statement_298 (v := 0) (by decide) ?_
              refine w_bipush C (pc := 299) dX9_statement_299 (v := 9) (by decide) ?_
              obtain ⟨v76, e77, h72⟩ := ob h72
              refine w_cVi C (pc := 301) dX9_statement_301 my_X9_numberIn mi_X9_numberIn ml_X9_178 (sB_0 hY) rfl rfl rfl [.int 0, .int 9] rfl rfl (Nat.le_of_ble_eq_true rfl) (tX9_numberIn hY  e77) ?_
              refine w_bnd h72 (fun v78 h72 => ?_)
              refine w_istore_n C (pc := 304) dX9_statement_304 (lv' := [(0, .ref (adr Y 0)), (1, .int v3), (2, .int v75), (3, .int v78)]) rfl rfl rfl ?_
              refine w_aload_n C (pc := 305) dX9_statement_305 0 rfl ?_
              refine w_iconst C (pc := 306) dX9_statement_306 (v := 1) (by decide) ?_
              refine w_aload_n C (pc := 307) dX9_statement_307 0 rfl ?_
              obtain ⟨v79, e80, h72⟩ := ob h72
              refine w_cVi C (pc := 308) dX9_statement_308 my_X9_customers mi_X9_customers ml_X9_74 (sB_0 hY) rfl rfl rfl [] rfl rfl (Nat.le_of_ble_eq_true rfl) (tX9_customers hY  e80) ?_
              obtain ⟨v81, e82, h72⟩ := ob h72
              refine w_cVi C (pc := 311) dX9_statement_311 my_X9_numberIn mi_X9_numberIn ml_X9_178 (sB_0 hY) rfl rfl rfl [.int 1, .int v79] rfl rfl (Nat.le_of_ble_eq_true rfl) (tX9_numberIn hY  e82) ?_
              refine w_bnd h72 (fun v83 h72 => ?_)
              refine w_istore C (pc := 314) dX9_statement_314 (lv' := [(0, .ref (adr Y 0)), (1, .int v3), (2, .int v75), (3, .int v78), (4, .int v83)]) rfl rfl rfl ?_
              refine w_aload_n C (pc := 316) dX9_statement_316 0 rfl ?_
              refine w_iconst C (pc := 317) dX9_statement_317 (v := 0) (by decide) ?_
              refine w_bipush C (pc := 318) dX9_statement_318 (v := 9) (by decide) ?_
              obtain ⟨v84, e85, h72⟩ := ob h72
              refine w_cVi C (pc := 320) dX9_statement_320 my_X9_numberIn mi_X9_numberIn ml_X9_178 (sB_0 hY) rfl rfl rfl [.int 0, .int 9] rfl rfl (Nat.le_of_ble_eq_true rfl) (tX9_numberIn hY  e85) ?_
              refine w_bnd h72 (fun v86 h72 => ?_)
              refine w_istore C (pc := 323) dX9_statement_323 (lv' := [(0, .ref (adr Y 0)), (1, .int v3), (2, .int v75), (3, .int v78), (4, .int v83), (5, .int v86)]) rfl rfl rfl ?_
              refine w_aload_n C (pc := 325) dX9_statement_325 0 rfl ?_
              refine w_getI C (pc := 326) dX9_statement_326 f_X9_149 (sB_0 hY) rfl ?_
              refine w_ifne C (pc := 329) 342 dX9_statement_329 (by decide) (fun c => ?_) (fun c => ?_)
              · have h72 := it_t h72 c
                refine w_aload_n C (pc := 332) dX9_statement_332 0 rfl ?_
                refine w_iload_n C (pc := 333) dX9_statement_333 2 rfl ?_
                refine w_iload_n C (pc := 334) dX9_statement_334 3 rfl ?_
                refine w_iload C (pc := 335) dX9_statement_335 4 rfl ?_
                refine w_iload C (pc := 337) dX9_statement_337 5 rfl ?_
                obtain ⟨v87, e88, h72⟩ := ob h72
                refine w_cVv C (pc := 339) dX9_statement_339 my_X9_sends mi_X9_sends ml_X9_121 (sB_0 hY) rfl rfl rfl [.int v75, .int v78, .int v83, .int v86] rfl rfl (Nat.le_of_ble_eq_true rfl) (tX9_sends hY  e88) ?_
                refine w_goto C (pc := 342) 354 dX9_statement_342 (by decide) ?_
                exact w_retV C (pc := 354) dX9_statement_354 rfl (Option.some.inj h72)
              · have h72 := it_f h72 c
                refine w_goto C (pc := 342) 354 dX9_statement_342 (by decide) ?_
                exact w_retV C (pc := 354) dX9_statement_354 rfl (Option.some.inj h72)
            refine w_icne C (pc := 278) 290 dX9_statement_278 (by decide) (fun c => ?_) (fun c => ?_)
            · have e71 := it_t e71 c
              refine w_aload_n C (pc := 281) dX9_statement_281 0 rfl ?_
              refine w_iconst C (pc := 282) dX9_statement_282 (v := 3) (by decide) ?_
              refine w_aload_n C (pc := 283) dX9_statement_283 0 rfl ?_
              refine w_getI C (pc := 284) dX9_statement_284 f_X9_155 (sB_0 hY) rfl ?_
              obtain ⟨v89, e90, e71⟩ := bn e71
              refine w_cVv C (pc := 287) dX9_statement_287 my_X9_fails mi_X9_fails ml_X9_161 (sB_0 hY) rfl rfl rfl [.int 3, .int (v1.2 0 8)] rfl rfl (Nat.le_of_ble_eq_true rfl) (tX9_fails hY  e90) ?_
              obtain rfl := e71
              exact Jj70
            · have e71 := it_f e71 c
              obtain rfl := e71
              exact Jj70
          · have h := it_f h c
            refine w_aload_n C (pc := 345) dX9_statement_345 0 rfl ?_
            refine w_iconst C (pc := 346) dX9_statement_346 (v := 1) (by decide) ?_
            refine w_aload_n C (pc := 347) dX9_statement_347 0 rfl ?_
            refine w_getI C (pc := 348) dX9_statement_348 f_X9_155 (sB_0 hY) rfl ?_
            obtain ⟨v91, e92, h⟩ := bn h
            refine w_cVv C (pc := 351) dX9_statement_351 my_X9_fails mi_X9_fails ml_X9_161 (sB_0 hY) rfl rfl rfl [.int 1, .int (v1.2 0 8)] rfl rfl (Nat.le_of_ble_eq_true rfl) (tX9_fails hY  e92) ?_
            exact w_retV C (pc := 354) dX9_statement_354 rfl (Option.some.inj h)
theorem dX9_stop_0 : decode cX9_stop 0 = .ok (.aload_n 0, 1) := by decide +kernel
theorem dX9_stop_1 : decode cX9_stop 1 = .ok (.iconst 0, 1) := by decide +kernel
theorem dX9_stop_2 : decode cX9_stop 2 = .ok (.putfield 66, 3) := by decide +kernel
theorem dX9_stop_5 : decode cX9_stop 5 = .ok (.iload_n 1, 1) := by decide +kernel
theorem dX9_stop_6 : decode cX9_stop 6 = .ok (.iconst 0, 1) := by decide +kernel
theorem dX9_stop_7 : decode cX9_stop 7 = .ok (.aload_n 0, 1) := by decide +kernel
theorem dX9_stop_8 : decode cX9_stop 8 = .ok (.invokevirtual 107, 3) := by decide +kernel
theorem dX9_stop_11 : decode cX9_stop 11 = .ok (.iconst 1, 1) := by decide +kernel
theorem dX9_stop_12 : decode cX9_stop 12 = .ok (.isub, 1) := by decide +kernel
theorem dX9_stop_13 : decode cX9_stop 13 = .ok (.invokestatic 70, 3) := by decide +kernel
theorem dX9_stop_16 : decode cX9_stop 16 = .ok (.ifCond .eq 10, 3) := by decide +kernel
theorem dX9_stop_19 : decode cX9_stop 19 = .ok (.aload_n 0, 1) := by decide +kernel
theorem dX9_stop_20 : decode cX9_stop 20 = .ok (.invokevirtual 223, 3) := by decide +kernel
theorem dX9_stop_23 : decode cX9_stop 23 = .ok (.ifCond .ne 5, 3) := by decide +kernel
theorem dX9_stop_26 : decode cX9_stop 26 = .ok (.iconst (-1), 1) := by decide +kernel
theorem dX9_stop_27 : decode cX9_stop 27 = .ok (.ireturn, 1) := by decide +kernel
theorem dX9_stop_28 : decode cX9_stop 28 = .ok (.iload_n 2, 1) := by decide +kernel
theorem dX9_stop_29 : decode cX9_stop 29 = .ok (.tableswitch 69 0 4 #[35, 41, 48, 55, 62], 35) := by decide +kernel
theorem dX9_stop_64 : decode cX9_stop 64 = .ok (.aload_n 0, 1) := by decide +kernel
theorem dX9_stop_65 : decode cX9_stop 65 = .ok (.iload_n 1, 1) := by decide +kernel
theorem dX9_stop_66 : decode cX9_stop 66 = .ok (.invokevirtual 187, 3) := by decide +kernel
theorem dX9_stop_69 : decode cX9_stop 69 = .ok (.ireturn, 1) := by decide +kernel
theorem dX9_stop_70 : decode cX9_stop 70 = .ok (.aload_n 0, 1) := by decide +kernel
theorem dX9_stop_71 : decode cX9_stop 71 = .ok (.getfield 20, 3) := by decide +kernel
theorem dX9_stop_74 : decode cX9_stop 74 = .ok (.iload_n 1, 1) := by decide +kernel
theorem dX9_stop_75 : decode cX9_stop 75 = .ok (.iaload, 1) := by decide +kernel
theorem dX9_stop_76 : decode cX9_stop 76 = .ok (.ireturn, 1) := by decide +kernel
theorem dX9_stop_77 : decode cX9_stop 77 = .ok (.aload_n 0, 1) := by decide +kernel
theorem dX9_stop_78 : decode cX9_stop 78 = .ok (.getfield 23, 3) := by decide +kernel
theorem dX9_stop_81 : decode cX9_stop 81 = .ok (.iload_n 1, 1) := by decide +kernel
theorem dX9_stop_82 : decode cX9_stop 82 = .ok (.iaload, 1) := by decide +kernel
theorem dX9_stop_83 : decode cX9_stop 83 = .ok (.ireturn, 1) := by decide +kernel
theorem dX9_stop_84 : decode cX9_stop 84 = .ok (.aload_n 0, 1) := by decide +kernel
theorem dX9_stop_85 : decode cX9_stop 85 = .ok (.getfield 26, 3) := by decide +kernel
theorem dX9_stop_88 : decode cX9_stop 88 = .ok (.iload_n 1, 1) := by decide +kernel
theorem dX9_stop_89 : decode cX9_stop 89 = .ok (.iaload, 1) := by decide +kernel
theorem dX9_stop_90 : decode cX9_stop 90 = .ok (.ireturn, 1) := by decide +kernel
theorem dX9_stop_91 : decode cX9_stop 91 = .ok (.aload_n 0, 1) := by decide +kernel
theorem dX9_stop_92 : decode cX9_stop 92 = .ok (.getfield 29, 3) := by decide +kernel
theorem dX9_stop_95 : decode cX9_stop 95 = .ok (.iload_n 1, 1) := by decide +kernel
theorem dX9_stop_96 : decode cX9_stop 96 = .ok (.iaload, 1) := by decide +kernel
theorem dX9_stop_97 : decode cX9_stop 97 = .ok (.ireturn, 1) := by decide +kernel
theorem dX9_stop_98 : decode cX9_stop 98 = .ok (.iconst (-1), 1) := by decide +kernel
theorem dX9_stop_99 : decode cX9_stop 99 = .ok (.ireturn, 1) := by decide +kernel
def pX9_stop (x1 : Int32) (x2 : Int32) (M : Mm) : Option (Int32 × Mm) :=
bnd (mset M 0 0 0) fun M1 =>
(pX9_stops M1).bind fun v3 =>
if (pX9_isIn x1 0 (v3 - 1)) = 0 then
(some ((-1), M1))
else
((pX9_goes M1).bind fun v5 =>
if v5.1 = 0 then
(some ((-1), v5.2))
else
(if x2 = 0 then
((pX9_stopAt x1 v5.2).bind fun v7 =>
some (v7, v5.2))
else
(if x2 = 1 then
((ald v5.2 4 10 x1).bind fun v9 =>
some (v9, v5.2))
else
(if x2 = 2 then
((ald v5.2 5 10 x1).bind fun v11 =>
some (v11, v5.2))
else
(if x2 = 3 then
((ald v5.2 6 10 x1).bind fun v13 =>
some (v13, v5.2))
else
(if x2 = 4 then
((ald v5.2 7 10 x1).bind fun v15 =>
some (v15, v5.2))
else
(some ((-1), v5.2))))))))
abbrev zX9_stop : Zx := (cX9_stop, RX9, 3, 5, (some .int))
set_option maxRecDepth 100000 in
set_option maxHeartbeats 4000000 in
theorem tX9_stop {l : Launch} {Y : Sx} {M : Mm} {x1 : Int32} {x2 : Int32} {q : Int32 × Mm} (hY : isB Y) (h : pX9_stop x1 x2 M = some q) : Ct l Y yX9_stop cX9_stop 3 (some .int) 5 [.ref (adr Y 0), .int x1, .int x2] M (some q.1) q.2 := by
  refine Ct.of (by decide) rfl (lv := [(0, .ref (adr Y 0)), (1, .int x1), (2, .int x2)]) rfl ?_
  intro K hkl C
  change Cx K zX9_stop Y at C
  subst hkl
  unfold pX9_stop at h
  show Wp K zX9_stop Y (Qm K Y (some q.1) q.2) M 0 [(0, .ref (adr Y 0)), (1, .int x1), (2, .int x2)] []
  refine w_aload_n C (pc := 0) dX9_stop_0 0 rfl ?_
  refine w_iconst C (pc := 1) dX9_stop_1 (v := 0) (by decide) ?_
  obtain ⟨M1, e2, h⟩ := bn h
  refine w_putI C (pc := 2) dX9_stop_2 fp_X9_66 (sB_0 hY) rfl ?_
  rw [e2]
  refine w_iload_n C (pc := 5) dX9_stop_5 1 rfl ?_
  refine w_iconst C (pc := 6) dX9_stop_6 (v := 0) (by decide) ?_
  refine w_aload_n C (pc := 7) dX9_stop_7 0 rfl ?_
  obtain ⟨v3, e4, h⟩ := ob h
  refine w_cVi C (pc := 8) dX9_stop_8 my_X9_stops mi_X9_stops ml_X9_107 (sB_0 hY) rfl rfl rfl [] rfl rfl (Nat.le_of_ble_eq_true rfl) (tX9_stops hY  e4) ?_
  refine w_iconst C (pc := 11) dX9_stop_11 (v := 1) (by decide) ?_
  refine w_isub C (pc := 12) dX9_stop_12 ?_
  refine w_cSi C (pc := 13) dX9_stop_13 my_X9_isIn ms_X9_isIn ml_X9_70 rfl rfl [.int x1, .int 0, .int (v3 - 1)] rfl rfl (Nat.le_of_ble_eq_true rfl) (tX9_isIn  rfl) ?_
  refine w_ifeq C (pc := 16) 26 dX9_stop_16 (by decide) (fun c => ?_) (fun c => ?_)
  · have h := it_t h c
    refine w_iconst C (pc := 26) dX9_stop_26 (v := (-1)) (by decide) ?_
    exact w_ret C (pc := 27) dX9_stop_27 rfl (Option.some.inj h)
  · have h := it_f h c
    refine w_aload_n C (pc := 19) dX9_stop_19 0 rfl ?_
    obtain ⟨v5, e6, h⟩ := ob h
    refine w_cVi C (pc := 20) dX9_stop_20 my_X9_goes mi_X9_goes ml_X9_223 (sB_0 hY) rfl rfl rfl [] rfl rfl (Nat.le_of_ble_eq_true rfl) (tX9_goes hY  e6) ?_
    refine w_ifne C (pc := 23) 28 dX9_stop_23 (by decide) (fun c => ?_) (fun c => ?_)
    · have h := it_t h c
      refine w_iconst C (pc := 26) dX9_stop_26 (v := (-1)) (by decide) ?_
      exact w_ret C (pc := 27) dX9_stop_27 rfl (Option.some.inj h)
    · have h := it_f h c
      refine w_iload_n C (pc := 28) dX9_stop_28 2 rfl ?_
      by_cases c29_0 : x2 = 0
      · have h := it_t h c29_0
        refine w_swIn C (pc := 29) (v := 0) 64 dX9_stop_29 c29_0 (by decide) (by decide) rfl (by decide) ?_
        refine w_aload_n C (pc := 64) dX9_stop_64 0 rfl ?_
        refine w_iload_n C (pc := 65) dX9_stop_65 1 rfl ?_
        obtain ⟨v7, e8, h⟩ := ob h
        refine w_cVi C (pc := 66) dX9_stop_66 my_X9_stopAt mi_X9_stopAt ml_X9_187 (sB_0 hY) rfl rfl rfl [.int x1] rfl rfl (Nat.le_of_ble_eq_true rfl) (tX9_stopAt hY  e8) ?_
        exact w_ret C (pc := 69) dX9_stop_69 rfl (Option.some.inj h)
      have h := it_f h c29_0
      by_cases c29_1 : x2 = 1
      · have h := it_t h c29_1
        refine w_swIn C (pc := 29) (v := 1) 70 dX9_stop_29 c29_1 (by decide) (by decide) rfl (by decide) ?_
        refine w_aload_n C (pc := 70) dX9_stop_70 0 rfl ?_
        refine w_getR C (pc := 71) dX9_stop_71 f_X9_20 (sB_0 hY) rfl ?_
        refine w_iload_n C (pc := 74) dX9_stop_74 1 rfl ?_
        obtain ⟨v9, e10, h⟩ := ob h
        refine w_iald C (pc := 75) dX9_stop_75 (sB_4 hY) e10 ?_
        exact w_ret C (pc := 76) dX9_stop_76 rfl (Option.some.inj h)
      have h := it_f h c29_1
      by_cases c29_2 : x2 = 2
      · have h := it_t h c29_2
        refine w_swIn C (pc := 29) (v := 2) 77 dX9_stop_29 c29_2 (by decide) (by decide) rfl (by decide) ?_
        refine w_aload_n C (pc := 77) dX9_stop_77 0 rfl ?_
        refine w_getR C (pc := 78) dX9_stop_78 f_X9_23 (sB_0 hY) rfl ?_
        refine w_iload_n C (pc := 81) dX9_stop_81 1 rfl ?_
        obtain ⟨v11, e12, h⟩ := ob h
        refine w_iald C (pc := 82) dX9_stop_82 (sB_5 hY) e12 ?_
        exact w_ret C (pc := 83) dX9_stop_83 rfl (Option.some.inj h)
      have h := it_f h c29_2
      by_cases c29_3 : x2 = 3
      · have h := it_t h c29_3
        refine w_swIn C (pc := 29) (v := 3) 84 dX9_stop_29 c29_3 (by decide) (by decide) rfl (by decide) ?_
        refine w_aload_n C (pc := 84) dX9_stop_84 0 rfl ?_
        refine w_getR C (pc := 85) dX9_stop_85 f_X9_26 (sB_0 hY) rfl ?_
        refine w_iload_n C (pc := 88) dX9_stop_88 1 rfl ?_
        obtain ⟨v13, e14, h⟩ := ob h
        refine w_iald C (pc := 89) dX9_stop_89 (sB_6 hY) e14 ?_
        exact w_ret C (pc := 90) dX9_stop_90 rfl (Option.some.inj h)
      have h := it_f h c29_3
      by_cases c29_4 : x2 = 4
      · have h := it_t h c29_4
        refine w_swIn C (pc := 29) (v := 4) 91 dX9_stop_29 c29_4 (by decide) (by decide) rfl (by decide) ?_
        refine w_aload_n C (pc := 91) dX9_stop_91 0 rfl ?_
        refine w_getR C (pc := 92) dX9_stop_92 f_X9_29 (sB_0 hY) rfl ?_
        refine w_iload_n C (pc := 95) dX9_stop_95 1 rfl ?_
        obtain ⟨v15, e16, h⟩ := ob h
        refine w_iald C (pc := 96) dX9_stop_96 (sB_7 hY) e16 ?_
        exact w_ret C (pc := 97) dX9_stop_97 rfl (Option.some.inj h)
      have h := it_f h c29_4
      refine w_swOut C (pc := 29) 98 dX9_stop_29 (by have q0 := lv_neT c29_0 (a := 0) rfl; have q1 := lv_neT c29_1 (a := 1) rfl; have q2 := lv_neT c29_2 (a := 2) rfl; have q3 := lv_neT c29_3 (a := 3) rfl; have q4 := lv_neT c29_4 (a := 4) rfl; omega) (by decide) ?_
      refine w_iconst C (pc := 98) dX9_stop_98 (v := (-1)) (by decide) ?_
      exact w_ret C (pc := 99) dX9_stop_99 rfl (Option.some.inj h)
theorem dX9_sum_0 : decode cX9_sum 0 = .ok (.aload_n 0, 1) := by decide +kernel
theorem dX9_sum_1 : decode cX9_sum 1 = .ok (.iconst 0, 1) := by decide +kernel
theorem dX9_sum_2 : decode cX9_sum 2 = .ok (.putfield 66, 3) := by decide +kernel
theorem dX9_sum_5 : decode cX9_sum 5 = .ok (.iload_n 1, 1) := by decide +kernel
theorem dX9_sum_6 : decode cX9_sum 6 = .ok (.iconst 0, 1) := by decide +kernel
theorem dX9_sum_7 : decode cX9_sum 7 = .ok (.iconst 3, 1) := by decide +kernel
theorem dX9_sum_8 : decode cX9_sum 8 = .ok (.invokestatic 70, 3) := by decide +kernel
theorem dX9_sum_11 : decode cX9_sum 11 = .ok (.ifCond .eq 10, 3) := by decide +kernel
theorem dX9_sum_14 : decode cX9_sum 14 = .ok (.aload_n 0, 1) := by decide +kernel
theorem dX9_sum_15 : decode cX9_sum 15 = .ok (.invokevirtual 223, 3) := by decide +kernel
theorem dX9_sum_18 : decode cX9_sum 18 = .ok (.ifCond .ne 5, 3) := by decide +kernel
theorem dX9_sum_21 : decode cX9_sum 21 = .ok (.iconst (-1), 1) := by decide +kernel
theorem dX9_sum_22 : decode cX9_sum 22 = .ok (.ireturn, 1) := by decide +kernel
theorem dX9_sum_23 : decode cX9_sum 23 = .ok (.iconst 0, 1) := by decide +kernel
theorem dX9_sum_24 : decode cX9_sum 24 = .ok (.istore_n 2, 1) := by decide +kernel
theorem dX9_sum_25 : decode cX9_sum 25 = .ok (.iload_n 1, 1) := by decide +kernel
theorem dX9_sum_26 : decode cX9_sum 26 = .ok (.ifCond .ne 28, 3) := by decide +kernel
theorem dX9_sum_29 : decode cX9_sum 29 = .ok (.iconst 0, 1) := by decide +kernel
theorem dX9_sum_30 : decode cX9_sum 30 = .ok (.istore_n 3, 1) := by decide +kernel
theorem dX9_sum_31 : decode cX9_sum 31 = .ok (.iload_n 3, 1) := by decide +kernel
theorem dX9_sum_32 : decode cX9_sum 32 = .ok (.aload_n 0, 1) := by decide +kernel
theorem dX9_sum_33 : decode cX9_sum 33 = .ok (.invokevirtual 107, 3) := by decide +kernel
theorem dX9_sum_36 : decode cX9_sum 36 = .ok (.if_icmp .ge 18, 3) := by decide +kernel
theorem dX9_sum_39 : decode cX9_sum 39 = .ok (.iload_n 2, 1) := by decide +kernel
theorem dX9_sum_40 : decode cX9_sum 40 = .ok (.aload_n 0, 1) := by decide +kernel
theorem dX9_sum_41 : decode cX9_sum 41 = .ok (.getfield 29, 3) := by decide +kernel
theorem dX9_sum_44 : decode cX9_sum 44 = .ok (.iload_n 3, 1) := by decide +kernel
theorem dX9_sum_45 : decode cX9_sum 45 = .ok (.iaload, 1) := by decide +kernel
theorem dX9_sum_46 : decode cX9_sum 46 = .ok (.iadd, 1) := by decide +kernel
theorem dX9_sum_47 : decode cX9_sum 47 = .ok (.istore_n 2, 1) := by decide +kernel
theorem dX9_sum_48 : decode cX9_sum 48 = .ok (.iinc 3 1, 3) := by decide +kernel
theorem dX9_sum_51 : decode cX9_sum 51 = .ok (.goto (-20), 3) := by decide +kernel
theorem dX9_sum_54 : decode cX9_sum 54 = .ok (.iload_n 1, 1) := by decide +kernel
theorem dX9_sum_55 : decode cX9_sum 55 = .ok (.iconst 1, 1) := by decide +kernel
theorem dX9_sum_56 : decode cX9_sum 56 = .ok (.if_icmp .ne 38, 3) := by decide +kernel
theorem dX9_sum_59 : decode cX9_sum 59 = .ok (.iconst 1, 1) := by decide +kernel
theorem dX9_sum_60 : decode cX9_sum 60 = .ok (.istore_n 3, 1) := by decide +kernel
theorem dX9_sum_61 : decode cX9_sum 61 = .ok (.iload_n 3, 1) := by decide +kernel
theorem dX9_sum_62 : decode cX9_sum 62 = .ok (.aload_n 0, 1) := by decide +kernel
theorem dX9_sum_63 : decode cX9_sum 63 = .ok (.invokevirtual 107, 3) := by decide +kernel
theorem dX9_sum_66 : decode cX9_sum 66 = .ok (.if_icmp .ge 28, 3) := by decide +kernel
theorem dX9_sum_69 : decode cX9_sum 69 = .ok (.iload_n 2, 1) := by decide +kernel
theorem dX9_sum_70 : decode cX9_sum 70 = .ok (.aload_n 0, 1) := by decide +kernel
theorem dX9_sum_71 : decode cX9_sum 71 = .ok (.aload_n 0, 1) := by decide +kernel
theorem dX9_sum_72 : decode cX9_sum 72 = .ok (.iload_n 3, 1) := by decide +kernel
theorem dX9_sum_73 : decode cX9_sum 73 = .ok (.iconst 1, 1) := by decide +kernel
theorem dX9_sum_74 : decode cX9_sum 74 = .ok (.isub, 1) := by decide +kernel
theorem dX9_sum_75 : decode cX9_sum 75 = .ok (.invokevirtual 187, 3) := by decide +kernel
theorem dX9_sum_78 : decode cX9_sum 78 = .ok (.aload_n 0, 1) := by decide +kernel
theorem dX9_sum_79 : decode cX9_sum 79 = .ok (.iload_n 3, 1) := by decide +kernel
theorem dX9_sum_80 : decode cX9_sum 80 = .ok (.invokevirtual 187, 3) := by decide +kernel
theorem dX9_sum_83 : decode cX9_sum 83 = .ok (.invokevirtual 134, 3) := by decide +kernel
theorem dX9_sum_86 : decode cX9_sum 86 = .ok (.iadd, 1) := by decide +kernel
theorem dX9_sum_87 : decode cX9_sum 87 = .ok (.istore_n 2, 1) := by decide +kernel
theorem dX9_sum_88 : decode cX9_sum 88 = .ok (.iinc 3 1, 3) := by decide +kernel
theorem dX9_sum_91 : decode cX9_sum 91 = .ok (.goto (-30), 3) := by decide +kernel
theorem dX9_sum_94 : decode cX9_sum 94 = .ok (.iconst 0, 1) := by decide +kernel
theorem dX9_sum_95 : decode cX9_sum 95 = .ok (.istore_n 3, 1) := by decide +kernel
theorem dX9_sum_96 : decode cX9_sum 96 = .ok (.iload_n 3, 1) := by decide +kernel
theorem dX9_sum_97 : decode cX9_sum 97 = .ok (.aload_n 0, 1) := by decide +kernel
theorem dX9_sum_98 : decode cX9_sum 98 = .ok (.invokevirtual 118, 3) := by decide +kernel
theorem dX9_sum_101 : decode cX9_sum 101 = .ok (.if_icmp .ge 63, 3) := by decide +kernel
theorem dX9_sum_104 : decode cX9_sum 104 = .ok (.iload_n 1, 1) := by decide +kernel
theorem dX9_sum_105 : decode cX9_sum 105 = .ok (.iconst 2, 1) := by decide +kernel
theorem dX9_sum_106 : decode cX9_sum 106 = .ok (.if_icmp .ne 31, 3) := by decide +kernel
theorem dX9_sum_109 : decode cX9_sum 109 = .ok (.iload_n 2, 1) := by decide +kernel
theorem dX9_sum_110 : decode cX9_sum 110 = .ok (.aload_n 0, 1) := by decide +kernel
theorem dX9_sum_111 : decode cX9_sum 111 = .ok (.getfield 35, 3) := by decide +kernel
theorem dX9_sum_114 : decode cX9_sum 114 = .ok (.iload_n 3, 1) := by decide +kernel
theorem dX9_sum_115 : decode cX9_sum 115 = .ok (.iaload, 1) := by decide +kernel
theorem dX9_sum_116 : decode cX9_sum 116 = .ok (.aload_n 0, 1) := by decide +kernel
theorem dX9_sum_117 : decode cX9_sum 117 = .ok (.getfield 32, 3) := by decide +kernel
theorem dX9_sum_120 : decode cX9_sum 120 = .ok (.iload_n 3, 1) := by decide +kernel
theorem dX9_sum_121 : decode cX9_sum 121 = .ok (.iaload, 1) := by decide +kernel
theorem dX9_sum_122 : decode cX9_sum 122 = .ok (.isub, 1) := by decide +kernel
theorem dX9_sum_123 : decode cX9_sum 123 = .ok (.aload_n 0, 1) := by decide +kernel
theorem dX9_sum_124 : decode cX9_sum 124 = .ok (.aload_n 0, 1) := by decide +kernel
theorem dX9_sum_125 : decode cX9_sum 125 = .ok (.iload_n 3, 1) := by decide +kernel
theorem dX9_sum_126 : decode cX9_sum 126 = .ok (.iconst 2, 1) := by decide +kernel
theorem dX9_sum_127 : decode cX9_sum 127 = .ok (.invokevirtual 137, 3) := by decide +kernel
theorem dX9_sum_130 : decode cX9_sum 130 = .ok (.iconst 3, 1) := by decide +kernel
theorem dX9_sum_131 : decode cX9_sum 131 = .ok (.invokevirtual 82, 3) := by decide +kernel
theorem dX9_sum_134 : decode cX9_sum 134 = .ok (.isub, 1) := by decide +kernel
theorem dX9_sum_135 : decode cX9_sum 135 = .ok (.iadd, 1) := by decide +kernel
theorem dX9_sum_136 : decode cX9_sum 136 = .ok (.istore_n 2, 1) := by decide +kernel
theorem dX9_sum_137 : decode cX9_sum 137 = .ok (.iload_n 1, 1) := by decide +kernel
theorem dX9_sum_138 : decode cX9_sum 138 = .ok (.iconst 3, 1) := by decide +kernel
theorem dX9_sum_139 : decode cX9_sum 139 = .ok (.if_icmp .ne 19, 3) := by decide +kernel
theorem dX9_sum_142 : decode cX9_sum 142 = .ok (.iload_n 2, 1) := by decide +kernel
theorem dX9_sum_143 : decode cX9_sum 143 = .ok (.aload_n 0, 1) := by decide +kernel
theorem dX9_sum_144 : decode cX9_sum 144 = .ok (.getfield 38, 3) := by decide +kernel
theorem dX9_sum_147 : decode cX9_sum 147 = .ok (.iload_n 3, 1) := by decide +kernel
theorem dX9_sum_148 : decode cX9_sum 148 = .ok (.iaload, 1) := by decide +kernel
theorem dX9_sum_149 : decode cX9_sum 149 = .ok (.aload_n 0, 1) := by decide +kernel
theorem dX9_sum_150 : decode cX9_sum 150 = .ok (.getfield 35, 3) := by decide +kernel
theorem dX9_sum_153 : decode cX9_sum 153 = .ok (.iload_n 3, 1) := by decide +kernel
theorem dX9_sum_154 : decode cX9_sum 154 = .ok (.iaload, 1) := by decide +kernel
theorem dX9_sum_155 : decode cX9_sum 155 = .ok (.isub, 1) := by decide +kernel
theorem dX9_sum_156 : decode cX9_sum 156 = .ok (.iadd, 1) := by decide +kernel
theorem dX9_sum_157 : decode cX9_sum 157 = .ok (.istore_n 2, 1) := by decide +kernel
theorem dX9_sum_158 : decode cX9_sum 158 = .ok (.iinc 3 1, 3) := by decide +kernel
theorem dX9_sum_161 : decode cX9_sum 161 = .ok (.goto (-65), 3) := by decide +kernel
theorem dX9_sum_164 : decode cX9_sum 164 = .ok (.iload_n 2, 1) := by decide +kernel
theorem dX9_sum_165 : decode cX9_sum 165 = .ok (.ireturn, 1) := by decide +kernel
def pX9_sum_L96 (x1 : Int32) (M : Mm) (s : Int32 × Int32) : Option ((Int32 × Int32) ⊕ (Int32)) :=
(pX9_sorties M).bind fun v11 =>
if v11 ≤ s.2 then
(some (Sum.inr s.1))
else
(Option.bind (α := Int32) (if x1 = 2 then
((ald M 9 8 s.2).bind fun v21 =>
(ald M 8 8 s.2).bind fun v23 =>
(pX9_sortieOf s.2 2 M).bind fun v25 =>
(pX9_placeOf v25 3 M).bind fun v27 =>
bnd (s.1 + ((v21 - v23) - v27)) fun v29 =>
some v29)
else
(some s.1)) fun j13 =>
if x1 = 3 then
((ald M 10 8 s.2).bind fun v16 =>
(ald M 9 8 s.2).bind fun v18 =>
bnd (j13 + (v16 - v18)) fun v20 =>
some (Sum.inl (v20, s.2 + 1)))
else
(some (Sum.inl (j13, s.2 + 1))))
def pX9_sum_L61 (x1 : Int32) (M : Mm) (s : Int32 × Int32) : Option ((Int32 × Int32) ⊕ (Int32)) :=
(pX9_stops M).bind fun v56 =>
if v56 ≤ s.2 then
(some (Sum.inr s.1))
else
((pX9_stopAt (s.2 - 1) M).bind fun v58 =>
(pX9_stopAt s.2 M).bind fun v60 =>
(pX9_drive v58 v60 M).bind fun v62 =>
bnd (s.1 + v62) fun v64 =>
some (Sum.inl (v64, s.2 + 1)))
def pX9_sum_L31 (x1 : Int32) (M : Mm) (s : Int32 × Int32) : Option ((Int32 × Int32) ⊕ (Int32)) :=
(pX9_stops M).bind fun v81 =>
if v81 ≤ s.2 then
(some (Sum.inr s.1))
else
((ald M 7 10 s.2).bind fun v83 =>
bnd (s.1 + v83) fun v85 =>
some (Sum.inl (v85, s.2 + 1)))
def pX9_sum (x1 : Int32) (M : Mm) : Option (Int32 × Mm) :=
bnd (mset M 0 0 0) fun M1 =>
if (pX9_isIn x1 0 3) = 0 then
(some ((-1), M1))
else
((pX9_goes M1).bind fun v3 =>
if v3.1 = 0 then
(some ((-1), v3.2))
else
(Option.bind (α := Int32) (if x1 = 0 then
((itr (pX9_sum_L31 x1 v3.2) fuel (0, 0)).bind fun x86 =>
some x86)
else
(some 0)) fun j5 =>
Option.bind (α := Int32) (if x1 = 1 then
((itr (pX9_sum_L61 x1 v3.2) fuel (j5, 1)).bind fun x65 =>
some x65)
else
(some j5)) fun j8 =>
(itr (pX9_sum_L96 x1 v3.2) fuel (j8, 0)).bind fun x30 =>
some (x30, v3.2)))
abbrev zX9_sum : Zx := (cX9_sum, RX9, 4, 5, (some .int))
set_option maxRecDepth 100000 in
set_option maxHeartbeats 4000000 in
theorem tX9_sum {l : Launch} {Y : Sx} {M : Mm} {x1 : Int32} {q : Int32 × Mm} (hY : isB Y) (h : pX9_sum x1 M = some q) : Ct l Y yX9_sum cX9_sum 4 (some .int) 5 [.ref (adr Y 0), .int x1] M (some q.1) q.2 := by
  refine Ct.of (by decide) rfl (lv := [(0, .ref (adr Y 0)), (1, .int x1)]) rfl ?_
  intro K hkl C
  change Cx K zX9_sum Y at C
  subst hkl
  unfold pX9_sum at h
  show Wp K zX9_sum Y (Qm K Y (some q.1) q.2) M 0 [(0, .ref (adr Y 0)), (1, .int x1)] []
  refine w_aload_n C (pc := 0) dX9_sum_0 0 rfl ?_
  refine w_iconst C (pc := 1) dX9_sum_1 (v := 0) (by decide) ?_
  obtain ⟨M1, e2, h⟩ := bn h
  refine w_putI C (pc := 2) dX9_sum_2 fp_X9_66 (sB_0 hY) rfl ?_
  rw [e2]
  refine w_iload_n C (pc := 5) dX9_sum_5 1 rfl ?_
  refine w_iconst C (pc := 6) dX9_sum_6 (v := 0) (by decide) ?_
  refine w_iconst C (pc := 7) dX9_sum_7 (v := 3) (by decide) ?_
  refine w_cSi C (pc := 8) dX9_sum_8 my_X9_isIn ms_X9_isIn ml_X9_70 rfl rfl [.int x1, .int 0, .int 3] rfl rfl (Nat.le_of_ble_eq_true rfl) (tX9_isIn  rfl) ?_
  refine w_ifeq C (pc := 11) 21 dX9_sum_11 (by decide) (fun c => ?_) (fun c => ?_)
  · have h := it_t h c
    refine w_iconst C (pc := 21) dX9_sum_21 (v := (-1)) (by decide) ?_
    exact w_ret C (pc := 22) dX9_sum_22 rfl (Option.some.inj h)
  · have h := it_f h c
    refine w_aload_n C (pc := 14) dX9_sum_14 0 rfl ?_
    obtain ⟨v3, e4, h⟩ := ob h
    refine w_cVi C (pc := 15) dX9_sum_15 my_X9_goes mi_X9_goes ml_X9_223 (sB_0 hY) rfl rfl rfl [] rfl rfl (Nat.le_of_ble_eq_true rfl) (tX9_goes hY  e4) ?_
    refine w_ifne C (pc := 18) 23 dX9_sum_18 (by decide) (fun c => ?_) (fun c => ?_)
    · have h := it_t h c
      refine w_iconst C (pc := 21) dX9_sum_21 (v := (-1)) (by decide) ?_
      exact w_ret C (pc := 22) dX9_sum_22 rfl (Option.some.inj h)
    · have h := it_f h c
      refine w_iconst C (pc := 23) dX9_sum_23 (v := 0) (by decide) ?_
      refine w_istore_n C (pc := 24) dX9_sum_24 (lv' := [(0, .ref (adr Y 0)), (1, .int x1), (2, .int 0)]) rfl rfl rfl ?_
      refine w_iload_n C (pc := 25) dX9_sum_25 1 rfl ?_
      obtain ⟨j5, e6, h7⟩ := ob h
      have Jj5 : Wp K zX9_sum Y (Qm K Y (some q.1) q.2) v3.2 54 [(0, .ref (adr Y 0)), (1, .int x1), (2, .int j5)] [] := by
        refine w_iload_n C (pc := 54) dX9_sum_54 1 rfl ?_
        refine w_iconst C (pc := 55) dX9_sum_55 (v := 1) (by decide) ?_
        obtain ⟨j8, e9, h10⟩ := ob h7
        have Jj8 : Wp K zX9_sum Y (Qm K Y (some q.1) q.2) v3.2 94 [(0, .ref (adr Y 0)), (1, .int x1), (2, .int j8)] [] := by
          refine w_iconst C (pc := 94) dX9_sum_94 (v := 0) (by decide) ?_
          refine w_istore_n C (pc := 95) dX9_sum_95 (lv' := [(0, .ref (adr Y 0)), (1, .int x1), (2, .int j8), (3, .int 0)]) rfl rfl rfl ?_
          obtain ⟨x30, e31, h10⟩ := ob h10
          refine itr_W (P := fun s32 => Wp K zX9_sum Y (Qm K Y (some q.1) q.2) v3.2 96 [(0, .ref (adr Y 0)), (1, .int x1), (2, .int s32.1), (3, .int s32.2)] []) (R := fun x30 => Wp K zX9_sum Y (Qm K Y (some q.1) q.2) v3.2 164 [(0, .ref (adr Y 0)), (1, .int x1), (2, .int x30)] []) ?_ fuel (j8, 0) x30 e31 ?_
          · intro s32 r33 h36 ki34 kx35
            unfold pX9_sum_L96 at h36
            show Wp K zX9_sum Y (Qm K Y (some q.1) q.2) v3.2 96 [(0, .ref (adr Y 0)), (1, .int x1), (2, .int s32.1), (3, .int s32.2)] []
            refine w_iload_n C (pc := 96) dX9_sum_96 3 rfl ?_
            refine w_aload_n C (pc := 97) dX9_sum_97 0 rfl ?_
            obtain ⟨v37, e38, h36⟩ := ob h36
            refine w_cVi C (pc := 98) dX9_sum_98 my_X9_sorties mi_X9_sorties ml_X9_118 (sB_0 hY) rfl rfl rfl [] rfl rfl (Nat.le_of_ble_eq_true rfl) (tX9_sorties hY  e38) ?_
            refine w_icge C (pc := 101) 164 dX9_sum_101 (by decide) (fun c => ?_) (fun c => ?_)
            · have h36 := it_t h36 c
              obtain rfl := Option.some.inj h36
              refine w_lv [0, 1, 2] rfl ?_
              have k9 := kx35 s32.1 rfl
              try dsimp only at k9
              exact k9
            · have h36 := it_f h36 c
              refine w_iload_n C (pc := 104) dX9_sum_104 1 rfl ?_
              refine w_iconst C (pc := 105) dX9_sum_105 (v := 2) (by decide) ?_
              obtain ⟨j39, e40, h41⟩ := ob h36
              have Jj39 : Wp K zX9_sum Y (Qm K Y (some q.1) q.2) v3.2 137 [(0, .ref (adr Y 0)), (1, .int x1), (2, .int j39), (3, .int s32.2)] [] := by
                refine w_iload_n C (pc := 137) dX9_sum_137 1 rfl ?_
                refine w_iconst C (pc := 138) dX9_sum_138 (v := 3) (by decide) ?_
                refine w_icne C (pc := 139) 158 dX9_sum_139 (by decide) (fun c => ?_) (fun c => ?_)
                · have h41 := it_t h41 c
                  refine w_iload_n C (pc := 142) dX9_sum_142 2 rfl ?_
                  refine w_aload_n C (pc := 143) dX9_sum_143 0 rfl ?_
                  refine w_getR C (pc := 144) dX9_sum_144 f_X9_38 (sB_0 hY) rfl ?_
                  refine w_iload_n C (pc := 147) dX9_sum_147 3 rfl ?_
                  obtain ⟨v42, e43, h41⟩ := ob h41
                  refine w_iald C (pc := 148) dX9_sum_148 (sB_10 hY) e43 ?_
                  refine w_aload_n C (pc := 149) dX9_sum_149 0 rfl ?_
                  refine w_getR C (pc := 150) dX9_sum_150 f_X9_35 (sB_0 hY) rfl ?_
                  refine w_iload_n C (pc := 153) dX9_sum_153 3 rfl ?_
                  obtain ⟨v44, e45, h41⟩ := ob h41
                  refine w_iald C (pc := 154) dX9_sum_154 (sB_9 hY) e45 ?_
                  refine w_isub C (pc := 155) dX9_sum_155 ?_
                  refine w_iadd C (pc := 156) dX9_sum_156 ?_
                  refine w_bnd h41 (fun v46 h41 => ?_)
                  refine w_istore_n C (pc := 157) dX9_sum_157 (lv' := [(0, .ref (adr Y 0)), (1, .int x1), (2, .int v46), (3, .int s32.2)]) rfl rfl rfl ?_
                  refine w_iinc C (pc := 158) dX9_sum_158 3 rfl (v := 1) (lv' := [(0, .ref (adr Y 0)), (1, .int x1), (2, .int v46), (3, .int (s32.2 + 1))]) (by decide) rfl rfl rfl ?_
                  refine w_goto C (pc := 161) 96 dX9_sum_161 (by decide) ?_
                  obtain rfl := Option.some.inj h41
                  have k9 := ki34 (v46, s32.2 + 1) rfl
                  try dsimp only at k9
                  exact k9
                · have h41 := it_f h41 c
                  refine w_iinc C (pc := 158) dX9_sum_158 3 rfl (v := 1) (lv' := [(0, .ref (adr Y 0)), (1, .int x1), (2, .int j39), (3, .int (s32.2 + 1))]) (by decide) rfl rfl rfl ?_
                  refine w_goto C (pc := 161) 96 dX9_sum_161 (by decide) ?_
                  obtain rfl := Option.some.inj h41
                  have k9 := ki34 (j39, s32.2 + 1) rfl
                  try dsimp only at k9
                  exact k9
              refine w_icne C (pc := 106) 137 dX9_sum_106 (by decide) (fun c => ?_) (fun c => ?_)
              · have e40 := it_t e40 c
                refine w_iload_n C (pc := 109) dX9_sum_109 2 rfl ?_
                refine w_aload_n C (pc := 110) dX9_sum_110 0 rfl ?_
                refine w_getR C (pc := 111) dX9_sum_111 f_X9_35 (sB_0 hY) rfl ?_
                refine w_iload_n C (pc := 114) dX9_sum_114 3 rfl ?_
                obtain ⟨v47, e48, e40⟩ := ob e40
                refine w_iald C (pc := 115) dX9_sum_115 (sB_9 hY) e48 ?_
                refine w_aload_n C (pc := 116) dX9_sum_116 0 rfl ?_
                refine w_getR C (pc := 117) dX9_sum_117 f_X9_32 (sB_0 hY) rfl ?_
                refine w_iload_n C (pc := 120) dX9_sum_120 3 rfl ?_
                obtain ⟨v49, e50, e40⟩ := ob e40
                refine w_iald C (pc := 121) dX9_sum_121 (sB_8 hY) e50 ?_
                refine w_isub C (pc := 122) dX9_sum_122 ?_
                refine w_aload_n C (pc := 123) dX9_sum_123 0 rfl ?_
                refine w_aload_n C (pc := 124) dX9_sum_124 0 rfl ?_
                refine w_iload_n C (pc := 125) dX9_sum_125 3 rfl ?_
                refine w_iconst C (pc := 126) dX9_sum_126 (v := 2) (by decide) ?_
                obtain ⟨v51, e52, e40⟩ := ob e40
                refine w_cVi C (pc := 127) dX9_sum_127 my_X9_sortieOf mi_X9_sortieOf ml_X9_137 (sB_0 hY) rfl rfl rfl [.int s32.2, .int 2] rfl rfl (Nat.le_of_ble_eq_true rfl) (tX9_sortieOf hY  e52) ?_
                refine w_iconst C (pc := 130) dX9_sum_130 (v := 3) (by decide) ?_
                obtain ⟨v53, e54, e40⟩ := ob e40
                refine w_cVi C (pc := 131) dX9_sum_131 my_X9_placeOf mi_X9_placeOf ml_X9_82 (sB_0 hY) rfl rfl rfl [.int v51, .int 3] rfl rfl (Nat.le_of_ble_eq_true rfl) (tX9_placeOf hY  e54) ?_
                refine w_isub C (pc := 134) dX9_sum_134 ?_
                refine w_iadd C (pc := 135) dX9_sum_135 ?_
                refine w_bnd e40 (fun v55 e40 => ?_)
                refine w_istore_n C (pc := 136) dX9_sum_136 (lv' := [(0, .ref (adr Y 0)), (1, .int x1), (2, .int v55), (3, .int s32.2)]) rfl rfl rfl ?_
                obtain rfl := Option.some.inj e40
                exact Jj39
              · have e40 := it_f e40 c
                obtain rfl := Option.some.inj e40
                exact Jj39
          · refine w_iload_n C (pc := 164) dX9_sum_164 2 rfl ?_
            exact w_ret C (pc := 165) dX9_sum_165 rfl (Option.some.inj h10)
        refine w_icne C (pc := 56) 94 dX9_sum_56 (by decide) (fun c => ?_) (fun c => ?_)
        · have e9 := it_t e9 c
          refine w_iconst C (pc := 59) dX9_sum_59 (v := 1) (by decide) ?_
          refine w_istore_n C (pc := 60) dX9_sum_60 (lv' := [(0, .ref (adr Y 0)), (1, .int x1), (2, .int j5), (3, .int 1)]) rfl rfl rfl ?_
          obtain ⟨x65, e66, e9⟩ := ob e9
          refine itr_W (P := fun s67 => Wp K zX9_sum Y (Qm K Y (some q.1) q.2) v3.2 61 [(0, .ref (adr Y 0)), (1, .int x1), (2, .int s67.1), (3, .int s67.2)] []) (R := fun x65 => Wp K zX9_sum Y (Qm K Y (some q.1) q.2) v3.2 94 [(0, .ref (adr Y 0)), (1, .int x1), (2, .int x65)] []) ?_ fuel (j5, 1) x65 e66 ?_
          · intro s67 r68 h71 ki69 kx70
            unfold pX9_sum_L61 at h71
            show Wp K zX9_sum Y (Qm K Y (some q.1) q.2) v3.2 61 [(0, .ref (adr Y 0)), (1, .int x1), (2, .int s67.1), (3, .int s67.2)] []
            refine w_iload_n C (pc := 61) dX9_sum_61 3 rfl ?_
            refine w_aload_n C (pc := 62) dX9_sum_62 0 rfl ?_
            obtain ⟨v72, e73, h71⟩ := ob h71
            refine w_cVi C (pc := 63) dX9_sum_63 my_X9_stops mi_X9_stops ml_X9_107 (sB_0 hY) rfl rfl rfl [] rfl rfl (Nat.le_of_ble_eq_true rfl) (tX9_stops hY  e73) ?_
            refine w_icge C (pc := 66) 94 dX9_sum_66 (by decide) (fun c => ?_) (fun c => ?_)
            · have h71 := it_t h71 c
              obtain rfl := Option.some.inj h71
              refine w_lv [0, 1, 2] rfl ?_
              have k9 := kx70 s67.1 rfl
              try dsimp only at k9
              exact k9
            · have h71 := it_f h71 c
              refine w_iload_n C (pc := 69) dX9_sum_69 2 rfl ?_
              refine w_aload_n C (pc := 70) dX9_sum_70 0 rfl ?_
              refine w_aload_n C (pc := 71) dX9_sum_71 0 rfl ?_
              refine w_iload_n C (pc := 72) dX9_sum_72 3 rfl ?_
              refine w_iconst C (pc := 73) dX9_sum_73 (v := 1) (by decide) ?_
              refine w_isub C (pc := 74) dX9_sum_74 ?_
              obtain ⟨v74, e75, h71⟩ := ob h71
              refine w_cVi C (pc := 75) dX9_sum_75 my_X9_stopAt mi_X9_stopAt ml_X9_187 (sB_0 hY) rfl rfl rfl [.int (s67.2 - 1)] rfl rfl (Nat.le_of_ble_eq_true rfl) (tX9_stopAt hY  e75) ?_
              refine w_aload_n C (pc := 78) dX9_sum_78 0 rfl ?_
              refine w_iload_n C (pc := 79) dX9_sum_79 3 rfl ?_
              obtain ⟨v76, e77, h71⟩ := ob h71
              refine w_cVi C (pc := 80) dX9_sum_80 my_X9_stopAt mi_X9_stopAt ml_X9_187 (sB_0 hY) rfl rfl rfl [.int s67.2] rfl rfl (Nat.le_of_ble_eq_true rfl) (tX9_stopAt hY  e77) ?_
              obtain ⟨v78, e79, h71⟩ := ob h71
              refine w_cVi C (pc := 83) dX9_sum_83 my_X9_drive mi_X9_drive ml_X9_134 (sB_0 hY) rfl rfl rfl [.int v74, .int v76] rfl rfl (Nat.le_of_ble_eq_true rfl) (tX9_drive hY  e79) ?_
              refine w_iadd C (pc := 86) dX9_sum_86 ?_
              refine w_bnd h71 (fun v80 h71 => ?_)
              refine w_istore_n C (pc := 87) dX9_sum_87 (lv' := [(0, .ref (adr Y 0)), (1, .int x1), (2, .int v80), (3, .int s67.2)]) rfl rfl rfl ?_
              refine w_iinc C (pc := 88) dX9_sum_88 3 rfl (v := 1) (lv' := [(0, .ref (adr Y 0)), (1, .int x1), (2, .int v80), (3, .int (s67.2 + 1))]) (by decide) rfl rfl rfl ?_
              refine w_goto C (pc := 91) 61 dX9_sum_91 (by decide) ?_
              obtain rfl := Option.some.inj h71
              have k9 := ki69 (v80, s67.2 + 1) rfl
              try dsimp only at k9
              exact k9
          · obtain rfl := Option.some.inj e9
            exact Jj8
        · have e9 := it_f e9 c
          obtain rfl := Option.some.inj e9
          exact Jj8
      refine w_ifne C (pc := 26) 54 dX9_sum_26 (by decide) (fun c => ?_) (fun c => ?_)
      · have e6 := it_t e6 c
        refine w_iconst C (pc := 29) dX9_sum_29 (v := 0) (by decide) ?_
        refine w_istore_n C (pc := 30) dX9_sum_30 (lv' := [(0, .ref (adr Y 0)), (1, .int x1), (2, .int 0), (3, .int 0)]) rfl rfl rfl ?_
        obtain ⟨x86, e87, e6⟩ := ob e6
        refine itr_W (P := fun s88 => Wp K zX9_sum Y (Qm K Y (some q.1) q.2) v3.2 31 [(0, .ref (adr Y 0)), (1, .int x1), (2, .int s88.1), (3, .int s88.2)] []) (R := fun x86 => Wp K zX9_sum Y (Qm K Y (some q.1) q.2) v3.2 54 [(0, .ref (adr Y 0)), (1, .int x1), (2, .int x86)] []) ?_ fuel (0, 0) x86 e87 ?_
        · intro s88 r89 h92 ki90 kx91
          unfold pX9_sum_L31 at h92
          show Wp K zX9_sum Y (Qm K Y (some q.1) q.2) v3.2 31 [(0, .ref (adr Y 0)), (1, .int x1), (2, .int s88.1), (3, .int s88.2)] []
          refine w_iload_n C (pc := 31) dX9_sum_31 3 rfl ?_
          refine w_aload_n C (pc := 32) dX9_sum_32 0 rfl ?_
          obtain ⟨v93, e94, h92⟩ := ob h92
          refine w_cVi C (pc := 33) dX9_sum_33 my_X9_stops mi_X9_stops ml_X9_107 (sB_0 hY) rfl rfl rfl [] rfl rfl (Nat.le_of_ble_eq_true rfl) (tX9_stops hY  e94) ?_
          refine w_icge C (pc := 36) 54 dX9_sum_36 (by decide) (fun c => ?_) (fun c => ?_)
          · have h92 := it_t h92 c
            obtain rfl := Option.some.inj h92
            refine w_lv [0, 1, 2] rfl ?_
            have k9 := kx91 s88.1 rfl
            try dsimp only at k9
            exact k9
          · have h92 := it_f h92 c
            refine w_iload_n C (pc := 39) dX9_sum_39 2 rfl ?_
            refine w_aload_n C (pc := 40) dX9_sum_40 0 rfl ?_
            refine w_getR C (pc := 41) dX9_sum_41 f_X9_29 (sB_0 hY) rfl ?_
            refine w_iload_n C (pc := 44) dX9_sum_44 3 rfl ?_
            obtain ⟨v95, e96, h92⟩ := ob h92
            refine w_iald C (pc := 45) dX9_sum_45 (sB_7 hY) e96 ?_
            refine w_iadd C (pc := 46) dX9_sum_46 ?_
            refine w_bnd h92 (fun v97 h92 => ?_)
            refine w_istore_n C (pc := 47) dX9_sum_47 (lv' := [(0, .ref (adr Y 0)), (1, .int x1), (2, .int v97), (3, .int s88.2)]) rfl rfl rfl ?_
            refine w_iinc C (pc := 48) dX9_sum_48 3 rfl (v := 1) (lv' := [(0, .ref (adr Y 0)), (1, .int x1), (2, .int v97), (3, .int (s88.2 + 1))]) (by decide) rfl rfl rfl ?_
            refine w_goto C (pc := 51) 31 dX9_sum_51 (by decide) ?_
            obtain rfl := Option.some.inj h92
            have k9 := ki90 (v97, s88.2 + 1) rfl
            try dsimp only at k9
            exact k9
        · obtain rfl := Option.some.inj e6
          exact Jj5
      · have e6 := it_f e6 c
        obtain rfl := Option.some.inj e6
        exact Jj5
theorem dX9_take_0 : decode cX9_take 0 = .ok (.aload_n 0, 1) := by decide +kernel
theorem dX9_take_1 : decode cX9_take 1 = .ok (.iconst 0, 1) := by decide +kernel
theorem dX9_take_2 : decode cX9_take 2 = .ok (.putfield 66, 3) := by decide +kernel
theorem dX9_take_5 : decode cX9_take 5 = .ok (.aload_n 0, 1) := by decide +kernel
theorem dX9_take_6 : decode cX9_take 6 = .ok (.iload_n 1, 1) := by decide +kernel
theorem dX9_take_7 : decode cX9_take 7 = .ok (.invokevirtual 239, 3) := by decide +kernel
theorem dX9_take_10 : decode cX9_take 10 = .ok (.ifCond .ne 5, 3) := by decide +kernel
theorem dX9_take_13 : decode cX9_take 13 = .ok (.iconst (-1), 1) := by decide +kernel
theorem dX9_take_14 : decode cX9_take 14 = .ok (.ireturn, 1) := by decide +kernel
theorem dX9_take_15 : decode cX9_take 15 = .ok (.aload_n 0, 1) := by decide +kernel
theorem dX9_take_16 : decode cX9_take 16 = .ok (.aload_n 0, 1) := by decide +kernel
theorem dX9_take_17 : decode cX9_take 17 = .ok (.bipush 8, 2) := by decide +kernel
theorem dX9_take_19 : decode cX9_take 19 = .ok (.invokevirtual 78, 3) := by decide +kernel
theorem dX9_take_22 : decode cX9_take 22 = .ok (.invokevirtual 242, 3) := by decide +kernel
theorem dX9_take_25 : decode cX9_take 25 = .ok (.istore_n 2, 1) := by decide +kernel
theorem dX9_take_26 : decode cX9_take 26 = .ok (.aload_n 0, 1) := by decide +kernel
theorem dX9_take_27 : decode cX9_take 27 = .ok (.invokevirtual 74, 3) := by decide +kernel
theorem dX9_take_30 : decode cX9_take 30 = .ok (.iconst 1, 1) := by decide +kernel
theorem dX9_take_31 : decode cX9_take 31 = .ok (.iadd, 1) := by decide +kernel
theorem dX9_take_32 : decode cX9_take 32 = .ok (.istore_n 3, 1) := by decide +kernel
theorem dX9_take_33 : decode cX9_take 33 = .ok (.iconst 0, 1) := by decide +kernel
theorem dX9_take_34 : decode cX9_take 34 = .ok (.istore 4, 2) := by decide +kernel
theorem dX9_take_36 : decode cX9_take 36 = .ok (.iload 4, 2) := by decide +kernel
theorem dX9_take_38 : decode cX9_take 38 = .ok (.iload_n 3, 1) := by decide +kernel
theorem dX9_take_39 : decode cX9_take 39 = .ok (.if_icmp .gt 17, 3) := by decide +kernel
theorem dX9_take_42 : decode cX9_take 42 = .ok (.aload_n 0, 1) := by decide +kernel
theorem dX9_take_43 : decode cX9_take 43 = .ok (.getfield 63, 3) := by decide +kernel
theorem dX9_take_46 : decode cX9_take 46 = .ok (.iload 4, 2) := by decide +kernel
theorem dX9_take_48 : decode cX9_take 48 = .ok (.iconst 0, 1) := by decide +kernel
theorem dX9_take_49 : decode cX9_take 49 = .ok (.bastore, 1) := by decide +kernel
theorem dX9_take_50 : decode cX9_take 50 = .ok (.iinc 4 1, 3) := by decide +kernel
theorem dX9_take_53 : decode cX9_take 53 = .ok (.goto (-17), 3) := by decide +kernel
theorem dX9_take_56 : decode cX9_take 56 = .ok (.iload_n 3, 1) := by decide +kernel
theorem dX9_take_57 : decode cX9_take 57 = .ok (.istore 4, 2) := by decide +kernel
theorem dX9_take_59 : decode cX9_take 59 = .ok (.iload 4, 2) := by decide +kernel
theorem dX9_take_61 : decode cX9_take 61 = .ok (.ifCond .le 23, 3) := by decide +kernel
theorem dX9_take_64 : decode cX9_take 64 = .ok (.aload_n 0, 1) := by decide +kernel
theorem dX9_take_65 : decode cX9_take 65 = .ok (.getfield 63, 3) := by decide +kernel
theorem dX9_take_68 : decode cX9_take 68 = .ok (.iload 4, 2) := by decide +kernel
theorem dX9_take_70 : decode cX9_take 70 = .ok (.iconst 1, 1) := by decide +kernel
theorem dX9_take_71 : decode cX9_take 71 = .ok (.bastore, 1) := by decide +kernel
theorem dX9_take_72 : decode cX9_take 72 = .ok (.aload_n 0, 1) := by decide +kernel
theorem dX9_take_73 : decode cX9_take 73 = .ok (.getfield 57, 3) := by decide +kernel
theorem dX9_take_76 : decode cX9_take 76 = .ok (.iload 4, 2) := by decide +kernel
theorem dX9_take_78 : decode cX9_take 78 = .ok (.iaload, 1) := by decide +kernel
theorem dX9_take_79 : decode cX9_take 79 = .ok (.istore 4, 2) := by decide +kernel
theorem dX9_take_81 : decode cX9_take 81 = .ok (.goto (-22), 3) := by decide +kernel
theorem dX9_take_84 : decode cX9_take 84 = .ok (.aload_n 0, 1) := by decide +kernel
theorem dX9_take_85 : decode cX9_take 85 = .ok (.invokevirtual 97, 3) := by decide +kernel
theorem dX9_take_88 : decode cX9_take 88 = .ok (.iconst 0, 1) := by decide +kernel
theorem dX9_take_89 : decode cX9_take 89 = .ok (.istore 4, 2) := by decide +kernel
theorem dX9_take_91 : decode cX9_take 91 = .ok (.iconst 1, 1) := by decide +kernel
theorem dX9_take_92 : decode cX9_take 92 = .ok (.istore 5, 2) := by decide +kernel
theorem dX9_take_94 : decode cX9_take 94 = .ok (.iload 5, 2) := by decide +kernel
theorem dX9_take_96 : decode cX9_take 96 = .ok (.iload_n 3, 1) := by decide +kernel
theorem dX9_take_97 : decode cX9_take 97 = .ok (.if_icmp .gt 193, 3) := by decide +kernel
theorem dX9_take_100 : decode cX9_take 100 = .ok (.aload_n 0, 1) := by decide +kernel
theorem dX9_take_101 : decode cX9_take 101 = .ok (.getfield 63, 3) := by decide +kernel
theorem dX9_take_104 : decode cX9_take 104 = .ok (.iload 5, 2) := by decide +kernel
theorem dX9_take_106 : decode cX9_take 106 = .ok (.baload, 1) := by decide +kernel
theorem dX9_take_107 : decode cX9_take 107 = .ok (.ifCond .ne 6, 3) := by decide +kernel
theorem dX9_take_110 : decode cX9_take 110 = .ok (.goto 174, 3) := by decide +kernel
theorem dX9_take_113 : decode cX9_take 113 = .ok (.aload_n 0, 1) := by decide +kernel
theorem dX9_take_114 : decode cX9_take 114 = .ok (.getfield 7, 3) := by decide +kernel
theorem dX9_take_117 : decode cX9_take 117 = .ok (.bipush 60, 2) := by decide +kernel
theorem dX9_take_119 : decode cX9_take 119 = .ok (.iaload, 1) := by decide +kernel
theorem dX9_take_120 : decode cX9_take 120 = .ok (.istore 6, 2) := by decide +kernel
theorem dX9_take_122 : decode cX9_take 122 = .ok (.iconst 0, 1) := by decide +kernel
theorem dX9_take_123 : decode cX9_take 123 = .ok (.istore 7, 2) := by decide +kernel
theorem dX9_take_125 : decode cX9_take 125 = .ok (.iload 7, 2) := by decide +kernel
theorem dX9_take_127 : decode cX9_take 127 = .ok (.iload 5, 2) := by decide +kernel
theorem dX9_take_129 : decode cX9_take 129 = .ok (.iload 4, 2) := by decide +kernel
theorem dX9_take_131 : decode cX9_take 131 = .ok (.isub, 1) := by decide +kernel
theorem dX9_take_132 : decode cX9_take 132 = .ok (.if_icmp .ge 54, 3) := by decide +kernel
theorem dX9_take_135 : decode cX9_take 135 = .ok (.aload_n 0, 1) := by decide +kernel
theorem dX9_take_136 : decode cX9_take 136 = .ok (.getfield 60, 3) := by decide +kernel
theorem dX9_take_139 : decode cX9_take 139 = .ok (.iload 5, 2) := by decide +kernel
theorem dX9_take_141 : decode cX9_take 141 = .ok (.iaload, 1) := by decide +kernel
theorem dX9_take_142 : decode cX9_take 142 = .ok (.iload 7, 2) := by decide +kernel
theorem dX9_take_144 : decode cX9_take 144 = .ok (.ishr, 1) := by decide +kernel
theorem dX9_take_145 : decode cX9_take 145 = .ok (.iconst 1, 1) := by decide +kernel
theorem dX9_take_146 : decode cX9_take 146 = .ok (.iand, 1) := by decide +kernel
theorem dX9_take_147 : decode cX9_take 147 = .ok (.ifCond .ne 33, 3) := by decide +kernel
theorem dX9_take_150 : decode cX9_take 150 = .ok (.iload 4, 2) := by decide +kernel
theorem dX9_take_152 : decode cX9_take 152 = .ok (.iconst 1, 1) := by decide +kernel
theorem dX9_take_153 : decode cX9_take 153 = .ok (.iadd, 1) := by decide +kernel
theorem dX9_take_154 : decode cX9_take 154 = .ok (.iload 7, 2) := by decide +kernel
theorem dX9_take_156 : decode cX9_take 156 = .ok (.iadd, 1) := by decide +kernel
theorem dX9_take_157 : decode cX9_take 157 = .ok (.aload_n 0, 1) := by decide +kernel
theorem dX9_take_158 : decode cX9_take 158 = .ok (.invokevirtual 74, 3) := by decide +kernel
theorem dX9_take_161 : decode cX9_take 161 = .ok (.if_icmp .gt 19, 3) := by decide +kernel
theorem dX9_take_164 : decode cX9_take 164 = .ok (.aload_n 0, 1) := by decide +kernel
theorem dX9_take_165 : decode cX9_take 165 = .ok (.aload_n 0, 1) := by decide +kernel
theorem dX9_take_166 : decode cX9_take 166 = .ok (.getfield 48, 3) := by decide +kernel
theorem dX9_take_169 : decode cX9_take 169 = .ok (.iload 4, 2) := by decide +kernel
theorem dX9_take_171 : decode cX9_take 171 = .ok (.iconst 1, 1) := by decide +kernel
theorem dX9_take_172 : decode cX9_take 172 = .ok (.iadd, 1) := by decide +kernel
theorem dX9_take_173 : decode cX9_take 173 = .ok (.iload 7, 2) := by decide +kernel
theorem dX9_take_175 : decode cX9_take 175 = .ok (.iadd, 1) := by decide +kernel
theorem dX9_take_176 : decode cX9_take 176 = .ok (.iaload, 1) := by decide +kernel
theorem dX9_take_177 : decode cX9_take 177 = .ok (.invokevirtual 110, 3) := by decide +kernel
theorem dX9_take_180 : decode cX9_take 180 = .ok (.iinc 7 1, 3) := by decide +kernel
theorem dX9_take_183 : decode cX9_take 183 = .ok (.goto (-58), 3) := by decide +kernel
theorem dX9_take_186 : decode cX9_take 186 = .ok (.iload 5, 2) := by decide +kernel
theorem dX9_take_188 : decode cX9_take 188 = .ok (.iload_n 3, 1) := by decide +kernel
theorem dX9_take_189 : decode cX9_take 189 = .ok (.if_icmp .ne 15, 3) := by decide +kernel
theorem dX9_take_192 : decode cX9_take 192 = .ok (.aload_n 0, 1) := by decide +kernel
theorem dX9_take_193 : decode cX9_take 193 = .ok (.getfield 7, 3) := by decide +kernel
theorem dX9_take_196 : decode cX9_take 196 = .ok (.bipush 60, 2) := by decide +kernel
theorem dX9_take_198 : decode cX9_take 198 = .ok (.iaload, 1) := by decide +kernel
theorem dX9_take_199 : decode cX9_take 199 = .ok (.iconst 1, 1) := by decide +kernel
theorem dX9_take_200 : decode cX9_take 200 = .ok (.iadd, 1) := by decide +kernel
theorem dX9_take_201 : decode cX9_take 201 = .ok (.goto 10, 3) := by decide +kernel
theorem dX9_take_204 : decode cX9_take 204 = .ok (.aload_n 0, 1) := by decide +kernel
theorem dX9_take_205 : decode cX9_take 205 = .ok (.getfield 7, 3) := by decide +kernel
theorem dX9_take_208 : decode cX9_take 208 = .ok (.bipush 60, 2) := by decide +kernel
theorem dX9_take_210 : decode cX9_take 210 = .ok (.iaload, 1) := by decide +kernel
theorem dX9_take_211 : decode cX9_take 211 = .ok (.istore 7, 2) := by decide +kernel
theorem dX9_take_213 : decode cX9_take 213 = .ok (.iconst 0, 1) := by decide +kernel
theorem dX9_take_214 : decode cX9_take 214 = .ok (.istore 8, 2) := by decide +kernel
theorem dX9_take_216 : decode cX9_take 216 = .ok (.iconst 0, 1) := by decide +kernel
theorem dX9_take_217 : decode cX9_take 217 = .ok (.istore 9, 2) := by decide +kernel
theorem dX9_take_219 : decode cX9_take 219 = .ok (.iload 9, 2) := by decide +kernel
theorem dX9_take_221 : decode cX9_take 221 = .ok (.iload 5, 2) := by decide +kernel
theorem dX9_take_223 : decode cX9_take 223 = .ok (.iload 4, 2) := by decide +kernel
theorem dX9_take_225 : decode cX9_take 225 = .ok (.isub, 1) := by decide +kernel
theorem dX9_take_226 : decode cX9_take 226 = .ok (.iconst 1, 1) := by decide +kernel
theorem dX9_take_227 : decode cX9_take 227 = .ok (.isub, 1) := by decide +kernel
theorem dX9_take_228 : decode cX9_take 228 = .ok (.if_icmp .ge 52, 3) := by decide +kernel
theorem dX9_take_231 : decode cX9_take 231 = .ok (.aload_n 0, 1) := by decide +kernel
theorem dX9_take_232 : decode cX9_take 232 = .ok (.getfield 60, 3) := by decide +kernel
theorem dX9_take_235 : decode cX9_take 235 = .ok (.iload 5, 2) := by decide +kernel
theorem dX9_take_237 : decode cX9_take 237 = .ok (.iaload, 1) := by decide +kernel
theorem dX9_take_238 : decode cX9_take 238 = .ok (.iload 9, 2) := by decide +kernel
theorem dX9_take_240 : decode cX9_take 240 = .ok (.ishr, 1) := by decide +kernel
theorem dX9_take_241 : decode cX9_take 241 = .ok (.iconst 1, 1) := by decide +kernel
theorem dX9_take_242 : decode cX9_take 242 = .ok (.iand, 1) := by decide +kernel
theorem dX9_take_243 : decode cX9_take 243 = .ok (.ifCond .ne 6, 3) := by decide +kernel
theorem dX9_take_246 : decode cX9_take 246 = .ok (.goto 28, 3) := by decide +kernel
theorem dX9_take_249 : decode cX9_take 249 = .ok (.aload_n 0, 1) := by decide +kernel
theorem dX9_take_250 : decode cX9_take 250 = .ok (.iload 8, 2) := by decide +kernel
theorem dX9_take_252 : decode cX9_take 252 = .ok (.iload 6, 2) := by decide +kernel
theorem dX9_take_254 : decode cX9_take 254 = .ok (.aload_n 0, 1) := by decide +kernel
theorem dX9_take_255 : decode cX9_take 255 = .ok (.getfield 48, 3) := by decide +kernel
theorem dX9_take_258 : decode cX9_take 258 = .ok (.iload 4, 2) := by decide +kernel
theorem dX9_take_260 : decode cX9_take 260 = .ok (.iconst 1, 1) := by decide +kernel
theorem dX9_take_261 : decode cX9_take 261 = .ok (.iadd, 1) := by decide +kernel
theorem dX9_take_262 : decode cX9_take 262 = .ok (.iload 9, 2) := by decide +kernel
theorem dX9_take_264 : decode cX9_take 264 = .ok (.iadd, 1) := by decide +kernel
theorem dX9_take_265 : decode cX9_take 265 = .ok (.iaload, 1) := by decide +kernel
theorem dX9_take_266 : decode cX9_take 266 = .ok (.iload 7, 2) := by decide +kernel
theorem dX9_take_268 : decode cX9_take 268 = .ok (.invokevirtual 121, 3) := by decide +kernel
theorem dX9_take_271 : decode cX9_take 271 = .ok (.iinc 8 1, 3) := by decide +kernel
theorem dX9_take_274 : decode cX9_take 274 = .ok (.iinc 9 1, 3) := by decide +kernel
theorem dX9_take_277 : decode cX9_take 277 = .ok (.goto (-58), 3) := by decide +kernel
theorem dX9_take_280 : decode cX9_take 280 = .ok (.iload 5, 2) := by decide +kernel
theorem dX9_take_282 : decode cX9_take 282 = .ok (.istore 4, 2) := by decide +kernel
theorem dX9_take_284 : decode cX9_take 284 = .ok (.iinc 5 1, 3) := by decide +kernel
theorem dX9_take_287 : decode cX9_take 287 = .ok (.goto (-193), 3) := by decide +kernel
theorem dX9_take_290 : decode cX9_take 290 = .ok (.iload_n 2, 1) := by decide +kernel
theorem dX9_take_291 : decode cX9_take 291 = .ok (.iconst (-1), 1) := by decide +kernel
theorem dX9_take_292 : decode cX9_take 292 = .ok (.if_icmp .ne 7, 3) := by decide +kernel
theorem dX9_take_295 : decode cX9_take 295 = .ok (.iconst (-1), 1) := by decide +kernel
theorem dX9_take_296 : decode cX9_take 296 = .ok (.goto 7, 3) := by decide +kernel
theorem dX9_take_299 : decode cX9_take 299 = .ok (.aload_n 0, 1) := by decide +kernel
theorem dX9_take_300 : decode cX9_take 300 = .ok (.invokevirtual 118, 3) := by decide +kernel
theorem dX9_take_303 : decode cX9_take 303 = .ok (.ireturn, 1) := by decide +kernel
def pX9_take_L36 (x2 : Int32) (x3 : Int32) (s : Int32 × Mm) : Option ((Int32 × Mm) ⊕ (Mm)) :=
if x3 < s.1 then
(some (Sum.inr s.2))
else
((ast s.2 18 10 s.1 (vp_nar .boolean 0)).bind fun M13 =>
some (Sum.inl (s.1 + 1, M13)))
def pX9_take_L59 (x2 : Int32) (x3 : Int32) (s : Int32 × Mm) : Option ((Int32 × Mm) ⊕ (Mm)) :=
if s.1 ≤ 0 then
(some (Sum.inr s.2))
else
((ast s.2 18 10 s.1 (vp_nar .boolean 1)).bind fun M24 =>
(ald M24 16 10 s.1).bind fun v26 =>
some (Sum.inl (v26, M24)))
def pX9_take_L125 (x2 : Int32) (x3 : Int32) (x4 : Int32) (x5 : Int32) (x6 : Int32) (s : Int32 × Mm) : Option ((Int32 × Mm) ⊕ (Mm)) :=
if (x5 - x4) ≤ s.1 then
(some (Sum.inr s.2))
else
((ald s.2 17 10 x5).bind fun v45 =>
if ((v45 >>> (s.1 &&& 31)) &&& 1) = 0 then
((pX9_customers s.2).bind fun v47 =>
if v47 < ((x4 + 1) + s.1) then
(some (Sum.inl (s.1 + 1, s.2)))
else
((ald s.2 13 10 ((x4 + 1) + s.1)).bind fun v49 =>
(pX9_stopsAt v49 s.2).bind fun v51 =>
some (Sum.inl (s.1 + 1, v51))))
else
(some (Sum.inl (s.1 + 1, s.2))))
def pX9_take_L219 (x2 : Int32) (x3 : Int32) (x4 : Int32) (x5 : Int32) (x6 : Int32) (x7 : Int32) (s : Int32 × Int32 × Mm) : Option ((Int32 × Int32 × Mm) ⊕ (Mm)) :=
if ((x5 - x4) - 1) ≤ s.2.1 then
(some (Sum.inr s.2.2))
else
((ald s.2.2 17 10 x5).bind fun v71 =>
if ((v71 >>> (s.2.1 &&& 31)) &&& 1) = 0 then
(some (Sum.inl (s.1, s.2.1 + 1, s.2.2)))
else
((ald s.2.2 13 10 ((x4 + 1) + s.2.1)).bind fun v73 =>
(pX9_sends s.1 x6 v73 x7 s.2.2).bind fun v75 =>
some (Sum.inl (s.1 + 1, s.2.1 + 1, v75))))
def pX9_take_L94 (x2 : Int32) (x3 : Int32) (s : Int32 × Int32 × Mm) : Option ((Int32 × Int32 × Mm) ⊕ (Mm)) :=
if x3 < s.2.1 then
(some (Sum.inr s.2.2))
else
((ald s.2.2 18 10 s.2.1).bind fun v41 =>
if v41 = 0 then
(some (Sum.inl (s.1, s.2.1 + 1, s.2.2)))
else
((ald s.2.2 1 160 60).bind fun v43 =>
(itr (pX9_take_L125 x2 x3 s.1 s.2.1 v43) fuel (0, s.2.2)).bind fun x53 =>
Option.bind (α := Int32) (if s.2.1 = x3 then
((ald x53 1 160 60).bind fun v91 =>
some (v91 + 1))
else
((ald x53 1 160 60).bind fun v93 =>
some v93)) fun j68 =>
(itr (pX9_take_L219 x2 x3 s.1 s.2.1 v43 j68) fuel (0, 0, x53)).bind fun x77 =>
bnd (s.2.1) fun v90 =>
some (Sum.inl (v90, s.2.1 + 1, x77))))
def pX9_take (x1 : Int32) (M : Mm) : Option (Int32 × Mm) :=
bnd (mset M 0 0 0) fun M1 =>
(pX9_lays x1 M1).bind fun v3 =>
if v3.1 = 0 then
(some ((-1), v3.2))
else
((pX9_of 8 v3.2).bind fun v5 =>
(pX9_splits v5 v3.2).bind fun v7 =>
bnd (v7.1) fun v9 =>
(pX9_customers v7.2).bind fun v10 =>
bnd (v10 + 1) fun v12 =>
(itr (pX9_take_L36 v9 v12) fuel (0, v7.2)).bind fun x15 =>
(itr (pX9_take_L59 v9 v12) fuel (v12, x15)).bind fun x28 =>
(pX9_clears x28).bind fun v39 =>
(itr (pX9_take_L94 v9 v12) fuel (0, 1, v39)).bind fun x95 =>
if v9 = (-1) then
(some ((-1), x95))
else
((pX9_sorties x95).bind fun v142 =>
some (v142, x95)))
abbrev zX9_take : Zx := (cX9_take, RX9, 10, 4, (some .int))
set_option maxRecDepth 100000 in
set_option maxHeartbeats 4000000 in
theorem tX9_take {l : Launch} {Y : Sx} {M : Mm} {x1 : Int32} {q : Int32 × Mm} (hY : isB Y) (h : pX9_take x1 M = some q) : Ct l Y yX9_take cX9_take 10 (some .int) 4 [.ref (adr Y 0), .int x1] M (some q.1) q.2 := by
  refine Ct.of (by decide) rfl (lv := [(0, .ref (adr Y 0)), (1, .int x1)]) rfl ?_
  intro K hkl C
  change Cx K zX9_take Y at C
  subst hkl
  unfold pX9_take at h
  show Wp K zX9_take Y (Qm K Y (some q.1) q.2) M 0 [(0, .ref (adr Y 0)), (1, .int x1)] []
  refine w_aload_n C (pc := 0) dX9_take_0 0 rfl ?_
  refine w_iconst C (pc := 1) dX9_take_1 (v := 0) (by decide) ?_
  obtain ⟨M1, e2, h⟩ := bn h
  refine w_putI C (pc := 2) dX9_take_2 fp_X9_66 (sB_0 hY) rfl ?_
  rw [e2]
  refine w_aload_n C (pc := 5) dX9_take_5 0 rfl ?_
  refine w_iload_n C (pc := 6) dX9_take_6 1 rfl ?_
  obtain ⟨v3, e4, h⟩ := ob h
  refine w_cVi C (pc := 7) dX9_take_7 my_X9_lays mi_X9_lays ml_X9_239 (sB_0 hY) rfl rfl rfl [.int x1] rfl rfl (Nat.le_of_ble_eq_true rfl) (tX9_lays hY  e4) ?_
  refine w_ifne C (pc := 10) 15 dX9_take_10 (by decide) (fun c => ?_) (fun c => ?_)
  · have h := it_t h c
    refine w_iconst C (pc := 13) dX9_take_13 (v := (-1)) (by decide) ?_
    exact w_ret C (pc := 14) dX9_take_14 rfl (Option.some.inj h)
  · have h := it_f h c
    refine w_aload_n C (pc := 15) dX9_take_15 0 rfl ?_
    refine w_aload_n C (pc := 16) dX9_take_16 0 rfl ?_
    refine w_bipush C (pc := 17) dX9_take_17 (v := 8) (by decide) ?_
    obtain ⟨v5, e6, h⟩ := ob h
    refine w_cVi C (pc := 19) dX9_take_19 my_X9_of mi_X9_of ml_X9_78 (sB_0 hY) rfl rfl rfl [.int 8] rfl rfl (Nat.le_of_ble_eq_true rfl) (tX9_of hY  e6) ?_
    obtain ⟨v7, e8, h⟩ := ob h
    refine w_cVi C (pc := 22) dX9_take_22 my_X9_splits mi_X9_splits ml_X9_242 (sB_0 hY) rfl rfl rfl [.int v5] rfl rfl (Nat.le_of_ble_eq_true rfl) (tX9_splits hY  e8) ?_
    refine w_bnd h (fun v9 h => ?_)
    refine w_istore_n C (pc := 25) dX9_take_25 (lv' := [(0, .ref (adr Y 0)), (1, .int x1), (2, .int v9)]) rfl rfl rfl ?_
    refine w_aload_n C (pc := 26) dX9_take_26 0 rfl ?_
    obtain ⟨v10, e11, h⟩ := ob h
    refine w_cVi C (pc := 27) dX9_take_27 my_X9_customers mi_X9_customers ml_X9_74 (sB_0 hY) rfl rfl rfl [] rfl rfl (Nat.le_of_ble_eq_true rfl) (tX9_customers hY  e11) ?_
    refine w_iconst C (pc := 30) dX9_take_30 (v := 1) (by decide) ?_
    refine w_iadd C (pc := 31) dX9_take_31 ?_
    refine w_bnd h (fun v12 h => ?_)
    refine w_istore_n C (pc := 32) dX9_take_32 (lv' := [(0, .ref (adr Y 0)), (1, .int x1), (2, .int v9), (3, .int v12)]) rfl rfl rfl ?_
    refine w_iconst C (pc := 33) dX9_take_33 (v := 0) (by decide) ?_
    refine w_istore C (pc := 34) dX9_take_34 (lv' := [(0, .ref (adr Y 0)), (1, .int x1), (2, .int v9), (3, .int v12), (4, .int 0)]) rfl rfl rfl ?_
    obtain ⟨x15, e16, h⟩ := ob h
    refine itr_W (P := fun s17 => Wp K zX9_take Y (Qm K Y (some q.1) q.2) s17.2 36 [(0, .ref (adr Y 0)), (1, .int x1), (2, .int v9), (3, .int v12), (4, .int s17.1)] []) (R := fun x15 => Wp K zX9_take Y (Qm K Y (some q.1) q.2) x15 56 [(0, .ref (adr Y 0)), (1, .int x1), (2, .int v9), (3, .int v12)] []) ?_ fuel (0, v7.2) x15 e16 ?_
    · intro s17 r18 h21 ki19 kx20
      unfold pX9_take_L36 at h21
      show Wp K zX9_take Y (Qm K Y (some q.1) q.2) s17.2 36 [(0, .ref (adr Y 0)), (1, .int x1), (2, .int v9), (3, .int v12), (4, .int s17.1)] []
      refine w_iload C (pc := 36) dX9_take_36 4 rfl ?_
      refine w_iload_n C (pc := 38) dX9_take_38 3 rfl ?_
      refine w_icgt C (pc := 39) 56 dX9_take_39 (by decide) (fun c => ?_) (fun c => ?_)
      · have h21 := it_t h21 c
        obtain rfl := Option.some.inj h21
        refine w_lv [0, 1, 2, 3] rfl ?_
        have k9 := kx20 s17.2 rfl
        try dsimp only at k9
        exact k9
      · have h21 := it_f h21 c
        refine w_aload_n C (pc := 42) dX9_take_42 0 rfl ?_
        refine w_getR C (pc := 43) dX9_take_43 f_X9_63 (sB_0 hY) rfl ?_
        refine w_iload C (pc := 46) dX9_take_46 4 rfl ?_
        refine w_iconst C (pc := 48) dX9_take_48 (v := 0) (by decide) ?_
        obtain ⟨M22, e23, h21⟩ := ob h21
        refine w_zast C (pc := 49) dX9_take_49 (sB_18 hY) e23 ?_
        refine w_iinc C (pc := 50) dX9_take_50 4 rfl (v := 1) (lv' := [(0, .ref (adr Y 0)), (1, .int x1), (2, .int v9), (3, .int v12), (4, .int (s17.1 + 1))]) (by decide) rfl rfl rfl ?_
        refine w_goto C (pc := 53) 36 dX9_take_53 (by decide) ?_
        obtain rfl := Option.some.inj h21
        have k9 := ki19 (s17.1 + 1, M22) rfl
        try dsimp only at k9
        exact k9
    · refine w_iload_n C (pc := 56) dX9_take_56 3 rfl ?_
      refine w_istore C (pc := 57) dX9_take_57 (lv' := [(0, .ref (adr Y 0)), (1, .int x1), (2, .int v9), (3, .int v12), (4, .int v12)]) rfl rfl rfl ?_
      obtain ⟨x28, e29, h⟩ := ob h
      refine itr_W (P := fun s30 => Wp K zX9_take Y (Qm K Y (some q.1) q.2) s30.2 59 [(0, .ref (adr Y 0)), (1, .int x1), (2, .int v9), (3, .int v12), (4, .int s30.1)] []) (R := fun x28 => Wp K zX9_take Y (Qm K Y (some q.1) q.2) x28 84 [(0, .ref (adr Y 0)), (1, .int x1), (2, .int v9), (3, .int v12)] []) ?_ fuel (v12, x15) x28 e29 ?_
      · intro s30 r31 h34 ki32 kx33
        unfold pX9_take_L59 at h34
        show Wp K zX9_take Y (Qm K Y (some q.1) q.2) s30.2 59 [(0, .ref (adr Y 0)), (1, .int x1), (2, .int v9), (3, .int v12), (4, .int s30.1)] []
        refine w_iload C (pc := 59) dX9_take_59 4 rfl ?_
        refine w_ifle C (pc := 61) 84 dX9_take_61 (by decide) (fun c => ?_) (fun c => ?_)
        · have h34 := it_t h34 c
          obtain rfl := Option.some.inj h34
          refine w_lv [0, 1, 2, 3] rfl ?_
          have k9 := kx33 s30.2 rfl
          try dsimp only at k9
          exact k9
        · have h34 := it_f h34 c
          refine w_aload_n C (pc := 64) dX9_take_64 0 rfl ?_
          refine w_getR C (pc := 65) dX9_take_65 f_X9_63 (sB_0 hY) rfl ?_
          refine w_iload C (pc := 68) dX9_take_68 4 rfl ?_
          refine w_iconst C (pc := 70) dX9_take_70 (v := 1) (by decide) ?_
          obtain ⟨M35, e36, h34⟩ := ob h34
          refine w_zast C (pc := 71) dX9_take_71 (sB_18 hY) e36 ?_
          refine w_aload_n C (pc := 72) dX9_take_72 0 rfl ?_
          refine w_getR C (pc := 73) dX9_take_73 f_X9_57 (sB_0 hY) rfl ?_
          refine w_iload C (pc := 76) dX9_take_76 4 rfl ?_
          obtain ⟨v37, e38, h34⟩ := ob h34
          refine w_iald C (pc := 78) dX9_take_78 (sB_16 hY) e38 ?_
          refine w_istore C (pc := 79) dX9_take_79 (lv' := [(0, .ref (adr Y 0)), (1, .int x1), (2, .int v9), (3, .int v12), (4, .int v37)]) rfl rfl rfl ?_
          refine w_goto C (pc := 81) 59 dX9_take_81 (by decide) ?_
          obtain rfl := Option.some.inj h34
          have k9 := ki32 (v37, M35) rfl
          try dsimp only at k9
          exact k9
      · refine w_aload_n C (pc := 84) dX9_take_84 0 rfl ?_
        obtain ⟨v39, e40, h⟩ := ob h
        refine w_cVv C (pc := 85) dX9_take_85 my_X9_clears mi_X9_clears ml_X9_97 (sB_0 hY) rfl rfl rfl [] rfl rfl (Nat.le_of_ble_eq_true rfl) (tX9_clears hY  e40) ?_
        refine w_iconst C (pc := 88) dX9_take_88 (v := 0) (by decide) ?_
        refine w_istore C (pc := 89) dX9_take_89 (lv' := [(0, .ref (adr Y 0)), (1, .int x1), (2, .int v9), (3, .int v12), (4, .int 0)]) rfl rfl rfl ?_
        refine w_iconst C (pc := 91) dX9_take_91 (v := 1) (by decide) ?_
        refine w_istore C (pc := 92) dX9_take_92 (lv' := [(0, .ref (adr Y 0)), (1, .int x1), (2, .int v9), (3, .int v12), (4, .int 0), (5, .int 1)]) rfl rfl rfl ?_
        obtain ⟨x95, e96, h⟩ := ob h
        refine itr_W (P := fun s97 => Wp K zX9_take Y (Qm K Y (some q.1) q.2) s97.2.2 94 [(0, .ref (adr Y 0)), (1, .int x1), (2, .int v9), (3, .int v12), (4, .int s97.1), (5, .int s97.2.1)] []) (R := fun x95 => Wp K zX9_take Y (Qm K Y (some q.1) q.2) x95 290 [(0, .ref (adr Y 0)), (1, .int x1), (2, .int v9), (3, .int v12)] []) ?_ fuel (0, 1, v39) x95 e96 ?_
        · intro s97 r98 h101 ki99 kx100
          unfold pX9_take_L94 at h101
          show Wp K zX9_take Y (Qm K Y (some q.1) q.2) s97.2.2 94 [(0, .ref (adr Y 0)), (1, .int x1), (2, .int v9), (3, .int v12), (4, .int s97.1), (5, .int s97.2.1)] []
          refine w_iload C (pc := 94) dX9_take_94 5 rfl ?_
          refine w_iload_n C (pc := 96) dX9_take_96 3 rfl ?_
          refine w_icgt C (pc := 97) 290 dX9_take_97 (by decide) (fun c => ?_) (fun c => ?_)
          · have h101 := it_t h101 c
            obtain rfl := Option.some.inj h101
            refine w_lv [0, 1, 2, 3] rfl ?_
            have k9 := kx100 s97.2.2 rfl
            try dsimp only at k9
            exact k9
          · have h101 := it_f h101 c
            refine w_aload_n C (pc := 100) dX9_take_100 0 rfl ?_
            refine w_getR C (pc := 101) dX9_take_101 f_X9_63 (sB_0 hY) rfl ?_
            refine w_iload C (pc := 104) dX9_take_104 5 rfl ?_
            obtain ⟨v102, e103, h101⟩ := ob h101
            refine w_zald C (pc := 106) dX9_take_106 (sB_18 hY) e103 ?_
            refine w_ifne C (pc := 107) 113 dX9_take_107 (by decide) (fun c => ?_) (fun c => ?_)
            · have h101 := it_t h101 c
              refine w_goto C (pc := 110) 284 dX9_take_110 (by decide) ?_
              refine w_iinc C (pc := 284) dX9_take_284 5 rfl (v := 1) (lv' := [(0, .ref (adr Y 0)), (1, .int x1), (2, .int v9), (3, .int v12), (4, .int s97.1), (5, .int (s97.2.1 + 1))]) (by decide) rfl rfl rfl ?_
              refine w_goto C (pc := 287) 94 dX9_take_287 (by decide) ?_
              obtain rfl := Option.some.inj h101
              have k9 := ki99 (s97.1, s97.2.1 + 1, s97.2.2) rfl
              try dsimp only at k9
              exact k9
            · have h101 := it_f h101 c
              refine w_aload_n C (pc := 113) dX9_take_113 0 rfl ?_
              refine w_getR C (pc := 114) dX9_take_114 f_X9_7 (sB_0 hY) rfl ?_
              refine w_bipush C (pc := 117) dX9_take_117 (v := 60) (by decide) ?_
              obtain ⟨v104, e105, h101⟩ := ob h101
              refine w_iald C (pc := 119) dX9_take_119 (sB_1 hY) e105 ?_
              refine w_istore C (pc := 120) dX9_take_120 (lv' := [(0, .ref (adr Y 0)), (1, .int x1), (2, .int v9), (3, .int v12), (4, .int s97.1), (5, .int s97.2.1), (6, .int v104)]) rfl rfl rfl ?_
              refine w_iconst C (pc := 122) dX9_take_122 (v := 0) (by decide) ?_
              refine w_istore C (pc := 123) dX9_take_123 (lv' := [(0, .ref (adr Y 0)), (1, .int x1), (2, .int v9), (3, .int v12), (4, .int s97.1), (5, .int s97.2.1), (6, .int v104), (7, .int 0)]) rfl rfl rfl ?_
              obtain ⟨x106, e107, h101⟩ := ob h101
              refine itr_W (P := fun s108 => Wp K zX9_take Y (Qm K Y (some q.1) q.2) s108.2 125 [(0, .ref (adr Y 0)), (1, .int x1), (2, .int v9), (3, .int v12), (4, .int s97.1), (5, .int s97.2.1), (6, .int v104), (7, .int s108.1)] []) (R := fun x106 => Wp K zX9_take Y (Qm K Y (some q.1) q.2) x106 186 [(0, .ref (adr Y 0)), (1, .int x1), (2, .int v9), (3, .int v12), (4, .int s97.1), (5, .int s97.2.1), (6, .int v104)] []) ?_ fuel (0, s97.2.2) x106 e107 ?_
              · intro s108 r109 h112 ki110 kx111
                unfold pX9_take_L125 at h112
                show Wp K zX9_take Y (Qm K Y (some q.1) q.2) s108.2 125 [(0, .ref (adr Y 0)), (1, .int x1), (2, .int v9), (3, .int v12), (4, .int s97.1), (5, .int s97.2.1), (6, .int v104), (7, .int s108.1)] []
                refine w_iload C (pc := 125) dX9_take_125 7 rfl ?_
                refine w_iload C (pc := 127) dX9_take_127 5 rfl ?_
                refine w_iload C (pc := 129) dX9_take_129 4 rfl ?_
                refine w_isub C (pc := 131) dX9_take_131 ?_
                refine w_icge C (pc := 132) 186 dX9_take_132 (by decide) (fun c => ?_) (fun c => ?_)
                · have h112 := it_t h112 c
                  obtain rfl := Option.some.inj h112
                  refine w_lv [0, 1, 2, 3, 4, 5, 6] rfl ?_
                  have k9 := kx111 s108.2 rfl
                  try dsimp only at k9
                  exact k9
                · have h112 := it_f h112 c
                  refine w_aload_n C (pc := 135) dX9_take_135 0 rfl ?_
                  refine w_getR C (pc := 136) dX9_take_136 f_X9_60 (sB_0 hY) rfl ?_
                  refine w_iload C (pc := 139) dX9_take_139 5 rfl ?_
                  obtain ⟨v113, e114, h112⟩ := ob h112
                  refine w_iald C (pc := 141) dX9_take_141 (sB_17 hY) e114 ?_
                  refine w_iload C (pc := 142) dX9_take_142 7 rfl ?_
                  refine w_ishr C (pc := 144) dX9_take_144 ?_
                  refine w_iconst C (pc := 145) dX9_take_145 (v := 1) (by decide) ?_
                  refine w_iand C (pc := 146) dX9_take_146 ?_
                  refine w_ifne C (pc := 147) 180 dX9_take_147 (by decide) (fun c => ?_) (fun c => ?_)
                  · have h112 := it_t h112 c
                    refine w_iload C (pc := 150) dX9_take_150 4 rfl ?_
                    refine w_iconst C (pc := 152) dX9_take_152 (v := 1) (by decide) ?_
                    refine w_iadd C (pc := 153) dX9_take_153 ?_
                    refine w_iload C (pc := 154) dX9_take_154 7 rfl ?_
                    refine w_iadd C (pc := 156) dX9_take_156 ?_
                    refine w_aload_n C (pc := 157) dX9_take_157 0 rfl ?_
                    obtain ⟨v115, e116, h112⟩ := ob h112
                    refine w_cVi C (pc := 158) dX9_take_158 my_X9_customers mi_X9_customers ml_X9_74 (sB_0 hY) rfl rfl rfl [] rfl rfl (Nat.le_of_ble_eq_true rfl) (tX9_customers hY  e116) ?_
                    refine w_icgt C (pc := 161) 180 dX9_take_161 (by decide) (fun c => ?_) (fun c => ?_)
                    · have h112 := it_t h112 c
                      refine w_iinc C (pc := 180) dX9_take_180 7 rfl (v := 1) (lv' := [(0, .ref (adr Y 0)), (1, .int x1), (2, .int v9), (3, .int v12), (4, .int s97.1), (5, .int s97.2.1), (6, .int v104), (7, .int (s108.1 + 1))]) (by decide) rfl rfl rfl ?_
                      refine w_goto C (pc := 183) 125 dX9_take_183 (by decide) ?_
                      obtain rfl := Option.some.inj h112
                      have k9 := ki110 (s108.1 + 1, s108.2) rfl
                      try dsimp only at k9
                      exact k9
                    · have h112 := it_f h112 c
                      refine w_aload_n C (pc := 164) dX9_take_164 0 rfl ?_
                      refine w_aload_n C (pc := 165) dX9_take_165 0 rfl ?_
                      refine w_getR C (pc := 166) dX9_take_166 f_X9_48 (sB_0 hY) rfl ?_
                      refine w_iload C (pc := 169) dX9_take_169 4 rfl ?_
                      refine w_iconst C (pc := 171) dX9_take_171 (v := 1) (by decide) ?_
                      refine w_iadd C (pc := 172) dX9_take_172 ?_
                      refine w_iload C (pc := 173) dX9_take_173 7 rfl ?_
                      refine w_iadd C (pc := 175) dX9_take_175 ?_
                      obtain ⟨v117, e118, h112⟩ := ob h112
                      refine w_iald C (pc := 176) dX9_take_176 (sB_13 hY) e118 ?_
                      obtain ⟨v119, e120, h112⟩ := ob h112
                      refine w_cVv C (pc := 177) dX9_take_177 my_X9_stopsAt mi_X9_stopsAt ml_X9_110 (sB_0 hY) rfl rfl rfl [.int v117] rfl rfl (Nat.le_of_ble_eq_true rfl) (tX9_stopsAt hY  e120) ?_
                      refine w_iinc C (pc := 180) dX9_take_180 7 rfl (v := 1) (lv' := [(0, .ref (adr Y 0)), (1, .int x1), (2, .int v9), (3, .int v12), (4, .int s97.1), (5, .int s97.2.1), (6, .int v104), (7, .int (s108.1 + 1))]) (by decide) rfl rfl rfl ?_
                      refine w_goto C (pc := 183) 125 dX9_take_183 (by decide) ?_
                      obtain rfl := Option.some.inj h112
                      have k9 := ki110 (s108.1 + 1, v119) rfl
                      try dsimp only at k9
                      exact k9
                  · have h112 := it_f h112 c
                    refine w_iinc C (pc := 180) dX9_take_180 7 rfl (v := 1) (lv' := [(0, .ref (adr Y 0)), (1, .int x1), (2, .int v9), (3, .int v12), (4, .int s97.1), (5, .int s97.2.1), (6, .int v104), (7, .int (s108.1 + 1))]) (by decide) rfl rfl rfl ?_
                    refine w_goto C (pc := 183) 125 dX9_take_183 (by decide) ?_
                    obtain rfl := Option.some.inj h112
                    have k9 := ki110 (s108.1 + 1, s108.2) rfl
                    try dsimp only at k9
                    exact k9
              · refine w_iload C (pc := 186) dX9_take_186 5 rfl ?_
                refine w_iload_n C (pc := 188) dX9_take_188 3 rfl ?_
                obtain ⟨j121, e122, h123⟩ := ob h101
                have Jj121 : Wp K zX9_take Y (Qm K Y (some q.1) q.2) x106 211 [(0, .ref (adr Y 0)), (1, .int x1), (2, .int v9), (3, .int v12), (4, .int s97.1), (5, .int s97.2.1), (6, .int v104)] [.int j121] := by
                  refine w_istore C (pc := 211) dX9_take_211 (lv' := [(0, .ref (adr Y 0)), (1, .int x1), (2, .int v9), (3, .int v12), (4, .int s97.1), (5, .int s97.2.1), (6, .int v104), (7, .int j121)]) rfl rfl rfl ?_
                  refine w_iconst C (pc := 213) dX9_take_213 (v := 0) (by decide) ?_
                  refine w_istore C (pc := 214) dX9_take_214 (lv' := [(0, .ref (adr Y 0)), (1, .int x1), (2, .int v9), (3, .int v12), (4, .int s97.1), (5, .int s97.2.1), (6, .int v104), (7, .int j121), (8, .int 0)]) rfl rfl rfl ?_
                  refine w_iconst C (pc := 216) dX9_take_216 (v := 0) (by decide) ?_
                  refine w_istore C (pc := 217) dX9_take_217 (lv' := [(0, .ref (adr Y 0)), (1, .int x1), (2, .int v9), (3, .int v12), (4, .int s97.1), (5, .int s97.2.1), (6, .int v104), (7, .int j121), (8, .int 0), (9, .int 0)]) rfl rfl rfl ?_
                  obtain ⟨x124, e125, h123⟩ := ob h123
                  refine itr_W (P := fun s126 => Wp K zX9_take Y (Qm K Y (some q.1) q.2) s126.2.2 219 [(0, .ref (adr Y 0)), (1, .int x1), (2, .int v9), (3, .int v12), (4, .int s97.1), (5, .int s97.2.1), (6, .int v104), (7, .int j121), (8, .int s126.1), (9, .int s126.2.1)] []) (R := fun x124 => Wp K zX9_take Y (Qm K Y (some q.1) q.2) x124 280 [(0, .ref (adr Y 0)), (1, .int x1), (2, .int v9), (3, .int v12), (4, .int s97.1), (5, .int s97.2.1), (6, .int v104), (7, .int j121)] []) ?_ fuel (0, 0, x106) x124 e125 ?_
                  · intro s126 r127 h130 ki128 kx129
                    unfold pX9_take_L219 at h130
                    show Wp K zX9_take Y (Qm K Y (some q.1) q.2) s126.2.2 219 [(0, .ref (adr Y 0)), (1, .int x1), (2, .int v9), (3, .int v12), (4, .int s97.1), (5, .int s97.2.1), (6, .int v104), (7, .int j121), (8, .int s126.1), (9, .int s126.2.1)] []
                    refine w_iload C (pc := 219) dX9_take_219 9 rfl ?_
                    refine w_iload C (pc := 221) dX9_take_221 5 rfl ?_
                    refine w_iload C (pc := 223) dX9_take_223 4 rfl ?_
                    refine w_isub C (pc := 225) dX9_take_225 ?_
                    refine w_iconst C (pc := 226) dX9_take_226 (v := 1) (by decide) ?_
                    refine w_isub C (pc := 227) dX9_take_227 ?_
                    refine w_icge C (pc := 228) 280 dX9_take_228 (by decide) (fun c => ?_) (fun c => ?_)
                    · have h130 := it_t h130 c
                      obtain rfl := Option.some.inj h130
                      refine w_lv [0, 1, 2, 3, 4, 5, 6, 7] rfl ?_
                      have k9 := kx129 s126.2.2 rfl
                      try dsimp only at k9
                      exact k9
                    · have h130 := it_f h130 c
                      refine w_aload_n C (pc := 231) dX9_take_231 0 rfl ?_
                      refine w_getR C (pc := 232) dX9_take_232 f_X9_60 (sB_0 hY) rfl ?_
                      refine w_iload C (pc := 235) dX9_take_235 5 rfl ?_
                      obtain ⟨v131, e132, h130⟩ := ob h130
                      refine w_iald C (pc := 237) dX9_take_237 (sB_17 hY) e132 ?_
                      refine w_iload C (pc := 238) dX9_take_238 9 rfl ?_
                      refine w_ishr C (pc := 240) dX9_take_240 ?_
                      refine w_iconst C (pc := 241) dX9_take_241 (v := 1) (by decide) ?_
                      refine w_iand C (pc := 242) dX9_take_242 ?_
                      refine w_ifne C (pc := 243) 249 dX9_take_243 (by decide) (fun c => ?_) (fun c => ?_)
                      · have h130 := it_t h130 c
                        refine w_goto C (pc := 246) 274 dX9_take_246 (by decide) ?_
                        refine w_iinc C (pc := 274) dX9_take_274 9 rfl (v := 1) (lv' := [(0, .ref (adr Y 0)), (1, .int x1), (2, .int v9), (3, .int v12), (4, .int s97.1), (5, .int s97.2.1), (6, .int v104), (7, .int j121), (8, .int s126.1), (9, .int (s126.2.1 + 1))]) (by decide) rfl rfl rfl ?_
                        refine w_goto C (pc := 277) 219 dX9_take_277 (by decide) ?_
                        obtain rfl := Option.some.inj h130
                        have k9 := ki128 (s126.1, s126.2.1 + 1, s126.2.2) rfl
                        try dsimp only at k9
                        exact k9
                      · have h130 := it_f h130 c
                        refine w_aload_n C (pc := 249) dX9_take_249 0 rfl ?_
                        refine w_iload C (pc := 250) dX9_take_250 8 rfl ?_
                        refine w_iload C (pc := 252) dX9_take_252 6 rfl ?_
                        refine w_aload_n C (pc := 254) dX9_take_254 0 rfl ?_
                        refine w_getR C (pc := 255) dX9_take_255 f_X9_48 (sB_0 hY) rfl ?_
                        refine w_iload C (pc := 258) dX9_take_258 4 rfl ?_
                        refine w_iconst C (pc := 260) dX9_take_260 (v := 1) (by decide) ?_
                        refine w_iadd C (pc := 261) dX9_take_261 ?_
                        refine w_iload C (pc := 262) dX9_take_262 9 rfl ?_
                        refine w_iadd C (pc := 264) dX9_take_264 ?_
                        obtain ⟨v133, e134, h130⟩ := ob h130
                        refine w_iald C (pc := 265) dX9_take_265 (sB_13 hY) e134 ?_
                        refine w_iload C (pc := 266) dX9_take_266 7 rfl ?_
                        obtain ⟨v135, e136, h130⟩ := ob h130
                        refine w_cVv C (pc := 268) dX9_take_268 my_X9_sends mi_X9_sends ml_X9_121 (sB_0 hY) rfl rfl rfl [.int s126.1, .int v104, .int v133, .int j121] rfl rfl (Nat.le_of_ble_eq_true rfl) (tX9_sends hY  e136) ?_
                        refine w_iinc C (pc := 271) dX9_take_271 8 rfl (v := 1) (lv' := [(0, .ref (adr Y 0)), (1, .int x1), (2, .int v9), (3, .int v12), (4, .int s97.1), (5, .int s97.2.1), (6, .int v104), (7, .int j121), (8, .int (s126.1 + 1)), (9, .int s126.2.1)]) (by decide) rfl rfl rfl ?_
                        refine w_iinc C (pc := 274) dX9_take_274 9 rfl (v := 1) (lv' := [(0, .ref (adr Y 0)), (1, .int x1), (2, .int v9), (3, .int v12), (4, .int s97.1), (5, .int s97.2.1), (6, .int v104), (7, .int j121), (8, .int (s126.1 + 1)), (9, .int (s126.2.1 + 1))]) (by decide) rfl rfl rfl ?_
                        refine w_goto C (pc := 277) 219 dX9_take_277 (by decide) ?_
                        obtain rfl := Option.some.inj h130
                        have k9 := ki128 (s126.1 + 1, s126.2.1 + 1, v135) rfl
                        try dsimp only at k9
                        exact k9
                  · refine w_iload C (pc := 280) dX9_take_280 5 rfl ?_
                    refine w_bnd h123 (fun v137 h123 => ?_)
                    refine w_istore C (pc := 282) dX9_take_282 (lv' := [(0, .ref (adr Y 0)), (1, .int x1), (2, .int v9), (3, .int v12), (4, .int v137), (5, .int s97.2.1), (6, .int v104), (7, .int j121)]) rfl rfl rfl ?_
                    refine w_iinc C (pc := 284) dX9_take_284 5 rfl (v := 1) (lv' := [(0, .ref (adr Y 0)), (1, .int x1), (2, .int v9), (3, .int v12), (4, .int v137), (5, .int (s97.2.1 + 1)), (6, .int v104), (7, .int j121)]) (by decide) rfl rfl rfl ?_
                    refine w_goto C (pc := 287) 94 dX9_take_287 (by decide) ?_
                    obtain rfl := Option.some.inj h123
                    refine w_lv [0, 1, 2, 3, 4, 5] rfl ?_
                    have k9 := ki99 (v137, s97.2.1 + 1, x124) rfl
                    try dsimp only at k9
                    exact k9
                refine w_icne C (pc := 189) 204 dX9_take_189 (by decide) (fun c => ?_) (fun c => ?_)
                · have e122 := it_t e122 c
                  refine w_aload_n C (pc := 192) dX9_take_192 0 rfl ?_
                  refine w_getR C (pc := 193) dX9_take_193 f_X9_7 (sB_0 hY) rfl ?_
                  refine w_bipush C (pc := 196) dX9_take_196 (v := 60) (by decide) ?_
                  obtain ⟨v138, e139, e122⟩ := ob e122
                  refine w_iald C (pc := 198) dX9_take_198 (sB_1 hY) e139 ?_
                  refine w_iconst C (pc := 199) dX9_take_199 (v := 1) (by decide) ?_
                  refine w_iadd C (pc := 200) dX9_take_200 ?_
                  refine w_goto C (pc := 201) 211 dX9_take_201 (by decide) ?_
                  obtain rfl := Option.some.inj e122
                  exact Jj121
                · have e122 := it_f e122 c
                  refine w_aload_n C (pc := 204) dX9_take_204 0 rfl ?_
                  refine w_getR C (pc := 205) dX9_take_205 f_X9_7 (sB_0 hY) rfl ?_
                  refine w_bipush C (pc := 208) dX9_take_208 (v := 60) (by decide) ?_
                  obtain ⟨v140, e141, e122⟩ := ob e122
                  refine w_iald C (pc := 210) dX9_take_210 (sB_1 hY) e141 ?_
                  obtain rfl := Option.some.inj e122
                  exact Jj121
        · refine w_iload_n C (pc := 290) dX9_take_290 2 rfl ?_
          refine w_iconst C (pc := 291) dX9_take_291 (v := (-1)) (by decide) ?_
          refine w_icne C (pc := 292) 299 dX9_take_292 (by decide) (fun c => ?_) (fun c => ?_)
          · have h := it_t h c
            refine w_iconst C (pc := 295) dX9_take_295 (v := (-1)) (by decide) ?_
            refine w_goto C (pc := 296) 303 dX9_take_296 (by decide) ?_
            exact w_ret C (pc := 303) dX9_take_303 rfl (Option.some.inj h)
          · have h := it_f h c
            refine w_aload_n C (pc := 299) dX9_take_299 0 rfl ?_
            obtain ⟨v142, e143, h⟩ := ob h
            refine w_cVi C (pc := 300) dX9_take_300 my_X9_sorties mi_X9_sorties ml_X9_118 (sB_0 hY) rfl rfl rfl [] rfl rfl (Nat.le_of_ble_eq_true rfl) (tX9_sorties hY  e143) ?_
            exact w_ret C (pc := 303) dX9_take_303 rfl (Option.some.inj h)
theorem dX9_tell_0 : decode cX9_tell 0 = .ok (.aload_n 0, 1) := by decide +kernel
theorem dX9_tell_1 : decode cX9_tell 1 = .ok (.iconst 0, 1) := by decide +kernel
theorem dX9_tell_2 : decode cX9_tell 2 = .ok (.putfield 66, 3) := by decide +kernel
theorem dX9_tell_5 : decode cX9_tell 5 = .ok (.aload_n 0, 1) := by decide +kernel
theorem dX9_tell_6 : decode cX9_tell 6 = .ok (.aload_n 0, 1) := by decide +kernel
theorem dX9_tell_7 : decode cX9_tell 7 = .ok (.getfield 125, 3) := by decide +kernel
theorem dX9_tell_10 : decode cX9_tell 10 = .ok (.putfield 146, 3) := by decide +kernel
theorem dX9_tell_13 : decode cX9_tell 13 = .ok (.aload_n 0, 1) := by decide +kernel
theorem dX9_tell_14 : decode cX9_tell 14 = .ok (.iconst 0, 1) := by decide +kernel
theorem dX9_tell_15 : decode cX9_tell 15 = .ok (.putfield 125, 3) := by decide +kernel
theorem dX9_tell_18 : decode cX9_tell 18 = .ok (.aload_n 0, 1) := by decide +kernel
theorem dX9_tell_19 : decode cX9_tell 19 = .ok (.iconst 0, 1) := by decide +kernel
theorem dX9_tell_20 : decode cX9_tell 20 = .ok (.putfield 149, 3) := by decide +kernel
theorem dX9_tell_23 : decode cX9_tell 23 = .ok (.aload_n 0, 1) := by decide +kernel
theorem dX9_tell_24 : decode cX9_tell 24 = .ok (.iconst 0, 1) := by decide +kernel
theorem dX9_tell_25 : decode cX9_tell 25 = .ok (.putfield 143, 3) := by decide +kernel
theorem dX9_tell_28 : decode cX9_tell 28 = .ok (.iconst 0, 1) := by decide +kernel
theorem dX9_tell_29 : decode cX9_tell 29 = .ok (.istore_n 1, 1) := by decide +kernel
theorem dX9_tell_30 : decode cX9_tell 30 = .ok (.iload_n 1, 1) := by decide +kernel
theorem dX9_tell_31 : decode cX9_tell 31 = .ok (.sipush 160, 3) := by decide +kernel
theorem dX9_tell_34 : decode cX9_tell 34 = .ok (.if_icmp .ge 21, 3) := by decide +kernel
theorem dX9_tell_37 : decode cX9_tell 37 = .ok (.aload_n 0, 1) := by decide +kernel
theorem dX9_tell_38 : decode cX9_tell 38 = .ok (.getfield 13, 3) := by decide +kernel
theorem dX9_tell_41 : decode cX9_tell 41 = .ok (.iload_n 1, 1) := by decide +kernel
theorem dX9_tell_42 : decode cX9_tell 42 = .ok (.aload_n 0, 1) := by decide +kernel
theorem dX9_tell_43 : decode cX9_tell 43 = .ok (.getfield 7, 3) := by decide +kernel
theorem dX9_tell_46 : decode cX9_tell 46 = .ok (.iload_n 1, 1) := by decide +kernel
theorem dX9_tell_47 : decode cX9_tell 47 = .ok (.iaload, 1) := by decide +kernel
theorem dX9_tell_48 : decode cX9_tell 48 = .ok (.iastore, 1) := by decide +kernel
theorem dX9_tell_49 : decode cX9_tell 49 = .ok (.iinc 1 1, 3) := by decide +kernel
theorem dX9_tell_52 : decode cX9_tell 52 = .ok (.goto (-22), 3) := by decide +kernel
theorem dX9_tell_55 : decode cX9_tell 55 = .ok (.iconst 0, 1) := by decide +kernel
theorem dX9_tell_56 : decode cX9_tell 56 = .ok (.istore_n 1, 1) := by decide +kernel
theorem dX9_tell_57 : decode cX9_tell 57 = .ok (.aload_n 0, 1) := by decide +kernel
theorem dX9_tell_58 : decode cX9_tell 58 = .ok (.getfield 149, 3) := by decide +kernel
theorem dX9_tell_61 : decode cX9_tell 61 = .ok (.ifCond .ne 56, 3) := by decide +kernel
theorem dX9_tell_64 : decode cX9_tell 64 = .ok (.aload_n 0, 1) := by decide +kernel
theorem dX9_tell_65 : decode cX9_tell 65 = .ok (.invokevirtual 152, 3) := by decide +kernel
theorem dX9_tell_68 : decode cX9_tell 68 = .ok (.iconst (-1), 1) := by decide +kernel
theorem dX9_tell_69 : decode cX9_tell 69 = .ok (.if_icmp .eq 48, 3) := by decide +kernel
theorem dX9_tell_72 : decode cX9_tell 72 = .ok (.aload_n 0, 1) := by decide +kernel
theorem dX9_tell_73 : decode cX9_tell 73 = .ok (.invokevirtual 184, 3) := by decide +kernel
theorem dX9_tell_76 : decode cX9_tell 76 = .ok (.aload_n 0, 1) := by decide +kernel
theorem dX9_tell_77 : decode cX9_tell 77 = .ok (.getfield 149, 3) := by decide +kernel
theorem dX9_tell_80 : decode cX9_tell 80 = .ok (.ifCond .ne 21, 3) := by decide +kernel
theorem dX9_tell_83 : decode cX9_tell 83 = .ok (.aload_n 0, 1) := by decide +kernel
theorem dX9_tell_84 : decode cX9_tell 84 = .ok (.invokevirtual 152, 3) := by decide +kernel
theorem dX9_tell_87 : decode cX9_tell 87 = .ok (.bipush 59, 2) := by decide +kernel
theorem dX9_tell_89 : decode cX9_tell 89 = .ok (.if_icmp .eq 12, 3) := by decide +kernel
theorem dX9_tell_92 : decode cX9_tell 92 = .ok (.aload_n 0, 1) := by decide +kernel
theorem dX9_tell_93 : decode cX9_tell 93 = .ok (.iconst 1, 1) := by decide +kernel
theorem dX9_tell_94 : decode cX9_tell 94 = .ok (.aload_n 0, 1) := by decide +kernel
theorem dX9_tell_95 : decode cX9_tell 95 = .ok (.getfield 143, 3) := by decide +kernel
theorem dX9_tell_98 : decode cX9_tell 98 = .ok (.invokevirtual 161, 3) := by decide +kernel
theorem dX9_tell_101 : decode cX9_tell 101 = .ok (.aload_n 0, 1) := by decide +kernel
theorem dX9_tell_102 : decode cX9_tell 102 = .ok (.dup, 1) := by decide +kernel
theorem dX9_tell_103 : decode cX9_tell 103 = .ok (.getfield 143, 3) := by decide +kernel
theorem dX9_tell_106 : decode cX9_tell 106 = .ok (.iconst 1, 1) := by decide +kernel
theorem dX9_tell_107 : decode cX9_tell 107 = .ok (.iadd, 1) := by decide +kernel
theorem dX9_tell_108 : decode cX9_tell 108 = .ok (.putfield 143, 3) := by decide +kernel
theorem dX9_tell_111 : decode cX9_tell 111 = .ok (.iinc 1 1, 3) := by decide +kernel
theorem dX9_tell_114 : decode cX9_tell 114 = .ok (.goto (-57), 3) := by decide +kernel
theorem dX9_tell_117 : decode cX9_tell 117 = .ok (.aload_n 0, 1) := by decide +kernel
theorem dX9_tell_118 : decode cX9_tell 118 = .ok (.getfield 149, 3) := by decide +kernel
theorem dX9_tell_121 : decode cX9_tell 121 = .ok (.ifCond .ne 5, 3) := by decide +kernel
theorem dX9_tell_124 : decode cX9_tell 124 = .ok (.iload_n 1, 1) := by decide +kernel
theorem dX9_tell_125 : decode cX9_tell 125 = .ok (.ireturn, 1) := by decide +kernel
theorem dX9_tell_126 : decode cX9_tell 126 = .ok (.iconst 0, 1) := by decide +kernel
theorem dX9_tell_127 : decode cX9_tell 127 = .ok (.istore_n 2, 1) := by decide +kernel
theorem dX9_tell_128 : decode cX9_tell 128 = .ok (.iload_n 2, 1) := by decide +kernel
theorem dX9_tell_129 : decode cX9_tell 129 = .ok (.sipush 160, 3) := by decide +kernel
theorem dX9_tell_132 : decode cX9_tell 132 = .ok (.if_icmp .ge 21, 3) := by decide +kernel
theorem dX9_tell_135 : decode cX9_tell 135 = .ok (.aload_n 0, 1) := by decide +kernel
theorem dX9_tell_136 : decode cX9_tell 136 = .ok (.getfield 7, 3) := by decide +kernel
theorem dX9_tell_139 : decode cX9_tell 139 = .ok (.iload_n 2, 1) := by decide +kernel
theorem dX9_tell_140 : decode cX9_tell 140 = .ok (.aload_n 0, 1) := by decide +kernel
theorem dX9_tell_141 : decode cX9_tell 141 = .ok (.getfield 13, 3) := by decide +kernel
theorem dX9_tell_144 : decode cX9_tell 144 = .ok (.iload_n 2, 1) := by decide +kernel
theorem dX9_tell_145 : decode cX9_tell 145 = .ok (.iaload, 1) := by decide +kernel
theorem dX9_tell_146 : decode cX9_tell 146 = .ok (.iastore, 1) := by decide +kernel
theorem dX9_tell_147 : decode cX9_tell 147 = .ok (.iinc 2 1, 3) := by decide +kernel
theorem dX9_tell_150 : decode cX9_tell 150 = .ok (.goto (-22), 3) := by decide +kernel
theorem dX9_tell_153 : decode cX9_tell 153 = .ok (.iconst (-1), 1) := by decide +kernel
theorem dX9_tell_154 : decode cX9_tell 154 = .ok (.ireturn, 1) := by decide +kernel
def pX9_tell_L30 (s : Int32 × Mm) : Option ((Int32 × Mm) ⊕ (Mm)) :=
if 160 ≤ s.1 then
(some (Sum.inr s.2))
else
((ald s.2 1 160 s.1).bind fun v11 =>
(ast s.2 2 160 s.1 v11).bind fun M13 =>
some (Sum.inl (s.1 + 1, M13)))
def pX9_tell_L57 (s : Int32 × Mm) : Option ((Int32 × Mm) ⊕ (Int32 × Mm)) :=
if (s.2 0 5) = 0 then
((pX9_here s.2).bind fun v26 =>
if v26.1 = (-1) then
(some (Sum.inr (s.1, v26.2)))
else
((pX9_statement v26.2).bind fun v28 =>
Option.bind (α := Mm) (if (v28 0 5) = 0 then
((pX9_here v28).bind fun v35 =>
if v35.1 = 59 then
(some v35.2)
else
(bnd (pX9_fails 1 (v35.2 0 7) v35.2) fun v37 =>
some v37))
else
(some v28)) fun j30 =>
bnd (mset j30 0 7 ((j30 0 7) + 1)) fun M33 =>
some (Sum.inl (s.1 + 1, M33))))
else
(some (Sum.inr (s.1, s.2)))
def pX9_tell_L128 (s : Int32 × Mm) : Option ((Int32 × Mm) ⊕ (Mm)) :=
if 160 ≤ s.1 then
(some (Sum.inr s.2))
else
((ald s.2 2 160 s.1).bind fun v59 =>
(ast s.2 1 160 s.1 v59).bind fun M61 =>
some (Sum.inl (s.1 + 1, M61)))
def pX9_tell (M : Mm) : Option (Int32 × Mm) :=
bnd (mset M 0 0 0) fun M1 =>
bnd (mset M1 0 6 (M1 0 4)) fun M3 =>
bnd (mset M3 0 4 0) fun M5 =>
bnd (mset M5 0 5 0) fun M7 =>
bnd (mset M7 0 7 0) fun M9 =>
(itr (pX9_tell_L30) fuel (0, M9)).bind fun x15 =>
(itr (pX9_tell_L57) fuel (0, x15)).bind fun x39 =>
if (x39.2 0 5) = 0 then
(some (x39.1, x39.2))
else
((itr (pX9_tell_L128) fuel (0, x39.2)).bind fun x63 =>
some ((-1), x63))
abbrev zX9_tell : Zx := (cX9_tell, RX9, 3, 6, (some .int))
set_option maxRecDepth 100000 in
set_option maxHeartbeats 4000000 in
theorem tX9_tell {l : Launch} {Y : Sx} {M : Mm} {q : Int32 × Mm} (hY : isB Y) (h : pX9_tell M = some q) : Ct l Y yX9_tell cX9_tell 3 (some .int) 6 [.ref (adr Y 0)] M (some q.1) q.2 := by
  refine Ct.of (by decide) rfl (lv := [(0, .ref (adr Y 0))]) rfl ?_
  intro K hkl C
  change Cx K zX9_tell Y at C
  subst hkl
  unfold pX9_tell at h
  show Wp K zX9_tell Y (Qm K Y (some q.1) q.2) M 0 [(0, .ref (adr Y 0))] []
  refine w_aload_n C (pc := 0) dX9_tell_0 0 rfl ?_
  refine w_iconst C (pc := 1) dX9_tell_1 (v := 0) (by decide) ?_
  obtain ⟨M1, e2, h⟩ := bn h
  refine w_putI C (pc := 2) dX9_tell_2 fp_X9_66 (sB_0 hY) rfl ?_
  rw [e2]
  refine w_aload_n C (pc := 5) dX9_tell_5 0 rfl ?_
  refine w_aload_n C (pc := 6) dX9_tell_6 0 rfl ?_
  refine w_getI C (pc := 7) dX9_tell_7 f_X9_125 (sB_0 hY) rfl ?_
  obtain ⟨M3, e4, h⟩ := bn h
  refine w_putI C (pc := 10) dX9_tell_10 fp_X9_146 (sB_0 hY) rfl ?_
  rw [e4]
  refine w_aload_n C (pc := 13) dX9_tell_13 0 rfl ?_
  refine w_iconst C (pc := 14) dX9_tell_14 (v := 0) (by decide) ?_
  obtain ⟨M5, e6, h⟩ := bn h
  refine w_putI C (pc := 15) dX9_tell_15 fp_X9_125 (sB_0 hY) rfl ?_
  rw [e6]
  refine w_aload_n C (pc := 18) dX9_tell_18 0 rfl ?_
  refine w_iconst C (pc := 19) dX9_tell_19 (v := 0) (by decide) ?_
  obtain ⟨M7, e8, h⟩ := bn h
  refine w_putI C (pc := 20) dX9_tell_20 fp_X9_149 (sB_0 hY) rfl ?_
  rw [e8]
  refine w_aload_n C (pc := 23) dX9_tell_23 0 rfl ?_
  refine w_iconst C (pc := 24) dX9_tell_24 (v := 0) (by decide) ?_
  obtain ⟨M9, e10, h⟩ := bn h
  refine w_putI C (pc := 25) dX9_tell_25 fp_X9_143 (sB_0 hY) rfl ?_
  rw [e10]
  refine w_iconst C (pc := 28) dX9_tell_28 (v := 0) (by decide) ?_
  refine w_istore_n C (pc := 29) dX9_tell_29 (lv' := [(0, .ref (adr Y 0)), (1, .int 0)]) rfl rfl rfl ?_
  obtain ⟨x15, e16, h⟩ := ob h
  refine itr_W (P := fun s17 => Wp K zX9_tell Y (Qm K Y (some q.1) q.2) s17.2 30 [(0, .ref (adr Y 0)), (1, .int s17.1)] []) (R := fun x15 => Wp K zX9_tell Y (Qm K Y (some q.1) q.2) x15 55 [(0, .ref (adr Y 0))] []) ?_ fuel (0, M9) x15 e16 ?_
  · intro s17 r18 h21 ki19 kx20
    unfold pX9_tell_L30 at h21
    show Wp K zX9_tell Y (Qm K Y (some q.1) q.2) s17.2 30 [(0, .ref (adr Y 0)), (1, .int s17.1)] []
    refine w_iload_n C (pc := 30) dX9_tell_30 1 rfl ?_
    refine w_sipush C (pc := 31) dX9_tell_31 (v := 160) (by decide) ?_
    refine w_icge C (pc := 34) 55 dX9_tell_34 (by decide) (fun c => ?_) (fun c => ?_)
    · have h21 := it_t h21 c
      obtain rfl := Option.some.inj h21
      refine w_lv [0] rfl ?_
      have k9 := kx20 s17.2 rfl
      try dsimp only at k9
      exact k9
    · have h21 := it_f h21 c
      refine w_aload_n C (pc := 37) dX9_tell_37 0 rfl ?_
      refine w_getR C (pc := 38) dX9_tell_38 f_X9_13 (sB_0 hY) rfl ?_
      refine w_iload_n C (pc := 41) dX9_tell_41 1 rfl ?_
      refine w_aload_n C (pc := 42) dX9_tell_42 0 rfl ?_
      refine w_getR C (pc := 43) dX9_tell_43 f_X9_7 (sB_0 hY) rfl ?_
      refine w_iload_n C (pc := 46) dX9_tell_46 1 rfl ?_
      obtain ⟨v22, e23, h21⟩ := ob h21
      refine w_iald C (pc := 47) dX9_tell_47 (sB_1 hY) e23 ?_
      obtain ⟨M24, e25, h21⟩ := ob h21
      refine w_iast C (pc := 48) dX9_tell_48 (sB_2 hY) e25 ?_
      refine w_iinc C (pc := 49) dX9_tell_49 1 rfl (v := 1) (lv' := [(0, .ref (adr Y 0)), (1, .int (s17.1 + 1))]) (by decide) rfl rfl rfl ?_
      refine w_goto C (pc := 52) 30 dX9_tell_52 (by decide) ?_
      obtain rfl := Option.some.inj h21
      have k9 := ki19 (s17.1 + 1, M24) rfl
      try dsimp only at k9
      exact k9
  · refine w_iconst C (pc := 55) dX9_tell_55 (v := 0) (by decide) ?_
    refine w_istore_n C (pc := 56) dX9_tell_56 (lv' := [(0, .ref (adr Y 0)), (1, .int 0)]) rfl rfl rfl ?_
    obtain ⟨x39, e40, h⟩ := ob h
    refine itr_W (P := fun s41 => Wp K zX9_tell Y (Qm K Y (some q.1) q.2) s41.2 57 [(0, .ref (adr Y 0)), (1, .int s41.1)] []) (R := fun x39 => Wp K zX9_tell Y (Qm K Y (some q.1) q.2) x39.2 117 [(0, .ref (adr Y 0)), (1, .int x39.1)] []) ?_ fuel (0, x15) x39 e40 ?_
    · intro s41 r42 h45 ki43 kx44
      unfold pX9_tell_L57 at h45
      show Wp K zX9_tell Y (Qm K Y (some q.1) q.2) s41.2 57 [(0, .ref (adr Y 0)), (1, .int s41.1)] []
      refine w_aload_n C (pc := 57) dX9_tell_57 0 rfl ?_
      refine w_getI C (pc := 58) dX9_tell_58 f_X9_149 (sB_0 hY) rfl ?_
      refine w_ifne C (pc := 61) 117 dX9_tell_61 (by decide) (fun c => ?_) (fun c => ?_)
      · have h45 := it_t h45 c
        refine w_aload_n C (pc := 64) dX9_tell_64 0 rfl ?_
        obtain ⟨v46, e47, h45⟩ := ob h45
        refine w_cVi C (pc := 65) dX9_tell_65 my_X9_here mi_X9_here ml_X9_152 (sB_0 hY) rfl rfl rfl [] rfl rfl (Nat.le_of_ble_eq_true rfl) (tX9_here hY  e47) ?_
        refine w_iconst C (pc := 68) dX9_tell_68 (v := (-1)) (by decide) ?_
        refine w_iceq C (pc := 69) 117 dX9_tell_69 (by decide) (fun c => ?_) (fun c => ?_)
        · have h45 := it_t h45 c
          obtain rfl := Option.some.inj h45
          have k9 := kx44 (s41.1, v46.2) rfl
          try dsimp only at k9
          exact k9
        · have h45 := it_f h45 c
          refine w_aload_n C (pc := 72) dX9_tell_72 0 rfl ?_
          obtain ⟨v48, e49, h45⟩ := ob h45
          refine w_cVv C (pc := 73) dX9_tell_73 my_X9_statement mi_X9_statement ml_X9_184 (sB_0 hY) rfl rfl rfl [] rfl rfl (Nat.le_of_ble_eq_true rfl) (tX9_statement hY  e49) ?_
          refine w_aload_n C (pc := 76) dX9_tell_76 0 rfl ?_
          refine w_getI C (pc := 77) dX9_tell_77 f_X9_149 (sB_0 hY) rfl ?_
          obtain ⟨j50, e51, h52⟩ := ob h45
          have Jj50 : Wp K zX9_tell Y (Qm K Y (some q.1) q.2) j50 101 [(0, .ref (adr Y 0)), (1, .int s41.1)] [] := by
            refine w_aload_n C (pc := 101) dX9_tell_101 0 rfl ?_
            refine w_dup C (pc := 102) dX9_tell_102 rfl ?_
            refine w_getI C (pc := 103) dX9_tell_103 f_X9_143 (sB_0 hY) rfl ?_
            refine w_iconst C (pc := 106) dX9_tell_106 (v := 1) (by decide) ?_
            refine w_iadd C (pc := 107) dX9_tell_107 ?_
            obtain ⟨M53, e54, h52⟩ := bn h52
            refine w_putI C (pc := 108) dX9_tell_108 fp_X9_143 (sB_0 hY) rfl ?_
            rw [e54]
            refine w_iinc C (pc := 111) dX9_tell_111 1 rfl (v := 1) (lv' := [(0, .ref (adr Y 0)), (1, .int (s41.1 + 1))]) (by decide) rfl rfl rfl ?_
            refine w_goto C (pc := 114) 57 dX9_tell_114 (by decide) ?_
            obtain rfl := Option.some.inj h52
            have k9 := ki43 (s41.1 + 1, M53) rfl
            try dsimp only at k9
            exact k9
          refine w_ifne C (pc := 80) 101 dX9_tell_80 (by decide) (fun c => ?_) (fun c => ?_)
          · have e51 := it_t e51 c
            refine w_aload_n C (pc := 83) dX9_tell_83 0 rfl ?_
            obtain ⟨v55, e56, e51⟩ := ob e51
            refine w_cVi C (pc := 84) dX9_tell_84 my_X9_here mi_X9_here ml_X9_152 (sB_0 hY) rfl rfl rfl [] rfl rfl (Nat.le_of_ble_eq_true rfl) (tX9_here hY  e56) ?_
            refine w_bipush C (pc := 87) dX9_tell_87 (v := 59) (by decide) ?_
            refine w_iceq C (pc := 89) 101 dX9_tell_89 (by decide) (fun c => ?_) (fun c => ?_)
            · have e51 := it_t e51 c
              obtain rfl := Option.some.inj e51
              exact Jj50
            · have e51 := it_f e51 c
              refine w_aload_n C (pc := 92) dX9_tell_92 0 rfl ?_
              refine w_iconst C (pc := 93) dX9_tell_93 (v := 1) (by decide) ?_
              refine w_aload_n C (pc := 94) dX9_tell_94 0 rfl ?_
              refine w_getI C (pc := 95) dX9_tell_95 f_X9_143 (sB_0 hY) rfl ?_
              obtain ⟨v57, e58, e51⟩ := bn e51
              refine w_cVv C (pc := 98) dX9_tell_98 my_X9_fails mi_X9_fails ml_X9_161 (sB_0 hY) rfl rfl rfl [.int 1, .int (v55.2 0 7)] rfl rfl (Nat.le_of_ble_eq_true rfl) (tX9_fails hY  e58) ?_
              obtain rfl := Option.some.inj e51
              exact Jj50
          · have e51 := it_f e51 c
            obtain rfl := Option.some.inj e51
            exact Jj50
      · have h45 := it_f h45 c
        obtain rfl := Option.some.inj h45
        have k9 := kx44 (s41.1, s41.2) rfl
        try dsimp only at k9
        exact k9
    · refine w_aload_n C (pc := 117) dX9_tell_117 0 rfl ?_
      refine w_getI C (pc := 118) dX9_tell_118 f_X9_149 (sB_0 hY) rfl ?_
      refine w_ifne C (pc := 121) 126 dX9_tell_121 (by decide) (fun c => ?_) (fun c => ?_)
      · have h := it_t h c
        refine w_iload_n C (pc := 124) dX9_tell_124 1 rfl ?_
        exact w_ret C (pc := 125) dX9_tell_125 rfl (Option.some.inj h)
      · have h := it_f h c
        refine w_iconst C (pc := 126) dX9_tell_126 (v := 0) (by decide) ?_
        refine w_istore_n C (pc := 127) dX9_tell_127 (lv' := [(0, .ref (adr Y 0)), (1, .int x39.1), (2, .int 0)]) rfl rfl rfl ?_
        obtain ⟨x63, e64, h⟩ := ob h
        refine itr_W (P := fun s65 => Wp K zX9_tell Y (Qm K Y (some q.1) q.2) s65.2 128 [(0, .ref (adr Y 0)), (1, .int x39.1), (2, .int s65.1)] []) (R := fun x63 => Wp K zX9_tell Y (Qm K Y (some q.1) q.2) x63 153 [(0, .ref (adr Y 0)), (1, .int x39.1)] []) ?_ fuel (0, x39.2) x63 e64 ?_
        · intro s65 r66 h69 ki67 kx68
          unfold pX9_tell_L128 at h69
          show Wp K zX9_tell Y (Qm K Y (some q.1) q.2) s65.2 128 [(0, .ref (adr Y 0)), (1, .int x39.1), (2, .int s65.1)] []
          refine w_iload_n C (pc := 128) dX9_tell_128 2 rfl ?_
          refine w_sipush C (pc := 129) dX9_tell_129 (v := 160) (by decide) ?_
          refine w_icge C (pc := 132) 153 dX9_tell_132 (by decide) (fun c => ?_) (fun c => ?_)
          · have h69 := it_t h69 c
            obtain rfl := Option.some.inj h69
            refine w_lv [0, 1] rfl ?_
            have k9 := kx68 s65.2 rfl
            try dsimp only at k9
            exact k9
          · have h69 := it_f h69 c
            refine w_aload_n C (pc := 135) dX9_tell_135 0 rfl ?_
            refine w_getR C (pc := 136) dX9_tell_136 f_X9_7 (sB_0 hY) rfl ?_
            refine w_iload_n C (pc := 139) dX9_tell_139 2 rfl ?_
            refine w_aload_n C (pc := 140) dX9_tell_140 0 rfl ?_
            refine w_getR C (pc := 141) dX9_tell_141 f_X9_13 (sB_0 hY) rfl ?_
            refine w_iload_n C (pc := 144) dX9_tell_144 2 rfl ?_
            obtain ⟨v70, e71, h69⟩ := ob h69
            refine w_iald C (pc := 145) dX9_tell_145 (sB_2 hY) e71 ?_
            obtain ⟨M72, e73, h69⟩ := ob h69
            refine w_iast C (pc := 146) dX9_tell_146 (sB_1 hY) e73 ?_
            refine w_iinc C (pc := 147) dX9_tell_147 2 rfl (v := 1) (lv' := [(0, .ref (adr Y 0)), (1, .int x39.1), (2, .int (s65.1 + 1))]) (by decide) rfl rfl rfl ?_
            refine w_goto C (pc := 150) 128 dX9_tell_150 (by decide) ?_
            obtain rfl := Option.some.inj h69
            have k9 := ki67 (s65.1 + 1, M72) rfl
            try dsimp only at k9
            exact k9
        · refine w_iconst C (pc := 153) dX9_tell_153 (v := (-1)) (by decide) ?_
          exact w_ret C (pc := 154) dX9_tell_154 rfl (Option.some.inj h)
theorem dX9_thrown_0 : decode cX9_thrown 0 = .ok (.aload_n 0, 1) := by decide +kernel
theorem dX9_thrown_1 : decode cX9_thrown 1 = .ok (.getfield 66, 3) := by decide +kernel
theorem dX9_thrown_4 : decode cX9_thrown 4 = .ok (.ireturn, 1) := by decide +kernel
def pX9_thrown (M : Mm) : Int32 :=
M 0 0
abbrev zX9_thrown : Zx := (cX9_thrown, RX9, 1, 0, (some .int))
set_option maxRecDepth 100000 in
set_option maxHeartbeats 4000000 in
theorem tX9_thrown {l : Launch} {Y : Sx} {M : Mm} {q : Int32} (hY : isB Y) (h : pX9_thrown M = q) : Ct l Y yX9_thrown cX9_thrown 1 (some .int) 0 [.ref (adr Y 0)] M (some q) M := by
  refine Ct.of (by decide) rfl (lv := [(0, .ref (adr Y 0))]) rfl ?_
  intro K hkl C
  change Cx K zX9_thrown Y at C
  subst hkl
  unfold pX9_thrown at h
  show Wp K zX9_thrown Y (Qm K Y (some q) M) M 0 [(0, .ref (adr Y 0))] []
  refine w_aload_n C (pc := 0) dX9_thrown_0 0 rfl ?_
  refine w_getI C (pc := 1) dX9_thrown_1 f_X9_66 (sB_0 hY) rfl ?_
  exact w_retR C (pc := 4) dX9_thrown_4 rfl h
theorem dX9_undo_0 : decode cX9_undo 0 = .ok (.aload_n 0, 1) := by decide +kernel
theorem dX9_undo_1 : decode cX9_undo 1 = .ok (.iconst 0, 1) := by decide +kernel
theorem dX9_undo_2 : decode cX9_undo 2 = .ok (.putfield 66, 3) := by decide +kernel
theorem dX9_undo_5 : decode cX9_undo 5 = .ok (.iload_n 1, 1) := by decide +kernel
theorem dX9_undo_6 : decode cX9_undo 6 = .ok (.ifCond .eq 8, 3) := by decide +kernel
theorem dX9_undo_9 : decode cX9_undo 9 = .ok (.bipush 60, 2) := by decide +kernel
theorem dX9_undo_11 : decode cX9_undo 11 = .ok (.goto 5, 3) := by decide +kernel
theorem dX9_undo_14 : decode cX9_undo 14 = .ok (.bipush 70, 2) := by decide +kernel
theorem dX9_undo_16 : decode cX9_undo 16 = .ok (.istore_n 2, 1) := by decide +kernel
theorem dX9_undo_17 : decode cX9_undo 17 = .ok (.aload_n 0, 1) := by decide +kernel
theorem dX9_undo_18 : decode cX9_undo 18 = .ok (.getfield 7, 3) := by decide +kernel
theorem dX9_undo_21 : decode cX9_undo 21 = .ok (.iload_n 2, 1) := by decide +kernel
theorem dX9_undo_22 : decode cX9_undo 22 = .ok (.iaload, 1) := by decide +kernel
theorem dX9_undo_23 : decode cX9_undo 23 = .ok (.ifCond .ne 5, 3) := by decide +kernel
theorem dX9_undo_26 : decode cX9_undo 26 = .ok (.iconst (-1), 1) := by decide +kernel
theorem dX9_undo_27 : decode cX9_undo 27 = .ok (.ireturn, 1) := by decide +kernel
theorem dX9_undo_28 : decode cX9_undo 28 = .ok (.aload_n 0, 1) := by decide +kernel
theorem dX9_undo_29 : decode cX9_undo 29 = .ok (.getfield 7, 3) := by decide +kernel
theorem dX9_undo_32 : decode cX9_undo 32 = .ok (.iload_n 2, 1) := by decide +kernel
theorem dX9_undo_33 : decode cX9_undo 33 = .ok (.dup2, 1) := by decide +kernel
theorem dX9_undo_34 : decode cX9_undo 34 = .ok (.iaload, 1) := by decide +kernel
theorem dX9_undo_35 : decode cX9_undo 35 = .ok (.iconst 1, 1) := by decide +kernel
theorem dX9_undo_36 : decode cX9_undo 36 = .ok (.isub, 1) := by decide +kernel
theorem dX9_undo_37 : decode cX9_undo 37 = .ok (.iastore, 1) := by decide +kernel
theorem dX9_undo_38 : decode cX9_undo 38 = .ok (.aload_n 0, 1) := by decide +kernel
theorem dX9_undo_39 : decode cX9_undo 39 = .ok (.getfield 7, 3) := by decide +kernel
theorem dX9_undo_42 : decode cX9_undo 42 = .ok (.iload_n 2, 1) := by decide +kernel
theorem dX9_undo_43 : decode cX9_undo 43 = .ok (.iaload, 1) := by decide +kernel
theorem dX9_undo_44 : decode cX9_undo 44 = .ok (.ireturn, 1) := by decide +kernel
def pX9_undo (x1 : Int32) (M : Mm) : Option (Int32 × Mm) :=
bnd (mset M 0 0 0) fun M1 =>
if x1 = 0 then
((ald M1 1 160 70).bind fun v3 =>
if v3 = 0 then
(some ((-1), M1))
else
((ald M1 1 160 70).bind fun v5 =>
(ast M1 1 160 70 (v5 - 1)).bind fun M7 =>
(ald M7 1 160 70).bind fun v9 =>
some (v9, M7)))
else
((ald M1 1 160 60).bind fun v11 =>
if v11 = 0 then
(some ((-1), M1))
else
((ald M1 1 160 60).bind fun v13 =>
(ast M1 1 160 60 (v13 - 1)).bind fun M15 =>
(ald M15 1 160 60).bind fun v17 =>
some (v17, M15)))
abbrev zX9_undo : Zx := (cX9_undo, RX9, 3, 0, (some .int))
set_option maxRecDepth 100000 in
set_option maxHeartbeats 4000000 in
theorem tX9_undo {l : Launch} {Y : Sx} {M : Mm} {x1 : Int32} {q : Int32 × Mm} (hY : isB Y) (h : pX9_undo x1 M = some q) : Ct l Y yX9_undo cX9_undo 3 (some .int) 0 [.ref (adr Y 0), .int x1] M (some q.1) q.2 := by
  refine Ct.of (by decide) rfl (lv := [(0, .ref (adr Y 0)), (1, .int x1)]) rfl ?_
  intro K hkl C
  change Cx K zX9_undo Y at C
  subst hkl
  unfold pX9_undo at h
  show Wp K zX9_undo Y (Qm K Y (some q.1) q.2) M 0 [(0, .ref (adr Y 0)), (1, .int x1)] []
  refine w_aload_n C (pc := 0) dX9_undo_0 0 rfl ?_
  refine w_iconst C (pc := 1) dX9_undo_1 (v := 0) (by decide) ?_
  obtain ⟨M1, e2, h⟩ := bn h
  refine w_putI C (pc := 2) dX9_undo_2 fp_X9_66 (sB_0 hY) rfl ?_
  rw [e2]
  refine w_iload_n C (pc := 5) dX9_undo_5 1 rfl ?_
  refine w_ifeq C (pc := 6) 14 dX9_undo_6 (by decide) (fun c => ?_) (fun c => ?_)
  · have h := it_t h c
    refine w_bipush C (pc := 14) dX9_undo_14 (v := 70) (by decide) ?_
    refine w_istore_n C (pc := 16) dX9_undo_16 (lv' := [(0, .ref (adr Y 0)), (1, .int x1), (2, .int 70)]) rfl rfl rfl ?_
    refine w_aload_n C (pc := 17) dX9_undo_17 0 rfl ?_
    refine w_getR C (pc := 18) dX9_undo_18 f_X9_7 (sB_0 hY) rfl ?_
    refine w_iload_n C (pc := 21) dX9_undo_21 2 rfl ?_
    obtain ⟨v3, e4, h⟩ := ob h
    refine w_iald C (pc := 22) dX9_undo_22 (sB_1 hY) e4 ?_
    refine w_ifne C (pc := 23) 28 dX9_undo_23 (by decide) (fun c => ?_) (fun c => ?_)
    · have h := it_t h c
      refine w_iconst C (pc := 26) dX9_undo_26 (v := (-1)) (by decide) ?_
      exact w_ret C (pc := 27) dX9_undo_27 rfl (Option.some.inj h)
    · have h := it_f h c
      refine w_aload_n C (pc := 28) dX9_undo_28 0 rfl ?_
      refine w_getR C (pc := 29) dX9_undo_29 f_X9_7 (sB_0 hY) rfl ?_
      refine w_iload_n C (pc := 32) dX9_undo_32 2 rfl ?_
      refine w_dup2 C (pc := 33) dX9_undo_33 rfl rfl ?_
      obtain ⟨v5, e6, h⟩ := ob h
      refine w_iald C (pc := 34) dX9_undo_34 (sB_1 hY) e6 ?_
      refine w_iconst C (pc := 35) dX9_undo_35 (v := 1) (by decide) ?_
      refine w_isub C (pc := 36) dX9_undo_36 ?_
      obtain ⟨M7, e8, h⟩ := ob h
      refine w_iast C (pc := 37) dX9_undo_37 (sB_1 hY) e8 ?_
      refine w_aload_n C (pc := 38) dX9_undo_38 0 rfl ?_
      refine w_getR C (pc := 39) dX9_undo_39 f_X9_7 (sB_0 hY) rfl ?_
      refine w_iload_n C (pc := 42) dX9_undo_42 2 rfl ?_
      obtain ⟨v9, e10, h⟩ := ob h
      refine w_iald C (pc := 43) dX9_undo_43 (sB_1 hY) e10 ?_
      exact w_ret C (pc := 44) dX9_undo_44 rfl (Option.some.inj h)
  · have h := it_f h c
    refine w_bipush C (pc := 9) dX9_undo_9 (v := 60) (by decide) ?_
    refine w_goto C (pc := 11) 16 dX9_undo_11 (by decide) ?_
    refine w_istore_n C (pc := 16) dX9_undo_16 (lv' := [(0, .ref (adr Y 0)), (1, .int x1), (2, .int 60)]) rfl rfl rfl ?_
    refine w_aload_n C (pc := 17) dX9_undo_17 0 rfl ?_
    refine w_getR C (pc := 18) dX9_undo_18 f_X9_7 (sB_0 hY) rfl ?_
    refine w_iload_n C (pc := 21) dX9_undo_21 2 rfl ?_
    obtain ⟨v11, e12, h⟩ := ob h
    refine w_iald C (pc := 22) dX9_undo_22 (sB_1 hY) e12 ?_
    refine w_ifne C (pc := 23) 28 dX9_undo_23 (by decide) (fun c => ?_) (fun c => ?_)
    · have h := it_t h c
      refine w_iconst C (pc := 26) dX9_undo_26 (v := (-1)) (by decide) ?_
      exact w_ret C (pc := 27) dX9_undo_27 rfl (Option.some.inj h)
    · have h := it_f h c
      refine w_aload_n C (pc := 28) dX9_undo_28 0 rfl ?_
      refine w_getR C (pc := 29) dX9_undo_29 f_X9_7 (sB_0 hY) rfl ?_
      refine w_iload_n C (pc := 32) dX9_undo_32 2 rfl ?_
      refine w_dup2 C (pc := 33) dX9_undo_33 rfl rfl ?_
      obtain ⟨v13, e14, h⟩ := ob h
      refine w_iald C (pc := 34) dX9_undo_34 (sB_1 hY) e14 ?_
      refine w_iconst C (pc := 35) dX9_undo_35 (v := 1) (by decide) ?_
      refine w_isub C (pc := 36) dX9_undo_36 ?_
      obtain ⟨M15, e16, h⟩ := ob h
      refine w_iast C (pc := 37) dX9_undo_37 (sB_1 hY) e16 ?_
      refine w_aload_n C (pc := 38) dX9_undo_38 0 rfl ?_
      refine w_getR C (pc := 39) dX9_undo_39 f_X9_7 (sB_0 hY) rfl ?_
      refine w_iload_n C (pc := 42) dX9_undo_42 2 rfl ?_
      obtain ⟨v17, e18, h⟩ := ob h
      refine w_iald C (pc := 43) dX9_undo_43 (sB_1 hY) e18 ?_
      exact w_ret C (pc := 44) dX9_undo_44 rfl (Option.some.inj h)
theorem dX9_way_0 : decode cX9_way 0 = .ok (.aload_n 0, 1) := by decide +kernel
theorem dX9_way_1 : decode cX9_way 1 = .ok (.iconst 0, 1) := by decide +kernel
theorem dX9_way_2 : decode cX9_way 2 = .ok (.putfield 66, 3) := by decide +kernel
theorem dX9_way_5 : decode cX9_way 5 = .ok (.aload_n 0, 1) := by decide +kernel
theorem dX9_way_6 : decode cX9_way 6 = .ok (.iload_n 1, 1) := by decide +kernel
theorem dX9_way_7 : decode cX9_way 7 = .ok (.invokevirtual 128, 3) := by decide +kernel
theorem dX9_way_10 : decode cX9_way 10 = .ok (.ifCond .eq 33, 3) := by decide +kernel
theorem dX9_way_13 : decode cX9_way 13 = .ok (.aload_n 0, 1) := by decide +kernel
theorem dX9_way_14 : decode cX9_way 14 = .ok (.iload_n 2, 1) := by decide +kernel
theorem dX9_way_15 : decode cX9_way 15 = .ok (.invokevirtual 128, 3) := by decide +kernel
theorem dX9_way_18 : decode cX9_way 18 = .ok (.ifCond .eq 25, 3) := by decide +kernel
theorem dX9_way_21 : decode cX9_way 21 = .ok (.iload_n 3, 1) := by decide +kernel
theorem dX9_way_22 : decode cX9_way 22 = .ok (.ifCond .eq 12, 3) := by decide +kernel
theorem dX9_way_25 : decode cX9_way 25 = .ok (.aload_n 0, 1) := by decide +kernel
theorem dX9_way_26 : decode cX9_way 26 = .ok (.iload_n 1, 1) := by decide +kernel
theorem dX9_way_27 : decode cX9_way 27 = .ok (.iload_n 2, 1) := by decide +kernel
theorem dX9_way_28 : decode cX9_way 28 = .ok (.invokevirtual 131, 3) := by decide +kernel
theorem dX9_way_31 : decode cX9_way 31 = .ok (.goto 13, 3) := by decide +kernel
theorem dX9_way_34 : decode cX9_way 34 = .ok (.aload_n 0, 1) := by decide +kernel
theorem dX9_way_35 : decode cX9_way 35 = .ok (.iload_n 1, 1) := by decide +kernel
theorem dX9_way_36 : decode cX9_way 36 = .ok (.iload_n 2, 1) := by decide +kernel
theorem dX9_way_37 : decode cX9_way 37 = .ok (.invokevirtual 134, 3) := by decide +kernel
theorem dX9_way_40 : decode cX9_way 40 = .ok (.goto 4, 3) := by decide +kernel
theorem dX9_way_43 : decode cX9_way 43 = .ok (.iconst (-1), 1) := by decide +kernel
theorem dX9_way_44 : decode cX9_way 44 = .ok (.ireturn, 1) := by decide +kernel
def pX9_way (x1 : Int32) (x2 : Int32) (x3 : Int32) (M : Mm) : Option (Int32 × Mm) :=
bnd (mset M 0 0 0) fun M1 =>
(pX9_isPlace x1 M1).bind fun v3 =>
if v3 = 0 then
(some ((-1), M1))
else
((pX9_isPlace x2 M1).bind fun v5 =>
if v5 = 0 then
(some ((-1), M1))
else
(if x3 = 0 then
((pX9_drive x1 x2 M1).bind fun v7 =>
some (v7, M1))
else
((pX9_flight x1 x2 M1).bind fun v9 =>
some (v9, M1))))
abbrev zX9_way : Zx := (cX9_way, RX9, 4, 2, (some .int))
set_option maxRecDepth 100000 in
set_option maxHeartbeats 4000000 in
theorem tX9_way {l : Launch} {Y : Sx} {M : Mm} {x1 : Int32} {x2 : Int32} {x3 : Int32} {q : Int32 × Mm} (hY : isB Y) (h : pX9_way x1 x2 x3 M = some q) : Ct l Y yX9_way cX9_way 4 (some .int) 2 [.ref (adr Y 0), .int x1, .int x2, .int x3] M (some q.1) q.2 := by
  refine Ct.of (by decide) rfl (lv := [(0, .ref (adr Y 0)), (1, .int x1), (2, .int x2), (3, .int x3)]) rfl ?_
  intro K hkl C
  change Cx K zX9_way Y at C
  subst hkl
  unfold pX9_way at h
  show Wp K zX9_way Y (Qm K Y (some q.1) q.2) M 0 [(0, .ref (adr Y 0)), (1, .int x1), (2, .int x2), (3, .int x3)] []
  refine w_aload_n C (pc := 0) dX9_way_0 0 rfl ?_
  refine w_iconst C (pc := 1) dX9_way_1 (v := 0) (by decide) ?_
  obtain ⟨M1, e2, h⟩ := bn h
  refine w_putI C (pc := 2) dX9_way_2 fp_X9_66 (sB_0 hY) rfl ?_
  rw [e2]
  refine w_aload_n C (pc := 5) dX9_way_5 0 rfl ?_
  refine w_iload_n C (pc := 6) dX9_way_6 1 rfl ?_
  obtain ⟨v3, e4, h⟩ := ob h
  refine w_cVi C (pc := 7) dX9_way_7 my_X9_isPlace mi_X9_isPlace ml_X9_128 (sB_0 hY) rfl rfl rfl [.int x1] rfl rfl (Nat.le_of_ble_eq_true rfl) (tX9_isPlace hY  e4) ?_
  refine w_ifeq C (pc := 10) 43 dX9_way_10 (by decide) (fun c => ?_) (fun c => ?_)
  · have h := it_t h c
    refine w_iconst C (pc := 43) dX9_way_43 (v := (-1)) (by decide) ?_
    exact w_ret C (pc := 44) dX9_way_44 rfl (Option.some.inj h)
  · have h := it_f h c
    refine w_aload_n C (pc := 13) dX9_way_13 0 rfl ?_
    refine w_iload_n C (pc := 14) dX9_way_14 2 rfl ?_
    obtain ⟨v5, e6, h⟩ := ob h
    refine w_cVi C (pc := 15) dX9_way_15 my_X9_isPlace mi_X9_isPlace ml_X9_128 (sB_0 hY) rfl rfl rfl [.int x2] rfl rfl (Nat.le_of_ble_eq_true rfl) (tX9_isPlace hY  e6) ?_
    refine w_ifeq C (pc := 18) 43 dX9_way_18 (by decide) (fun c => ?_) (fun c => ?_)
    · have h := it_t h c
      refine w_iconst C (pc := 43) dX9_way_43 (v := (-1)) (by decide) ?_
      exact w_ret C (pc := 44) dX9_way_44 rfl (Option.some.inj h)
    · have h := it_f h c
      refine w_iload_n C (pc := 21) dX9_way_21 3 rfl ?_
      refine w_ifeq C (pc := 22) 34 dX9_way_22 (by decide) (fun c => ?_) (fun c => ?_)
      · have h := it_t h c
        refine w_aload_n C (pc := 34) dX9_way_34 0 rfl ?_
        refine w_iload_n C (pc := 35) dX9_way_35 1 rfl ?_
        refine w_iload_n C (pc := 36) dX9_way_36 2 rfl ?_
        obtain ⟨v7, e8, h⟩ := ob h
        refine w_cVi C (pc := 37) dX9_way_37 my_X9_drive mi_X9_drive ml_X9_134 (sB_0 hY) rfl rfl rfl [.int x1, .int x2] rfl rfl (Nat.le_of_ble_eq_true rfl) (tX9_drive hY  e8) ?_
        refine w_goto C (pc := 40) 44 dX9_way_40 (by decide) ?_
        exact w_ret C (pc := 44) dX9_way_44 rfl (Option.some.inj h)
      · have h := it_f h c
        refine w_aload_n C (pc := 25) dX9_way_25 0 rfl ?_
        refine w_iload_n C (pc := 26) dX9_way_26 1 rfl ?_
        refine w_iload_n C (pc := 27) dX9_way_27 2 rfl ?_
        obtain ⟨v9, e10, h⟩ := ob h
        refine w_cVi C (pc := 28) dX9_way_28 my_X9_flight mi_X9_flight ml_X9_131 (sB_0 hY) rfl rfl rfl [.int x1, .int x2] rfl rfl (Nat.le_of_ble_eq_true rfl) (tX9_flight hY  e10) ?_
        refine w_goto C (pc := 31) 44 dX9_way_31 (by decide) ?_
        exact w_ret C (pc := 44) dX9_way_44 rfl (Option.some.inj h)
theorem dX9_wind_0 : decode cX9_wind 0 = .ok (.aload_n 0, 1) := by decide +kernel
theorem dX9_wind_1 : decode cX9_wind 1 = .ok (.iconst 0, 1) := by decide +kernel
theorem dX9_wind_2 : decode cX9_wind 2 = .ok (.putfield 66, 3) := by decide +kernel
theorem dX9_wind_5 : decode cX9_wind 5 = .ok (.iload_n 2, 1) := by decide +kernel
theorem dX9_wind_6 : decode cX9_wind 6 = .ok (.iconst (-1), 1) := by decide +kernel
theorem dX9_wind_7 : decode cX9_wind 7 = .ok (.bipush 8, 2) := by decide +kernel
theorem dX9_wind_9 : decode cX9_wind 9 = .ok (.invokestatic 70, 3) := by decide +kernel
theorem dX9_wind_12 : decode cX9_wind 12 = .ok (.ifCond .eq 11, 3) := by decide +kernel
theorem dX9_wind_15 : decode cX9_wind 15 = .ok (.aload_n 0, 1) := by decide +kernel
theorem dX9_wind_16 : decode cX9_wind 16 = .ok (.iload_n 1, 1) := by decide +kernel
theorem dX9_wind_17 : decode cX9_wind 17 = .ok (.invokevirtual 239, 3) := by decide +kernel
theorem dX9_wind_20 : decode cX9_wind 20 = .ok (.ifCond .ne 5, 3) := by decide +kernel
theorem dX9_wind_23 : decode cX9_wind 23 = .ok (.iconst (-1), 1) := by decide +kernel
theorem dX9_wind_24 : decode cX9_wind 24 = .ok (.ireturn, 1) := by decide +kernel
theorem dX9_wind_25 : decode cX9_wind 25 = .ok (.iload_n 2, 1) := by decide +kernel
theorem dX9_wind_26 : decode cX9_wind 26 = .ok (.iconst (-1), 1) := by decide +kernel
theorem dX9_wind_27 : decode cX9_wind 27 = .ok (.if_icmp .eq 9, 3) := by decide +kernel
theorem dX9_wind_30 : decode cX9_wind 30 = .ok (.aload_n 0, 1) := by decide +kernel
theorem dX9_wind_31 : decode cX9_wind 31 = .ok (.iload_n 2, 1) := by decide +kernel
theorem dX9_wind_32 : decode cX9_wind 32 = .ok (.invokevirtual 263, 3) := by decide +kernel
theorem dX9_wind_35 : decode cX9_wind 35 = .ok (.ireturn, 1) := by decide +kernel
theorem dX9_wind_36 : decode cX9_wind 36 = .ok (.iconst 0, 1) := by decide +kernel
theorem dX9_wind_37 : decode cX9_wind 37 = .ok (.istore_n 3, 1) := by decide +kernel
theorem dX9_wind_38 : decode cX9_wind 38 = .ok (.iconst 1, 1) := by decide +kernel
theorem dX9_wind_39 : decode cX9_wind 39 = .ok (.istore 4, 2) := by decide +kernel
theorem dX9_wind_41 : decode cX9_wind 41 = .ok (.iload 4, 2) := by decide +kernel
theorem dX9_wind_43 : decode cX9_wind 43 = .ok (.bipush 9, 2) := by decide +kernel
theorem dX9_wind_45 : decode cX9_wind 45 = .ok (.if_icmp .ge 26, 3) := by decide +kernel
theorem dX9_wind_48 : decode cX9_wind 48 = .ok (.aload_n 0, 1) := by decide +kernel
theorem dX9_wind_49 : decode cX9_wind 49 = .ok (.iload 4, 2) := by decide +kernel
theorem dX9_wind_51 : decode cX9_wind 51 = .ok (.invokevirtual 263, 3) := by decide +kernel
theorem dX9_wind_54 : decode cX9_wind 54 = .ok (.aload_n 0, 1) := by decide +kernel
theorem dX9_wind_55 : decode cX9_wind 55 = .ok (.iload_n 3, 1) := by decide +kernel
theorem dX9_wind_56 : decode cX9_wind 56 = .ok (.invokevirtual 263, 3) := by decide +kernel
theorem dX9_wind_59 : decode cX9_wind 59 = .ok (.if_icmp .ge 6, 3) := by decide +kernel
theorem dX9_wind_62 : decode cX9_wind 62 = .ok (.iload 4, 2) := by decide +kernel
theorem dX9_wind_64 : decode cX9_wind 64 = .ok (.istore_n 3, 1) := by decide +kernel
theorem dX9_wind_65 : decode cX9_wind 65 = .ok (.iinc 4 1, 3) := by decide +kernel
theorem dX9_wind_68 : decode cX9_wind 68 = .ok (.goto (-27), 3) := by decide +kernel
theorem dX9_wind_71 : decode cX9_wind 71 = .ok (.iload_n 3, 1) := by decide +kernel
theorem dX9_wind_72 : decode cX9_wind 72 = .ok (.ireturn, 1) := by decide +kernel
def pX9_wind_L41 (s : Int32 × Int32 × Mm) : Option ((Int32 × Int32 × Mm) ⊕ (Int32 × Mm)) :=
if 9 ≤ s.2.1 then
(some (Sum.inr (s.1, s.2.2)))
else
((pX9_splitBy s.2.1 s.2.2).bind fun v5 =>
(pX9_splitBy s.1 v5.2).bind fun v7 =>
if v7.1 ≤ v5.1 then
(some (Sum.inl (s.1, s.2.1 + 1, v7.2)))
else
(bnd (s.2.1) fun v9 =>
some (Sum.inl (v9, s.2.1 + 1, v7.2))))
def pX9_wind (x1 : Int32) (x2 : Int32) (M : Mm) : Option (Int32 × Mm) :=
bnd (mset M 0 0 0) fun M1 =>
if (pX9_isIn x2 (-1) 8) = 0 then
(some ((-1), M1))
else
((pX9_lays x1 M1).bind fun v3 =>
if v3.1 = 0 then
(some ((-1), v3.2))
else
(if x2 = (-1) then
((itr (pX9_wind_L41) fuel (0, 1, v3.2)).bind fun x10 =>
some (x10.1, x10.2))
else
((pX9_splitBy x2 v3.2).bind fun v22 =>
some (v22.1, v22.2))))
abbrev zX9_wind : Zx := (cX9_wind, RX9, 5, 5, (some .int))
set_option maxRecDepth 100000 in
set_option maxHeartbeats 4000000 in
theorem tX9_wind {l : Launch} {Y : Sx} {M : Mm} {x1 : Int32} {x2 : Int32} {q : Int32 × Mm} (hY : isB Y) (h : pX9_wind x1 x2 M = some q) : Ct l Y yX9_wind cX9_wind 5 (some .int) 5 [.ref (adr Y 0), .int x1, .int x2] M (some q.1) q.2 := by
  refine Ct.of (by decide) rfl (lv := [(0, .ref (adr Y 0)), (1, .int x1), (2, .int x2)]) rfl ?_
  intro K hkl C
  change Cx K zX9_wind Y at C
  subst hkl
  unfold pX9_wind at h
  show Wp K zX9_wind Y (Qm K Y (some q.1) q.2) M 0 [(0, .ref (adr Y 0)), (1, .int x1), (2, .int x2)] []
  refine w_aload_n C (pc := 0) dX9_wind_0 0 rfl ?_
  refine w_iconst C (pc := 1) dX9_wind_1 (v := 0) (by decide) ?_
  obtain ⟨M1, e2, h⟩ := bn h
  refine w_putI C (pc := 2) dX9_wind_2 fp_X9_66 (sB_0 hY) rfl ?_
  rw [e2]
  refine w_iload_n C (pc := 5) dX9_wind_5 2 rfl ?_
  refine w_iconst C (pc := 6) dX9_wind_6 (v := (-1)) (by decide) ?_
  refine w_bipush C (pc := 7) dX9_wind_7 (v := 8) (by decide) ?_
  refine w_cSi C (pc := 9) dX9_wind_9 my_X9_isIn ms_X9_isIn ml_X9_70 rfl rfl [.int x2, .int (-1), .int 8] rfl rfl (Nat.le_of_ble_eq_true rfl) (tX9_isIn  rfl) ?_
  refine w_ifeq C (pc := 12) 23 dX9_wind_12 (by decide) (fun c => ?_) (fun c => ?_)
  · have h := it_t h c
    refine w_iconst C (pc := 23) dX9_wind_23 (v := (-1)) (by decide) ?_
    exact w_ret C (pc := 24) dX9_wind_24 rfl (Option.some.inj h)
  · have h := it_f h c
    refine w_aload_n C (pc := 15) dX9_wind_15 0 rfl ?_
    refine w_iload_n C (pc := 16) dX9_wind_16 1 rfl ?_
    obtain ⟨v3, e4, h⟩ := ob h
    refine w_cVi C (pc := 17) dX9_wind_17 my_X9_lays mi_X9_lays ml_X9_239 (sB_0 hY) rfl rfl rfl [.int x1] rfl rfl (Nat.le_of_ble_eq_true rfl) (tX9_lays hY  e4) ?_
    refine w_ifne C (pc := 20) 25 dX9_wind_20 (by decide) (fun c => ?_) (fun c => ?_)
    · have h := it_t h c
      refine w_iconst C (pc := 23) dX9_wind_23 (v := (-1)) (by decide) ?_
      exact w_ret C (pc := 24) dX9_wind_24 rfl (Option.some.inj h)
    · have h := it_f h c
      refine w_iload_n C (pc := 25) dX9_wind_25 2 rfl ?_
      refine w_iconst C (pc := 26) dX9_wind_26 (v := (-1)) (by decide) ?_
      refine w_iceq C (pc := 27) 36 dX9_wind_27 (by decide) (fun c => ?_) (fun c => ?_)
      · have h := it_t h c
        refine w_iconst C (pc := 36) dX9_wind_36 (v := 0) (by decide) ?_
        refine w_istore_n C (pc := 37) dX9_wind_37 (lv' := [(0, .ref (adr Y 0)), (1, .int x1), (2, .int x2), (3, .int 0)]) rfl rfl rfl ?_
        refine w_iconst C (pc := 38) dX9_wind_38 (v := 1) (by decide) ?_
        refine w_istore C (pc := 39) dX9_wind_39 (lv' := [(0, .ref (adr Y 0)), (1, .int x1), (2, .int x2), (3, .int 0), (4, .int 1)]) rfl rfl rfl ?_
        obtain ⟨x10, e11, h⟩ := ob h
        refine itr_W (P := fun s12 => Wp K zX9_wind Y (Qm K Y (some q.1) q.2) s12.2.2 41 [(0, .ref (adr Y 0)), (1, .int x1), (2, .int x2), (3, .int s12.1), (4, .int s12.2.1)] []) (R := fun x10 => Wp K zX9_wind Y (Qm K Y (some q.1) q.2) x10.2 71 [(0, .ref (adr Y 0)), (1, .int x1), (2, .int x2), (3, .int x10.1)] []) ?_ fuel (0, 1, v3.2) x10 e11 ?_
        · intro s12 r13 h16 ki14 kx15
          unfold pX9_wind_L41 at h16
          show Wp K zX9_wind Y (Qm K Y (some q.1) q.2) s12.2.2 41 [(0, .ref (adr Y 0)), (1, .int x1), (2, .int x2), (3, .int s12.1), (4, .int s12.2.1)] []
          refine w_iload C (pc := 41) dX9_wind_41 4 rfl ?_
          refine w_bipush C (pc := 43) dX9_wind_43 (v := 9) (by decide) ?_
          refine w_icge C (pc := 45) 71 dX9_wind_45 (by decide) (fun c => ?_) (fun c => ?_)
          · have h16 := it_t h16 c
            obtain rfl := Option.some.inj h16
            refine w_lv [0, 1, 2, 3] rfl ?_
            have k9 := kx15 (s12.1, s12.2.2) rfl
            try dsimp only at k9
            exact k9
          · have h16 := it_f h16 c
            refine w_aload_n C (pc := 48) dX9_wind_48 0 rfl ?_
            refine w_iload C (pc := 49) dX9_wind_49 4 rfl ?_
            obtain ⟨v17, e18, h16⟩ := ob h16
            refine w_cVi C (pc := 51) dX9_wind_51 my_X9_splitBy mi_X9_splitBy ml_X9_263 (sB_0 hY) rfl rfl rfl [.int s12.2.1] rfl rfl (Nat.le_of_ble_eq_true rfl) (tX9_splitBy hY  e18) ?_
            refine w_aload_n C (pc := 54) dX9_wind_54 0 rfl ?_
            refine w_iload_n C (pc := 55) dX9_wind_55 3 rfl ?_
            obtain ⟨v19, e20, h16⟩ := ob h16
            refine w_cVi C (pc := 56) dX9_wind_56 my_X9_splitBy mi_X9_splitBy ml_X9_263 (sB_0 hY) rfl rfl rfl [.int s12.1] rfl rfl (Nat.le_of_ble_eq_true rfl) (tX9_splitBy hY  e20) ?_
            refine w_icge C (pc := 59) 65 dX9_wind_59 (by decide) (fun c => ?_) (fun c => ?_)
            · have h16 := it_t h16 c
              refine w_iinc C (pc := 65) dX9_wind_65 4 rfl (v := 1) (lv' := [(0, .ref (adr Y 0)), (1, .int x1), (2, .int x2), (3, .int s12.1), (4, .int (s12.2.1 + 1))]) (by decide) rfl rfl rfl ?_
              refine w_goto C (pc := 68) 41 dX9_wind_68 (by decide) ?_
              obtain rfl := Option.some.inj h16
              have k9 := ki14 (s12.1, s12.2.1 + 1, v19.2) rfl
              try dsimp only at k9
              exact k9
            · have h16 := it_f h16 c
              refine w_iload C (pc := 62) dX9_wind_62 4 rfl ?_
              refine w_bnd h16 (fun v21 h16 => ?_)
              refine w_istore_n C (pc := 64) dX9_wind_64 (lv' := [(0, .ref (adr Y 0)), (1, .int x1), (2, .int x2), (3, .int v21), (4, .int s12.2.1)]) rfl rfl rfl ?_
              refine w_iinc C (pc := 65) dX9_wind_65 4 rfl (v := 1) (lv' := [(0, .ref (adr Y 0)), (1, .int x1), (2, .int x2), (3, .int v21), (4, .int (s12.2.1 + 1))]) (by decide) rfl rfl rfl ?_
              refine w_goto C (pc := 68) 41 dX9_wind_68 (by decide) ?_
              obtain rfl := Option.some.inj h16
              have k9 := ki14 (v21, s12.2.1 + 1, v19.2) rfl
              try dsimp only at k9
              exact k9
        · refine w_iload_n C (pc := 71) dX9_wind_71 3 rfl ?_
          exact w_ret C (pc := 72) dX9_wind_72 rfl (Option.some.inj h)
      · have h := it_f h c
        refine w_aload_n C (pc := 30) dX9_wind_30 0 rfl ?_
        refine w_iload_n C (pc := 31) dX9_wind_31 2 rfl ?_
        obtain ⟨v22, e23, h⟩ := ob h
        refine w_cVi C (pc := 32) dX9_wind_32 my_X9_splitBy mi_X9_splitBy ml_X9_263 (sB_0 hY) rfl rfl rfl [.int x2] rfl rfl (Nat.le_of_ble_eq_true rfl) (tX9_splitBy hY  e23) ?_
        exact w_ret C (pc := 35) dX9_wind_35 rfl (Option.some.inj h)
theorem dX9_wrong_0 : decode cX9_wrong 0 = .ok (.aload_n 0, 1) := by decide +kernel
theorem dX9_wrong_1 : decode cX9_wrong 1 = .ok (.iconst 0, 1) := by decide +kernel
theorem dX9_wrong_2 : decode cX9_wrong 2 = .ok (.putfield 66, 3) := by decide +kernel
theorem dX9_wrong_5 : decode cX9_wrong 5 = .ok (.aload_n 0, 1) := by decide +kernel
theorem dX9_wrong_6 : decode cX9_wrong 6 = .ok (.invokevirtual 205, 3) := by decide +kernel
theorem dX9_wrong_9 : decode cX9_wrong 9 = .ok (.istore_n 1, 1) := by decide +kernel
theorem dX9_wrong_10 : decode cX9_wrong 10 = .ok (.iload_n 1, 1) := by decide +kernel
theorem dX9_wrong_11 : decode cX9_wrong 11 = .ok (.ifCond .eq 5, 3) := by decide +kernel
theorem dX9_wrong_14 : decode cX9_wrong 14 = .ok (.iload_n 1, 1) := by decide +kernel
theorem dX9_wrong_15 : decode cX9_wrong 15 = .ok (.ireturn, 1) := by decide +kernel
theorem dX9_wrong_16 : decode cX9_wrong 16 = .ok (.aload_n 0, 1) := by decide +kernel
theorem dX9_wrong_17 : decode cX9_wrong 17 = .ok (.invokevirtual 223, 3) := by decide +kernel
theorem dX9_wrong_20 : decode cX9_wrong 20 = .ok (.pop, 1) := by decide +kernel
theorem dX9_wrong_21 : decode cX9_wrong 21 = .ok (.iconst 0, 1) := by decide +kernel
theorem dX9_wrong_22 : decode cX9_wrong 22 = .ok (.istore_n 2, 1) := by decide +kernel
theorem dX9_wrong_23 : decode cX9_wrong 23 = .ok (.iload_n 2, 1) := by decide +kernel
theorem dX9_wrong_24 : decode cX9_wrong 24 = .ok (.aload_n 0, 1) := by decide +kernel
theorem dX9_wrong_25 : decode cX9_wrong 25 = .ok (.invokevirtual 118, 3) := by decide +kernel
theorem dX9_wrong_28 : decode cX9_wrong 28 = .ok (.if_icmp .ge 30, 3) := by decide +kernel
theorem dX9_wrong_31 : decode cX9_wrong 31 = .ok (.aload_n 0, 1) := by decide +kernel
theorem dX9_wrong_32 : decode cX9_wrong 32 = .ok (.iload_n 2, 1) := by decide +kernel
theorem dX9_wrong_33 : decode cX9_wrong 33 = .ok (.invokevirtual 227, 3) := by decide +kernel
theorem dX9_wrong_36 : decode cX9_wrong 36 = .ok (.aload_n 0, 1) := by decide +kernel
theorem dX9_wrong_37 : decode cX9_wrong 37 = .ok (.iconst 5, 1) := by decide +kernel
theorem dX9_wrong_38 : decode cX9_wrong 38 = .ok (.invokevirtual 78, 3) := by decide +kernel
theorem dX9_wrong_41 : decode cX9_wrong 41 = .ok (.if_icmp .le 11, 3) := by decide +kernel
theorem dX9_wrong_44 : decode cX9_wrong 44 = .ok (.bipush 6, 2) := by decide +kernel
theorem dX9_wrong_46 : decode cX9_wrong 46 = .ok (.bipush 16, 2) := by decide +kernel
theorem dX9_wrong_48 : decode cX9_wrong 48 = .ok (.iload_n 2, 1) := by decide +kernel
theorem dX9_wrong_49 : decode cX9_wrong 49 = .ok (.imul, 1) := by decide +kernel
theorem dX9_wrong_50 : decode cX9_wrong 50 = .ok (.iadd, 1) := by decide +kernel
theorem dX9_wrong_51 : decode cX9_wrong 51 = .ok (.ireturn, 1) := by decide +kernel
theorem dX9_wrong_52 : decode cX9_wrong 52 = .ok (.iinc 2 1, 3) := by decide +kernel
theorem dX9_wrong_55 : decode cX9_wrong 55 = .ok (.goto (-32), 3) := by decide +kernel
theorem dX9_wrong_58 : decode cX9_wrong 58 = .ok (.iconst 0, 1) := by decide +kernel
theorem dX9_wrong_59 : decode cX9_wrong 59 = .ok (.ireturn, 1) := by decide +kernel
def pX9_wrong_L23 (M : Mm) (s : Int32) : Option ((Int32) ⊕ ((Unit) ⊕ (Int32 × Mm))) :=
(pX9_sorties M).bind fun v7 =>
if v7 ≤ s then
(some (Sum.inr (Sum.inl ())))
else
((pX9_airOf s M).bind fun v9 =>
(pX9_of 5 M).bind fun v11 =>
if v9 ≤ v11 then
(some (Sum.inl (s + 1)))
else
(some (Sum.inr (Sum.inr (6 + (16 * s), M)))))
def pX9_wrong (M : Mm) : Option (Int32 × Mm) :=
bnd (mset M 0 0 0) fun M1 =>
(pX9_wrongPlan M1).bind fun v3 =>
if v3 = 0 then
((pX9_goes M1).bind fun v5 =>
(itr (pX9_wrong_L23 v5.2) fuel 0).bind fun x14 =>
Sum.elim (fun yx14 =>
some (0, v5.2)) (fun r => some r) x14)
else
(some (v3, M1))
abbrev zX9_wrong : Zx := (cX9_wrong, RX9, 3, 5, (some .int))
set_option maxRecDepth 100000 in
set_option maxHeartbeats 4000000 in
theorem tX9_wrong {l : Launch} {Y : Sx} {M : Mm} {q : Int32 × Mm} (hY : isB Y) (h : pX9_wrong M = some q) : Ct l Y yX9_wrong cX9_wrong 3 (some .int) 5 [.ref (adr Y 0)] M (some q.1) q.2 := by
  refine Ct.of (by decide) rfl (lv := [(0, .ref (adr Y 0))]) rfl ?_
  intro K hkl C
  change Cx K zX9_wrong Y at C
  subst hkl
  unfold pX9_wrong at h
  show Wp K zX9_wrong Y (Qm K Y (some q.1) q.2) M 0 [(0, .ref (adr Y 0))] []
  refine w_aload_n C (pc := 0) dX9_wrong_0 0 rfl ?_
  refine w_iconst C (pc := 1) dX9_wrong_1 (v := 0) (by decide) ?_
  obtain ⟨M1, e2, h⟩ := bn h
  refine w_putI C (pc := 2) dX9_wrong_2 fp_X9_66 (sB_0 hY) rfl ?_
  rw [e2]
  refine w_aload_n C (pc := 5) dX9_wrong_5 0 rfl ?_
  obtain ⟨v3, e4, h⟩ := ob h
  refine w_cVi C (pc := 6) dX9_wrong_6 my_X9_wrongPlan mi_X9_wrongPlan ml_X9_205 (sB_0 hY) rfl rfl rfl [] rfl rfl (Nat.le_of_ble_eq_true rfl) (tX9_wrongPlan hY  e4) ?_
  refine w_istore_n C (pc := 9) dX9_wrong_9 (lv' := [(0, .ref (adr Y 0)), (1, .int v3)]) rfl rfl rfl ?_
  refine w_iload_n C (pc := 10) dX9_wrong_10 1 rfl ?_
  refine w_ifeq C (pc := 11) 16 dX9_wrong_11 (by decide) (fun c => ?_) (fun c => ?_)
  · have h := it_t h c
    refine w_aload_n C (pc := 16) dX9_wrong_16 0 rfl ?_
    obtain ⟨v5, e6, h⟩ := ob h
    refine w_cVi C (pc := 17) dX9_wrong_17 my_X9_goes mi_X9_goes ml_X9_223 (sB_0 hY) rfl rfl rfl [] rfl rfl (Nat.le_of_ble_eq_true rfl) (tX9_goes hY  e6) ?_
    refine w_pop C (pc := 20) dX9_wrong_20 rfl ?_
    refine w_iconst C (pc := 21) dX9_wrong_21 (v := 0) (by decide) ?_
    refine w_istore_n C (pc := 22) dX9_wrong_22 (lv' := [(0, .ref (adr Y 0)), (1, .int v3), (2, .int 0)]) rfl rfl rfl ?_
    obtain ⟨x14, e15, h⟩ := ob h
    refine itr_W (P := fun s16 => Wp K zX9_wrong Y (Qm K Y (some q.1) q.2) v5.2 23 [(0, .ref (adr Y 0)), (1, .int v3), (2, .int s16)] []) (R := fun x9 => (∀ yx14, x9 = Sum.inl yx14 → Wp K zX9_wrong Y (Qm K Y (some q.1) q.2) v5.2 58 [(0, .ref (adr Y 0)), (1, .int v3)] []) ∧ (∀ v9, x9 = Sum.inr v9 → some v9 = some q)) ?_ fuel 0 x14 e15 ?_
    · intro s16 r17 h20 ki18 kx19
      unfold pX9_wrong_L23 at h20
      show Wp K zX9_wrong Y (Qm K Y (some q.1) q.2) v5.2 23 [(0, .ref (adr Y 0)), (1, .int v3), (2, .int s16)] []
      refine w_iload_n C (pc := 23) dX9_wrong_23 2 rfl ?_
      refine w_aload_n C (pc := 24) dX9_wrong_24 0 rfl ?_
      obtain ⟨v21, e22, h20⟩ := ob h20
      refine w_cVi C (pc := 25) dX9_wrong_25 my_X9_sorties mi_X9_sorties ml_X9_118 (sB_0 hY) rfl rfl rfl [] rfl rfl (Nat.le_of_ble_eq_true rfl) (tX9_sorties hY  e22) ?_
      refine w_icge C (pc := 28) 58 dX9_wrong_28 (by decide) (fun c => ?_) (fun c => ?_)
      · have h20 := it_t h20 c
        obtain rfl := Option.some.inj h20
        refine w_lv [0, 1] rfl ?_
        have k9 := (kx19 (Sum.inl ()) rfl).1 () rfl
        try dsimp only at k9
        exact k9
      · have h20 := it_f h20 c
        refine w_aload_n C (pc := 31) dX9_wrong_31 0 rfl ?_
        refine w_iload_n C (pc := 32) dX9_wrong_32 2 rfl ?_
        obtain ⟨v23, e24, h20⟩ := ob h20
        refine w_cVi C (pc := 33) dX9_wrong_33 my_X9_airOf mi_X9_airOf ml_X9_227 (sB_0 hY) rfl rfl rfl [.int s16] rfl rfl (Nat.le_of_ble_eq_true rfl) (tX9_airOf hY  e24) ?_
        refine w_aload_n C (pc := 36) dX9_wrong_36 0 rfl ?_
        refine w_iconst C (pc := 37) dX9_wrong_37 (v := 5) (by decide) ?_
        obtain ⟨v25, e26, h20⟩ := ob h20
        refine w_cVi C (pc := 38) dX9_wrong_38 my_X9_of mi_X9_of ml_X9_78 (sB_0 hY) rfl rfl rfl [.int 5] rfl rfl (Nat.le_of_ble_eq_true rfl) (tX9_of hY  e26) ?_
        refine w_icle C (pc := 41) 52 dX9_wrong_41 (by decide) (fun c => ?_) (fun c => ?_)
        · have h20 := it_t h20 c
          refine w_iinc C (pc := 52) dX9_wrong_52 2 rfl (v := 1) (lv' := [(0, .ref (adr Y 0)), (1, .int v3), (2, .int (s16 + 1))]) (by decide) rfl rfl rfl ?_
          refine w_goto C (pc := 55) 23 dX9_wrong_55 (by decide) ?_
          obtain rfl := Option.some.inj h20
          have k9 := ki18 (s16 + 1) rfl
          try dsimp only at k9
          exact k9
        · have h20 := it_f h20 c
          refine w_bipush C (pc := 44) dX9_wrong_44 (v := 6) (by decide) ?_
          refine w_bipush C (pc := 46) dX9_wrong_46 (v := 16) (by decide) ?_
          refine w_iload_n C (pc := 48) dX9_wrong_48 2 rfl ?_
          refine w_imul C (pc := 49) dX9_wrong_49 ?_
          refine w_iadd C (pc := 50) dX9_wrong_50 ?_
          obtain rfl := Option.some.inj h20
          have h27 := (kx19 (Sum.inr (6 + (16 * s16), v5.2)) rfl).2 (6 + (16 * s16), v5.2) rfl
          exact w_ret C (pc := 51) dX9_wrong_51 rfl (Option.some.inj h27)
    · refine ⟨fun yx14 hy => ?_, fun v9 hv => ?_⟩
      · subst hy
        dsimp only [Sum.elim] at h
        refine w_iconst C (pc := 58) dX9_wrong_58 (v := 0) (by decide) ?_
        exact w_ret C (pc := 59) dX9_wrong_59 rfl (Option.some.inj h)
      · subst hv
        exact h
  · have h := it_f h c
    refine w_iload_n C (pc := 14) dX9_wrong_14 1 rfl ?_
    exact w_ret C (pc := 15) dX9_wrong_15 rfl (Option.some.inj h)
