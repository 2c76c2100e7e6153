theorem dX9_wrongPlan_0 : decode cX9_wrongPlan 0 = .ok (.iconst 0, 1) := by decide +kernel
theorem dX9_wrongPlan_1 : decode cX9_wrongPlan 1 = .ok (.istore_n 1, 1) := by decide +kernel
theorem dX9_wrongPlan_2 : decode cX9_wrongPlan 2 = .ok (.iload_n 1, 1) := by decide +kernel
theorem dX9_wrongPlan_3 : decode cX9_wrongPlan 3 = .ok (.aload_n 0, 1) := by decide +kernel
theorem dX9_wrongPlan_4 : decode cX9_wrongPlan 4 = .ok (.invokevirtual 118, 3) := by decide +kernel
theorem dX9_wrongPlan_7 : decode cX9_wrongPlan 7 = .ok (.if_icmp .ge 72, 3) := by decide +kernel
theorem dX9_wrongPlan_10 : decode cX9_wrongPlan 10 = .ok (.aload_n 0, 1) := by decide +kernel
theorem dX9_wrongPlan_11 : decode cX9_wrongPlan 11 = .ok (.iload_n 1, 1) := by decide +kernel
theorem dX9_wrongPlan_12 : decode cX9_wrongPlan 12 = .ok (.iconst 0, 1) := by decide +kernel
theorem dX9_wrongPlan_13 : decode cX9_wrongPlan 13 = .ok (.invokevirtual 137, 3) := by decide +kernel
theorem dX9_wrongPlan_16 : decode cX9_wrongPlan 16 = .ok (.aload_n 0, 1) := by decide +kernel
theorem dX9_wrongPlan_17 : decode cX9_wrongPlan 17 = .ok (.bipush 8, 2) := by decide +kernel
theorem dX9_wrongPlan_19 : decode cX9_wrongPlan 19 = .ok (.invokevirtual 78, 3) := by decide +kernel
theorem dX9_wrongPlan_22 : decode cX9_wrongPlan 22 = .ok (.if_icmp .ge 44, 3) := by decide +kernel
theorem dX9_wrongPlan_25 : decode cX9_wrongPlan 25 = .ok (.aload_n 0, 1) := by decide +kernel
theorem dX9_wrongPlan_26 : decode cX9_wrongPlan 26 = .ok (.iload_n 1, 1) := by decide +kernel
theorem dX9_wrongPlan_27 : decode cX9_wrongPlan 27 = .ok (.iconst 1, 1) := by decide +kernel
theorem dX9_wrongPlan_28 : decode cX9_wrongPlan 28 = .ok (.invokevirtual 137, 3) := by decide +kernel
theorem dX9_wrongPlan_31 : decode cX9_wrongPlan 31 = .ok (.aload_n 0, 1) := by decide +kernel
theorem dX9_wrongPlan_32 : decode cX9_wrongPlan 32 = .ok (.invokevirtual 107, 3) := by decide +kernel
theorem dX9_wrongPlan_35 : decode cX9_wrongPlan 35 = .ok (.if_icmp .ge 31, 3) := by decide +kernel
theorem dX9_wrongPlan_38 : decode cX9_wrongPlan 38 = .ok (.aload_n 0, 1) := by decide +kernel
theorem dX9_wrongPlan_39 : decode cX9_wrongPlan 39 = .ok (.iload_n 1, 1) := by decide +kernel
theorem dX9_wrongPlan_40 : decode cX9_wrongPlan 40 = .ok (.iconst 3, 1) := by decide +kernel
theorem dX9_wrongPlan_41 : decode cX9_wrongPlan 41 = .ok (.invokevirtual 137, 3) := by decide +kernel
theorem dX9_wrongPlan_44 : decode cX9_wrongPlan 44 = .ok (.aload_n 0, 1) := by decide +kernel
theorem dX9_wrongPlan_45 : decode cX9_wrongPlan 45 = .ok (.invokevirtual 107, 3) := by decide +kernel
theorem dX9_wrongPlan_48 : decode cX9_wrongPlan 48 = .ok (.if_icmp .ge 18, 3) := by decide +kernel
theorem dX9_wrongPlan_51 : decode cX9_wrongPlan 51 = .ok (.aload_n 0, 1) := by decide +kernel
theorem dX9_wrongPlan_52 : decode cX9_wrongPlan 52 = .ok (.iload_n 1, 1) := by decide +kernel
theorem dX9_wrongPlan_53 : decode cX9_wrongPlan 53 = .ok (.iconst 3, 1) := by decide +kernel
theorem dX9_wrongPlan_54 : decode cX9_wrongPlan 54 = .ok (.invokevirtual 137, 3) := by decide +kernel
theorem dX9_wrongPlan_57 : decode cX9_wrongPlan 57 = .ok (.aload_n 0, 1) := by decide +kernel
theorem dX9_wrongPlan_58 : decode cX9_wrongPlan 58 = .ok (.iload_n 1, 1) := by decide +kernel
theorem dX9_wrongPlan_59 : decode cX9_wrongPlan 59 = .ok (.iconst 1, 1) := by decide +kernel
theorem dX9_wrongPlan_60 : decode cX9_wrongPlan 60 = .ok (.invokevirtual 137, 3) := by decide +kernel
theorem dX9_wrongPlan_63 : decode cX9_wrongPlan 63 = .ok (.if_icmp .gt 10, 3) := by decide +kernel
theorem dX9_wrongPlan_66 : decode cX9_wrongPlan 66 = .ok (.iconst 1, 1) := by decide +kernel
theorem dX9_wrongPlan_67 : decode cX9_wrongPlan 67 = .ok (.bipush 16, 2) := by decide +kernel
theorem dX9_wrongPlan_69 : decode cX9_wrongPlan 69 = .ok (.iload_n 1, 1) := by decide +kernel
theorem dX9_wrongPlan_70 : decode cX9_wrongPlan 70 = .ok (.imul, 1) := by decide +kernel
theorem dX9_wrongPlan_71 : decode cX9_wrongPlan 71 = .ok (.iadd, 1) := by decide +kernel
theorem dX9_wrongPlan_72 : decode cX9_wrongPlan 72 = .ok (.ireturn, 1) := by decide +kernel
theorem dX9_wrongPlan_73 : decode cX9_wrongPlan 73 = .ok (.iinc 1 1, 3) := by decide +kernel
theorem dX9_wrongPlan_76 : decode cX9_wrongPlan 76 = .ok (.goto (-74), 3) := by decide +kernel
theorem dX9_wrongPlan_79 : decode cX9_wrongPlan 79 = .ok (.iconst 1, 1) := by decide +kernel
theorem dX9_wrongPlan_80 : decode cX9_wrongPlan 80 = .ok (.istore_n 1, 1) := by decide +kernel
theorem dX9_wrongPlan_81 : decode cX9_wrongPlan 81 = .ok (.iload_n 1, 1) := by decide +kernel
theorem dX9_wrongPlan_82 : decode cX9_wrongPlan 82 = .ok (.aload_n 0, 1) := by decide +kernel
theorem dX9_wrongPlan_83 : decode cX9_wrongPlan 83 = .ok (.invokevirtual 74, 3) := by decide +kernel
theorem dX9_wrongPlan_86 : decode cX9_wrongPlan 86 = .ok (.if_icmp .gt 25, 3) := by decide +kernel
theorem dX9_wrongPlan_89 : decode cX9_wrongPlan 89 = .ok (.aload_n 0, 1) := by decide +kernel
theorem dX9_wrongPlan_90 : decode cX9_wrongPlan 90 = .ok (.iload_n 1, 1) := by decide +kernel
theorem dX9_wrongPlan_91 : decode cX9_wrongPlan 91 = .ok (.invokevirtual 190, 3) := by decide +kernel
theorem dX9_wrongPlan_94 : decode cX9_wrongPlan 94 = .ok (.iconst 1, 1) := by decide +kernel
theorem dX9_wrongPlan_95 : decode cX9_wrongPlan 95 = .ok (.if_icmp .le 10, 3) := by decide +kernel
theorem dX9_wrongPlan_98 : decode cX9_wrongPlan 98 = .ok (.iconst 2, 1) := by decide +kernel
theorem dX9_wrongPlan_99 : decode cX9_wrongPlan 99 = .ok (.bipush 16, 2) := by decide +kernel
theorem dX9_wrongPlan_101 : decode cX9_wrongPlan 101 = .ok (.iload_n 1, 1) := by decide +kernel
theorem dX9_wrongPlan_102 : decode cX9_wrongPlan 102 = .ok (.imul, 1) := by decide +kernel
theorem dX9_wrongPlan_103 : decode cX9_wrongPlan 103 = .ok (.iadd, 1) := by decide +kernel
theorem dX9_wrongPlan_104 : decode cX9_wrongPlan 104 = .ok (.ireturn, 1) := by decide +kernel
theorem dX9_wrongPlan_105 : decode cX9_wrongPlan 105 = .ok (.iinc 1 1, 3) := by decide +kernel
theorem dX9_wrongPlan_108 : decode cX9_wrongPlan 108 = .ok (.goto (-27), 3) := by decide +kernel
theorem dX9_wrongPlan_111 : decode cX9_wrongPlan 111 = .ok (.iconst 1, 1) := by decide +kernel
theorem dX9_wrongPlan_112 : decode cX9_wrongPlan 112 = .ok (.istore_n 1, 1) := by decide +kernel
theorem dX9_wrongPlan_113 : decode cX9_wrongPlan 113 = .ok (.iload_n 1, 1) := by decide +kernel
theorem dX9_wrongPlan_114 : decode cX9_wrongPlan 114 = .ok (.aload_n 0, 1) := by decide +kernel
theorem dX9_wrongPlan_115 : decode cX9_wrongPlan 115 = .ok (.invokevirtual 74, 3) := by decide +kernel
theorem dX9_wrongPlan_118 : decode cX9_wrongPlan 118 = .ok (.if_icmp .gt 24, 3) := by decide +kernel
theorem dX9_wrongPlan_121 : decode cX9_wrongPlan 121 = .ok (.aload_n 0, 1) := by decide +kernel
theorem dX9_wrongPlan_122 : decode cX9_wrongPlan 122 = .ok (.iload_n 1, 1) := by decide +kernel
theorem dX9_wrongPlan_123 : decode cX9_wrongPlan 123 = .ok (.invokevirtual 190, 3) := by decide +kernel
theorem dX9_wrongPlan_126 : decode cX9_wrongPlan 126 = .ok (.ifCond .ne 10, 3) := by decide +kernel
theorem dX9_wrongPlan_129 : decode cX9_wrongPlan 129 = .ok (.iconst 3, 1) := by decide +kernel
theorem dX9_wrongPlan_130 : decode cX9_wrongPlan 130 = .ok (.bipush 16, 2) := by decide +kernel
theorem dX9_wrongPlan_132 : decode cX9_wrongPlan 132 = .ok (.iload_n 1, 1) := by decide +kernel
theorem dX9_wrongPlan_133 : decode cX9_wrongPlan 133 = .ok (.imul, 1) := by decide +kernel
theorem dX9_wrongPlan_134 : decode cX9_wrongPlan 134 = .ok (.iadd, 1) := by decide +kernel
theorem dX9_wrongPlan_135 : decode cX9_wrongPlan 135 = .ok (.ireturn, 1) := by decide +kernel
theorem dX9_wrongPlan_136 : decode cX9_wrongPlan 136 = .ok (.iinc 1 1, 3) := by decide +kernel
theorem dX9_wrongPlan_139 : decode cX9_wrongPlan 139 = .ok (.goto (-26), 3) := by decide +kernel
theorem dX9_wrongPlan_142 : decode cX9_wrongPlan 142 = .ok (.iconst 0, 1) := by decide +kernel
theorem dX9_wrongPlan_143 : decode cX9_wrongPlan 143 = .ok (.istore_n 1, 1) := by decide +kernel
theorem dX9_wrongPlan_144 : decode cX9_wrongPlan 144 = .ok (.iload_n 1, 1) := by decide +kernel
theorem dX9_wrongPlan_145 : decode cX9_wrongPlan 145 = .ok (.aload_n 0, 1) := by decide +kernel
theorem dX9_wrongPlan_146 : decode cX9_wrongPlan 146 = .ok (.invokevirtual 118, 3) := by decide +kernel
theorem dX9_wrongPlan_149 : decode cX9_wrongPlan 149 = .ok (.if_icmp .ge 29, 3) := by decide +kernel
theorem dX9_wrongPlan_152 : decode cX9_wrongPlan 152 = .ok (.aload_n 0, 1) := by decide +kernel
theorem dX9_wrongPlan_153 : decode cX9_wrongPlan 153 = .ok (.aload_n 0, 1) := by decide +kernel
theorem dX9_wrongPlan_154 : decode cX9_wrongPlan 154 = .ok (.iload_n 1, 1) := by decide +kernel
theorem dX9_wrongPlan_155 : decode cX9_wrongPlan 155 = .ok (.iconst 2, 1) := by decide +kernel
theorem dX9_wrongPlan_156 : decode cX9_wrongPlan 156 = .ok (.invokevirtual 137, 3) := by decide +kernel
theorem dX9_wrongPlan_159 : decode cX9_wrongPlan 159 = .ok (.invokevirtual 193, 3) := by decide +kernel
theorem dX9_wrongPlan_162 : decode cX9_wrongPlan 162 = .ok (.ifCond .ne 10, 3) := by decide +kernel
theorem dX9_wrongPlan_165 : decode cX9_wrongPlan 165 = .ok (.iconst 4, 1) := by decide +kernel
theorem dX9_wrongPlan_166 : decode cX9_wrongPlan 166 = .ok (.bipush 16, 2) := by decide +kernel
theorem dX9_wrongPlan_168 : decode cX9_wrongPlan 168 = .ok (.iload_n 1, 1) := by decide +kernel
theorem dX9_wrongPlan_169 : decode cX9_wrongPlan 169 = .ok (.imul, 1) := by decide +kernel
theorem dX9_wrongPlan_170 : decode cX9_wrongPlan 170 = .ok (.iadd, 1) := by decide +kernel
theorem dX9_wrongPlan_171 : decode cX9_wrongPlan 171 = .ok (.ireturn, 1) := by decide +kernel
theorem dX9_wrongPlan_172 : decode cX9_wrongPlan 172 = .ok (.iinc 1 1, 3) := by decide +kernel
theorem dX9_wrongPlan_175 : decode cX9_wrongPlan 175 = .ok (.goto (-31), 3) := by decide +kernel
theorem dX9_wrongPlan_178 : decode cX9_wrongPlan 178 = .ok (.iconst 0, 1) := by decide +kernel
theorem dX9_wrongPlan_179 : decode cX9_wrongPlan 179 = .ok (.istore_n 1, 1) := by decide +kernel
theorem dX9_wrongPlan_180 : decode cX9_wrongPlan 180 = .ok (.iload_n 1, 1) := by decide +kernel
theorem dX9_wrongPlan_181 : decode cX9_wrongPlan 181 = .ok (.aload_n 0, 1) := by decide +kernel
theorem dX9_wrongPlan_182 : decode cX9_wrongPlan 182 = .ok (.invokevirtual 118, 3) := by decide +kernel
theorem dX9_wrongPlan_185 : decode cX9_wrongPlan 185 = .ok (.if_icmp .ge 24, 3) := by decide +kernel
theorem dX9_wrongPlan_188 : decode cX9_wrongPlan 188 = .ok (.aload_n 0, 1) := by decide +kernel
theorem dX9_wrongPlan_189 : decode cX9_wrongPlan 189 = .ok (.iload_n 1, 1) := by decide +kernel
theorem dX9_wrongPlan_190 : decode cX9_wrongPlan 190 = .ok (.invokevirtual 196, 3) := by decide +kernel
theorem dX9_wrongPlan_193 : decode cX9_wrongPlan 193 = .ok (.ifCond .eq 10, 3) := by decide +kernel
theorem dX9_wrongPlan_196 : decode cX9_wrongPlan 196 = .ok (.iconst 5, 1) := by decide +kernel
theorem dX9_wrongPlan_197 : decode cX9_wrongPlan 197 = .ok (.bipush 16, 2) := by decide +kernel
theorem dX9_wrongPlan_199 : decode cX9_wrongPlan 199 = .ok (.iload_n 1, 1) := by decide +kernel
theorem dX9_wrongPlan_200 : decode cX9_wrongPlan 200 = .ok (.imul, 1) := by decide +kernel
theorem dX9_wrongPlan_201 : decode cX9_wrongPlan 201 = .ok (.iadd, 1) := by decide +kernel
theorem dX9_wrongPlan_202 : decode cX9_wrongPlan 202 = .ok (.ireturn, 1) := by decide +kernel
theorem dX9_wrongPlan_203 : decode cX9_wrongPlan 203 = .ok (.iinc 1 1, 3) := by decide +kernel
theorem dX9_wrongPlan_206 : decode cX9_wrongPlan 206 = .ok (.goto (-26), 3) := by decide +kernel
theorem dX9_wrongPlan_209 : decode cX9_wrongPlan 209 = .ok (.iconst 0, 1) := by decide +kernel
theorem dX9_wrongPlan_210 : decode cX9_wrongPlan 210 = .ok (.ireturn, 1) := by decide +kernel
def pX9_wrongPlan_L2 (M : Mm) (s : Int32) : Option ((Int32) ⊕ ((Unit) ⊕ (Int32))) :=
(pX9_sorties M).bind fun v1 =>
if v1 ≤ s then
(some (Sum.inr (Sum.inl ())))
else
((pX9_sortieOf s 0 M).bind fun v3 =>
(pX9_of 8 M).bind fun v5 =>
if v5 ≤ v3 then
(some (Sum.inr (Sum.inr (1 + (16 * s)))))
else
((pX9_sortieOf s 1 M).bind fun v8 =>
(pX9_stops M).bind fun v10 =>
if v10 ≤ v8 then
(some (Sum.inr (Sum.inr (1 + (16 * s)))))
else
((pX9_sortieOf s 3 M).bind fun v13 =>
(pX9_stops M).bind fun v15 =>
if v15 ≤ v13 then
(some (Sum.inr (Sum.inr (1 + (16 * s)))))
else
((pX9_sortieOf s 3 M).bind fun v18 =>
(pX9_sortieOf s 1 M).bind fun v20 =>
if v20 < v18 then
(some (Sum.inl (s + 1)))
else
(some (Sum.inr (Sum.inr (1 + (16 * s)))))))))
def pX9_wrongPlan_L81 (M : Mm) (s : Int32) : Option ((Int32) ⊕ ((Unit) ⊕ (Int32))) :=
(pX9_customers M).bind fun v52 =>
if v52 < s then
(some (Sum.inr (Sum.inl ())))
else
((pX9_servedBy s M).bind fun v54 =>
if v54 ≤ 1 then
(some (Sum.inl (s + 1)))
else
(some (Sum.inr (Sum.inr (2 + (16 * s))))))
def pX9_wrongPlan_L113 (M : Mm) (s : Int32) : Option ((Int32) ⊕ ((Unit) ⊕ (Int32))) :=
(pX9_customers M).bind fun v69 =>
if v69 < s then
(some (Sum.inr (Sum.inl ())))
else
((pX9_servedBy s M).bind fun v71 =>
if v71 = 0 then
(some (Sum.inr (Sum.inr (3 + (16 * s)))))
else
(some (Sum.inl (s + 1))))
def pX9_wrongPlan_L144 (M : Mm) (s : Int32) : Option ((Int32) ⊕ ((Unit) ⊕ (Int32))) :=
(pX9_sorties M).bind fun v86 =>
if v86 ≤ s then
(some (Sum.inr (Sum.inl ())))
else
((pX9_sortieOf s 2 M).bind fun v88 =>
(pX9_isLight v88 M).bind fun v90 =>
if v90 = 0 then
(some (Sum.inr (Sum.inr (4 + (16 * s)))))
else
(some (Sum.inl (s + 1))))
def pX9_wrongPlan_L180 (M : Mm) (s : Int32) : Option ((Int32) ⊕ ((Unit) ⊕ (Int32))) :=
(pX9_sorties M).bind fun v107 =>
if v107 ≤ s then
(some (Sum.inr (Sum.inl ())))
else
((pX9_crosses s M).bind fun v109 =>
if v109 = 0 then
(some (Sum.inl (s + 1)))
else
(some (Sum.inr (Sum.inr (5 + (16 * s))))))
def pX9_wrongPlan (M : Mm) : Option (Int32) :=
(itr (pX9_wrongPlan_L2 M) fuel 0).bind fun x23 =>
Sum.elim (fun yx23 =>
(itr (pX9_wrongPlan_L81 M) fuel 1).bind fun x57 =>
Sum.elim (fun yx57 =>
(itr (pX9_wrongPlan_L113 M) fuel 1).bind fun x74 =>
Sum.elim (fun yx74 =>
(itr (pX9_wrongPlan_L144 M) fuel 0).bind fun x93 =>
Sum.elim (fun yx93 =>
(itr (pX9_wrongPlan_L180 M) fuel 0).bind fun x112 =>
Sum.elim (fun yx112 =>
some 0) (fun r => some r) x112) (fun r => some r) x93) (fun r => some r) x74) (fun r => some r) x57) (fun r => some r) x23
abbrev zX9_wrongPlan : Zx := (cX9_wrongPlan, RX9, 2, 3, (some .int))
set_option maxRecDepth 100000 in
set_option maxHeartbeats 4000000 in
theorem tX9_wrongPlan {l : Launch} {Y : Sx} {M : Mm} {q : Int32} (hY : isB Y) (h : pX9_wrongPlan M = some q) : Ct l Y yX9_wrongPlan cX9_wrongPlan 2 (some .int) 3 [.ref (adr Y 0)] M (some q) M := by
  refine Ct.of (by decide) rfl (lv := [(0, .ref (adr Y 0))]) rfl ?_
  intro K hkl C
  change Cx K zX9_wrongPlan Y at C
  subst hkl
  unfold pX9_wrongPlan at h
  show Wp K zX9_wrongPlan Y (Qm K Y (some q) M) M 0 [(0, .ref (adr Y 0))] []
  refine w_iconst C (pc := 0) dX9_wrongPlan_0 (v := 0) (by decide) ?_
  refine w_istore_n C (pc := 1) dX9_wrongPlan_1 (lv' := [(0, .ref (adr Y 0)), (1, .int 0)]) rfl rfl rfl ?_
  obtain ⟨x23, e24, h⟩ := ob h
  refine itr_W (P := fun s25 => Wp K zX9_wrongPlan Y (Qm K Y (some q) M) M 2 [(0, .ref (adr Y 0)), (1, .int s25)] []) (R := fun x9 => (∀ yx23, x9 = Sum.inl yx23 → Wp K zX9_wrongPlan Y (Qm K Y (some q) M) M 79 [(0, .ref (adr Y 0))] []) ∧ (∀ v9, x9 = Sum.inr v9 → some v9 = some q)) ?_ fuel 0 x23 e24 ?_
  · intro s25 r26 h29 ki27 kx28
    unfold pX9_wrongPlan_L2 at h29
    show Wp K zX9_wrongPlan Y (Qm K Y (some q) M) M 2 [(0, .ref (adr Y 0)), (1, .int s25)] []
    refine w_iload_n C (pc := 2) dX9_wrongPlan_2 1 rfl ?_
    refine w_aload_n C (pc := 3) dX9_wrongPlan_3 0 rfl ?_
    obtain ⟨v30, e31, h29⟩ := ob h29
    refine w_cVi C (pc := 4) dX9_wrongPlan_4 my_X9_sorties mi_X9_sorties ml_X9_118 (sB_0 hY) rfl rfl rfl [] rfl rfl (Nat.le_of_ble_eq_true rfl) (tX9_sorties hY  e31) ?_
    refine w_icge C (pc := 7) 79 dX9_wrongPlan_7 (by decide) (fun c => ?_) (fun c => ?_)
    · have h29 := it_t h29 c
      obtain rfl := Option.some.inj h29
      refine w_lv [0] rfl ?_
      have k9 := (kx28 (Sum.inl ()) rfl).1 () rfl
      try dsimp only at k9
      exact k9
    · have h29 := it_f h29 c
      refine w_aload_n C (pc := 10) dX9_wrongPlan_10 0 rfl ?_
      refine w_iload_n C (pc := 11) dX9_wrongPlan_11 1 rfl ?_
      refine w_iconst C (pc := 12) dX9_wrongPlan_12 (v := 0) (by decide) ?_
      obtain ⟨v32, e33, h29⟩ := ob h29
      refine w_cVi C (pc := 13) dX9_wrongPlan_13 my_X9_sortieOf mi_X9_sortieOf ml_X9_137 (sB_0 hY) rfl rfl rfl [.int s25, .int 0] rfl rfl (Nat.le_of_ble_eq_true rfl) (tX9_sortieOf hY  e33) ?_
      refine w_aload_n C (pc := 16) dX9_wrongPlan_16 0 rfl ?_
      refine w_bipush C (pc := 17) dX9_wrongPlan_17 (v := 8) (by decide) ?_
      obtain ⟨v34, e35, h29⟩ := ob h29
      refine w_cVi C (pc := 19) dX9_wrongPlan_19 my_X9_of mi_X9_of ml_X9_78 (sB_0 hY) rfl rfl rfl [.int 8] rfl rfl (Nat.le_of_ble_eq_true rfl) (tX9_of hY  e35) ?_
      refine w_icge C (pc := 22) 66 dX9_wrongPlan_22 (by decide) (fun c => ?_) (fun c => ?_)
      · have h29 := it_t h29 c
        refine w_iconst C (pc := 66) dX9_wrongPlan_66 (v := 1) (by decide) ?_
        refine w_bipush C (pc := 67) dX9_wrongPlan_67 (v := 16) (by decide) ?_
        refine w_iload_n C (pc := 69) dX9_wrongPlan_69 1 rfl ?_
        refine w_imul C (pc := 70) dX9_wrongPlan_70 ?_
        refine w_iadd C (pc := 71) dX9_wrongPlan_71 ?_
        obtain rfl := Option.some.inj h29
        have h36 := (kx28 (Sum.inr (1 + (16 * s25))) rfl).2 (1 + (16 * s25)) rfl
        exact w_retR C (pc := 72) dX9_wrongPlan_72 rfl (Option.some.inj h36)
      · have h29 := it_f h29 c
        refine w_aload_n C (pc := 25) dX9_wrongPlan_25 0 rfl ?_
        refine w_iload_n C (pc := 26) dX9_wrongPlan_26 1 rfl ?_
        refine w_iconst C (pc := 27) dX9_wrongPlan_27 (v := 1) (by decide) ?_
        obtain ⟨v37, e38, h29⟩ := ob h29
        refine w_cVi C (pc := 28) dX9_wrongPlan_28 my_X9_sortieOf mi_X9_sortieOf ml_X9_137 (sB_0 hY) rfl rfl rfl [.int s25, .int 1] rfl rfl (Nat.le_of_ble_eq_true rfl) (tX9_sortieOf hY  e38) ?_
        refine w_aload_n C (pc := 31) dX9_wrongPlan_31 0 rfl ?_
        obtain ⟨v39, e40, h29⟩ := ob h29
        refine w_cVi C (pc := 32) dX9_wrongPlan_32 my_X9_stops mi_X9_stops ml_X9_107 (sB_0 hY) rfl rfl rfl [] rfl rfl (Nat.le_of_ble_eq_true rfl) (tX9_stops hY  e40) ?_
        refine w_icge C (pc := 35) 66 dX9_wrongPlan_35 (by decide) (fun c => ?_) (fun c => ?_)
        · have h29 := it_t h29 c
          refine w_iconst C (pc := 66) dX9_wrongPlan_66 (v := 1) (by decide) ?_
          refine w_bipush C (pc := 67) dX9_wrongPlan_67 (v := 16) (by decide) ?_
          refine w_iload_n C (pc := 69) dX9_wrongPlan_69 1 rfl ?_
          refine w_imul C (pc := 70) dX9_wrongPlan_70 ?_
          refine w_iadd C (pc := 71) dX9_wrongPlan_71 ?_
          obtain rfl := Option.some.inj h29
          have h41 := (kx28 (Sum.inr (1 + (16 * s25))) rfl).2 (1 + (16 * s25)) rfl
          exact w_retR C (pc := 72) dX9_wrongPlan_72 rfl (Option.some.inj h41)
        · have h29 := it_f h29 c
          refine w_aload_n C (pc := 38) dX9_wrongPlan_38 0 rfl ?_
          refine w_iload_n C (pc := 39) dX9_wrongPlan_39 1 rfl ?_
          refine w_iconst C (pc := 40) dX9_wrongPlan_40 (v := 3) (by decide) ?_
          obtain ⟨v42, e43, h29⟩ := ob h29
          refine w_cVi C (pc := 41) dX9_wrongPlan_41 my_X9_sortieOf mi_X9_sortieOf ml_X9_137 (sB_0 hY) rfl rfl rfl [.int s25, .int 3] rfl rfl (Nat.le_of_ble_eq_true rfl) (tX9_sortieOf hY  e43) ?_
          refine w_aload_n C (pc := 44) dX9_wrongPlan_44 0 rfl ?_
          obtain ⟨v44, e45, h29⟩ := ob h29
          refine w_cVi C (pc := 45) dX9_wrongPlan_45 my_X9_stops mi_X9_stops ml_X9_107 (sB_0 hY) rfl rfl rfl [] rfl rfl (Nat.le_of_ble_eq_true rfl) (tX9_stops hY  e45) ?_
          refine w_icge C (pc := 48) 66 dX9_wrongPlan_48 (by decide) (fun c => ?_) (fun c => ?_)
          · have h29 := it_t h29 c
            refine w_iconst C (pc := 66) dX9_wrongPlan_66 (v := 1) (by decide) ?_
            refine w_bipush C (pc := 67) dX9_wrongPlan_67 (v := 16) (by decide) ?_
            refine w_iload_n C (pc := 69) dX9_wrongPlan_69 1 rfl ?_
            refine w_imul C (pc := 70) dX9_wrongPlan_70 ?_
            refine w_iadd C (pc := 71) dX9_wrongPlan_71 ?_
            obtain rfl := Option.some.inj h29
            have h46 := (kx28 (Sum.inr (1 + (16 * s25))) rfl).2 (1 + (16 * s25)) rfl
            exact w_retR C (pc := 72) dX9_wrongPlan_72 rfl (Option.some.inj h46)
          · have h29 := it_f h29 c
            refine w_aload_n C (pc := 51) dX9_wrongPlan_51 0 rfl ?_
            refine w_iload_n C (pc := 52) dX9_wrongPlan_52 1 rfl ?_
            refine w_iconst C (pc := 53) dX9_wrongPlan_53 (v := 3) (by decide) ?_
            obtain ⟨v47, e48, h29⟩ := ob h29
            refine w_cVi C (pc := 54) dX9_wrongPlan_54 my_X9_sortieOf mi_X9_sortieOf ml_X9_137 (sB_0 hY) rfl rfl rfl [.int s25, .int 3] rfl rfl (Nat.le_of_ble_eq_true rfl) (tX9_sortieOf hY  e48) ?_
            refine w_aload_n C (pc := 57) dX9_wrongPlan_57 0 rfl ?_
            refine w_iload_n C (pc := 58) dX9_wrongPlan_58 1 rfl ?_
            refine w_iconst C (pc := 59) dX9_wrongPlan_59 (v := 1) (by decide) ?_
            obtain ⟨v49, e50, h29⟩ := ob h29
            refine w_cVi C (pc := 60) dX9_wrongPlan_60 my_X9_sortieOf mi_X9_sortieOf ml_X9_137 (sB_0 hY) rfl rfl rfl [.int s25, .int 1] rfl rfl (Nat.le_of_ble_eq_true rfl) (tX9_sortieOf hY  e50) ?_
            refine w_icgt C (pc := 63) 73 dX9_wrongPlan_63 (by decide) (fun c => ?_) (fun c => ?_)
            · have h29 := it_t h29 c
              refine w_iinc C (pc := 73) dX9_wrongPlan_73 1 rfl (v := 1) (lv' := [(0, .ref (adr Y 0)), (1, .int (s25 + 1))]) (by decide) rfl rfl rfl ?_
              refine w_goto C (pc := 76) 2 dX9_wrongPlan_76 (by decide) ?_
              obtain rfl := Option.some.inj h29
              have k9 := ki27 (s25 + 1) rfl
              try dsimp only at k9
              exact k9
            · have h29 := it_f h29 c
              refine w_iconst C (pc := 66) dX9_wrongPlan_66 (v := 1) (by decide) ?_
              refine w_bipush C (pc := 67) dX9_wrongPlan_67 (v := 16) (by decide) ?_
              refine w_iload_n C (pc := 69) dX9_wrongPlan_69 1 rfl ?_
              refine w_imul C (pc := 70) dX9_wrongPlan_70 ?_
              refine w_iadd C (pc := 71) dX9_wrongPlan_71 ?_
              obtain rfl := Option.some.inj h29
              have h51 := (kx28 (Sum.inr (1 + (16 * s25))) rfl).2 (1 + (16 * s25)) rfl
              exact w_retR C (pc := 72) dX9_wrongPlan_72 rfl (Option.some.inj h51)
  · refine ⟨fun yx23 hy => ?_, fun v9 hv => ?_⟩
    · subst hy
      dsimp only [Sum.elim] at h
      refine w_iconst C (pc := 79) dX9_wrongPlan_79 (v := 1) (by decide) ?_
      refine w_istore_n C (pc := 80) dX9_wrongPlan_80 (lv' := [(0, .ref (adr Y 0)), (1, .int 1)]) rfl rfl rfl ?_
      obtain ⟨x57, e58, h⟩ := ob h
      refine itr_W (P := fun s59 => Wp K zX9_wrongPlan Y (Qm K Y (some q) M) M 81 [(0, .ref (adr Y 0)), (1, .int s59)] []) (R := fun x9 => (∀ yx57, x9 = Sum.inl yx57 → Wp K zX9_wrongPlan Y (Qm K Y (some q) M) M 111 [(0, .ref (adr Y 0))] []) ∧ (∀ v9, x9 = Sum.inr v9 → some v9 = some q)) ?_ fuel 1 x57 e58 ?_
      · intro s59 r60 h63 ki61 kx62
        unfold pX9_wrongPlan_L81 at h63
        show Wp K zX9_wrongPlan Y (Qm K Y (some q) M) M 81 [(0, .ref (adr Y 0)), (1, .int s59)] []
        refine w_iload_n C (pc := 81) dX9_wrongPlan_81 1 rfl ?_
        refine w_aload_n C (pc := 82) dX9_wrongPlan_82 0 rfl ?_
        obtain ⟨v64, e65, h63⟩ := ob h63
        refine w_cVi C (pc := 83) dX9_wrongPlan_83 my_X9_customers mi_X9_customers ml_X9_74 (sB_0 hY) rfl rfl rfl [] rfl rfl (Nat.le_of_ble_eq_true rfl) (tX9_customers hY  e65) ?_
        refine w_icgt C (pc := 86) 111 dX9_wrongPlan_86 (by decide) (fun c => ?_) (fun c => ?_)
        · have h63 := it_t h63 c
          obtain rfl := Option.some.inj h63
          refine w_lv [0] rfl ?_
          have k9 := (kx62 (Sum.inl ()) rfl).1 () rfl
          try dsimp only at k9
          exact k9
        · have h63 := it_f h63 c
          refine w_aload_n C (pc := 89) dX9_wrongPlan_89 0 rfl ?_
          refine w_iload_n C (pc := 90) dX9_wrongPlan_90 1 rfl ?_
          obtain ⟨v66, e67, h63⟩ := ob h63
          refine w_cVi C (pc := 91) dX9_wrongPlan_91 my_X9_servedBy mi_X9_servedBy ml_X9_190 (sB_0 hY) rfl rfl rfl [.int s59] rfl rfl (Nat.le_of_ble_eq_true rfl) (tX9_servedBy hY  e67) ?_
          refine w_iconst C (pc := 94) dX9_wrongPlan_94 (v := 1) (by decide) ?_
          refine w_icle C (pc := 95) 105 dX9_wrongPlan_95 (by decide) (fun c => ?_) (fun c => ?_)
          · have h63 := it_t h63 c
            refine w_iinc C (pc := 105) dX9_wrongPlan_105 1 rfl (v := 1) (lv' := [(0, .ref (adr Y 0)), (1, .int (s59 + 1))]) (by decide) rfl rfl rfl ?_
            refine w_goto C (pc := 108) 81 dX9_wrongPlan_108 (by decide) ?_
            obtain rfl := Option.some.inj h63
            have k9 := ki61 (s59 + 1) rfl
            try dsimp only at k9
            exact k9
          · have h63 := it_f h63 c
            refine w_iconst C (pc := 98) dX9_wrongPlan_98 (v := 2) (by decide) ?_
            refine w_bipush C (pc := 99) dX9_wrongPlan_99 (v := 16) (by decide) ?_
            refine w_iload_n C (pc := 101) dX9_wrongPlan_101 1 rfl ?_
            refine w_imul C (pc := 102) dX9_wrongPlan_102 ?_
            refine w_iadd C (pc := 103) dX9_wrongPlan_103 ?_
            obtain rfl := Option.some.inj h63
            have h68 := (kx62 (Sum.inr (2 + (16 * s59))) rfl).2 (2 + (16 * s59)) rfl
            exact w_retR C (pc := 104) dX9_wrongPlan_104 rfl (Option.some.inj h68)
      · refine ⟨fun yx57 hy => ?_, fun v9 hv => ?_⟩
        · subst hy
          dsimp only [Sum.elim] at h
          refine w_iconst C (pc := 111) dX9_wrongPlan_111 (v := 1) (by decide) ?_
          refine w_istore_n C (pc := 112) dX9_wrongPlan_112 (lv' := [(0, .ref (adr Y 0)), (1, .int 1)]) rfl rfl rfl ?_
          obtain ⟨x74, e75, h⟩ := ob h
          refine itr_W (P := fun s76 => Wp K zX9_wrongPlan Y (Qm K Y (some q) M) M 113 [(0, .ref (adr Y 0)), (1, .int s76)] []) (R := fun x9 => (∀ yx74, x9 = Sum.inl yx74 → Wp K zX9_wrongPlan Y (Qm K Y (some q) M) M 142 [(0, .ref (adr Y 0))] []) ∧ (∀ v9, x9 = Sum.inr v9 → some v9 = some q)) ?_ fuel 1 x74 e75 ?_
          · intro s76 r77 h80 ki78 kx79
            unfold pX9_wrongPlan_L113 at h80
            show Wp K zX9_wrongPlan Y (Qm K Y (some q) M) M 113 [(0, .ref (adr Y 0)), (1, .int s76)] []
            refine w_iload_n C (pc := 113) dX9_wrongPlan_113 1 rfl ?_
            refine w_aload_n C (pc := 114) dX9_wrongPlan_114 0 rfl ?_
            obtain ⟨v81, e82, h80⟩ := ob h80
            refine w_cVi C (pc := 115) dX9_wrongPlan_115 my_X9_customers mi_X9_customers ml_X9_74 (sB_0 hY) rfl rfl rfl [] rfl rfl (Nat.le_of_ble_eq_true rfl) (tX9_customers hY  e82) ?_
            refine w_icgt C (pc := 118) 142 dX9_wrongPlan_118 (by decide) (fun c => ?_) (fun c => ?_)
            · have h80 := it_t h80 c
              obtain rfl := Option.some.inj h80
              refine w_lv [0] rfl ?_
              have k9 := (kx79 (Sum.inl ()) rfl).1 () rfl
              try dsimp only at k9
              exact k9
            · have h80 := it_f h80 c
              refine w_aload_n C (pc := 121) dX9_wrongPlan_121 0 rfl ?_
              refine w_iload_n C (pc := 122) dX9_wrongPlan_122 1 rfl ?_
              obtain ⟨v83, e84, h80⟩ := ob h80
              refine w_cVi C (pc := 123) dX9_wrongPlan_123 my_X9_servedBy mi_X9_servedBy ml_X9_190 (sB_0 hY) rfl rfl rfl [.int s76] rfl rfl (Nat.le_of_ble_eq_true rfl) (tX9_servedBy hY  e84) ?_
              refine w_ifne C (pc := 126) 136 dX9_wrongPlan_126 (by decide) (fun c => ?_) (fun c => ?_)
              · have h80 := it_t h80 c
                refine w_iconst C (pc := 129) dX9_wrongPlan_129 (v := 3) (by decide) ?_
                refine w_bipush C (pc := 130) dX9_wrongPlan_130 (v := 16) (by decide) ?_
                refine w_iload_n C (pc := 132) dX9_wrongPlan_132 1 rfl ?_
                refine w_imul C (pc := 133) dX9_wrongPlan_133 ?_
                refine w_iadd C (pc := 134) dX9_wrongPlan_134 ?_
                obtain rfl := Option.some.inj h80
                have h85 := (kx79 (Sum.inr (3 + (16 * s76))) rfl).2 (3 + (16 * s76)) rfl
                exact w_retR C (pc := 135) dX9_wrongPlan_135 rfl (Option.some.inj h85)
              · have h80 := it_f h80 c
                refine w_iinc C (pc := 136) dX9_wrongPlan_136 1 rfl (v := 1) (lv' := [(0, .ref (adr Y 0)), (1, .int (s76 + 1))]) (by decide) rfl rfl rfl ?_
                refine w_goto C (pc := 139) 113 dX9_wrongPlan_139 (by decide) ?_
                obtain rfl := Option.some.inj h80
                have k9 := ki78 (s76 + 1) rfl
                try dsimp only at k9
                exact k9
          · refine ⟨fun yx74 hy => ?_, fun v9 hv => ?_⟩
            · subst hy
              dsimp only [Sum.elim] at h
              refine w_iconst C (pc := 142) dX9_wrongPlan_142 (v := 0) (by decide) ?_
              refine w_istore_n C (pc := 143) dX9_wrongPlan_143 (lv' := [(0, .ref (adr Y 0)), (1, .int 0)]) rfl rfl rfl ?_
              obtain ⟨x93, e94, h⟩ := ob h
              refine itr_W (P := fun s95 => Wp K zX9_wrongPlan Y (Qm K Y (some q) M) M 144 [(0, .ref (adr Y 0)), (1, .int s95)] []) (R := fun x9 => (∀ yx93, x9 = Sum.inl yx93 → Wp K zX9_wrongPlan Y (Qm K Y (some q) M) M 178 [(0, .ref (adr Y 0))] []) ∧ (∀ v9, x9 = Sum.inr v9 → some v9 = some q)) ?_ fuel 0 x93 e94 ?_
              · intro s95 r96 h99 ki97 kx98
                unfold pX9_wrongPlan_L144 at h99
                show Wp K zX9_wrongPlan Y (Qm K Y (some q) M) M 144 [(0, .ref (adr Y 0)), (1, .int s95)] []
                refine w_iload_n C (pc := 144) dX9_wrongPlan_144 1 rfl ?_
                refine w_aload_n C (pc := 145) dX9_wrongPlan_145 0 rfl ?_
                obtain ⟨v100, e101, h99⟩ := ob h99
                refine w_cVi C (pc := 146) dX9_wrongPlan_146 my_X9_sorties mi_X9_sorties ml_X9_118 (sB_0 hY) rfl rfl rfl [] rfl rfl (Nat.le_of_ble_eq_true rfl) (tX9_sorties hY  e101) ?_
                refine w_icge C (pc := 149) 178 dX9_wrongPlan_149 (by decide) (fun c => ?_) (fun c => ?_)
                · have h99 := it_t h99 c
                  obtain rfl := Option.some.inj h99
                  refine w_lv [0] rfl ?_
                  have k9 := (kx98 (Sum.inl ()) rfl).1 () rfl
                  try dsimp only at k9
                  exact k9
                · have h99 := it_f h99 c
                  refine w_aload_n C (pc := 152) dX9_wrongPlan_152 0 rfl ?_
                  refine w_aload_n C (pc := 153) dX9_wrongPlan_153 0 rfl ?_
                  refine w_iload_n C (pc := 154) dX9_wrongPlan_154 1 rfl ?_
                  refine w_iconst C (pc := 155) dX9_wrongPlan_155 (v := 2) (by decide) ?_
                  obtain ⟨v102, e103, h99⟩ := ob h99
                  refine w_cVi C (pc := 156) dX9_wrongPlan_156 my_X9_sortieOf mi_X9_sortieOf ml_X9_137 (sB_0 hY) rfl rfl rfl [.int s95, .int 2] rfl rfl (Nat.le_of_ble_eq_true rfl) (tX9_sortieOf hY  e103) ?_
                  obtain ⟨v104, e105, h99⟩ := ob h99
                  refine w_cVi C (pc := 159) dX9_wrongPlan_159 my_X9_isLight mi_X9_isLight ml_X9_193 (sB_0 hY) rfl rfl rfl [.int v102] rfl rfl (Nat.le_of_ble_eq_true rfl) (tX9_isLight hY  e105) ?_
                  refine w_ifne C (pc := 162) 172 dX9_wrongPlan_162 (by decide) (fun c => ?_) (fun c => ?_)
                  · have h99 := it_t h99 c
                    refine w_iconst C (pc := 165) dX9_wrongPlan_165 (v := 4) (by decide) ?_
                    refine w_bipush C (pc := 166) dX9_wrongPlan_166 (v := 16) (by decide) ?_
                    refine w_iload_n C (pc := 168) dX9_wrongPlan_168 1 rfl ?_
                    refine w_imul C (pc := 169) dX9_wrongPlan_169 ?_
                    refine w_iadd C (pc := 170) dX9_wrongPlan_170 ?_
                    obtain rfl := Option.some.inj h99
                    have h106 := (kx98 (Sum.inr (4 + (16 * s95))) rfl).2 (4 + (16 * s95)) rfl
                    exact w_retR C (pc := 171) dX9_wrongPlan_171 rfl (Option.some.inj h106)
                  · have h99 := it_f h99 c
                    refine w_iinc C (pc := 172) dX9_wrongPlan_172 1 rfl (v := 1) (lv' := [(0, .ref (adr Y 0)), (1, .int (s95 + 1))]) (by decide) rfl rfl rfl ?_
                    refine w_goto C (pc := 175) 144 dX9_wrongPlan_175 (by decide) ?_
                    obtain rfl := Option.some.inj h99
                    have k9 := ki97 (s95 + 1) rfl
                    try dsimp only at k9
                    exact k9
              · refine ⟨fun yx93 hy => ?_, fun v9 hv => ?_⟩
                · subst hy
                  dsimp only [Sum.elim] at h
                  refine w_iconst C (pc := 178) dX9_wrongPlan_178 (v := 0) (by decide) ?_
                  refine w_istore_n C (pc := 179) dX9_wrongPlan_179 (lv' := [(0, .ref (adr Y 0)), (1, .int 0)]) rfl rfl rfl ?_
                  obtain ⟨x112, e113, h⟩ := ob h
                  refine itr_W (P := fun s114 => Wp K zX9_wrongPlan Y (Qm K Y (some q) M) M 180 [(0, .ref (adr Y 0)), (1, .int s114)] []) (R := fun x9 => (∀ yx112, x9 = Sum.inl yx112 → Wp K zX9_wrongPlan Y (Qm K Y (some q) M) M 209 [(0, .ref (adr Y 0))] []) ∧ (∀ v9, x9 = Sum.inr v9 → some v9 = some q)) ?_ fuel 0 x112 e113 ?_
                  · intro s114 r115 h118 ki116 kx117
                    unfold pX9_wrongPlan_L180 at h118
                    show Wp K zX9_wrongPlan Y (Qm K Y (some q) M) M 180 [(0, .ref (adr Y 0)), (1, .int s114)] []
                    refine w_iload_n C (pc := 180) dX9_wrongPlan_180 1 rfl ?_
                    refine w_aload_n C (pc := 181) dX9_wrongPlan_181 0 rfl ?_
                    obtain ⟨v119, e120, h118⟩ := ob h118
                    refine w_cVi C (pc := 182) dX9_wrongPlan_182 my_X9_sorties mi_X9_sorties ml_X9_118 (sB_0 hY) rfl rfl rfl [] rfl rfl (Nat.le_of_ble_eq_true rfl) (tX9_sorties hY  e120) ?_
                    refine w_icge C (pc := 185) 209 dX9_wrongPlan_185 (by decide) (fun c => ?_) (fun c => ?_)
                    · have h118 := it_t h118 c
                      obtain rfl := Option.some.inj h118
                      refine w_lv [0] rfl ?_
                      have k9 := (kx117 (Sum.inl ()) rfl).1 () rfl
                      try dsimp only at k9
                      exact k9
                    · have h118 := it_f h118 c
                      refine w_aload_n C (pc := 188) dX9_wrongPlan_188 0 rfl ?_
                      refine w_iload_n C (pc := 189) dX9_wrongPlan_189 1 rfl ?_
                      obtain ⟨v121, e122, h118⟩ := ob h118
                      refine w_cVi C (pc := 190) dX9_wrongPlan_190 my_X9_crosses mi_X9_crosses ml_X9_196 (sB_0 hY) rfl rfl rfl [.int s114] rfl rfl (Nat.le_of_ble_eq_true rfl) (tX9_crosses hY  e122) ?_
                      refine w_ifeq C (pc := 193) 203 dX9_wrongPlan_193 (by decide) (fun c => ?_) (fun c => ?_)
                      · have h118 := it_t h118 c
                        refine w_iinc C (pc := 203) dX9_wrongPlan_203 1 rfl (v := 1) (lv' := [(0, .ref (adr Y 0)), (1, .int (s114 + 1))]) (by decide) rfl rfl rfl ?_
                        refine w_goto C (pc := 206) 180 dX9_wrongPlan_206 (by decide) ?_
                        obtain rfl := Option.some.inj h118
                        have k9 := ki116 (s114 + 1) rfl
                        try dsimp only at k9
                        exact k9
                      · have h118 := it_f h118 c
                        refine w_iconst C (pc := 196) dX9_wrongPlan_196 (v := 5) (by decide) ?_
                        refine w_bipush C (pc := 197) dX9_wrongPlan_197 (v := 16) (by decide) ?_
                        refine w_iload_n C (pc := 199) dX9_wrongPlan_199 1 rfl ?_
                        refine w_imul C (pc := 200) dX9_wrongPlan_200 ?_
                        refine w_iadd C (pc := 201) dX9_wrongPlan_201 ?_
                        obtain rfl := Option.some.inj h118
                        have h123 := (kx117 (Sum.inr (5 + (16 * s114))) rfl).2 (5 + (16 * s114)) rfl
                        exact w_retR C (pc := 202) dX9_wrongPlan_202 rfl (Option.some.inj h123)
                  · refine ⟨fun yx112 hy => ?_, fun v9 hv => ?_⟩
                    · subst hy
                      dsimp only [Sum.elim] at h
                      refine w_iconst C (pc := 209) dX9_wrongPlan_209 (v := 0) (by decide) ?_
                      exact w_retR C (pc := 210) dX9_wrongPlan_210 rfl (Option.some.inj h)
                    · subst hv
                      exact h
                · subst hv
                  exact h
            · subst hv
              exact h
        · subst hv
          exact h
    · subst hv
      exact h
theorem dX9_happens_0 : decode cX9_happens 0 = .ok (.iconst 4, 1) := by decide +kernel
theorem dX9_happens_1 : decode cX9_happens 1 = .ok (.aload_n 0, 1) := by decide +kernel
theorem dX9_happens_2 : decode cX9_happens 2 = .ok (.getfield 199, 3) := by decide +kernel
theorem dX9_happens_5 : decode cX9_happens 5 = .ok (.imul, 1) := by decide +kernel
theorem dX9_happens_6 : decode cX9_happens 6 = .ok (.istore 5, 2) := by decide +kernel
theorem dX9_happens_8 : decode cX9_happens 8 = .ok (.aload_n 0, 1) := by decide +kernel
theorem dX9_happens_9 : decode cX9_happens 9 = .ok (.getfield 45, 3) := by decide +kernel
theorem dX9_happens_12 : decode cX9_happens 12 = .ok (.iload 5, 2) := by decide +kernel
theorem dX9_happens_14 : decode cX9_happens 14 = .ok (.iload_n 1, 1) := by decide +kernel
theorem dX9_happens_15 : decode cX9_happens 15 = .ok (.iastore, 1) := by decide +kernel
theorem dX9_happens_16 : decode cX9_happens 16 = .ok (.aload_n 0, 1) := by decide +kernel
theorem dX9_happens_17 : decode cX9_happens 17 = .ok (.getfield 45, 3) := by decide +kernel
theorem dX9_happens_20 : decode cX9_happens 20 = .ok (.iload 5, 2) := by decide +kernel
theorem dX9_happens_22 : decode cX9_happens 22 = .ok (.iconst 1, 1) := by decide +kernel
theorem dX9_happens_23 : decode cX9_happens 23 = .ok (.iadd, 1) := by decide +kernel
theorem dX9_happens_24 : decode cX9_happens 24 = .ok (.iload_n 2, 1) := by decide +kernel
theorem dX9_happens_25 : decode cX9_happens 25 = .ok (.iastore, 1) := by decide +kernel
theorem dX9_happens_26 : decode cX9_happens 26 = .ok (.aload_n 0, 1) := by decide +kernel
theorem dX9_happens_27 : decode cX9_happens 27 = .ok (.getfield 45, 3) := by decide +kernel
theorem dX9_happens_30 : decode cX9_happens 30 = .ok (.iload 5, 2) := by decide +kernel
theorem dX9_happens_32 : decode cX9_happens 32 = .ok (.iconst 2, 1) := by decide +kernel
theorem dX9_happens_33 : decode cX9_happens 33 = .ok (.iadd, 1) := by decide +kernel
theorem dX9_happens_34 : decode cX9_happens 34 = .ok (.iload_n 3, 1) := by decide +kernel
theorem dX9_happens_35 : decode cX9_happens 35 = .ok (.iastore, 1) := by decide +kernel
theorem dX9_happens_36 : decode cX9_happens 36 = .ok (.aload_n 0, 1) := by decide +kernel
theorem dX9_happens_37 : decode cX9_happens 37 = .ok (.getfield 45, 3) := by decide +kernel
theorem dX9_happens_40 : decode cX9_happens 40 = .ok (.iload 5, 2) := by decide +kernel
theorem dX9_happens_42 : decode cX9_happens 42 = .ok (.iconst 3, 1) := by decide +kernel
theorem dX9_happens_43 : decode cX9_happens 43 = .ok (.iadd, 1) := by decide +kernel
theorem dX9_happens_44 : decode cX9_happens 44 = .ok (.iload 4, 2) := by decide +kernel
theorem dX9_happens_46 : decode cX9_happens 46 = .ok (.iastore, 1) := by decide +kernel
theorem dX9_happens_47 : decode cX9_happens 47 = .ok (.aload_n 0, 1) := by decide +kernel
theorem dX9_happens_48 : decode cX9_happens 48 = .ok (.dup, 1) := by decide +kernel
theorem dX9_happens_49 : decode cX9_happens 49 = .ok (.getfield 199, 3) := by decide +kernel
theorem dX9_happens_52 : decode cX9_happens 52 = .ok (.iconst 1, 1) := by decide +kernel
theorem dX9_happens_53 : decode cX9_happens 53 = .ok (.iadd, 1) := by decide +kernel
theorem dX9_happens_54 : decode cX9_happens 54 = .ok (.putfield 199, 3) := by decide +kernel
theorem dX9_happens_57 : decode cX9_happens 57 = .ok (.return_, 1) := by decide +kernel
def pX9_happens (x1 : Int32) (x2 : Int32) (x3 : Int32) (x4 : Int32) (M : Mm) : Option (Mm) :=
bnd (4 * (M 0 18)) fun v1 =>
(ast M 12 200 v1 x1).bind fun M2 =>
(ast M2 12 200 (v1 + 1) x2).bind fun M4 =>
(ast M4 12 200 (v1 + 2) x3).bind fun M6 =>
(ast M6 12 200 (v1 + 3) x4).bind fun M8 =>
bnd (mset M8 0 18 ((M8 0 18) + 1)) fun M10 =>
some M10
abbrev zX9_happens : Zx := (cX9_happens, RX9, 6, 0, none)
set_option maxRecDepth 100000 in
set_option maxHeartbeats 4000000 in
theorem tX9_happens {l : Launch} {Y : Sx} {M : Mm} {x1 : Int32} {x2 : Int32} {x3 : Int32} {x4 : Int32} {q : Mm} (hY : isB Y) (h : pX9_happens x1 x2 x3 x4 M = some q) : Ct l Y yX9_happens cX9_happens 6 none 0 [.ref (adr Y 0), .int x1, .int x2, .int x3, .int x4] M none q := by
  refine Ct.of (by decide) rfl (lv := [(0, .ref (adr Y 0)), (1, .int x1), (2, .int x2), (3, .int x3), (4, .int x4)]) rfl ?_
  intro K hkl C
  change Cx K zX9_happens Y at C
  subst hkl
  unfold pX9_happens at h
  show Wp K zX9_happens Y (Qm K Y none q) M 0 [(0, .ref (adr Y 0)), (1, .int x1), (2, .int x2), (3, .int x3), (4, .int x4)] []
  refine w_iconst C (pc := 0) dX9_happens_0 (v := 4) (by decide) ?_
  refine w_aload_n C (pc := 1) dX9_happens_1 0 rfl ?_
  refine w_getI C (pc := 2) dX9_happens_2 f_X9_199 (sB_0 hY) rfl ?_
  refine w_imul C (pc := 5) dX9_happens_5 ?_
  refine w_bnd h (fun v1 h => ?_)
  refine w_istore C (pc := 6) dX9_happens_6 (lv' := [(0, .ref (adr Y 0)), (1, .int x1), (2, .int x2), (3, .int x3), (4, .int x4), (5, .int v1)]) rfl rfl rfl ?_
  refine w_aload_n C (pc := 8) dX9_happens_8 0 rfl ?_
  refine w_getR C (pc := 9) dX9_happens_9 f_X9_45 (sB_0 hY) rfl ?_
  refine w_iload C (pc := 12) dX9_happens_12 5 rfl ?_
  refine w_iload_n C (pc := 14) dX9_happens_14 1 rfl ?_
  obtain ⟨M2, e3, h⟩ := ob h
  refine w_iast C (pc := 15) dX9_happens_15 (sB_12 hY) e3 ?_
  refine w_aload_n C (pc := 16) dX9_happens_16 0 rfl ?_
  refine w_getR C (pc := 17) dX9_happens_17 f_X9_45 (sB_0 hY) rfl ?_
  refine w_iload C (pc := 20) dX9_happens_20 5 rfl ?_
  refine w_iconst C (pc := 22) dX9_happens_22 (v := 1) (by decide) ?_
  refine w_iadd C (pc := 23) dX9_happens_23 ?_
  refine w_iload_n C (pc := 24) dX9_happens_24 2 rfl ?_
  obtain ⟨M4, e5, h⟩ := ob h
  refine w_iast C (pc := 25) dX9_happens_25 (sB_12 hY) e5 ?_
  refine w_aload_n C (pc := 26) dX9_happens_26 0 rfl ?_
  refine w_getR C (pc := 27) dX9_happens_27 f_X9_45 (sB_0 hY) rfl ?_
  refine w_iload C (pc := 30) dX9_happens_30 5 rfl ?_
  refine w_iconst C (pc := 32) dX9_happens_32 (v := 2) (by decide) ?_
  refine w_iadd C (pc := 33) dX9_happens_33 ?_
  refine w_iload_n C (pc := 34) dX9_happens_34 3 rfl ?_
  obtain ⟨M6, e7, h⟩ := ob h
  refine w_iast C (pc := 35) dX9_happens_35 (sB_12 hY) e7 ?_
  refine w_aload_n C (pc := 36) dX9_happens_36 0 rfl ?_
  refine w_getR C (pc := 37) dX9_happens_37 f_X9_45 (sB_0 hY) rfl ?_
  refine w_iload C (pc := 40) dX9_happens_40 5 rfl ?_
  refine w_iconst C (pc := 42) dX9_happens_42 (v := 3) (by decide) ?_
  refine w_iadd C (pc := 43) dX9_happens_43 ?_
  refine w_iload C (pc := 44) dX9_happens_44 4 rfl ?_
  obtain ⟨M8, e9, h⟩ := ob h
  refine w_iast C (pc := 46) dX9_happens_46 (sB_12 hY) e9 ?_
  refine w_aload_n C (pc := 47) dX9_happens_47 0 rfl ?_
  refine w_dup C (pc := 48) dX9_happens_48 rfl ?_
  refine w_getI C (pc := 49) dX9_happens_49 f_X9_199 (sB_0 hY) rfl ?_
  refine w_iconst C (pc := 52) dX9_happens_52 (v := 1) (by decide) ?_
  refine w_iadd C (pc := 53) dX9_happens_53 ?_
  obtain ⟨M10, e11, h⟩ := bn h
  refine w_putI C (pc := 54) dX9_happens_54 fp_X9_199 (sB_0 hY) rfl ?_
  rw [e11]
  exact w_retV C (pc := 57) dX9_happens_57 rfl (Option.some.inj h)
theorem dX9_nextCaught_0 : decode cX9_nextCaught 0 = .ok (.iconst (-1), 1) := by decide +kernel
theorem dX9_nextCaught_1 : decode cX9_nextCaught 1 = .ok (.istore_n 2, 1) := by decide +kernel
theorem dX9_nextCaught_2 : decode cX9_nextCaught 2 = .ok (.iconst 0, 1) := by decide +kernel
theorem dX9_nextCaught_3 : decode cX9_nextCaught 3 = .ok (.istore_n 3, 1) := by decide +kernel
theorem dX9_nextCaught_4 : decode cX9_nextCaught 4 = .ok (.iload_n 3, 1) := by decide +kernel
theorem dX9_nextCaught_5 : decode cX9_nextCaught 5 = .ok (.aload_n 0, 1) := by decide +kernel
theorem dX9_nextCaught_6 : decode cX9_nextCaught 6 = .ok (.invokevirtual 118, 3) := by decide +kernel
theorem dX9_nextCaught_9 : decode cX9_nextCaught 9 = .ok (.if_icmp .ge 99, 3) := by decide +kernel
theorem dX9_nextCaught_12 : decode cX9_nextCaught 12 = .ok (.aload_n 0, 1) := by decide +kernel
theorem dX9_nextCaught_13 : decode cX9_nextCaught 13 = .ok (.iload_n 3, 1) := by decide +kernel
theorem dX9_nextCaught_14 : decode cX9_nextCaught 14 = .ok (.iconst 3, 1) := by decide +kernel
theorem dX9_nextCaught_15 : decode cX9_nextCaught 15 = .ok (.invokevirtual 137, 3) := by decide +kernel
theorem dX9_nextCaught_18 : decode cX9_nextCaught 18 = .ok (.iload_n 1, 1) := by decide +kernel
theorem dX9_nextCaught_19 : decode cX9_nextCaught 19 = .ok (.if_icmp .ne 83, 3) := by decide +kernel
theorem dX9_nextCaught_22 : decode cX9_nextCaught 22 = .ok (.aload_n 0, 1) := by decide +kernel
theorem dX9_nextCaught_23 : decode cX9_nextCaught 23 = .ok (.getfield 41, 3) := by decide +kernel
theorem dX9_nextCaught_26 : decode cX9_nextCaught 26 = .ok (.iload_n 3, 1) := by decide +kernel
theorem dX9_nextCaught_27 : decode cX9_nextCaught 27 = .ok (.baload, 1) := by decide +kernel
theorem dX9_nextCaught_28 : decode cX9_nextCaught 28 = .ok (.ifCond .eq 6, 3) := by decide +kernel
theorem dX9_nextCaught_31 : decode cX9_nextCaught 31 = .ok (.goto 71, 3) := by decide +kernel
theorem dX9_nextCaught_34 : decode cX9_nextCaught 34 = .ok (.iload_n 2, 1) := by decide +kernel
theorem dX9_nextCaught_35 : decode cX9_nextCaught 35 = .ok (.iconst (-1), 1) := by decide +kernel
theorem dX9_nextCaught_36 : decode cX9_nextCaught 36 = .ok (.if_icmp .eq 48, 3) := by decide +kernel
theorem dX9_nextCaught_39 : decode cX9_nextCaught 39 = .ok (.aload_n 0, 1) := by decide +kernel
theorem dX9_nextCaught_40 : decode cX9_nextCaught 40 = .ok (.getfield 35, 3) := by decide +kernel
theorem dX9_nextCaught_43 : decode cX9_nextCaught 43 = .ok (.iload_n 3, 1) := by decide +kernel
theorem dX9_nextCaught_44 : decode cX9_nextCaught 44 = .ok (.iaload, 1) := by decide +kernel
theorem dX9_nextCaught_45 : decode cX9_nextCaught 45 = .ok (.aload_n 0, 1) := by decide +kernel
theorem dX9_nextCaught_46 : decode cX9_nextCaught 46 = .ok (.getfield 35, 3) := by decide +kernel
theorem dX9_nextCaught_49 : decode cX9_nextCaught 49 = .ok (.iload_n 2, 1) := by decide +kernel
theorem dX9_nextCaught_50 : decode cX9_nextCaught 50 = .ok (.iaload, 1) := by decide +kernel
theorem dX9_nextCaught_51 : decode cX9_nextCaught 51 = .ok (.if_icmp .lt 33, 3) := by decide +kernel
theorem dX9_nextCaught_54 : decode cX9_nextCaught 54 = .ok (.aload_n 0, 1) := by decide +kernel
theorem dX9_nextCaught_55 : decode cX9_nextCaught 55 = .ok (.getfield 35, 3) := by decide +kernel
theorem dX9_nextCaught_58 : decode cX9_nextCaught 58 = .ok (.iload_n 3, 1) := by decide +kernel
theorem dX9_nextCaught_59 : decode cX9_nextCaught 59 = .ok (.iaload, 1) := by decide +kernel
theorem dX9_nextCaught_60 : decode cX9_nextCaught 60 = .ok (.aload_n 0, 1) := by decide +kernel
theorem dX9_nextCaught_61 : decode cX9_nextCaught 61 = .ok (.getfield 35, 3) := by decide +kernel
theorem dX9_nextCaught_64 : decode cX9_nextCaught 64 = .ok (.iload_n 2, 1) := by decide +kernel
theorem dX9_nextCaught_65 : decode cX9_nextCaught 65 = .ok (.iaload, 1) := by decide +kernel
theorem dX9_nextCaught_66 : decode cX9_nextCaught 66 = .ok (.if_icmp .ne 22, 3) := by decide +kernel
theorem dX9_nextCaught_69 : decode cX9_nextCaught 69 = .ok (.aload_n 0, 1) := by decide +kernel
theorem dX9_nextCaught_70 : decode cX9_nextCaught 70 = .ok (.iload_n 3, 1) := by decide +kernel
theorem dX9_nextCaught_71 : decode cX9_nextCaught 71 = .ok (.iconst 0, 1) := by decide +kernel
theorem dX9_nextCaught_72 : decode cX9_nextCaught 72 = .ok (.invokevirtual 137, 3) := by decide +kernel
theorem dX9_nextCaught_75 : decode cX9_nextCaught 75 = .ok (.aload_n 0, 1) := by decide +kernel
theorem dX9_nextCaught_76 : decode cX9_nextCaught 76 = .ok (.iload_n 2, 1) := by decide +kernel
theorem dX9_nextCaught_77 : decode cX9_nextCaught 77 = .ok (.iconst 0, 1) := by decide +kernel
theorem dX9_nextCaught_78 : decode cX9_nextCaught 78 = .ok (.invokevirtual 137, 3) := by decide +kernel
theorem dX9_nextCaught_81 : decode cX9_nextCaught 81 = .ok (.if_icmp .ge 7, 3) := by decide +kernel
theorem dX9_nextCaught_84 : decode cX9_nextCaught 84 = .ok (.iconst 1, 1) := by decide +kernel
theorem dX9_nextCaught_85 : decode cX9_nextCaught 85 = .ok (.goto 4, 3) := by decide +kernel
theorem dX9_nextCaught_88 : decode cX9_nextCaught 88 = .ok (.iconst 0, 1) := by decide +kernel
theorem dX9_nextCaught_89 : decode cX9_nextCaught 89 = .ok (.istore 4, 2) := by decide +kernel
theorem dX9_nextCaught_91 : decode cX9_nextCaught 91 = .ok (.iload 4, 2) := by decide +kernel
theorem dX9_nextCaught_93 : decode cX9_nextCaught 93 = .ok (.ifCond .eq 7, 3) := by decide +kernel
theorem dX9_nextCaught_96 : decode cX9_nextCaught 96 = .ok (.iload_n 3, 1) := by decide +kernel
theorem dX9_nextCaught_97 : decode cX9_nextCaught 97 = .ok (.goto 4, 3) := by decide +kernel
theorem dX9_nextCaught_100 : decode cX9_nextCaught 100 = .ok (.iload_n 2, 1) := by decide +kernel
theorem dX9_nextCaught_101 : decode cX9_nextCaught 101 = .ok (.istore_n 2, 1) := by decide +kernel
theorem dX9_nextCaught_102 : decode cX9_nextCaught 102 = .ok (.iinc 3 1, 3) := by decide +kernel
theorem dX9_nextCaught_105 : decode cX9_nextCaught 105 = .ok (.goto (-101), 3) := by decide +kernel
theorem dX9_nextCaught_108 : decode cX9_nextCaught 108 = .ok (.iload_n 2, 1) := by decide +kernel
theorem dX9_nextCaught_109 : decode cX9_nextCaught 109 = .ok (.ireturn, 1) := by decide +kernel
def pX9_nextCaught_L4 (x1 : Int32) (M : Mm) (s : Int32 × Int32) : Option ((Int32 × Int32) ⊕ (Int32)) :=
(pX9_sorties M).bind fun v1 =>
if v1 ≤ s.2 then
(some (Sum.inr s.1))
else
((pX9_sortieOf s.2 3 M).bind fun v3 =>
if v3 = x1 then
((ald M 11 8 s.2).bind fun v5 =>
if v5 = 0 then
(if s.1 = (-1) then
(bnd (s.2) fun v7 =>
some (Sum.inl (v7, s.2 + 1)))
else
((ald M 9 8 s.2).bind fun v8 =>
(ald M 9 8 s.1).bind fun v10 =>
if v8 < v10 then
(bnd (s.2) fun v12 =>
some (Sum.inl (v12, s.2 + 1)))
else
((ald M 9 8 s.2).bind fun v13 =>
(ald M 9 8 s.1).bind fun v15 =>
if v13 = v15 then
((pX9_sortieOf s.2 0 M).bind fun v17 =>
(pX9_sortieOf s.1 0 M).bind fun v19 =>
if v19 ≤ v17 then
(bnd (s.1) fun v21 =>
some (Sum.inl (v21, s.2 + 1)))
else
(bnd (s.2) fun v22 =>
some (Sum.inl (v22, s.2 + 1))))
else
(bnd (s.1) fun v23 =>
some (Sum.inl (v23, s.2 + 1))))))
else
(some (Sum.inl (s.1, s.2 + 1))))
else
(some (Sum.inl (s.1, s.2 + 1))))
def pX9_nextCaught (x1 : Int32) (M : Mm) : Option (Int32) :=
(itr (pX9_nextCaught_L4 x1 M) fuel ((-1), 0)).bind fun x24 =>
some x24
abbrev zX9_nextCaught : Zx := (cX9_nextCaught, RX9, 5, 1, (some .int))
set_option maxRecDepth 100000 in
set_option maxHeartbeats 4000000 in
theorem tX9_nextCaught {l : Launch} {Y : Sx} {M : Mm} {x1 : Int32} {q : Int32} (hY : isB Y) (h : pX9_nextCaught x1 M = some q) : Ct l Y yX9_nextCaught cX9_nextCaught 5 (some .int) 1 [.ref (adr Y 0), .int x1] M (some q) M := by
  refine Ct.of (by decide) rfl (lv := [(0, .ref (adr Y 0)), (1, .int x1)]) rfl ?_
  intro K hkl C
  change Cx K zX9_nextCaught Y at C
  subst hkl
  unfold pX9_nextCaught at h
  show Wp K zX9_nextCaught Y (Qm K Y (some q) M) M 0 [(0, .ref (adr Y 0)), (1, .int x1)] []
  refine w_iconst C (pc := 0) dX9_nextCaught_0 (v := (-1)) (by decide) ?_
  refine w_istore_n C (pc := 1) dX9_nextCaught_1 (lv' := [(0, .ref (adr Y 0)), (1, .int x1), (2, .int (-1))]) rfl rfl rfl ?_
  refine w_iconst C (pc := 2) dX9_nextCaught_2 (v := 0) (by decide) ?_
  refine w_istore_n C (pc := 3) dX9_nextCaught_3 (lv' := [(0, .ref (adr Y 0)), (1, .int x1), (2, .int (-1)), (3, .int 0)]) rfl rfl rfl ?_
  obtain ⟨x24, e25, h⟩ := ob h
  refine itr_W (P := fun s26 => Wp K zX9_nextCaught Y (Qm K Y (some q) M) M 4 [(0, .ref (adr Y 0)), (1, .int x1), (2, .int s26.1), (3, .int s26.2)] []) (R := fun x24 => Wp K zX9_nextCaught Y (Qm K Y (some q) M) M 108 [(0, .ref (adr Y 0)), (1, .int x1), (2, .int x24)] []) ?_ fuel ((-1), 0) x24 e25 ?_
  · intro s26 r27 h30 ki28 kx29
    unfold pX9_nextCaught_L4 at h30
    show Wp K zX9_nextCaught Y (Qm K Y (some q) M) M 4 [(0, .ref (adr Y 0)), (1, .int x1), (2, .int s26.1), (3, .int s26.2)] []
    refine w_iload_n C (pc := 4) dX9_nextCaught_4 3 rfl ?_
    refine w_aload_n C (pc := 5) dX9_nextCaught_5 0 rfl ?_
    obtain ⟨v31, e32, h30⟩ := ob h30
    refine w_cVi C (pc := 6) dX9_nextCaught_6 my_X9_sorties mi_X9_sorties ml_X9_118 (sB_0 hY) rfl rfl rfl [] rfl rfl (Nat.le_of_ble_eq_true rfl) (tX9_sorties hY  e32) ?_
    refine w_icge C (pc := 9) 108 dX9_nextCaught_9 (by decide) (fun c => ?_) (fun c => ?_)
    · have h30 := it_t h30 c
      obtain rfl := Option.some.inj h30
      refine w_lv [0, 1, 2] rfl ?_
      have k9 := kx29 s26.1 rfl
      try dsimp only at k9
      exact k9
    · have h30 := it_f h30 c
      refine w_aload_n C (pc := 12) dX9_nextCaught_12 0 rfl ?_
      refine w_iload_n C (pc := 13) dX9_nextCaught_13 3 rfl ?_
      refine w_iconst C (pc := 14) dX9_nextCaught_14 (v := 3) (by decide) ?_
      obtain ⟨v33, e34, h30⟩ := ob h30
      refine w_cVi C (pc := 15) dX9_nextCaught_15 my_X9_sortieOf mi_X9_sortieOf ml_X9_137 (sB_0 hY) rfl rfl rfl [.int s26.2, .int 3] rfl rfl (Nat.le_of_ble_eq_true rfl) (tX9_sortieOf hY  e34) ?_
      refine w_iload_n C (pc := 18) dX9_nextCaught_18 1 rfl ?_
      refine w_icne C (pc := 19) 102 dX9_nextCaught_19 (by decide) (fun c => ?_) (fun c => ?_)
      · have h30 := it_t h30 c
        refine w_aload_n C (pc := 22) dX9_nextCaught_22 0 rfl ?_
        refine w_getR C (pc := 23) dX9_nextCaught_23 f_X9_41 (sB_0 hY) rfl ?_
        refine w_iload_n C (pc := 26) dX9_nextCaught_26 3 rfl ?_
        obtain ⟨v35, e36, h30⟩ := ob h30
        refine w_zald C (pc := 27) dX9_nextCaught_27 (sB_11 hY) e36 ?_
        refine w_ifeq C (pc := 28) 34 dX9_nextCaught_28 (by decide) (fun c => ?_) (fun c => ?_)
        · have h30 := it_t h30 c
          refine w_iload_n C (pc := 34) dX9_nextCaught_34 2 rfl ?_
          refine w_iconst C (pc := 35) dX9_nextCaught_35 (v := (-1)) (by decide) ?_
          refine w_iceq C (pc := 36) 84 dX9_nextCaught_36 (by decide) (fun c => ?_) (fun c => ?_)
          · have h30 := it_t h30 c
            refine w_iconst C (pc := 84) dX9_nextCaught_84 (v := 1) (by decide) ?_
            refine w_goto C (pc := 85) 89 dX9_nextCaught_85 (by decide) ?_
            refine w_istore C (pc := 89) dX9_nextCaught_89 (lv' := [(0, .ref (adr Y 0)), (1, .int x1), (2, .int s26.1), (3, .int s26.2), (4, .int 1)]) rfl rfl rfl ?_
            refine w_iload C (pc := 91) dX9_nextCaught_91 4 rfl ?_
            refine w_ifeq C (pc := 93) 100 dX9_nextCaught_93 (by decide) (fun c => ?_) (fun c => ?_)
            · exact absurd c (by decide)
            · skip
              refine w_iload_n C (pc := 96) dX9_nextCaught_96 3 rfl ?_
              refine w_goto C (pc := 97) 101 dX9_nextCaught_97 (by decide) ?_
              refine w_bnd h30 (fun v37 h30 => ?_)
              refine w_istore_n C (pc := 101) dX9_nextCaught_101 (lv' := [(0, .ref (adr Y 0)), (1, .int x1), (2, .int v37), (3, .int s26.2), (4, .int 1)]) rfl rfl rfl ?_
              refine w_iinc C (pc := 102) dX9_nextCaught_102 3 rfl (v := 1) (lv' := [(0, .ref (adr Y 0)), (1, .int x1), (2, .int v37), (3, .int (s26.2 + 1)), (4, .int 1)]) (by decide) rfl rfl rfl ?_
              refine w_goto C (pc := 105) 4 dX9_nextCaught_105 (by decide) ?_
              obtain rfl := Option.some.inj h30
              refine w_lv [0, 1, 2, 3] rfl ?_
              have k9 := ki28 (v37, s26.2 + 1) rfl
              try dsimp only at k9
              exact k9
          · have h30 := it_f h30 c
            refine w_aload_n C (pc := 39) dX9_nextCaught_39 0 rfl ?_
            refine w_getR C (pc := 40) dX9_nextCaught_40 f_X9_35 (sB_0 hY) rfl ?_
            refine w_iload_n C (pc := 43) dX9_nextCaught_43 3 rfl ?_
            obtain ⟨v38, e39, h30⟩ := ob h30
            refine w_iald C (pc := 44) dX9_nextCaught_44 (sB_9 hY) e39 ?_
            refine w_aload_n C (pc := 45) dX9_nextCaught_45 0 rfl ?_
            refine w_getR C (pc := 46) dX9_nextCaught_46 f_X9_35 (sB_0 hY) rfl ?_
            refine w_iload_n C (pc := 49) dX9_nextCaught_49 2 rfl ?_
            obtain ⟨v40, e41, h30⟩ := ob h30
            refine w_iald C (pc := 50) dX9_nextCaught_50 (sB_9 hY) e41 ?_
            refine w_iclt C (pc := 51) 84 dX9_nextCaught_51 (by decide) (fun c => ?_) (fun c => ?_)
            · have h30 := it_t h30 c
              refine w_iconst C (pc := 84) dX9_nextCaught_84 (v := 1) (by decide) ?_
              refine w_goto C (pc := 85) 89 dX9_nextCaught_85 (by decide) ?_
              refine w_istore C (pc := 89) dX9_nextCaught_89 (lv' := [(0, .ref (adr Y 0)), (1, .int x1), (2, .int s26.1), (3, .int s26.2), (4, .int 1)]) rfl rfl rfl ?_
              refine w_iload C (pc := 91) dX9_nextCaught_91 4 rfl ?_
              refine w_ifeq C (pc := 93) 100 dX9_nextCaught_93 (by decide) (fun c => ?_) (fun c => ?_)
              · exact absurd c (by decide)
              · skip
                refine w_iload_n C (pc := 96) dX9_nextCaught_96 3 rfl ?_
                refine w_goto C (pc := 97) 101 dX9_nextCaught_97 (by decide) ?_
                refine w_bnd h30 (fun v42 h30 => ?_)
                refine w_istore_n C (pc := 101) dX9_nextCaught_101 (lv' := [(0, .ref (adr Y 0)), (1, .int x1), (2, .int v42), (3, .int s26.2), (4, .int 1)]) rfl rfl rfl ?_
                refine w_iinc C (pc := 102) dX9_nextCaught_102 3 rfl (v := 1) (lv' := [(0, .ref (adr Y 0)), (1, .int x1), (2, .int v42), (3, .int (s26.2 + 1)), (4, .int 1)]) (by decide) rfl rfl rfl ?_
                refine w_goto C (pc := 105) 4 dX9_nextCaught_105 (by decide) ?_
                obtain rfl := Option.some.inj h30
                refine w_lv [0, 1, 2, 3] rfl ?_
                have k9 := ki28 (v42, s26.2 + 1) rfl
                try dsimp only at k9
                exact k9
            · have h30 := it_f h30 c
              refine w_aload_n C (pc := 54) dX9_nextCaught_54 0 rfl ?_
              refine w_getR C (pc := 55) dX9_nextCaught_55 f_X9_35 (sB_0 hY) rfl ?_
              refine w_iload_n C (pc := 58) dX9_nextCaught_58 3 rfl ?_
              obtain ⟨v43, e44, h30⟩ := ob h30
              refine w_iald C (pc := 59) dX9_nextCaught_59 (sB_9 hY) e44 ?_
              refine w_aload_n C (pc := 60) dX9_nextCaught_60 0 rfl ?_
              refine w_getR C (pc := 61) dX9_nextCaught_61 f_X9_35 (sB_0 hY) rfl ?_
              refine w_iload_n C (pc := 64) dX9_nextCaught_64 2 rfl ?_
              obtain ⟨v45, e46, h30⟩ := ob h30
              refine w_iald C (pc := 65) dX9_nextCaught_65 (sB_9 hY) e46 ?_
              refine w_icne C (pc := 66) 88 dX9_nextCaught_66 (by decide) (fun c => ?_) (fun c => ?_)
              · have h30 := it_t h30 c
                refine w_aload_n C (pc := 69) dX9_nextCaught_69 0 rfl ?_
                refine w_iload_n C (pc := 70) dX9_nextCaught_70 3 rfl ?_
                refine w_iconst C (pc := 71) dX9_nextCaught_71 (v := 0) (by decide) ?_
                obtain ⟨v47, e48, h30⟩ := ob h30
                refine w_cVi C (pc := 72) dX9_nextCaught_72 my_X9_sortieOf mi_X9_sortieOf ml_X9_137 (sB_0 hY) rfl rfl rfl [.int s26.2, .int 0] rfl rfl (Nat.le_of_ble_eq_true rfl) (tX9_sortieOf hY  e48) ?_
                refine w_aload_n C (pc := 75) dX9_nextCaught_75 0 rfl ?_
                refine w_iload_n C (pc := 76) dX9_nextCaught_76 2 rfl ?_
                refine w_iconst C (pc := 77) dX9_nextCaught_77 (v := 0) (by decide) ?_
                obtain ⟨v49, e50, h30⟩ := ob h30
                refine w_cVi C (pc := 78) dX9_nextCaught_78 my_X9_sortieOf mi_X9_sortieOf ml_X9_137 (sB_0 hY) rfl rfl rfl [.int s26.1, .int 0] rfl rfl (Nat.le_of_ble_eq_true rfl) (tX9_sortieOf hY  e50) ?_
                refine w_icge C (pc := 81) 88 dX9_nextCaught_81 (by decide) (fun c => ?_) (fun c => ?_)
                · have h30 := it_t h30 c
                  refine w_iconst C (pc := 88) dX9_nextCaught_88 (v := 0) (by decide) ?_
                  refine w_istore C (pc := 89) dX9_nextCaught_89 (lv' := [(0, .ref (adr Y 0)), (1, .int x1), (2, .int s26.1), (3, .int s26.2), (4, .int 0)]) rfl rfl rfl ?_
                  refine w_iload C (pc := 91) dX9_nextCaught_91 4 rfl ?_
                  refine w_ifeq C (pc := 93) 100 dX9_nextCaught_93 (by decide) (fun c => ?_) (fun c => ?_)
                  · skip
                    refine w_iload_n C (pc := 100) dX9_nextCaught_100 2 rfl ?_
                    refine w_bnd h30 (fun v51 h30 => ?_)
                    refine w_istore_n C (pc := 101) dX9_nextCaught_101 (lv' := [(0, .ref (adr Y 0)), (1, .int x1), (2, .int v51), (3, .int s26.2), (4, .int 0)]) rfl rfl rfl ?_
                    refine w_iinc C (pc := 102) dX9_nextCaught_102 3 rfl (v := 1) (lv' := [(0, .ref (adr Y 0)), (1, .int x1), (2, .int v51), (3, .int (s26.2 + 1)), (4, .int 0)]) (by decide) rfl rfl rfl ?_
                    refine w_goto C (pc := 105) 4 dX9_nextCaught_105 (by decide) ?_
                    obtain rfl := Option.some.inj h30
                    refine w_lv [0, 1, 2, 3] rfl ?_
                    have k9 := ki28 (v51, s26.2 + 1) rfl
                    try dsimp only at k9
                    exact k9
                  · exact absurd (by decide) c
                · have h30 := it_f h30 c
                  refine w_iconst C (pc := 84) dX9_nextCaught_84 (v := 1) (by decide) ?_
                  refine w_goto C (pc := 85) 89 dX9_nextCaught_85 (by decide) ?_
                  refine w_istore C (pc := 89) dX9_nextCaught_89 (lv' := [(0, .ref (adr Y 0)), (1, .int x1), (2, .int s26.1), (3, .int s26.2), (4, .int 1)]) rfl rfl rfl ?_
                  refine w_iload C (pc := 91) dX9_nextCaught_91 4 rfl ?_
                  refine w_ifeq C (pc := 93) 100 dX9_nextCaught_93 (by decide) (fun c => ?_) (fun c => ?_)
                  · exact absurd c (by decide)
                  · skip
                    refine w_iload_n C (pc := 96) dX9_nextCaught_96 3 rfl ?_
                    refine w_goto C (pc := 97) 101 dX9_nextCaught_97 (by decide) ?_
                    refine w_bnd h30 (fun v52 h30 => ?_)
                    refine w_istore_n C (pc := 101) dX9_nextCaught_101 (lv' := [(0, .ref (adr Y 0)), (1, .int x1), (2, .int v52), (3, .int s26.2), (4, .int 1)]) rfl rfl rfl ?_
                    refine w_iinc C (pc := 102) dX9_nextCaught_102 3 rfl (v := 1) (lv' := [(0, .ref (adr Y 0)), (1, .int x1), (2, .int v52), (3, .int (s26.2 + 1)), (4, .int 1)]) (by decide) rfl rfl rfl ?_
                    refine w_goto C (pc := 105) 4 dX9_nextCaught_105 (by decide) ?_
                    obtain rfl := Option.some.inj h30
                    refine w_lv [0, 1, 2, 3] rfl ?_
                    have k9 := ki28 (v52, s26.2 + 1) rfl
                    try dsimp only at k9
                    exact k9
              · have h30 := it_f h30 c
                refine w_iconst C (pc := 88) dX9_nextCaught_88 (v := 0) (by decide) ?_
                refine w_istore C (pc := 89) dX9_nextCaught_89 (lv' := [(0, .ref (adr Y 0)), (1, .int x1), (2, .int s26.1), (3, .int s26.2), (4, .int 0)]) rfl rfl rfl ?_
                refine w_iload C (pc := 91) dX9_nextCaught_91 4 rfl ?_
                refine w_ifeq C (pc := 93) 100 dX9_nextCaught_93 (by decide) (fun c => ?_) (fun c => ?_)
                · skip
                  refine w_iload_n C (pc := 100) dX9_nextCaught_100 2 rfl ?_
                  refine w_bnd h30 (fun v53 h30 => ?_)
                  refine w_istore_n C (pc := 101) dX9_nextCaught_101 (lv' := [(0, .ref (adr Y 0)), (1, .int x1), (2, .int v53), (3, .int s26.2), (4, .int 0)]) rfl rfl rfl ?_
                  refine w_iinc C (pc := 102) dX9_nextCaught_102 3 rfl (v := 1) (lv' := [(0, .ref (adr Y 0)), (1, .int x1), (2, .int v53), (3, .int (s26.2 + 1)), (4, .int 0)]) (by decide) rfl rfl rfl ?_
                  refine w_goto C (pc := 105) 4 dX9_nextCaught_105 (by decide) ?_
                  obtain rfl := Option.some.inj h30
                  refine w_lv [0, 1, 2, 3] rfl ?_
                  have k9 := ki28 (v53, s26.2 + 1) rfl
                  try dsimp only at k9
                  exact k9
                · exact absurd (by decide) c
        · have h30 := it_f h30 c
          refine w_goto C (pc := 31) 102 dX9_nextCaught_31 (by decide) ?_
          refine w_iinc C (pc := 102) dX9_nextCaught_102 3 rfl (v := 1) (lv' := [(0, .ref (adr Y 0)), (1, .int x1), (2, .int s26.1), (3, .int (s26.2 + 1))]) (by decide) rfl rfl rfl ?_
          refine w_goto C (pc := 105) 4 dX9_nextCaught_105 (by decide) ?_
          obtain rfl := Option.some.inj h30
          have k9 := ki28 (s26.1, s26.2 + 1) rfl
          try dsimp only at k9
          exact k9
      · have h30 := it_f h30 c
        refine w_iinc C (pc := 102) dX9_nextCaught_102 3 rfl (v := 1) (lv' := [(0, .ref (adr Y 0)), (1, .int x1), (2, .int s26.1), (3, .int (s26.2 + 1))]) (by decide) rfl rfl rfl ?_
        refine w_goto C (pc := 105) 4 dX9_nextCaught_105 (by decide) ?_
        obtain rfl := Option.some.inj h30
        have k9 := ki28 (s26.1, s26.2 + 1) rfl
        try dsimp only at k9
        exact k9
  · refine w_iload_n C (pc := 108) dX9_nextCaught_108 2 rfl ?_
    exact w_retR C (pc := 109) dX9_nextCaught_109 rfl (Option.some.inj h)
theorem dX9_launches_0 : decode cX9_launches 0 = .ok (.iload_n 2, 1) := by decide +kernel
theorem dX9_launches_1 : decode cX9_launches 1 = .ok (.istore_n 3, 1) := by decide +kernel
theorem dX9_launches_2 : decode cX9_launches 2 = .ok (.iconst 0, 1) := by decide +kernel
theorem dX9_launches_3 : decode cX9_launches 3 = .ok (.istore 4, 2) := by decide +kernel
theorem dX9_launches_5 : decode cX9_launches 5 = .ok (.iload 4, 2) := by decide +kernel
theorem dX9_launches_7 : decode cX9_launches 7 = .ok (.iconst 2, 1) := by decide +kernel
theorem dX9_launches_8 : decode cX9_launches 8 = .ok (.if_icmp .ge 153, 3) := by decide +kernel
theorem dX9_launches_11 : decode cX9_launches 11 = .ok (.iconst 0, 1) := by decide +kernel
theorem dX9_launches_12 : decode cX9_launches 12 = .ok (.istore 5, 2) := by decide +kernel
theorem dX9_launches_14 : decode cX9_launches 14 = .ok (.iload 5, 2) := by decide +kernel
theorem dX9_launches_16 : decode cX9_launches 16 = .ok (.aload_n 0, 1) := by decide +kernel
theorem dX9_launches_17 : decode cX9_launches 17 = .ok (.invokevirtual 118, 3) := by decide +kernel
theorem dX9_launches_20 : decode cX9_launches 20 = .ok (.if_icmp .ge 135, 3) := by decide +kernel
theorem dX9_launches_23 : decode cX9_launches 23 = .ok (.aload_n 0, 1) := by decide +kernel
theorem dX9_launches_24 : decode cX9_launches 24 = .ok (.iload 5, 2) := by decide +kernel
theorem dX9_launches_26 : decode cX9_launches 26 = .ok (.iconst 1, 1) := by decide +kernel
theorem dX9_launches_27 : decode cX9_launches 27 = .ok (.invokevirtual 137, 3) := by decide +kernel
theorem dX9_launches_30 : decode cX9_launches 30 = .ok (.iload_n 1, 1) := by decide +kernel
theorem dX9_launches_31 : decode cX9_launches 31 = .ok (.if_icmp .ne 118, 3) := by decide +kernel
theorem dX9_launches_34 : decode cX9_launches 34 = .ok (.aload_n 0, 1) := by decide +kernel
theorem dX9_launches_35 : decode cX9_launches 35 = .ok (.iload 5, 2) := by decide +kernel
theorem dX9_launches_37 : decode cX9_launches 37 = .ok (.iconst 0, 1) := by decide +kernel
theorem dX9_launches_38 : decode cX9_launches 38 = .ok (.invokevirtual 137, 3) := by decide +kernel
theorem dX9_launches_41 : decode cX9_launches 41 = .ok (.iload 4, 2) := by decide +kernel
theorem dX9_launches_43 : decode cX9_launches 43 = .ok (.if_icmp .eq 6, 3) := by decide +kernel
theorem dX9_launches_46 : decode cX9_launches 46 = .ok (.goto 103, 3) := by decide +kernel
theorem dX9_launches_49 : decode cX9_launches 49 = .ok (.iload_n 3, 1) := by decide +kernel
theorem dX9_launches_50 : decode cX9_launches 50 = .ok (.aload_n 0, 1) := by decide +kernel
theorem dX9_launches_51 : decode cX9_launches 51 = .ok (.bipush 6, 2) := by decide +kernel
theorem dX9_launches_53 : decode cX9_launches 53 = .ok (.invokevirtual 78, 3) := by decide +kernel
theorem dX9_launches_56 : decode cX9_launches 56 = .ok (.iadd, 1) := by decide +kernel
theorem dX9_launches_57 : decode cX9_launches 57 = .ok (.istore_n 3, 1) := by decide +kernel
theorem dX9_launches_58 : decode cX9_launches 58 = .ok (.aload_n 0, 1) := by decide +kernel
theorem dX9_launches_59 : decode cX9_launches 59 = .ok (.iload 5, 2) := by decide +kernel
theorem dX9_launches_61 : decode cX9_launches 61 = .ok (.iconst 2, 1) := by decide +kernel
theorem dX9_launches_62 : decode cX9_launches 62 = .ok (.invokevirtual 137, 3) := by decide +kernel
theorem dX9_launches_65 : decode cX9_launches 65 = .ok (.istore 6, 2) := by decide +kernel
theorem dX9_launches_67 : decode cX9_launches 67 = .ok (.aload_n 0, 1) := by decide +kernel
theorem dX9_launches_68 : decode cX9_launches 68 = .ok (.getfield 32, 3) := by decide +kernel
theorem dX9_launches_71 : decode cX9_launches 71 = .ok (.iload 5, 2) := by decide +kernel
theorem dX9_launches_73 : decode cX9_launches 73 = .ok (.iload_n 3, 1) := by decide +kernel
theorem dX9_launches_74 : decode cX9_launches 74 = .ok (.iastore, 1) := by decide +kernel
theorem dX9_launches_75 : decode cX9_launches 75 = .ok (.aload_n 0, 1) := by decide +kernel
theorem dX9_launches_76 : decode cX9_launches 76 = .ok (.iload_n 3, 1) := by decide +kernel
theorem dX9_launches_77 : decode cX9_launches 77 = .ok (.iconst 3, 1) := by decide +kernel
theorem dX9_launches_78 : decode cX9_launches 78 = .ok (.aload_n 0, 1) := by decide +kernel
theorem dX9_launches_79 : decode cX9_launches 79 = .ok (.iload_n 1, 1) := by decide +kernel
theorem dX9_launches_80 : decode cX9_launches 80 = .ok (.invokevirtual 187, 3) := by decide +kernel
theorem dX9_launches_83 : decode cX9_launches 83 = .ok (.iload 4, 2) := by decide +kernel
theorem dX9_launches_85 : decode cX9_launches 85 = .ok (.invokevirtual 202, 3) := by decide +kernel
theorem dX9_launches_88 : decode cX9_launches 88 = .ok (.iload_n 3, 1) := by decide +kernel
theorem dX9_launches_89 : decode cX9_launches 89 = .ok (.aload_n 0, 1) := by decide +kernel
theorem dX9_launches_90 : decode cX9_launches 90 = .ok (.aload_n 0, 1) := by decide +kernel
theorem dX9_launches_91 : decode cX9_launches 91 = .ok (.iload_n 1, 1) := by decide +kernel
theorem dX9_launches_92 : decode cX9_launches 92 = .ok (.invokevirtual 187, 3) := by decide +kernel
theorem dX9_launches_95 : decode cX9_launches 95 = .ok (.iload 6, 2) := by decide +kernel
theorem dX9_launches_97 : decode cX9_launches 97 = .ok (.invokevirtual 131, 3) := by decide +kernel
theorem dX9_launches_100 : decode cX9_launches 100 = .ok (.iadd, 1) := by decide +kernel
theorem dX9_launches_101 : decode cX9_launches 101 = .ok (.aload_n 0, 1) := by decide +kernel
theorem dX9_launches_102 : decode cX9_launches 102 = .ok (.iload 6, 2) := by decide +kernel
theorem dX9_launches_104 : decode cX9_launches 104 = .ok (.iconst 3, 1) := by decide +kernel
theorem dX9_launches_105 : decode cX9_launches 105 = .ok (.invokevirtual 82, 3) := by decide +kernel
theorem dX9_launches_108 : decode cX9_launches 108 = .ok (.iadd, 1) := by decide +kernel
theorem dX9_launches_109 : decode cX9_launches 109 = .ok (.istore 7, 2) := by decide +kernel
theorem dX9_launches_111 : decode cX9_launches 111 = .ok (.aload_n 0, 1) := by decide +kernel
theorem dX9_launches_112 : decode cX9_launches 112 = .ok (.iload 7, 2) := by decide +kernel
theorem dX9_launches_114 : decode cX9_launches 114 = .ok (.iconst 4, 1) := by decide +kernel
theorem dX9_launches_115 : decode cX9_launches 115 = .ok (.iload 6, 2) := by decide +kernel
theorem dX9_launches_117 : decode cX9_launches 117 = .ok (.iload 4, 2) := by decide +kernel
theorem dX9_launches_119 : decode cX9_launches 119 = .ok (.invokevirtual 202, 3) := by decide +kernel
theorem dX9_launches_122 : decode cX9_launches 122 = .ok (.aload_n 0, 1) := by decide +kernel
theorem dX9_launches_123 : decode cX9_launches 123 = .ok (.getfield 35, 3) := by decide +kernel
theorem dX9_launches_126 : decode cX9_launches 126 = .ok (.iload 5, 2) := by decide +kernel
theorem dX9_launches_128 : decode cX9_launches 128 = .ok (.iload 7, 2) := by decide +kernel
theorem dX9_launches_130 : decode cX9_launches 130 = .ok (.aload_n 0, 1) := by decide +kernel
theorem dX9_launches_131 : decode cX9_launches 131 = .ok (.iload 6, 2) := by decide +kernel
theorem dX9_launches_133 : decode cX9_launches 133 = .ok (.aload_n 0, 1) := by decide +kernel
theorem dX9_launches_134 : decode cX9_launches 134 = .ok (.aload_n 0, 1) := by decide +kernel
theorem dX9_launches_135 : decode cX9_launches 135 = .ok (.iload 5, 2) := by decide +kernel
theorem dX9_launches_137 : decode cX9_launches 137 = .ok (.iconst 3, 1) := by decide +kernel
theorem dX9_launches_138 : decode cX9_launches 138 = .ok (.invokevirtual 137, 3) := by decide +kernel
theorem dX9_launches_141 : decode cX9_launches 141 = .ok (.invokevirtual 187, 3) := by decide +kernel
theorem dX9_launches_144 : decode cX9_launches 144 = .ok (.invokevirtual 131, 3) := by decide +kernel
theorem dX9_launches_147 : decode cX9_launches 147 = .ok (.iadd, 1) := by decide +kernel
theorem dX9_launches_148 : decode cX9_launches 148 = .ok (.iastore, 1) := by decide +kernel
theorem dX9_launches_149 : decode cX9_launches 149 = .ok (.iinc 5 1, 3) := by decide +kernel
theorem dX9_launches_152 : decode cX9_launches 152 = .ok (.goto (-138), 3) := by decide +kernel
theorem dX9_launches_155 : decode cX9_launches 155 = .ok (.iinc 4 1, 3) := by decide +kernel
theorem dX9_launches_158 : decode cX9_launches 158 = .ok (.goto (-153), 3) := by decide +kernel
theorem dX9_launches_161 : decode cX9_launches 161 = .ok (.iload_n 3, 1) := by decide +kernel
theorem dX9_launches_162 : decode cX9_launches 162 = .ok (.ireturn, 1) := by decide +kernel
def pX9_launches_L14 (x1 : Int32) (x4 : Int32) (s : Int32 × Int32 × Mm) : Option ((Int32 × Int32 × Mm) ⊕ (Int32 × Mm)) :=
(pX9_sorties s.2.2).bind fun v1 =>
if v1 ≤ s.2.1 then
(some (Sum.inr (s.1, s.2.2)))
else
((pX9_sortieOf s.2.1 1 s.2.2).bind fun v3 =>
if v3 = x1 then
((pX9_sortieOf s.2.1 0 s.2.2).bind fun v5 =>
if v5 = x4 then
((pX9_of 6 s.2.2).bind fun v7 =>
bnd (s.1 + v7) fun v9 =>
(pX9_sortieOf s.2.1 2 s.2.2).bind fun v10 =>
(ast s.2.2 8 8 s.2.1 v9).bind fun M12 =>
(pX9_stopAt x1 M12).bind fun v14 =>
(pX9_happens v9 3 v14 x4 M12).bind fun v16 =>
(pX9_stopAt x1 v16).bind fun v18 =>
(pX9_flight v18 v10 v16).bind fun v20 =>
(pX9_placeOf v10 3 v16).bind fun v22 =>
bnd ((v9 + v20) + v22) fun v24 =>
(pX9_happens v24 4 v10 x4 v16).bind fun v25 =>
(pX9_sortieOf s.2.1 3 v25).bind fun v27 =>
(pX9_stopAt v27 v25).bind fun v29 =>
(pX9_flight v10 v29 v25).bind fun v31 =>
(ast v25 9 8 s.2.1 (v24 + v31)).bind fun M33 =>
some (Sum.inl (v9, s.2.1 + 1, M33)))
else
(some (Sum.inl (s.1, s.2.1 + 1, s.2.2))))
else
(some (Sum.inl (s.1, s.2.1 + 1, s.2.2))))
def pX9_launches_L5 (x1 : Int32) (s : Int32 × Int32 × Mm) : Option ((Int32 × Int32 × Mm) ⊕ (Int32 × Mm)) :=
if 2 ≤ s.2.1 then
(some (Sum.inr (s.1, s.2.2)))
else
((itr (pX9_launches_L14 x1 s.2.1) fuel (s.1, 0, s.2.2)).bind fun x35 =>
some (Sum.inl (x35.1, s.2.1 + 1, x35.2)))
def pX9_launches (x1 : Int32) (x2 : Int32) (M : Mm) : Option (Int32 × Mm) :=
(itr (pX9_launches_L5 x1) fuel (x2, 0, M)).bind fun x76 =>
some (x76.1, x76.2)
abbrev zX9_launches : Zx := (cX9_launches, RX9, 8, 2, (some .int))
set_option maxRecDepth 100000 in
set_option maxHeartbeats 4000000 in
theorem tX9_launches {l : Launch} {Y : Sx} {M : Mm} {x1 : Int32} {x2 : Int32} {q : Int32 × Mm} (hY : isB Y) (h : pX9_launches x1 x2 M = some q) : Ct l Y yX9_launches cX9_launches 8 (some .int) 2 [.ref (adr Y 0), .int x1, .int x2] M (some q.1) q.2 := by
  refine Ct.of (by decide) rfl (lv := [(0, .ref (adr Y 0)), (1, .int x1), (2, .int x2)]) rfl ?_
  intro K hkl C
  change Cx K zX9_launches Y at C
  subst hkl
  unfold pX9_launches at h
  show Wp K zX9_launches Y (Qm K Y (some q.1) q.2) M 0 [(0, .ref (adr Y 0)), (1, .int x1), (2, .int x2)] []
  refine w_iload_n C (pc := 0) dX9_launches_0 2 rfl ?_
  refine w_istore_n C (pc := 1) dX9_launches_1 (lv' := [(0, .ref (adr Y 0)), (1, .int x1), (2, .int x2), (3, .int x2)]) rfl rfl rfl ?_
  refine w_iconst C (pc := 2) dX9_launches_2 (v := 0) (by decide) ?_
  refine w_istore C (pc := 3) dX9_launches_3 (lv' := [(0, .ref (adr Y 0)), (1, .int x1), (2, .int x2), (3, .int x2), (4, .int 0)]) rfl rfl rfl ?_
  obtain ⟨x76, e77, h⟩ := ob h
  refine itr_W (P := fun s78 => Wp K zX9_launches Y (Qm K Y (some q.1) q.2) s78.2.2 5 [(0, .ref (adr Y 0)), (1, .int x1), (2, .int x2), (3, .int s78.1), (4, .int s78.2.1)] []) (R := fun x76 => Wp K zX9_launches Y (Qm K Y (some q.1) q.2) x76.2 161 [(0, .ref (adr Y 0)), (1, .int x1), (2, .int x2), (3, .int x76.1)] []) ?_ fuel (x2, 0, M) x76 e77 ?_
  · intro s78 r79 h82 ki80 kx81
    unfold pX9_launches_L5 at h82
    show Wp K zX9_launches Y (Qm K Y (some q.1) q.2) s78.2.2 5 [(0, .ref (adr Y 0)), (1, .int x1), (2, .int x2), (3, .int s78.1), (4, .int s78.2.1)] []
    refine w_iload C (pc := 5) dX9_launches_5 4 rfl ?_
    refine w_iconst C (pc := 7) dX9_launches_7 (v := 2) (by decide) ?_
    refine w_icge C (pc := 8) 161 dX9_launches_8 (by decide) (fun c => ?_) (fun c => ?_)
    · have h82 := it_t h82 c
      obtain rfl := Option.some.inj h82
      refine w_lv [0, 1, 2, 3] rfl ?_
      have k9 := kx81 (s78.1, s78.2.2) rfl
      try dsimp only at k9
      exact k9
    · have h82 := it_f h82 c
      refine w_iconst C (pc := 11) dX9_launches_11 (v := 0) (by decide) ?_
      refine w_istore C (pc := 12) dX9_launches_12 (lv' := [(0, .ref (adr Y 0)), (1, .int x1), (2, .int x2), (3, .int s78.1), (4, .int s78.2.1), (5, .int 0)]) rfl rfl rfl ?_
      obtain ⟨x83, e84, h82⟩ := ob h82
      refine itr_W (P := fun s85 => Wp K zX9_launches Y (Qm K Y (some q.1) q.2) s85.2.2 14 [(0, .ref (adr Y 0)), (1, .int x1), (2, .int x2), (3, .int s85.1), (4, .int s78.2.1), (5, .int s85.2.1)] []) (R := fun x83 => Wp K zX9_launches Y (Qm K Y (some q.1) q.2) x83.2 155 [(0, .ref (adr Y 0)), (1, .int x1), (2, .int x2), (3, .int x83.1), (4, .int s78.2.1)] []) ?_ fuel (s78.1, 0, s78.2.2) x83 e84 ?_
      · intro s85 r86 h89 ki87 kx88
        unfold pX9_launches_L14 at h89
        show Wp K zX9_launches Y (Qm K Y (some q.1) q.2) s85.2.2 14 [(0, .ref (adr Y 0)), (1, .int x1), (2, .int x2), (3, .int s85.1), (4, .int s78.2.1), (5, .int s85.2.1)] []
        refine w_iload C (pc := 14) dX9_launches_14 5 rfl ?_
        refine w_aload_n C (pc := 16) dX9_launches_16 0 rfl ?_
        obtain ⟨v90, e91, h89⟩ := ob h89
        refine w_cVi C (pc := 17) dX9_launches_17 my_X9_sorties mi_X9_sorties ml_X9_118 (sB_0 hY) rfl rfl rfl [] rfl rfl (Nat.le_of_ble_eq_true rfl) (tX9_sorties hY  e91) ?_
        refine w_icge C (pc := 20) 155 dX9_launches_20 (by decide) (fun c => ?_) (fun c => ?_)
        · have h89 := it_t h89 c
          obtain rfl := Option.some.inj h89
          refine w_lv [0, 1, 2, 3, 4] rfl ?_
          have k9 := kx88 (s85.1, s85.2.2) rfl
          try dsimp only at k9
          exact k9
        · have h89 := it_f h89 c
          refine w_aload_n C (pc := 23) dX9_launches_23 0 rfl ?_
          refine w_iload C (pc := 24) dX9_launches_24 5 rfl ?_
          refine w_iconst C (pc := 26) dX9_launches_26 (v := 1) (by decide) ?_
          obtain ⟨v92, e93, h89⟩ := ob h89
          refine w_cVi C (pc := 27) dX9_launches_27 my_X9_sortieOf mi_X9_sortieOf ml_X9_137 (sB_0 hY) rfl rfl rfl [.int s85.2.1, .int 1] rfl rfl (Nat.le_of_ble_eq_true rfl) (tX9_sortieOf hY  e93) ?_
          refine w_iload_n C (pc := 30) dX9_launches_30 1 rfl ?_
          refine w_icne C (pc := 31) 149 dX9_launches_31 (by decide) (fun c => ?_) (fun c => ?_)
          · have h89 := it_t h89 c
            refine w_aload_n C (pc := 34) dX9_launches_34 0 rfl ?_
            refine w_iload C (pc := 35) dX9_launches_35 5 rfl ?_
            refine w_iconst C (pc := 37) dX9_launches_37 (v := 0) (by decide) ?_
            obtain ⟨v94, e95, h89⟩ := ob h89
            refine w_cVi C (pc := 38) dX9_launches_38 my_X9_sortieOf mi_X9_sortieOf ml_X9_137 (sB_0 hY) rfl rfl rfl [.int s85.2.1, .int 0] rfl rfl (Nat.le_of_ble_eq_true rfl) (tX9_sortieOf hY  e95) ?_
            refine w_iload C (pc := 41) dX9_launches_41 4 rfl ?_
            refine w_iceq C (pc := 43) 49 dX9_launches_43 (by decide) (fun c => ?_) (fun c => ?_)
            · have h89 := it_t h89 c
              refine w_iload_n C (pc := 49) dX9_launches_49 3 rfl ?_
              refine w_aload_n C (pc := 50) dX9_launches_50 0 rfl ?_
              refine w_bipush C (pc := 51) dX9_launches_51 (v := 6) (by decide) ?_
              obtain ⟨v96, e97, h89⟩ := ob h89
              refine w_cVi C (pc := 53) dX9_launches_53 my_X9_of mi_X9_of ml_X9_78 (sB_0 hY) rfl rfl rfl [.int 6] rfl rfl (Nat.le_of_ble_eq_true rfl) (tX9_of hY  e97) ?_
              refine w_iadd C (pc := 56) dX9_launches_56 ?_
              refine w_bnd h89 (fun v98 h89 => ?_)
              refine w_istore_n C (pc := 57) dX9_launches_57 (lv' := [(0, .ref (adr Y 0)), (1, .int x1), (2, .int x2), (3, .int v98), (4, .int s78.2.1), (5, .int s85.2.1)]) rfl rfl rfl ?_
              refine w_aload_n C (pc := 58) dX9_launches_58 0 rfl ?_
              refine w_iload C (pc := 59) dX9_launches_59 5 rfl ?_
              refine w_iconst C (pc := 61) dX9_launches_61 (v := 2) (by decide) ?_
              obtain ⟨v99, e100, h89⟩ := ob h89
              refine w_cVi C (pc := 62) dX9_launches_62 my_X9_sortieOf mi_X9_sortieOf ml_X9_137 (sB_0 hY) rfl rfl rfl [.int s85.2.1, .int 2] rfl rfl (Nat.le_of_ble_eq_true rfl) (tX9_sortieOf hY  e100) ?_
              refine w_istore C (pc := 65) dX9_launches_65 (lv' := [(0, .ref (adr Y 0)), (1, .int x1), (2, .int x2), (3, .int v98), (4, .int s78.2.1), (5, .int s85.2.1), (6, .int v99)]) rfl rfl rfl ?_
              refine w_aload_n C (pc := 67) dX9_launches_67 0 rfl ?_
              refine w_getR C (pc := 68) dX9_launches_68 f_X9_32 (sB_0 hY) rfl ?_
              refine w_iload C (pc := 71) dX9_launches_71 5 rfl ?_
              refine w_iload_n C (pc := 73) dX9_launches_73 3 rfl ?_
              obtain ⟨M101, e102, h89⟩ := ob h89
              refine w_iast C (pc := 74) dX9_launches_74 (sB_8 hY) e102 ?_
              refine w_aload_n C (pc := 75) dX9_launches_75 0 rfl ?_
              refine w_iload_n C (pc := 76) dX9_launches_76 3 rfl ?_
              refine w_iconst C (pc := 77) dX9_launches_77 (v := 3) (by decide) ?_
              refine w_aload_n C (pc := 78) dX9_launches_78 0 rfl ?_
              refine w_iload_n C (pc := 79) dX9_launches_79 1 rfl ?_
              obtain ⟨v103, e104, h89⟩ := ob h89
              refine w_cVi C (pc := 80) dX9_launches_80 my_X9_stopAt mi_X9_stopAt ml_X9_187 (sB_0 hY) rfl rfl rfl [.int x1] rfl rfl (Nat.le_of_ble_eq_true rfl) (tX9_stopAt hY  e104) ?_
              refine w_iload C (pc := 83) dX9_launches_83 4 rfl ?_
              obtain ⟨v105, e106, h89⟩ := ob h89
              refine w_cVv C (pc := 85) dX9_launches_85 my_X9_happens mi_X9_happens ml_X9_202 (sB_0 hY) rfl rfl rfl [.int v98, .int 3, .int v103, .int s78.2.1] rfl rfl (Nat.le_of_ble_eq_true rfl) (tX9_happens hY  e106) ?_
              refine w_iload_n C (pc := 88) dX9_launches_88 3 rfl ?_
              refine w_aload_n C (pc := 89) dX9_launches_89 0 rfl ?_
              refine w_aload_n C (pc := 90) dX9_launches_90 0 rfl ?_
              refine w_iload_n C (pc := 91) dX9_launches_91 1 rfl ?_
              obtain ⟨v107, e108, h89⟩ := ob h89
              refine w_cVi C (pc := 92) dX9_launches_92 my_X9_stopAt mi_X9_stopAt ml_X9_187 (sB_0 hY) rfl rfl rfl [.int x1] rfl rfl (Nat.le_of_ble_eq_true rfl) (tX9_stopAt hY  e108) ?_
              refine w_iload C (pc := 95) dX9_launches_95 6 rfl ?_
              obtain ⟨v109, e110, h89⟩ := ob h89
              refine w_cVi C (pc := 97) dX9_launches_97 my_X9_flight mi_X9_flight ml_X9_131 (sB_0 hY) rfl rfl rfl [.int v107, .int v99] rfl rfl (Nat.le_of_ble_eq_true rfl) (tX9_flight hY  e110) ?_
              refine w_iadd C (pc := 100) dX9_launches_100 ?_
              refine w_aload_n C (pc := 101) dX9_launches_101 0 rfl ?_
              refine w_iload C (pc := 102) dX9_launches_102 6 rfl ?_
              refine w_iconst C (pc := 104) dX9_launches_104 (v := 3) (by decide) ?_
              obtain ⟨v111, e112, h89⟩ := ob h89
              refine w_cVi C (pc := 105) dX9_launches_105 my_X9_placeOf mi_X9_placeOf ml_X9_82 (sB_0 hY) rfl rfl rfl [.int v99, .int 3] rfl rfl (Nat.le_of_ble_eq_true rfl) (tX9_placeOf hY  e112) ?_
              refine w_iadd C (pc := 108) dX9_launches_108 ?_
              refine w_bnd h89 (fun v113 h89 => ?_)
              refine w_istore C (pc := 109) dX9_launches_109 (lv' := [(0, .ref (adr Y 0)), (1, .int x1), (2, .int x2), (3, .int v98), (4, .int s78.2.1), (5, .int s85.2.1), (6, .int v99), (7, .int v113)]) rfl rfl rfl ?_
              refine w_aload_n C (pc := 111) dX9_launches_111 0 rfl ?_
              refine w_iload C (pc := 112) dX9_launches_112 7 rfl ?_
              refine w_iconst C (pc := 114) dX9_launches_114 (v := 4) (by decide) ?_
              refine w_iload C (pc := 115) dX9_launches_115 6 rfl ?_
              refine w_iload C (pc := 117) dX9_launches_117 4 rfl ?_
              obtain ⟨v114, e115, h89⟩ := ob h89
              refine w_cVv C (pc := 119) dX9_launches_119 my_X9_happens mi_X9_happens ml_X9_202 (sB_0 hY) rfl rfl rfl [.int v113, .int 4, .int v99, .int s78.2.1] rfl rfl (Nat.le_of_ble_eq_true rfl) (tX9_happens hY  e115) ?_
              refine w_aload_n C (pc := 122) dX9_launches_122 0 rfl ?_
              refine w_getR C (pc := 123) dX9_launches_123 f_X9_35 (sB_0 hY) rfl ?_
              refine w_iload C (pc := 126) dX9_launches_126 5 rfl ?_
              refine w_iload C (pc := 128) dX9_launches_128 7 rfl ?_
              refine w_aload_n C (pc := 130) dX9_launches_130 0 rfl ?_
              refine w_iload C (pc := 131) dX9_launches_131 6 rfl ?_
              refine w_aload_n C (pc := 133) dX9_launches_133 0 rfl ?_
              refine w_aload_n C (pc := 134) dX9_launches_134 0 rfl ?_
              refine w_iload C (pc := 135) dX9_launches_135 5 rfl ?_
              refine w_iconst C (pc := 137) dX9_launches_137 (v := 3) (by decide) ?_
              obtain ⟨v116, e117, h89⟩ := ob h89
              refine w_cVi C (pc := 138) dX9_launches_138 my_X9_sortieOf mi_X9_sortieOf ml_X9_137 (sB_0 hY) rfl rfl rfl [.int s85.2.1, .int 3] rfl rfl (Nat.le_of_ble_eq_true rfl) (tX9_sortieOf hY  e117) ?_
              obtain ⟨v118, e119, h89⟩ := ob h89
              refine w_cVi C (pc := 141) dX9_launches_141 my_X9_stopAt mi_X9_stopAt ml_X9_187 (sB_0 hY) rfl rfl rfl [.int v116] rfl rfl (Nat.le_of_ble_eq_true rfl) (tX9_stopAt hY  e119) ?_
              obtain ⟨v120, e121, h89⟩ := ob h89
              refine w_cVi C (pc := 144) dX9_launches_144 my_X9_flight mi_X9_flight ml_X9_131 (sB_0 hY) rfl rfl rfl [.int v99, .int v118] rfl rfl (Nat.le_of_ble_eq_true rfl) (tX9_flight hY  e121) ?_
              refine w_iadd C (pc := 147) dX9_launches_147 ?_
              obtain ⟨M122, e123, h89⟩ := ob h89
              refine w_iast C (pc := 148) dX9_launches_148 (sB_9 hY) e123 ?_
              refine w_iinc C (pc := 149) dX9_launches_149 5 rfl (v := 1) (lv' := [(0, .ref (adr Y 0)), (1, .int x1), (2, .int x2), (3, .int v98), (4, .int s78.2.1), (5, .int (s85.2.1 + 1)), (6, .int v99), (7, .int v113)]) (by decide) rfl rfl rfl ?_
              refine w_goto C (pc := 152) 14 dX9_launches_152 (by decide) ?_
              obtain rfl := Option.some.inj h89
              refine w_lv [0, 1, 2, 3, 4, 5] rfl ?_
              have k9 := ki87 (v98, s85.2.1 + 1, M122) rfl
              try dsimp only at k9
              exact k9
            · have h89 := it_f h89 c
              refine w_goto C (pc := 46) 149 dX9_launches_46 (by decide) ?_
              refine w_iinc C (pc := 149) dX9_launches_149 5 rfl (v := 1) (lv' := [(0, .ref (adr Y 0)), (1, .int x1), (2, .int x2), (3, .int s85.1), (4, .int s78.2.1), (5, .int (s85.2.1 + 1))]) (by decide) rfl rfl rfl ?_
              refine w_goto C (pc := 152) 14 dX9_launches_152 (by decide) ?_
              obtain rfl := Option.some.inj h89
              have k9 := ki87 (s85.1, s85.2.1 + 1, s85.2.2) rfl
              try dsimp only at k9
              exact k9
          · have h89 := it_f h89 c
            refine w_iinc C (pc := 149) dX9_launches_149 5 rfl (v := 1) (lv' := [(0, .ref (adr Y 0)), (1, .int x1), (2, .int x2), (3, .int s85.1), (4, .int s78.2.1), (5, .int (s85.2.1 + 1))]) (by decide) rfl rfl rfl ?_
            refine w_goto C (pc := 152) 14 dX9_launches_152 (by decide) ?_
            obtain rfl := Option.some.inj h89
            have k9 := ki87 (s85.1, s85.2.1 + 1, s85.2.2) rfl
            try dsimp only at k9
            exact k9
      · refine w_iinc C (pc := 155) dX9_launches_155 4 rfl (v := 1) (lv' := [(0, .ref (adr Y 0)), (1, .int x1), (2, .int x2), (3, .int x83.1), (4, .int (s78.2.1 + 1))]) (by decide) rfl rfl rfl ?_
        refine w_goto C (pc := 158) 5 dX9_launches_158 (by decide) ?_
        obtain rfl := Option.some.inj h82
        have k9 := ki80 (x83.1, s78.2.1 + 1, x83.2) rfl
        try dsimp only at k9
        exact k9
  · refine w_iload_n C (pc := 161) dX9_launches_161 3 rfl ?_
    exact w_ret C (pc := 162) dX9_launches_162 rfl (Option.some.inj h)
theorem dX9_isAhead_0 : decode cX9_isAhead 0 = .ok (.iconst 0, 1) := by decide +kernel
theorem dX9_isAhead_1 : decode cX9_isAhead 1 = .ok (.istore_n 3, 1) := by decide +kernel
theorem dX9_isAhead_2 : decode cX9_isAhead 2 = .ok (.iload_n 3, 1) := by decide +kernel
theorem dX9_isAhead_3 : decode cX9_isAhead 3 = .ok (.iconst 4, 1) := by decide +kernel
theorem dX9_isAhead_4 : decode cX9_isAhead 4 = .ok (.if_icmp .ge 61, 3) := by decide +kernel
theorem dX9_isAhead_7 : decode cX9_isAhead 7 = .ok (.aload_n 0, 1) := by decide +kernel
theorem dX9_isAhead_8 : decode cX9_isAhead 8 = .ok (.getfield 45, 3) := by decide +kernel
theorem dX9_isAhead_11 : decode cX9_isAhead 11 = .ok (.iconst 4, 1) := by decide +kernel
theorem dX9_isAhead_12 : decode cX9_isAhead 12 = .ok (.iload_n 1, 1) := by decide +kernel
theorem dX9_isAhead_13 : decode cX9_isAhead 13 = .ok (.imul, 1) := by decide +kernel
theorem dX9_isAhead_14 : decode cX9_isAhead 14 = .ok (.iload_n 3, 1) := by decide +kernel
theorem dX9_isAhead_15 : decode cX9_isAhead 15 = .ok (.iadd, 1) := by decide +kernel
theorem dX9_isAhead_16 : decode cX9_isAhead 16 = .ok (.iaload, 1) := by decide +kernel
theorem dX9_isAhead_17 : decode cX9_isAhead 17 = .ok (.aload_n 0, 1) := by decide +kernel
theorem dX9_isAhead_18 : decode cX9_isAhead 18 = .ok (.getfield 45, 3) := by decide +kernel
theorem dX9_isAhead_21 : decode cX9_isAhead 21 = .ok (.iconst 4, 1) := by decide +kernel
theorem dX9_isAhead_22 : decode cX9_isAhead 22 = .ok (.iload_n 2, 1) := by decide +kernel
theorem dX9_isAhead_23 : decode cX9_isAhead 23 = .ok (.imul, 1) := by decide +kernel
theorem dX9_isAhead_24 : decode cX9_isAhead 24 = .ok (.iload_n 3, 1) := by decide +kernel
theorem dX9_isAhead_25 : decode cX9_isAhead 25 = .ok (.iadd, 1) := by decide +kernel
theorem dX9_isAhead_26 : decode cX9_isAhead 26 = .ok (.iaload, 1) := by decide +kernel
theorem dX9_isAhead_27 : decode cX9_isAhead 27 = .ok (.if_icmp .eq 32, 3) := by decide +kernel
theorem dX9_isAhead_30 : decode cX9_isAhead 30 = .ok (.aload_n 0, 1) := by decide +kernel
theorem dX9_isAhead_31 : decode cX9_isAhead 31 = .ok (.getfield 45, 3) := by decide +kernel
theorem dX9_isAhead_34 : decode cX9_isAhead 34 = .ok (.iconst 4, 1) := by decide +kernel
theorem dX9_isAhead_35 : decode cX9_isAhead 35 = .ok (.iload_n 1, 1) := by decide +kernel
theorem dX9_isAhead_36 : decode cX9_isAhead 36 = .ok (.imul, 1) := by decide +kernel
theorem dX9_isAhead_37 : decode cX9_isAhead 37 = .ok (.iload_n 3, 1) := by decide +kernel
theorem dX9_isAhead_38 : decode cX9_isAhead 38 = .ok (.iadd, 1) := by decide +kernel
theorem dX9_isAhead_39 : decode cX9_isAhead 39 = .ok (.iaload, 1) := by decide +kernel
theorem dX9_isAhead_40 : decode cX9_isAhead 40 = .ok (.aload_n 0, 1) := by decide +kernel
theorem dX9_isAhead_41 : decode cX9_isAhead 41 = .ok (.getfield 45, 3) := by decide +kernel
theorem dX9_isAhead_44 : decode cX9_isAhead 44 = .ok (.iconst 4, 1) := by decide +kernel
theorem dX9_isAhead_45 : decode cX9_isAhead 45 = .ok (.iload_n 2, 1) := by decide +kernel
theorem dX9_isAhead_46 : decode cX9_isAhead 46 = .ok (.imul, 1) := by decide +kernel
theorem dX9_isAhead_47 : decode cX9_isAhead 47 = .ok (.iload_n 3, 1) := by decide +kernel
theorem dX9_isAhead_48 : decode cX9_isAhead 48 = .ok (.iadd, 1) := by decide +kernel
theorem dX9_isAhead_49 : decode cX9_isAhead 49 = .ok (.iaload, 1) := by decide +kernel
theorem dX9_isAhead_50 : decode cX9_isAhead 50 = .ok (.if_icmp .ge 7, 3) := by decide +kernel
theorem dX9_isAhead_53 : decode cX9_isAhead 53 = .ok (.iconst 1, 1) := by decide +kernel
theorem dX9_isAhead_54 : decode cX9_isAhead 54 = .ok (.goto 4, 3) := by decide +kernel
theorem dX9_isAhead_57 : decode cX9_isAhead 57 = .ok (.iconst 0, 1) := by decide +kernel
theorem dX9_isAhead_58 : decode cX9_isAhead 58 = .ok (.ireturn, 1) := by decide +kernel
theorem dX9_isAhead_59 : decode cX9_isAhead 59 = .ok (.iinc 3 1, 3) := by decide +kernel
theorem dX9_isAhead_62 : decode cX9_isAhead 62 = .ok (.goto (-60), 3) := by decide +kernel
theorem dX9_isAhead_65 : decode cX9_isAhead 65 = .ok (.iconst 0, 1) := by decide +kernel
theorem dX9_isAhead_66 : decode cX9_isAhead 66 = .ok (.ireturn, 1) := by decide +kernel
def pX9_isAhead_L2 (x1 : Int32) (x2 : Int32) (M : Mm) (s : Int32) : Option ((Int32) ⊕ ((Unit) ⊕ (Int32))) :=
if 4 ≤ s then
(some (Sum.inr (Sum.inl ())))
else
((ald M 12 200 ((4 * x1) + s)).bind fun v1 =>
(ald M 12 200 ((4 * x2) + s)).bind fun v3 =>
if v1 = v3 then
(some (Sum.inl (s + 1)))
else
((ald M 12 200 ((4 * x1) + s)).bind fun v5 =>
(ald M 12 200 ((4 * x2) + s)).bind fun v7 =>
if v7 ≤ v5 then
(some (Sum.inr (Sum.inr 0)))
else
(some (Sum.inr (Sum.inr 1)))))
def pX9_isAhead (x1 : Int32) (x2 : Int32) (M : Mm) : Option (Int32) :=
(itr (pX9_isAhead_L2 x1 x2 M) fuel 0).bind fun x11 =>
Sum.elim (fun yx11 =>
some 0) (fun r => some r) x11
abbrev zX9_isAhead : Zx := (cX9_isAhead, RX9, 4, 0, (some .boolean))
set_option maxRecDepth 100000 in
set_option maxHeartbeats 4000000 in
theorem tX9_isAhead {l : Launch} {Y : Sx} {M : Mm} {x1 : Int32} {x2 : Int32} {q : Int32} (hY : isB Y) (h : pX9_isAhead x1 x2 M = some q) : Ct l Y yX9_isAhead cX9_isAhead 4 (some .boolean) 0 [.ref (adr Y 0), .int x1, .int x2] M (some q) M := by
  refine Ct.of (by decide) rfl (lv := [(0, .ref (adr Y 0)), (1, .int x1), (2, .int x2)]) rfl ?_
  intro K hkl C
  change Cx K zX9_isAhead Y at C
  subst hkl
  unfold pX9_isAhead at h
  show Wp K zX9_isAhead Y (Qm K Y (some q) M) M 0 [(0, .ref (adr Y 0)), (1, .int x1), (2, .int x2)] []
  refine w_iconst C (pc := 0) dX9_isAhead_0 (v := 0) (by decide) ?_
  refine w_istore_n C (pc := 1) dX9_isAhead_1 (lv' := [(0, .ref (adr Y 0)), (1, .int x1), (2, .int x2), (3, .int 0)]) rfl rfl rfl ?_
  obtain ⟨x11, e12, h⟩ := ob h
  refine itr_W (P := fun s13 => Wp K zX9_isAhead Y (Qm K Y (some q) M) M 2 [(0, .ref (adr Y 0)), (1, .int x1), (2, .int x2), (3, .int s13)] []) (R := fun x9 => (∀ yx11, x9 = Sum.inl yx11 → Wp K zX9_isAhead Y (Qm K Y (some q) M) M 65 [(0, .ref (adr Y 0)), (1, .int x1), (2, .int x2)] []) ∧ (∀ v9, x9 = Sum.inr v9 → some v9 = some q)) ?_ fuel 0 x11 e12 ?_
  · intro s13 r14 h17 ki15 kx16
    unfold pX9_isAhead_L2 at h17
    show Wp K zX9_isAhead Y (Qm K Y (some q) M) M 2 [(0, .ref (adr Y 0)), (1, .int x1), (2, .int x2), (3, .int s13)] []
    refine w_iload_n C (pc := 2) dX9_isAhead_2 3 rfl ?_
    refine w_iconst C (pc := 3) dX9_isAhead_3 (v := 4) (by decide) ?_
    refine w_icge C (pc := 4) 65 dX9_isAhead_4 (by decide) (fun c => ?_) (fun c => ?_)
    · have h17 := it_t h17 c
      obtain rfl := Option.some.inj h17
      refine w_lv [0, 1, 2] rfl ?_
      have k9 := (kx16 (Sum.inl ()) rfl).1 () rfl
      try dsimp only at k9
      exact k9
    · have h17 := it_f h17 c
      refine w_aload_n C (pc := 7) dX9_isAhead_7 0 rfl ?_
      refine w_getR C (pc := 8) dX9_isAhead_8 f_X9_45 (sB_0 hY) rfl ?_
      refine w_iconst C (pc := 11) dX9_isAhead_11 (v := 4) (by decide) ?_
      refine w_iload_n C (pc := 12) dX9_isAhead_12 1 rfl ?_
      refine w_imul C (pc := 13) dX9_isAhead_13 ?_
      refine w_iload_n C (pc := 14) dX9_isAhead_14 3 rfl ?_
      refine w_iadd C (pc := 15) dX9_isAhead_15 ?_
      obtain ⟨v18, e19, h17⟩ := ob h17
      refine w_iald C (pc := 16) dX9_isAhead_16 (sB_12 hY) e19 ?_
      refine w_aload_n C (pc := 17) dX9_isAhead_17 0 rfl ?_
      refine w_getR C (pc := 18) dX9_isAhead_18 f_X9_45 (sB_0 hY) rfl ?_
      refine w_iconst C (pc := 21) dX9_isAhead_21 (v := 4) (by decide) ?_
      refine w_iload_n C (pc := 22) dX9_isAhead_22 2 rfl ?_
      refine w_imul C (pc := 23) dX9_isAhead_23 ?_
      refine w_iload_n C (pc := 24) dX9_isAhead_24 3 rfl ?_
      refine w_iadd C (pc := 25) dX9_isAhead_25 ?_
      obtain ⟨v20, e21, h17⟩ := ob h17
      refine w_iald C (pc := 26) dX9_isAhead_26 (sB_12 hY) e21 ?_
      refine w_iceq C (pc := 27) 59 dX9_isAhead_27 (by decide) (fun c => ?_) (fun c => ?_)
      · have h17 := it_t h17 c
        refine w_iinc C (pc := 59) dX9_isAhead_59 3 rfl (v := 1) (lv' := [(0, .ref (adr Y 0)), (1, .int x1), (2, .int x2), (3, .int (s13 + 1))]) (by decide) rfl rfl rfl ?_
        refine w_goto C (pc := 62) 2 dX9_isAhead_62 (by decide) ?_
        obtain rfl := Option.some.inj h17
        have k9 := ki15 (s13 + 1) rfl
        try dsimp only at k9
        exact k9
      · have h17 := it_f h17 c
        refine w_aload_n C (pc := 30) dX9_isAhead_30 0 rfl ?_
        refine w_getR C (pc := 31) dX9_isAhead_31 f_X9_45 (sB_0 hY) rfl ?_
        refine w_iconst C (pc := 34) dX9_isAhead_34 (v := 4) (by decide) ?_
        refine w_iload_n C (pc := 35) dX9_isAhead_35 1 rfl ?_
        refine w_imul C (pc := 36) dX9_isAhead_36 ?_
        refine w_iload_n C (pc := 37) dX9_isAhead_37 3 rfl ?_
        refine w_iadd C (pc := 38) dX9_isAhead_38 ?_
        obtain ⟨v22, e23, h17⟩ := ob h17
        refine w_iald C (pc := 39) dX9_isAhead_39 (sB_12 hY) e23 ?_
        refine w_aload_n C (pc := 40) dX9_isAhead_40 0 rfl ?_
        refine w_getR C (pc := 41) dX9_isAhead_41 f_X9_45 (sB_0 hY) rfl ?_
        refine w_iconst C (pc := 44) dX9_isAhead_44 (v := 4) (by decide) ?_
        refine w_iload_n C (pc := 45) dX9_isAhead_45 2 rfl ?_
        refine w_imul C (pc := 46) dX9_isAhead_46 ?_
        refine w_iload_n C (pc := 47) dX9_isAhead_47 3 rfl ?_
        refine w_iadd C (pc := 48) dX9_isAhead_48 ?_
        obtain ⟨v24, e25, h17⟩ := ob h17
        refine w_iald C (pc := 49) dX9_isAhead_49 (sB_12 hY) e25 ?_
        refine w_icge C (pc := 50) 57 dX9_isAhead_50 (by decide) (fun c => ?_) (fun c => ?_)
        · have h17 := it_t h17 c
          refine w_iconst C (pc := 57) dX9_isAhead_57 (v := 0) (by decide) ?_
          obtain rfl := Option.some.inj h17
          have h26 := (kx16 (Sum.inr 0) rfl).2 0 rfl
          exact w_retzR C (pc := 58) dX9_isAhead_58 rfl (by decide) (Option.some.inj h26)
        · have h17 := it_f h17 c
          refine w_iconst C (pc := 53) dX9_isAhead_53 (v := 1) (by decide) ?_
          refine w_goto C (pc := 54) 58 dX9_isAhead_54 (by decide) ?_
          obtain rfl := Option.some.inj h17
          have h27 := (kx16 (Sum.inr 1) rfl).2 1 rfl
          exact w_retzR C (pc := 58) dX9_isAhead_58 rfl (by decide) (Option.some.inj h27)
  · refine ⟨fun yx11 hy => ?_, fun v9 hv => ?_⟩
    · subst hy
      dsimp only [Sum.elim] at h
      refine w_iconst C (pc := 65) dX9_isAhead_65 (v := 0) (by decide) ?_
      exact w_retzR C (pc := 66) dX9_isAhead_66 rfl (by decide) (Option.some.inj h)
    · subst hv
      exact h
theorem dX9_sorts_0 : decode cX9_sorts 0 = .ok (.iconst 1, 1) := by decide +kernel
theorem dX9_sorts_1 : decode cX9_sorts 1 = .ok (.istore_n 1, 1) := by decide +kernel
theorem dX9_sorts_2 : decode cX9_sorts 2 = .ok (.iload_n 1, 1) := by decide +kernel
theorem dX9_sorts_3 : decode cX9_sorts 3 = .ok (.aload_n 0, 1) := by decide +kernel
theorem dX9_sorts_4 : decode cX9_sorts 4 = .ok (.getfield 199, 3) := by decide +kernel
theorem dX9_sorts_7 : decode cX9_sorts 7 = .ok (.if_icmp .ge 93, 3) := by decide +kernel
theorem dX9_sorts_10 : decode cX9_sorts 10 = .ok (.iload_n 1, 1) := by decide +kernel
theorem dX9_sorts_11 : decode cX9_sorts 11 = .ok (.istore_n 2, 1) := by decide +kernel
theorem dX9_sorts_12 : decode cX9_sorts 12 = .ok (.iload_n 2, 1) := by decide +kernel
theorem dX9_sorts_13 : decode cX9_sorts 13 = .ok (.ifCond .le 81, 3) := by decide +kernel
theorem dX9_sorts_16 : decode cX9_sorts 16 = .ok (.aload_n 0, 1) := by decide +kernel
theorem dX9_sorts_17 : decode cX9_sorts 17 = .ok (.iload_n 2, 1) := by decide +kernel
theorem dX9_sorts_18 : decode cX9_sorts 18 = .ok (.iload_n 2, 1) := by decide +kernel
theorem dX9_sorts_19 : decode cX9_sorts 19 = .ok (.iconst 1, 1) := by decide +kernel
theorem dX9_sorts_20 : decode cX9_sorts 20 = .ok (.isub, 1) := by decide +kernel
theorem dX9_sorts_21 : decode cX9_sorts 21 = .ok (.invokevirtual 220, 3) := by decide +kernel
theorem dX9_sorts_24 : decode cX9_sorts 24 = .ok (.ifCond .eq 70, 3) := by decide +kernel
theorem dX9_sorts_27 : decode cX9_sorts 27 = .ok (.iconst 0, 1) := by decide +kernel
theorem dX9_sorts_28 : decode cX9_sorts 28 = .ok (.istore_n 3, 1) := by decide +kernel
theorem dX9_sorts_29 : decode cX9_sorts 29 = .ok (.iload_n 3, 1) := by decide +kernel
theorem dX9_sorts_30 : decode cX9_sorts 30 = .ok (.iconst 4, 1) := by decide +kernel
theorem dX9_sorts_31 : decode cX9_sorts 31 = .ok (.if_icmp .ge 57, 3) := by decide +kernel
theorem dX9_sorts_34 : decode cX9_sorts 34 = .ok (.aload_n 0, 1) := by decide +kernel
theorem dX9_sorts_35 : decode cX9_sorts 35 = .ok (.getfield 45, 3) := by decide +kernel
theorem dX9_sorts_38 : decode cX9_sorts 38 = .ok (.iconst 4, 1) := by decide +kernel
theorem dX9_sorts_39 : decode cX9_sorts 39 = .ok (.iload_n 2, 1) := by decide +kernel
theorem dX9_sorts_40 : decode cX9_sorts 40 = .ok (.imul, 1) := by decide +kernel
theorem dX9_sorts_41 : decode cX9_sorts 41 = .ok (.iload_n 3, 1) := by decide +kernel
theorem dX9_sorts_42 : decode cX9_sorts 42 = .ok (.iadd, 1) := by decide +kernel
theorem dX9_sorts_43 : decode cX9_sorts 43 = .ok (.iaload, 1) := by decide +kernel
theorem dX9_sorts_44 : decode cX9_sorts 44 = .ok (.istore 4, 2) := by decide +kernel
theorem dX9_sorts_46 : decode cX9_sorts 46 = .ok (.aload_n 0, 1) := by decide +kernel
theorem dX9_sorts_47 : decode cX9_sorts 47 = .ok (.getfield 45, 3) := by decide +kernel
theorem dX9_sorts_50 : decode cX9_sorts 50 = .ok (.iconst 4, 1) := by decide +kernel
theorem dX9_sorts_51 : decode cX9_sorts 51 = .ok (.iload_n 2, 1) := by decide +kernel
theorem dX9_sorts_52 : decode cX9_sorts 52 = .ok (.imul, 1) := by decide +kernel
theorem dX9_sorts_53 : decode cX9_sorts 53 = .ok (.iload_n 3, 1) := by decide +kernel
theorem dX9_sorts_54 : decode cX9_sorts 54 = .ok (.iadd, 1) := by decide +kernel
theorem dX9_sorts_55 : decode cX9_sorts 55 = .ok (.aload_n 0, 1) := by decide +kernel
theorem dX9_sorts_56 : decode cX9_sorts 56 = .ok (.getfield 45, 3) := by decide +kernel
theorem dX9_sorts_59 : decode cX9_sorts 59 = .ok (.iconst 4, 1) := by decide +kernel
theorem dX9_sorts_60 : decode cX9_sorts 60 = .ok (.iload_n 2, 1) := by decide +kernel
theorem dX9_sorts_61 : decode cX9_sorts 61 = .ok (.imul, 1) := by decide +kernel
theorem dX9_sorts_62 : decode cX9_sorts 62 = .ok (.iconst 4, 1) := by decide +kernel
theorem dX9_sorts_63 : decode cX9_sorts 63 = .ok (.isub, 1) := by decide +kernel
theorem dX9_sorts_64 : decode cX9_sorts 64 = .ok (.iload_n 3, 1) := by decide +kernel
theorem dX9_sorts_65 : decode cX9_sorts 65 = .ok (.iadd, 1) := by decide +kernel
theorem dX9_sorts_66 : decode cX9_sorts 66 = .ok (.iaload, 1) := by decide +kernel
theorem dX9_sorts_67 : decode cX9_sorts 67 = .ok (.iastore, 1) := by decide +kernel
theorem dX9_sorts_68 : decode cX9_sorts 68 = .ok (.aload_n 0, 1) := by decide +kernel
theorem dX9_sorts_69 : decode cX9_sorts 69 = .ok (.getfield 45, 3) := by decide +kernel
theorem dX9_sorts_72 : decode cX9_sorts 72 = .ok (.iconst 4, 1) := by decide +kernel
theorem dX9_sorts_73 : decode cX9_sorts 73 = .ok (.iload_n 2, 1) := by decide +kernel
theorem dX9_sorts_74 : decode cX9_sorts 74 = .ok (.imul, 1) := by decide +kernel
theorem dX9_sorts_75 : decode cX9_sorts 75 = .ok (.iconst 4, 1) := by decide +kernel
theorem dX9_sorts_76 : decode cX9_sorts 76 = .ok (.isub, 1) := by decide +kernel
theorem dX9_sorts_77 : decode cX9_sorts 77 = .ok (.iload_n 3, 1) := by decide +kernel
theorem dX9_sorts_78 : decode cX9_sorts 78 = .ok (.iadd, 1) := by decide +kernel
theorem dX9_sorts_79 : decode cX9_sorts 79 = .ok (.iload 4, 2) := by decide +kernel
theorem dX9_sorts_81 : decode cX9_sorts 81 = .ok (.iastore, 1) := by decide +kernel
theorem dX9_sorts_82 : decode cX9_sorts 82 = .ok (.iinc 3 1, 3) := by decide +kernel
theorem dX9_sorts_85 : decode cX9_sorts 85 = .ok (.goto (-56), 3) := by decide +kernel
theorem dX9_sorts_88 : decode cX9_sorts 88 = .ok (.iinc 2 (-1), 3) := by decide +kernel
theorem dX9_sorts_91 : decode cX9_sorts 91 = .ok (.goto (-79), 3) := by decide +kernel
theorem dX9_sorts_94 : decode cX9_sorts 94 = .ok (.iinc 1 1, 3) := by decide +kernel
theorem dX9_sorts_97 : decode cX9_sorts 97 = .ok (.goto (-95), 3) := by decide +kernel
theorem dX9_sorts_100 : decode cX9_sorts 100 = .ok (.return_, 1) := by decide +kernel
def pX9_sorts_L29 (x1 : Int32) (x2 : Int32) (s : Int32 × Mm) : Option ((Int32 × Mm) ⊕ (Mm)) :=
if 4 ≤ s.1 then
(some (Sum.inr s.2))
else
((ald s.2 12 200 ((4 * x2) + s.1)).bind fun v4 =>
(ald s.2 12 200 (((4 * x2) - 4) + s.1)).bind fun v6 =>
(ast s.2 12 200 ((4 * x2) + s.1) v6).bind fun M8 =>
(ast M8 12 200 (((4 * x2) - 4) + s.1) v4).bind fun M10 =>
some (Sum.inl (s.1 + 1, M10)))
def pX9_sorts_L12 (x1 : Int32) (s : Int32 × Mm) : Option ((Int32 × Mm) ⊕ (Mm)) :=
if s.1 ≤ 0 then
(some (Sum.inr s.2))
else
((pX9_isAhead s.1 (s.1 - 1) s.2).bind fun v2 =>
if v2 = 0 then
(some (Sum.inr s.2))
else
((itr (pX9_sorts_L29 x1 s.1) fuel (0, s.2)).bind fun x12 =>
some (Sum.inl (s.1 + (-1), x12))))
def pX9_sorts_L2 (s : Int32 × Mm) : Option ((Int32 × Mm) ⊕ (Mm)) :=
if (s.2 0 18) ≤ s.1 then
(some (Sum.inr s.2))
else
(bnd (s.1) fun v1 =>
(itr (pX9_sorts_L12 s.1) fuel (v1, s.2)).bind fun x27 =>
some (Sum.inl (s.1 + 1, x27)))
def pX9_sorts (M : Mm) : Option (Mm) :=
(itr (pX9_sorts_L2) fuel (1, M)).bind fun x51 =>
some x51
abbrev zX9_sorts : Zx := (cX9_sorts, RX9, 5, 1, none)
set_option maxRecDepth 100000 in
set_option maxHeartbeats 4000000 in
theorem tX9_sorts {l : Launch} {Y : Sx} {M : Mm} {q : Mm} (hY : isB Y) (h : pX9_sorts M = some q) : Ct l Y yX9_sorts cX9_sorts 5 none 1 [.ref (adr Y 0)] M none q := by
  refine Ct.of (by decide) rfl (lv := [(0, .ref (adr Y 0))]) rfl ?_
  intro K hkl C
  change Cx K zX9_sorts Y at C
  subst hkl
  unfold pX9_sorts at h
  show Wp K zX9_sorts Y (Qm K Y none q) M 0 [(0, .ref (adr Y 0))] []
  refine w_iconst C (pc := 0) dX9_sorts_0 (v := 1) (by decide) ?_
  refine w_istore_n C (pc := 1) dX9_sorts_1 (lv' := [(0, .ref (adr Y 0)), (1, .int 1)]) rfl rfl rfl ?_
  obtain ⟨x51, e52, h⟩ := ob h
  refine itr_W (P := fun s53 => Wp K zX9_sorts Y (Qm K Y none q) s53.2 2 [(0, .ref (adr Y 0)), (1, .int s53.1)] []) (R := fun x51 => Wp K zX9_sorts Y (Qm K Y none q) x51 100 [(0, .ref (adr Y 0))] []) ?_ fuel (1, M) x51 e52 ?_
  · intro s53 r54 h57 ki55 kx56
    unfold pX9_sorts_L2 at h57
    show Wp K zX9_sorts Y (Qm K Y none q) s53.2 2 [(0, .ref (adr Y 0)), (1, .int s53.1)] []
    refine w_iload_n C (pc := 2) dX9_sorts_2 1 rfl ?_
    refine w_aload_n C (pc := 3) dX9_sorts_3 0 rfl ?_
    refine w_getI C (pc := 4) dX9_sorts_4 f_X9_199 (sB_0 hY) rfl ?_
    refine w_icge C (pc := 7) 100 dX9_sorts_7 (by decide) (fun c => ?_) (fun c => ?_)
    · have h57 := it_t h57 c
      obtain rfl := Option.some.inj h57
      refine w_lv [0] rfl ?_
      have k9 := kx56 s53.2 rfl
      try dsimp only at k9
      exact k9
    · have h57 := it_f h57 c
      refine w_iload_n C (pc := 10) dX9_sorts_10 1 rfl ?_
      refine w_bnd h57 (fun v58 h57 => ?_)
      refine w_istore_n C (pc := 11) dX9_sorts_11 (lv' := [(0, .ref (adr Y 0)), (1, .int s53.1), (2, .int v58)]) rfl rfl rfl ?_
      obtain ⟨x59, e60, h57⟩ := ob h57
      refine itr_W (P := fun s61 => Wp K zX9_sorts Y (Qm K Y none q) s61.2 12 [(0, .ref (adr Y 0)), (1, .int s53.1), (2, .int s61.1)] []) (R := fun x59 => Wp K zX9_sorts Y (Qm K Y none q) x59 94 [(0, .ref (adr Y 0)), (1, .int s53.1)] []) ?_ fuel (v58, s53.2) x59 e60 ?_
      · intro s61 r62 h65 ki63 kx64
        unfold pX9_sorts_L12 at h65
        show Wp K zX9_sorts Y (Qm K Y none q) s61.2 12 [(0, .ref (adr Y 0)), (1, .int s53.1), (2, .int s61.1)] []
        refine w_iload_n C (pc := 12) dX9_sorts_12 2 rfl ?_
        refine w_ifle C (pc := 13) 94 dX9_sorts_13 (by decide) (fun c => ?_) (fun c => ?_)
        · have h65 := it_t h65 c
          obtain rfl := Option.some.inj h65
          refine w_lv [0, 1] rfl ?_
          have k9 := kx64 s61.2 rfl
          try dsimp only at k9
          exact k9
        · have h65 := it_f h65 c
          refine w_aload_n C (pc := 16) dX9_sorts_16 0 rfl ?_
          refine w_iload_n C (pc := 17) dX9_sorts_17 2 rfl ?_
          refine w_iload_n C (pc := 18) dX9_sorts_18 2 rfl ?_
          refine w_iconst C (pc := 19) dX9_sorts_19 (v := 1) (by decide) ?_
          refine w_isub C (pc := 20) dX9_sorts_20 ?_
          obtain ⟨v66, e67, h65⟩ := ob h65
          refine w_cVi C (pc := 21) dX9_sorts_21 my_X9_isAhead mi_X9_isAhead ml_X9_220 (sB_0 hY) rfl rfl rfl [.int s61.1, .int (s61.1 - 1)] rfl rfl (Nat.le_of_ble_eq_true rfl) (tX9_isAhead hY  e67) ?_
          refine w_ifeq C (pc := 24) 94 dX9_sorts_24 (by decide) (fun c => ?_) (fun c => ?_)
          · have h65 := it_t h65 c
            obtain rfl := Option.some.inj h65
            refine w_lv [0, 1] rfl ?_
            have k9 := kx64 s61.2 rfl
            try dsimp only at k9
            exact k9
          · have h65 := it_f h65 c
            refine w_iconst C (pc := 27) dX9_sorts_27 (v := 0) (by decide) ?_
            refine w_istore_n C (pc := 28) dX9_sorts_28 (lv' := [(0, .ref (adr Y 0)), (1, .int s53.1), (2, .int s61.1), (3, .int 0)]) rfl rfl rfl ?_
            obtain ⟨x68, e69, h65⟩ := ob h65
            refine itr_W (P := fun s70 => Wp K zX9_sorts Y (Qm K Y none q) s70.2 29 [(0, .ref (adr Y 0)), (1, .int s53.1), (2, .int s61.1), (3, .int s70.1)] []) (R := fun x68 => Wp K zX9_sorts Y (Qm K Y none q) x68 88 [(0, .ref (adr Y 0)), (1, .int s53.1), (2, .int s61.1)] []) ?_ fuel (0, s61.2) x68 e69 ?_
            · intro s70 r71 h74 ki72 kx73
              unfold pX9_sorts_L29 at h74
              show Wp K zX9_sorts Y (Qm K Y none q) s70.2 29 [(0, .ref (adr Y 0)), (1, .int s53.1), (2, .int s61.1), (3, .int s70.1)] []
              refine w_iload_n C (pc := 29) dX9_sorts_29 3 rfl ?_
              refine w_iconst C (pc := 30) dX9_sorts_30 (v := 4) (by decide) ?_
              refine w_icge C (pc := 31) 88 dX9_sorts_31 (by decide) (fun c => ?_) (fun c => ?_)
              · have h74 := it_t h74 c
                obtain rfl := Option.some.inj h74
                refine w_lv [0, 1, 2] rfl ?_
                have k9 := kx73 s70.2 rfl
                try dsimp only at k9
                exact k9
              · have h74 := it_f h74 c
                refine w_aload_n C (pc := 34) dX9_sorts_34 0 rfl ?_
                refine w_getR C (pc := 35) dX9_sorts_35 f_X9_45 (sB_0 hY) rfl ?_
                refine w_iconst C (pc := 38) dX9_sorts_38 (v := 4) (by decide) ?_
                refine w_iload_n C (pc := 39) dX9_sorts_39 2 rfl ?_
                refine w_imul C (pc := 40) dX9_sorts_40 ?_
                refine w_iload_n C (pc := 41) dX9_sorts_41 3 rfl ?_
                refine w_iadd C (pc := 42) dX9_sorts_42 ?_
                obtain ⟨v75, e76, h74⟩ := ob h74
                refine w_iald C (pc := 43) dX9_sorts_43 (sB_12 hY) e76 ?_
                refine w_istore C (pc := 44) dX9_sorts_44 (lv' := [(0, .ref (adr Y 0)), (1, .int s53.1), (2, .int s61.1), (3, .int s70.1), (4, .int v75)]) rfl rfl rfl ?_
                refine w_aload_n C (pc := 46) dX9_sorts_46 0 rfl ?_
                refine w_getR C (pc := 47) dX9_sorts_47 f_X9_45 (sB_0 hY) rfl ?_
                refine w_iconst C (pc := 50) dX9_sorts_50 (v := 4) (by decide) ?_
                refine w_iload_n C (pc := 51) dX9_sorts_51 2 rfl ?_
                refine w_imul C (pc := 52) dX9_sorts_52 ?_
                refine w_iload_n C (pc := 53) dX9_sorts_53 3 rfl ?_
                refine w_iadd C (pc := 54) dX9_sorts_54 ?_
                refine w_aload_n C (pc := 55) dX9_sorts_55 0 rfl ?_
                refine w_getR C (pc := 56) dX9_sorts_56 f_X9_45 (sB_0 hY) rfl ?_
                refine w_iconst C (pc := 59) dX9_sorts_59 (v := 4) (by decide) ?_
                refine w_iload_n C (pc := 60) dX9_sorts_60 2 rfl ?_
                refine w_imul C (pc := 61) dX9_sorts_61 ?_
                refine w_iconst C (pc := 62) dX9_sorts_62 (v := 4) (by decide) ?_
                refine w_isub C (pc := 63) dX9_sorts_63 ?_
                refine w_iload_n C (pc := 64) dX9_sorts_64 3 rfl ?_
                refine w_iadd C (pc := 65) dX9_sorts_65 ?_
                obtain ⟨v77, e78, h74⟩ := ob h74
                refine w_iald C (pc := 66) dX9_sorts_66 (sB_12 hY) e78 ?_
                obtain ⟨M79, e80, h74⟩ := ob h74
                refine w_iast C (pc := 67) dX9_sorts_67 (sB_12 hY) e80 ?_
                refine w_aload_n C (pc := 68) dX9_sorts_68 0 rfl ?_
                refine w_getR C (pc := 69) dX9_sorts_69 f_X9_45 (sB_0 hY) rfl ?_
                refine w_iconst C (pc := 72) dX9_sorts_72 (v := 4) (by decide) ?_
                refine w_iload_n C (pc := 73) dX9_sorts_73 2 rfl ?_
                refine w_imul C (pc := 74) dX9_sorts_74 ?_
                refine w_iconst C (pc := 75) dX9_sorts_75 (v := 4) (by decide) ?_
                refine w_isub C (pc := 76) dX9_sorts_76 ?_
                refine w_iload_n C (pc := 77) dX9_sorts_77 3 rfl ?_
                refine w_iadd C (pc := 78) dX9_sorts_78 ?_
                refine w_iload C (pc := 79) dX9_sorts_79 4 rfl ?_
                obtain ⟨M81, e82, h74⟩ := ob h74
                refine w_iast C (pc := 81) dX9_sorts_81 (sB_12 hY) e82 ?_
                refine w_iinc C (pc := 82) dX9_sorts_82 3 rfl (v := 1) (lv' := [(0, .ref (adr Y 0)), (1, .int s53.1), (2, .int s61.1), (3, .int (s70.1 + 1)), (4, .int v75)]) (by decide) rfl rfl rfl ?_
                refine w_goto C (pc := 85) 29 dX9_sorts_85 (by decide) ?_
                obtain rfl := Option.some.inj h74
                refine w_lv [0, 1, 2, 3] rfl ?_
                have k9 := ki72 (s70.1 + 1, M81) rfl
                try dsimp only at k9
                exact k9
            · refine w_iinc C (pc := 88) dX9_sorts_88 2 rfl (v := (-1)) (lv' := [(0, .ref (adr Y 0)), (1, .int s53.1), (2, .int (s61.1 + (-1)))]) (by decide) rfl rfl rfl ?_
              refine w_goto C (pc := 91) 12 dX9_sorts_91 (by decide) ?_
              obtain rfl := Option.some.inj h65
              have k9 := ki63 (s61.1 + (-1), x68) rfl
              try dsimp only at k9
              exact k9
      · refine w_iinc C (pc := 94) dX9_sorts_94 1 rfl (v := 1) (lv' := [(0, .ref (adr Y 0)), (1, .int (s53.1 + 1))]) (by decide) rfl rfl rfl ?_
        refine w_goto C (pc := 97) 2 dX9_sorts_97 (by decide) ?_
        obtain rfl := Option.some.inj h57
        have k9 := ki55 (s53.1 + 1, x59) rfl
        try dsimp only at k9
        exact k9
  · exact w_retV C (pc := 100) dX9_sorts_100 rfl (Option.some.inj h)
theorem dX9_goes_0 : decode cX9_goes 0 = .ok (.aload_n 0, 1) := by decide +kernel
theorem dX9_goes_1 : decode cX9_goes 1 = .ok (.invokevirtual 205, 3) := by decide +kernel
theorem dX9_goes_4 : decode cX9_goes 4 = .ok (.ifCond .eq 5, 3) := by decide +kernel
theorem dX9_goes_7 : decode cX9_goes 7 = .ok (.iconst 0, 1) := by decide +kernel
theorem dX9_goes_8 : decode cX9_goes 8 = .ok (.ireturn, 1) := by decide +kernel
theorem dX9_goes_9 : decode cX9_goes 9 = .ok (.aload_n 0, 1) := by decide +kernel
theorem dX9_goes_10 : decode cX9_goes 10 = .ok (.iconst 0, 1) := by decide +kernel
theorem dX9_goes_11 : decode cX9_goes 11 = .ok (.putfield 199, 3) := by decide +kernel
theorem dX9_goes_14 : decode cX9_goes 14 = .ok (.iconst 0, 1) := by decide +kernel
theorem dX9_goes_15 : decode cX9_goes 15 = .ok (.istore_n 1, 1) := by decide +kernel
theorem dX9_goes_16 : decode cX9_goes 16 = .ok (.iload_n 1, 1) := by decide +kernel
theorem dX9_goes_17 : decode cX9_goes 17 = .ok (.bipush 8, 2) := by decide +kernel
theorem dX9_goes_19 : decode cX9_goes 19 = .ok (.if_icmp .ge 16, 3) := by decide +kernel
theorem dX9_goes_22 : decode cX9_goes 22 = .ok (.aload_n 0, 1) := by decide +kernel
theorem dX9_goes_23 : decode cX9_goes 23 = .ok (.getfield 41, 3) := by decide +kernel
theorem dX9_goes_26 : decode cX9_goes 26 = .ok (.iload_n 1, 1) := by decide +kernel
theorem dX9_goes_27 : decode cX9_goes 27 = .ok (.iconst 0, 1) := by decide +kernel
theorem dX9_goes_28 : decode cX9_goes 28 = .ok (.bastore, 1) := by decide +kernel
theorem dX9_goes_29 : decode cX9_goes 29 = .ok (.iinc 1 1, 3) := by decide +kernel
theorem dX9_goes_32 : decode cX9_goes 32 = .ok (.goto (-16), 3) := by decide +kernel
theorem dX9_goes_35 : decode cX9_goes 35 = .ok (.iconst 0, 1) := by decide +kernel
theorem dX9_goes_36 : decode cX9_goes 36 = .ok (.istore_n 1, 1) := by decide +kernel
theorem dX9_goes_37 : decode cX9_goes 37 = .ok (.iconst 0, 1) := by decide +kernel
theorem dX9_goes_38 : decode cX9_goes 38 = .ok (.istore_n 2, 1) := by decide +kernel
theorem dX9_goes_39 : decode cX9_goes 39 = .ok (.iload_n 2, 1) := by decide +kernel
theorem dX9_goes_40 : decode cX9_goes 40 = .ok (.aload_n 0, 1) := by decide +kernel
theorem dX9_goes_41 : decode cX9_goes 41 = .ok (.invokevirtual 107, 3) := by decide +kernel
theorem dX9_goes_44 : decode cX9_goes 44 = .ok (.if_icmp .ge 215, 3) := by decide +kernel
theorem dX9_goes_47 : decode cX9_goes 47 = .ok (.aload_n 0, 1) := by decide +kernel
theorem dX9_goes_48 : decode cX9_goes 48 = .ok (.iload_n 2, 1) := by decide +kernel
theorem dX9_goes_49 : decode cX9_goes 49 = .ok (.invokevirtual 187, 3) := by decide +kernel
theorem dX9_goes_52 : decode cX9_goes 52 = .ok (.istore_n 3, 1) := by decide +kernel
theorem dX9_goes_53 : decode cX9_goes 53 = .ok (.iload_n 2, 1) := by decide +kernel
theorem dX9_goes_54 : decode cX9_goes 54 = .ok (.ifCond .le 18, 3) := by decide +kernel
theorem dX9_goes_57 : decode cX9_goes 57 = .ok (.iload_n 1, 1) := by decide +kernel
theorem dX9_goes_58 : decode cX9_goes 58 = .ok (.aload_n 0, 1) := by decide +kernel
theorem dX9_goes_59 : decode cX9_goes 59 = .ok (.aload_n 0, 1) := by decide +kernel
theorem dX9_goes_60 : decode cX9_goes 60 = .ok (.iload_n 2, 1) := by decide +kernel
theorem dX9_goes_61 : decode cX9_goes 61 = .ok (.iconst 1, 1) := by decide +kernel
theorem dX9_goes_62 : decode cX9_goes 62 = .ok (.isub, 1) := by decide +kernel
theorem dX9_goes_63 : decode cX9_goes 63 = .ok (.invokevirtual 187, 3) := by decide +kernel
theorem dX9_goes_66 : decode cX9_goes 66 = .ok (.iload_n 3, 1) := by decide +kernel
theorem dX9_goes_67 : decode cX9_goes 67 = .ok (.invokevirtual 134, 3) := by decide +kernel
theorem dX9_goes_70 : decode cX9_goes 70 = .ok (.iadd, 1) := by decide +kernel
theorem dX9_goes_71 : decode cX9_goes 71 = .ok (.istore_n 1, 1) := by decide +kernel
theorem dX9_goes_72 : decode cX9_goes 72 = .ok (.aload_n 0, 1) := by decide +kernel
theorem dX9_goes_73 : decode cX9_goes 73 = .ok (.getfield 20, 3) := by decide +kernel
theorem dX9_goes_76 : decode cX9_goes 76 = .ok (.iload_n 2, 1) := by decide +kernel
theorem dX9_goes_77 : decode cX9_goes 77 = .ok (.iload_n 1, 1) := by decide +kernel
theorem dX9_goes_78 : decode cX9_goes 78 = .ok (.iastore, 1) := by decide +kernel
theorem dX9_goes_79 : decode cX9_goes 79 = .ok (.aload_n 0, 1) := by decide +kernel
theorem dX9_goes_80 : decode cX9_goes 80 = .ok (.iload_n 1, 1) := by decide +kernel
theorem dX9_goes_81 : decode cX9_goes 81 = .ok (.iconst 0, 1) := by decide +kernel
theorem dX9_goes_82 : decode cX9_goes 82 = .ok (.iload_n 3, 1) := by decide +kernel
theorem dX9_goes_83 : decode cX9_goes 83 = .ok (.iconst (-1), 1) := by decide +kernel
theorem dX9_goes_84 : decode cX9_goes 84 = .ok (.invokevirtual 202, 3) := by decide +kernel
theorem dX9_goes_87 : decode cX9_goes 87 = .ok (.iload_n 1, 1) := by decide +kernel
theorem dX9_goes_88 : decode cX9_goes 88 = .ok (.aload_n 0, 1) := by decide +kernel
theorem dX9_goes_89 : decode cX9_goes 89 = .ok (.iload_n 3, 1) := by decide +kernel
theorem dX9_goes_90 : decode cX9_goes 90 = .ok (.invokevirtual 208, 3) := by decide +kernel
theorem dX9_goes_93 : decode cX9_goes 93 = .ok (.iadd, 1) := by decide +kernel
theorem dX9_goes_94 : decode cX9_goes 94 = .ok (.istore_n 1, 1) := by decide +kernel
theorem dX9_goes_95 : decode cX9_goes 95 = .ok (.iload_n 3, 1) := by decide +kernel
theorem dX9_goes_96 : decode cX9_goes 96 = .ok (.ifCond .le 11, 3) := by decide +kernel
theorem dX9_goes_99 : decode cX9_goes 99 = .ok (.aload_n 0, 1) := by decide +kernel
theorem dX9_goes_100 : decode cX9_goes 100 = .ok (.iload_n 1, 1) := by decide +kernel
theorem dX9_goes_101 : decode cX9_goes 101 = .ok (.iconst 1, 1) := by decide +kernel
theorem dX9_goes_102 : decode cX9_goes 102 = .ok (.iload_n 3, 1) := by decide +kernel
theorem dX9_goes_103 : decode cX9_goes 103 = .ok (.iconst (-1), 1) := by decide +kernel
theorem dX9_goes_104 : decode cX9_goes 104 = .ok (.invokevirtual 202, 3) := by decide +kernel
theorem dX9_goes_107 : decode cX9_goes 107 = .ok (.aload_n 0, 1) := by decide +kernel
theorem dX9_goes_108 : decode cX9_goes 108 = .ok (.getfield 29, 3) := by decide +kernel
theorem dX9_goes_111 : decode cX9_goes 111 = .ok (.iload_n 2, 1) := by decide +kernel
theorem dX9_goes_112 : decode cX9_goes 112 = .ok (.iconst 0, 1) := by decide +kernel
theorem dX9_goes_113 : decode cX9_goes 113 = .ok (.iastore, 1) := by decide +kernel
theorem dX9_goes_114 : decode cX9_goes 114 = .ok (.aload_n 0, 1) := by decide +kernel
theorem dX9_goes_115 : decode cX9_goes 115 = .ok (.iload_n 2, 1) := by decide +kernel
theorem dX9_goes_116 : decode cX9_goes 116 = .ok (.invokevirtual 211, 3) := by decide +kernel
theorem dX9_goes_119 : decode cX9_goes 119 = .ok (.istore 4, 2) := by decide +kernel
theorem dX9_goes_121 : decode cX9_goes 121 = .ok (.iload 4, 2) := by decide +kernel
theorem dX9_goes_123 : decode cX9_goes 123 = .ok (.iconst (-1), 1) := by decide +kernel
theorem dX9_goes_124 : decode cX9_goes 124 = .ok (.if_icmp .eq 108, 3) := by decide +kernel
theorem dX9_goes_127 : decode cX9_goes 127 = .ok (.aload_n 0, 1) := by decide +kernel
theorem dX9_goes_128 : decode cX9_goes 128 = .ok (.getfield 29, 3) := by decide +kernel
theorem dX9_goes_131 : decode cX9_goes 131 = .ok (.iload_n 2, 1) := by decide +kernel
theorem dX9_goes_132 : decode cX9_goes 132 = .ok (.dup2, 1) := by decide +kernel
theorem dX9_goes_133 : decode cX9_goes 133 = .ok (.iaload, 1) := by decide +kernel
theorem dX9_goes_134 : decode cX9_goes 134 = .ok (.aload_n 0, 1) := by decide +kernel
theorem dX9_goes_135 : decode cX9_goes 135 = .ok (.getfield 35, 3) := by decide +kernel
theorem dX9_goes_138 : decode cX9_goes 138 = .ok (.iload 4, 2) := by decide +kernel
theorem dX9_goes_140 : decode cX9_goes 140 = .ok (.iaload, 1) := by decide +kernel
theorem dX9_goes_141 : decode cX9_goes 141 = .ok (.iload_n 1, 1) := by decide +kernel
theorem dX9_goes_142 : decode cX9_goes 142 = .ok (.if_icmp .le 15, 3) := by decide +kernel
theorem dX9_goes_145 : decode cX9_goes 145 = .ok (.aload_n 0, 1) := by decide +kernel
theorem dX9_goes_146 : decode cX9_goes 146 = .ok (.getfield 35, 3) := by decide +kernel
theorem dX9_goes_149 : decode cX9_goes 149 = .ok (.iload 4, 2) := by decide +kernel
theorem dX9_goes_151 : decode cX9_goes 151 = .ok (.iaload, 1) := by decide +kernel
theorem dX9_goes_152 : decode cX9_goes 152 = .ok (.iload_n 1, 1) := by decide +kernel
theorem dX9_goes_153 : decode cX9_goes 153 = .ok (.isub, 1) := by decide +kernel
theorem dX9_goes_154 : decode cX9_goes 154 = .ok (.goto 4, 3) := by decide +kernel
theorem dX9_goes_157 : decode cX9_goes 157 = .ok (.iconst 0, 1) := by decide +kernel
theorem dX9_goes_158 : decode cX9_goes 158 = .ok (.iadd, 1) := by decide +kernel
theorem dX9_goes_159 : decode cX9_goes 159 = .ok (.iastore, 1) := by decide +kernel
theorem dX9_goes_160 : decode cX9_goes 160 = .ok (.aload_n 0, 1) := by decide +kernel
theorem dX9_goes_161 : decode cX9_goes 161 = .ok (.getfield 35, 3) := by decide +kernel
theorem dX9_goes_164 : decode cX9_goes 164 = .ok (.iload 4, 2) := by decide +kernel
theorem dX9_goes_166 : decode cX9_goes 166 = .ok (.iaload, 1) := by decide +kernel
theorem dX9_goes_167 : decode cX9_goes 167 = .ok (.iload_n 1, 1) := by decide +kernel
theorem dX9_goes_168 : decode cX9_goes 168 = .ok (.if_icmp .le 13, 3) := by decide +kernel
theorem dX9_goes_171 : decode cX9_goes 171 = .ok (.aload_n 0, 1) := by decide +kernel
theorem dX9_goes_172 : decode cX9_goes 172 = .ok (.getfield 35, 3) := by decide +kernel
theorem dX9_goes_175 : decode cX9_goes 175 = .ok (.iload 4, 2) := by decide +kernel
theorem dX9_goes_177 : decode cX9_goes 177 = .ok (.iaload, 1) := by decide +kernel
theorem dX9_goes_178 : decode cX9_goes 178 = .ok (.goto 4, 3) := by decide +kernel
theorem dX9_goes_181 : decode cX9_goes 181 = .ok (.iload_n 1, 1) := by decide +kernel
theorem dX9_goes_182 : decode cX9_goes 182 = .ok (.istore_n 1, 1) := by decide +kernel
theorem dX9_goes_183 : decode cX9_goes 183 = .ok (.aload_n 0, 1) := by decide +kernel
theorem dX9_goes_184 : decode cX9_goes 184 = .ok (.getfield 38, 3) := by decide +kernel
theorem dX9_goes_187 : decode cX9_goes 187 = .ok (.iload 4, 2) := by decide +kernel
theorem dX9_goes_189 : decode cX9_goes 189 = .ok (.iload_n 1, 1) := by decide +kernel
theorem dX9_goes_190 : decode cX9_goes 190 = .ok (.iastore, 1) := by decide +kernel
theorem dX9_goes_191 : decode cX9_goes 191 = .ok (.aload_n 0, 1) := by decide +kernel
theorem dX9_goes_192 : decode cX9_goes 192 = .ok (.getfield 41, 3) := by decide +kernel
theorem dX9_goes_195 : decode cX9_goes 195 = .ok (.iload 4, 2) := by decide +kernel
theorem dX9_goes_197 : decode cX9_goes 197 = .ok (.iconst 1, 1) := by decide +kernel
theorem dX9_goes_198 : decode cX9_goes 198 = .ok (.bastore, 1) := by decide +kernel
theorem dX9_goes_199 : decode cX9_goes 199 = .ok (.iload_n 1, 1) := by decide +kernel
theorem dX9_goes_200 : decode cX9_goes 200 = .ok (.aload_n 0, 1) := by decide +kernel
theorem dX9_goes_201 : decode cX9_goes 201 = .ok (.bipush 7, 2) := by decide +kernel
theorem dX9_goes_203 : decode cX9_goes 203 = .ok (.invokevirtual 78, 3) := by decide +kernel
theorem dX9_goes_206 : decode cX9_goes 206 = .ok (.iadd, 1) := by decide +kernel
theorem dX9_goes_207 : decode cX9_goes 207 = .ok (.istore_n 1, 1) := by decide +kernel
theorem dX9_goes_208 : decode cX9_goes 208 = .ok (.aload_n 0, 1) := by decide +kernel
theorem dX9_goes_209 : decode cX9_goes 209 = .ok (.iload_n 1, 1) := by decide +kernel
theorem dX9_goes_210 : decode cX9_goes 210 = .ok (.iconst 2, 1) := by decide +kernel
theorem dX9_goes_211 : decode cX9_goes 211 = .ok (.iload_n 3, 1) := by decide +kernel
theorem dX9_goes_212 : decode cX9_goes 212 = .ok (.aload_n 0, 1) := by decide +kernel
theorem dX9_goes_213 : decode cX9_goes 213 = .ok (.iload 4, 2) := by decide +kernel
theorem dX9_goes_215 : decode cX9_goes 215 = .ok (.iconst 0, 1) := by decide +kernel
theorem dX9_goes_216 : decode cX9_goes 216 = .ok (.invokevirtual 137, 3) := by decide +kernel
theorem dX9_goes_219 : decode cX9_goes 219 = .ok (.invokevirtual 202, 3) := by decide +kernel
theorem dX9_goes_222 : decode cX9_goes 222 = .ok (.aload_n 0, 1) := by decide +kernel
theorem dX9_goes_223 : decode cX9_goes 223 = .ok (.iload_n 2, 1) := by decide +kernel
theorem dX9_goes_224 : decode cX9_goes 224 = .ok (.invokevirtual 211, 3) := by decide +kernel
theorem dX9_goes_227 : decode cX9_goes 227 = .ok (.istore 4, 2) := by decide +kernel
theorem dX9_goes_229 : decode cX9_goes 229 = .ok (.goto (-108), 3) := by decide +kernel
theorem dX9_goes_232 : decode cX9_goes 232 = .ok (.aload_n 0, 1) := by decide +kernel
theorem dX9_goes_233 : decode cX9_goes 233 = .ok (.getfield 23, 3) := by decide +kernel
theorem dX9_goes_236 : decode cX9_goes 236 = .ok (.iload_n 2, 1) := by decide +kernel
theorem dX9_goes_237 : decode cX9_goes 237 = .ok (.iload_n 1, 1) := by decide +kernel
theorem dX9_goes_238 : decode cX9_goes 238 = .ok (.iastore, 1) := by decide +kernel
theorem dX9_goes_239 : decode cX9_goes 239 = .ok (.aload_n 0, 1) := by decide +kernel
theorem dX9_goes_240 : decode cX9_goes 240 = .ok (.iload_n 2, 1) := by decide +kernel
theorem dX9_goes_241 : decode cX9_goes 241 = .ok (.iload_n 1, 1) := by decide +kernel
theorem dX9_goes_242 : decode cX9_goes 242 = .ok (.invokevirtual 214, 3) := by decide +kernel
theorem dX9_goes_245 : decode cX9_goes 245 = .ok (.istore_n 1, 1) := by decide +kernel
theorem dX9_goes_246 : decode cX9_goes 246 = .ok (.aload_n 0, 1) := by decide +kernel
theorem dX9_goes_247 : decode cX9_goes 247 = .ok (.getfield 26, 3) := by decide +kernel
theorem dX9_goes_250 : decode cX9_goes 250 = .ok (.iload_n 2, 1) := by decide +kernel
theorem dX9_goes_251 : decode cX9_goes 251 = .ok (.iload_n 1, 1) := by decide +kernel
theorem dX9_goes_252 : decode cX9_goes 252 = .ok (.iastore, 1) := by decide +kernel
theorem dX9_goes_253 : decode cX9_goes 253 = .ok (.iinc 2 1, 3) := by decide +kernel
theorem dX9_goes_256 : decode cX9_goes 256 = .ok (.goto (-217), 3) := by decide +kernel
theorem dX9_goes_259 : decode cX9_goes 259 = .ok (.aload_n 0, 1) := by decide +kernel
theorem dX9_goes_260 : decode cX9_goes 260 = .ok (.invokevirtual 217, 3) := by decide +kernel
theorem dX9_goes_263 : decode cX9_goes 263 = .ok (.iconst 1, 1) := by decide +kernel
theorem dX9_goes_264 : decode cX9_goes 264 = .ok (.ireturn, 1) := by decide +kernel
def pX9_goes_L16 (s : Int32 × Mm) : Option ((Int32 × Mm) ⊕ (Mm)) :=
if 8 ≤ s.1 then
(some (Sum.inr s.2))
else
((ast s.2 11 8 s.1 (vp_nar .boolean 0)).bind fun M5 =>
some (Sum.inl (s.1 + 1, M5)))
def pX9_goes_L121 (x2 : Int32) (x3 : Int32) (s : Int32 × Int32 × Mm) : Option ((Int32 × Int32 × Mm) ⊕ (Int32 × Mm)) :=
if s.2.1 = (-1) then
(some (Sum.inr (s.1, s.2.2)))
else
((ald s.2.2 7 10 x2).bind fun v37 =>
(ald s.2.2 9 8 s.2.1).bind fun v39 =>
Option.bind (α := Int32) (if v39 ≤ s.1 then
(some 0)
else
((ald s.2.2 9 8 s.2.1).bind fun v66 =>
some (v66 - s.1))) fun j41 =>
(ast s.2.2 7 10 x2 (v37 + j41)).bind fun M44 =>
(ald M44 9 8 s.2.1).bind fun v46 =>
Option.bind (α := Int32) (if v46 ≤ s.1 then
(some s.1)
else
((ald M44 9 8 s.2.1).bind fun v64 =>
some v64)) fun j48 =>
(ast M44 10 8 s.2.1 j48).bind fun M51 =>
(ast M51 11 8 s.2.1 (vp_nar .boolean 1)).bind fun M53 =>
(pX9_of 7 M53).bind fun v55 =>
bnd (j48 + v55) fun v57 =>
(pX9_sortieOf s.2.1 0 M53).bind fun v58 =>
(pX9_happens v57 2 x3 v58 M53).bind fun v60 =>
(pX9_nextCaught x2 v60).bind fun v62 =>
some (Sum.inl (v57, v62, v60)))
def pX9_goes_L39 (s : Int32 × Int32 × Mm) : Option ((Int32 × Int32 × Mm) ⊕ (Mm)) :=
(pX9_stops s.2.2).bind fun v16 =>
if v16 ≤ s.2.1 then
(some (Sum.inr s.2.2))
else
((pX9_stopAt s.2.1 s.2.2).bind fun v18 =>
Option.bind (α := Int32) (if s.2.1 ≤ 0 then
(some s.1)
else
((pX9_stopAt (s.2.1 - 1) s.2.2).bind fun v115 =>
(pX9_drive v115 v18 s.2.2).bind fun v117 =>
bnd (s.1 + v117) fun v119 =>
some v119)) fun j20 =>
(ast s.2.2 4 10 s.2.1 j20).bind fun M23 =>
(pX9_happens j20 0 v18 (-1) M23).bind fun v25 =>
(pX9_service v18 v25).bind fun v27 =>
bnd (j20 + v27) fun v29 =>
Option.bind (α := Mm) (if v18 ≤ 0 then
(some v25)
else
((pX9_happens v29 1 v18 (-1) v25).bind fun v113 =>
some v113)) fun j30 =>
(ast j30 7 10 s.2.1 0).bind fun M33 =>
(pX9_nextCaught s.2.1 M33).bind fun v35 =>
(itr (pX9_goes_L121 s.2.1 v18) fuel (v29, v35, M33)).bind fun x68 =>
(ast x68.2 5 10 s.2.1 x68.1).bind fun M106 =>
(pX9_launches s.2.1 x68.1 M106).bind fun v108 =>
bnd (v108.1) fun v110 =>
(ast v108.2 6 10 s.2.1 v110).bind fun M111 =>
some (Sum.inl (v110, s.2.1 + 1, M111)))
def pX9_goes (M : Mm) : Option (Int32 × Mm) :=
(pX9_wrongPlan M).bind fun v1 =>
if v1 = 0 then
(bnd (mset M 0 18 0) fun M3 =>
(itr (pX9_goes_L16) fuel (0, M3)).bind fun x7 =>
(itr (pX9_goes_L39) fuel (0, 0, x7)).bind fun x120 =>
(pX9_sorts x120).bind fun v200 =>
some (1, v200))
else
(some (0, M))
abbrev zX9_goes : Zx := (cX9_goes, RX9, 5, 4, (some .boolean))
set_option maxRecDepth 100000 in
set_option maxHeartbeats 4000000 in
theorem tX9_goes {l : Launch} {Y : Sx} {M : Mm} {q : Int32 × Mm} (hY : isB Y) (h : pX9_goes M = some q) : Ct l Y yX9_goes cX9_goes 5 (some .boolean) 4 [.ref (adr Y 0)] M (some q.1) q.2 := by
  refine Ct.of (by decide) rfl (lv := [(0, .ref (adr Y 0))]) rfl ?_
  intro K hkl C
  change Cx K zX9_goes Y at C
  subst hkl
  unfold pX9_goes at h
  show Wp K zX9_goes Y (Qm K Y (some q.1) q.2) M 0 [(0, .ref (adr Y 0))] []
  refine w_aload_n C (pc := 0) dX9_goes_0 0 rfl ?_
  obtain ⟨v1, e2, h⟩ := ob h
  refine w_cVi C (pc := 1) dX9_goes_1 my_X9_wrongPlan mi_X9_wrongPlan ml_X9_205 (sB_0 hY) rfl rfl rfl [] rfl rfl (Nat.le_of_ble_eq_true rfl) (tX9_wrongPlan hY  e2) ?_
  refine w_ifeq C (pc := 4) 9 dX9_goes_4 (by decide) (fun c => ?_) (fun c => ?_)
  · have h := it_t h c
    refine w_aload_n C (pc := 9) dX9_goes_9 0 rfl ?_
    refine w_iconst C (pc := 10) dX9_goes_10 (v := 0) (by decide) ?_
    obtain ⟨M3, e4, h⟩ := bn h
    refine w_putI C (pc := 11) dX9_goes_11 fp_X9_199 (sB_0 hY) rfl ?_
    rw [e4]
    refine w_iconst C (pc := 14) dX9_goes_14 (v := 0) (by decide) ?_
    refine w_istore_n C (pc := 15) dX9_goes_15 (lv' := [(0, .ref (adr Y 0)), (1, .int 0)]) rfl rfl rfl ?_
    obtain ⟨x7, e8, h⟩ := ob h
    refine itr_W (P := fun s9 => Wp K zX9_goes Y (Qm K Y (some q.1) q.2) s9.2 16 [(0, .ref (adr Y 0)), (1, .int s9.1)] []) (R := fun x7 => Wp K zX9_goes Y (Qm K Y (some q.1) q.2) x7 35 [(0, .ref (adr Y 0))] []) ?_ fuel (0, M3) x7 e8 ?_
    · intro s9 r10 h13 ki11 kx12
      unfold pX9_goes_L16 at h13
      show Wp K zX9_goes Y (Qm K Y (some q.1) q.2) s9.2 16 [(0, .ref (adr Y 0)), (1, .int s9.1)] []
      refine w_iload_n C (pc := 16) dX9_goes_16 1 rfl ?_
      refine w_bipush C (pc := 17) dX9_goes_17 (v := 8) (by decide) ?_
      refine w_icge C (pc := 19) 35 dX9_goes_19 (by decide) (fun c => ?_) (fun c => ?_)
      · have h13 := it_t h13 c
        obtain rfl := Option.some.inj h13
        refine w_lv [0] rfl ?_
        have k9 := kx12 s9.2 rfl
        try dsimp only at k9
        exact k9
      · have h13 := it_f h13 c
        refine w_aload_n C (pc := 22) dX9_goes_22 0 rfl ?_
        refine w_getR C (pc := 23) dX9_goes_23 f_X9_41 (sB_0 hY) rfl ?_
        refine w_iload_n C (pc := 26) dX9_goes_26 1 rfl ?_
        refine w_iconst C (pc := 27) dX9_goes_27 (v := 0) (by decide) ?_
        obtain ⟨M14, e15, h13⟩ := ob h13
        refine w_zast C (pc := 28) dX9_goes_28 (sB_11 hY) e15 ?_
        refine w_iinc C (pc := 29) dX9_goes_29 1 rfl (v := 1) (lv' := [(0, .ref (adr Y 0)), (1, .int (s9.1 + 1))]) (by decide) rfl rfl rfl ?_
        refine w_goto C (pc := 32) 16 dX9_goes_32 (by decide) ?_
        obtain rfl := Option.some.inj h13
        have k9 := ki11 (s9.1 + 1, M14) rfl
        try dsimp only at k9
        exact k9
    · refine w_iconst C (pc := 35) dX9_goes_35 (v := 0) (by decide) ?_
      refine w_istore_n C (pc := 36) dX9_goes_36 (lv' := [(0, .ref (adr Y 0)), (1, .int 0)]) rfl rfl rfl ?_
      refine w_iconst C (pc := 37) dX9_goes_37 (v := 0) (by decide) ?_
      refine w_istore_n C (pc := 38) dX9_goes_38 (lv' := [(0, .ref (adr Y 0)), (1, .int 0), (2, .int 0)]) rfl rfl rfl ?_
      obtain ⟨x120, e121, h⟩ := ob h
      refine itr_W (P := fun s122 => Wp K zX9_goes Y (Qm K Y (some q.1) q.2) s122.2.2 39 [(0, .ref (adr Y 0)), (1, .int s122.1), (2, .int s122.2.1)] []) (R := fun x120 => Wp K zX9_goes Y (Qm K Y (some q.1) q.2) x120 259 [(0, .ref (adr Y 0))] []) ?_ fuel (0, 0, x7) x120 e121 ?_
      · intro s122 r123 h126 ki124 kx125
        unfold pX9_goes_L39 at h126
        show Wp K zX9_goes Y (Qm K Y (some q.1) q.2) s122.2.2 39 [(0, .ref (adr Y 0)), (1, .int s122.1), (2, .int s122.2.1)] []
        refine w_iload_n C (pc := 39) dX9_goes_39 2 rfl ?_
        refine w_aload_n C (pc := 40) dX9_goes_40 0 rfl ?_
        obtain ⟨v127, e128, h126⟩ := ob h126
        refine w_cVi C (pc := 41) dX9_goes_41 my_X9_stops mi_X9_stops ml_X9_107 (sB_0 hY) rfl rfl rfl [] rfl rfl (Nat.le_of_ble_eq_true rfl) (tX9_stops hY  e128) ?_
        refine w_icge C (pc := 44) 259 dX9_goes_44 (by decide) (fun c => ?_) (fun c => ?_)
        · have h126 := it_t h126 c
          obtain rfl := Option.some.inj h126
          refine w_lv [0] rfl ?_
          have k9 := kx125 s122.2.2 rfl
          try dsimp only at k9
          exact k9
        · have h126 := it_f h126 c
          refine w_aload_n C (pc := 47) dX9_goes_47 0 rfl ?_
          refine w_iload_n C (pc := 48) dX9_goes_48 2 rfl ?_
          obtain ⟨v129, e130, h126⟩ := ob h126
          refine w_cVi C (pc := 49) dX9_goes_49 my_X9_stopAt mi_X9_stopAt ml_X9_187 (sB_0 hY) rfl rfl rfl [.int s122.2.1] rfl rfl (Nat.le_of_ble_eq_true rfl) (tX9_stopAt hY  e130) ?_
          refine w_istore_n C (pc := 52) dX9_goes_52 (lv' := [(0, .ref (adr Y 0)), (1, .int s122.1), (2, .int s122.2.1), (3, .int v129)]) rfl rfl rfl ?_
          refine w_iload_n C (pc := 53) dX9_goes_53 2 rfl ?_
          obtain ⟨j131, e132, h133⟩ := ob h126
          have Jj131 : Wp K zX9_goes Y (Qm K Y (some q.1) q.2) s122.2.2 72 [(0, .ref (adr Y 0)), (1, .int j131), (2, .int s122.2.1), (3, .int v129)] [] := by
            refine w_aload_n C (pc := 72) dX9_goes_72 0 rfl ?_
            refine w_getR C (pc := 73) dX9_goes_73 f_X9_20 (sB_0 hY) rfl ?_
            refine w_iload_n C (pc := 76) dX9_goes_76 2 rfl ?_
            refine w_iload_n C (pc := 77) dX9_goes_77 1 rfl ?_
            obtain ⟨M134, e135, h133⟩ := ob h133
            refine w_iast C (pc := 78) dX9_goes_78 (sB_4 hY) e135 ?_
            refine w_aload_n C (pc := 79) dX9_goes_79 0 rfl ?_
            refine w_iload_n C (pc := 80) dX9_goes_80 1 rfl ?_
            refine w_iconst C (pc := 81) dX9_goes_81 (v := 0) (by decide) ?_
            refine w_iload_n C (pc := 82) dX9_goes_82 3 rfl ?_
            refine w_iconst C (pc := 83) dX9_goes_83 (v := (-1)) (by decide) ?_
            obtain ⟨v136, e137, h133⟩ := ob h133
            refine w_cVv C (pc := 84) dX9_goes_84 my_X9_happens mi_X9_happens ml_X9_202 (sB_0 hY) rfl rfl rfl [.int j131, .int 0, .int v129, .int (-1)] rfl rfl (Nat.le_of_ble_eq_true rfl) (tX9_happens hY  e137) ?_
            refine w_iload_n C (pc := 87) dX9_goes_87 1 rfl ?_
            refine w_aload_n C (pc := 88) dX9_goes_88 0 rfl ?_
            refine w_iload_n C (pc := 89) dX9_goes_89 3 rfl ?_
            obtain ⟨v138, e139, h133⟩ := ob h133
            refine w_cVi C (pc := 90) dX9_goes_90 my_X9_service mi_X9_service ml_X9_208 (sB_0 hY) rfl rfl rfl [.int v129] rfl rfl (Nat.le_of_ble_eq_true rfl) (tX9_service hY  e139) ?_
            refine w_iadd C (pc := 93) dX9_goes_93 ?_
            refine w_bnd h133 (fun v140 h133 => ?_)
            refine w_istore_n C (pc := 94) dX9_goes_94 (lv' := [(0, .ref (adr Y 0)), (1, .int v140), (2, .int s122.2.1), (3, .int v129)]) rfl rfl rfl ?_
            refine w_iload_n C (pc := 95) dX9_goes_95 3 rfl ?_
            obtain ⟨j141, e142, h143⟩ := ob h133
            have Jj141 : Wp K zX9_goes Y (Qm K Y (some q.1) q.2) j141 107 [(0, .ref (adr Y 0)), (1, .int v140), (2, .int s122.2.1), (3, .int v129)] [] := by
              refine w_aload_n C (pc := 107) dX9_goes_107 0 rfl ?_
              refine w_getR C (pc := 108) dX9_goes_108 f_X9_29 (sB_0 hY) rfl ?_
              refine w_iload_n C (pc := 111) dX9_goes_111 2 rfl ?_
              refine w_iconst C (pc := 112) dX9_goes_112 (v := 0) (by decide) ?_
              obtain ⟨M144, e145, h143⟩ := ob h143
              refine w_iast C (pc := 113) dX9_goes_113 (sB_7 hY) e145 ?_
              refine w_aload_n C (pc := 114) dX9_goes_114 0 rfl ?_
              refine w_iload_n C (pc := 115) dX9_goes_115 2 rfl ?_
              obtain ⟨v146, e147, h143⟩ := ob h143
              refine w_cVi C (pc := 116) dX9_goes_116 my_X9_nextCaught mi_X9_nextCaught ml_X9_211 (sB_0 hY) rfl rfl rfl [.int s122.2.1] rfl rfl (Nat.le_of_ble_eq_true rfl) (tX9_nextCaught hY  e147) ?_
              refine w_istore C (pc := 119) dX9_goes_119 (lv' := [(0, .ref (adr Y 0)), (1, .int v140), (2, .int s122.2.1), (3, .int v129), (4, .int v146)]) rfl rfl rfl ?_
              obtain ⟨x148, e149, h143⟩ := ob h143
              refine itr_W (P := fun s150 => Wp K zX9_goes Y (Qm K Y (some q.1) q.2) s150.2.2 121 [(0, .ref (adr Y 0)), (1, .int s150.1), (2, .int s122.2.1), (3, .int v129), (4, .int s150.2.1)] []) (R := fun x148 => Wp K zX9_goes Y (Qm K Y (some q.1) q.2) x148.2 232 [(0, .ref (adr Y 0)), (1, .int x148.1), (2, .int s122.2.1), (3, .int v129)] []) ?_ fuel (v140, v146, M144) x148 e149 ?_
              · intro s150 r151 h154 ki152 kx153
                unfold pX9_goes_L121 at h154
                show Wp K zX9_goes Y (Qm K Y (some q.1) q.2) s150.2.2 121 [(0, .ref (adr Y 0)), (1, .int s150.1), (2, .int s122.2.1), (3, .int v129), (4, .int s150.2.1)] []
                refine w_iload C (pc := 121) dX9_goes_121 4 rfl ?_
                refine w_iconst C (pc := 123) dX9_goes_123 (v := (-1)) (by decide) ?_
                refine w_iceq C (pc := 124) 232 dX9_goes_124 (by decide) (fun c => ?_) (fun c => ?_)
                · have h154 := it_t h154 c
                  obtain rfl := Option.some.inj h154
                  refine w_lv [0, 1, 2, 3] rfl ?_
                  have k9 := kx153 (s150.1, s150.2.2) rfl
                  try dsimp only at k9
                  exact k9
                · have h154 := it_f h154 c
                  refine w_aload_n C (pc := 127) dX9_goes_127 0 rfl ?_
                  refine w_getR C (pc := 128) dX9_goes_128 f_X9_29 (sB_0 hY) rfl ?_
                  refine w_iload_n C (pc := 131) dX9_goes_131 2 rfl ?_
                  refine w_dup2 C (pc := 132) dX9_goes_132 rfl rfl ?_
                  obtain ⟨v155, e156, h154⟩ := ob h154
                  refine w_iald C (pc := 133) dX9_goes_133 (sB_7 hY) e156 ?_
                  refine w_aload_n C (pc := 134) dX9_goes_134 0 rfl ?_
                  refine w_getR C (pc := 135) dX9_goes_135 f_X9_35 (sB_0 hY) rfl ?_
                  refine w_iload C (pc := 138) dX9_goes_138 4 rfl ?_
                  obtain ⟨v157, e158, h154⟩ := ob h154
                  refine w_iald C (pc := 140) dX9_goes_140 (sB_9 hY) e158 ?_
                  refine w_iload_n C (pc := 141) dX9_goes_141 1 rfl ?_
                  obtain ⟨j159, e160, h161⟩ := ob h154
                  have Jj159 : Wp K zX9_goes Y (Qm K Y (some q.1) q.2) s150.2.2 158 [(0, .ref (adr Y 0)), (1, .int s150.1), (2, .int s122.2.1), (3, .int v129), (4, .int s150.2.1)] [.int j159, .int v155, .int s122.2.1, .ref (adr Y 7)] := by
                    refine w_iadd C (pc := 158) dX9_goes_158 ?_
                    obtain ⟨M162, e163, h161⟩ := ob h161
                    refine w_iast C (pc := 159) dX9_goes_159 (sB_7 hY) e163 ?_
                    refine w_aload_n C (pc := 160) dX9_goes_160 0 rfl ?_
                    refine w_getR C (pc := 161) dX9_goes_161 f_X9_35 (sB_0 hY) rfl ?_
                    refine w_iload C (pc := 164) dX9_goes_164 4 rfl ?_
                    obtain ⟨v164, e165, h161⟩ := ob h161
                    refine w_iald C (pc := 166) dX9_goes_166 (sB_9 hY) e165 ?_
                    refine w_iload_n C (pc := 167) dX9_goes_167 1 rfl ?_
                    obtain ⟨j166, e167, h168⟩ := ob h161
                    have Jj166 : Wp K zX9_goes Y (Qm K Y (some q.1) q.2) M162 182 [(0, .ref (adr Y 0)), (1, .int s150.1), (2, .int s122.2.1), (3, .int v129), (4, .int s150.2.1)] [.int j166] := by
                      refine w_istore_n C (pc := 182) dX9_goes_182 (lv' := [(0, .ref (adr Y 0)), (1, .int j166), (2, .int s122.2.1), (3, .int v129), (4, .int s150.2.1)]) rfl rfl rfl ?_
                      refine w_aload_n C (pc := 183) dX9_goes_183 0 rfl ?_
                      refine w_getR C (pc := 184) dX9_goes_184 f_X9_38 (sB_0 hY) rfl ?_
                      refine w_iload C (pc := 187) dX9_goes_187 4 rfl ?_
                      refine w_iload_n C (pc := 189) dX9_goes_189 1 rfl ?_
                      obtain ⟨M169, e170, h168⟩ := ob h168
                      refine w_iast C (pc := 190) dX9_goes_190 (sB_10 hY) e170 ?_
                      refine w_aload_n C (pc := 191) dX9_goes_191 0 rfl ?_
                      refine w_getR C (pc := 192) dX9_goes_192 f_X9_41 (sB_0 hY) rfl ?_
                      refine w_iload C (pc := 195) dX9_goes_195 4 rfl ?_
                      refine w_iconst C (pc := 197) dX9_goes_197 (v := 1) (by decide) ?_
                      obtain ⟨M171, e172, h168⟩ := ob h168
                      refine w_zast C (pc := 198) dX9_goes_198 (sB_11 hY) e172 ?_
                      refine w_iload_n C (pc := 199) dX9_goes_199 1 rfl ?_
                      refine w_aload_n C (pc := 200) dX9_goes_200 0 rfl ?_
                      refine w_bipush C (pc := 201) dX9_goes_201 (v := 7) (by decide) ?_
                      obtain ⟨v173, e174, h168⟩ := ob h168
                      refine w_cVi C (pc := 203) dX9_goes_203 my_X9_of mi_X9_of ml_X9_78 (sB_0 hY) rfl rfl rfl [.int 7] rfl rfl (Nat.le_of_ble_eq_true rfl) (tX9_of hY  e174) ?_
                      refine w_iadd C (pc := 206) dX9_goes_206 ?_
                      refine w_bnd h168 (fun v175 h168 => ?_)
                      refine w_istore_n C (pc := 207) dX9_goes_207 (lv' := [(0, .ref (adr Y 0)), (1, .int v175), (2, .int s122.2.1), (3, .int v129), (4, .int s150.2.1)]) rfl rfl rfl ?_
                      refine w_aload_n C (pc := 208) dX9_goes_208 0 rfl ?_
                      refine w_iload_n C (pc := 209) dX9_goes_209 1 rfl ?_
                      refine w_iconst C (pc := 210) dX9_goes_210 (v := 2) (by decide) ?_
                      refine w_iload_n C (pc := 211) dX9_goes_211 3 rfl ?_
                      refine w_aload_n C (pc := 212) dX9_goes_212 0 rfl ?_
                      refine w_iload C (pc := 213) dX9_goes_213 4 rfl ?_
                      refine w_iconst C (pc := 215) dX9_goes_215 (v := 0) (by decide) ?_
                      obtain ⟨v176, e177, h168⟩ := ob h168
                      refine w_cVi C (pc := 216) dX9_goes_216 my_X9_sortieOf mi_X9_sortieOf ml_X9_137 (sB_0 hY) rfl rfl rfl [.int s150.2.1, .int 0] rfl rfl (Nat.le_of_ble_eq_true rfl) (tX9_sortieOf hY  e177) ?_
                      obtain ⟨v178, e179, h168⟩ := ob h168
                      refine w_cVv C (pc := 219) dX9_goes_219 my_X9_happens mi_X9_happens ml_X9_202 (sB_0 hY) rfl rfl rfl [.int v175, .int 2, .int v129, .int v176] rfl rfl (Nat.le_of_ble_eq_true rfl) (tX9_happens hY  e179) ?_
                      refine w_aload_n C (pc := 222) dX9_goes_222 0 rfl ?_
                      refine w_iload_n C (pc := 223) dX9_goes_223 2 rfl ?_
                      obtain ⟨v180, e181, h168⟩ := ob h168
                      refine w_cVi C (pc := 224) dX9_goes_224 my_X9_nextCaught mi_X9_nextCaught ml_X9_211 (sB_0 hY) rfl rfl rfl [.int s122.2.1] rfl rfl (Nat.le_of_ble_eq_true rfl) (tX9_nextCaught hY  e181) ?_
                      refine w_istore C (pc := 227) dX9_goes_227 (lv' := [(0, .ref (adr Y 0)), (1, .int v175), (2, .int s122.2.1), (3, .int v129), (4, .int v180)]) rfl rfl rfl ?_
                      refine w_goto C (pc := 229) 121 dX9_goes_229 (by decide) ?_
                      obtain rfl := Option.some.inj h168
                      have k9 := ki152 (v175, v180, v178) rfl
                      try dsimp only at k9
                      exact k9
                    refine w_icle C (pc := 168) 181 dX9_goes_168 (by decide) (fun c => ?_) (fun c => ?_)
                    · have e167 := it_t e167 c
                      refine w_iload_n C (pc := 181) dX9_goes_181 1 rfl ?_
                      obtain rfl := Option.some.inj e167
                      exact Jj166
                    · have e167 := it_f e167 c
                      refine w_aload_n C (pc := 171) dX9_goes_171 0 rfl ?_
                      refine w_getR C (pc := 172) dX9_goes_172 f_X9_35 (sB_0 hY) rfl ?_
                      refine w_iload C (pc := 175) dX9_goes_175 4 rfl ?_
                      obtain ⟨v182, e183, e167⟩ := ob e167
                      refine w_iald C (pc := 177) dX9_goes_177 (sB_9 hY) e183 ?_
                      refine w_goto C (pc := 178) 182 dX9_goes_178 (by decide) ?_
                      obtain rfl := Option.some.inj e167
                      exact Jj166
                  refine w_icle C (pc := 142) 157 dX9_goes_142 (by decide) (fun c => ?_) (fun c => ?_)
                  · have e160 := it_t e160 c
                    refine w_iconst C (pc := 157) dX9_goes_157 (v := 0) (by decide) ?_
                    obtain rfl := Option.some.inj e160
                    exact Jj159
                  · have e160 := it_f e160 c
                    refine w_aload_n C (pc := 145) dX9_goes_145 0 rfl ?_
                    refine w_getR C (pc := 146) dX9_goes_146 f_X9_35 (sB_0 hY) rfl ?_
                    refine w_iload C (pc := 149) dX9_goes_149 4 rfl ?_
                    obtain ⟨v184, e185, e160⟩ := ob e160
                    refine w_iald C (pc := 151) dX9_goes_151 (sB_9 hY) e185 ?_
                    refine w_iload_n C (pc := 152) dX9_goes_152 1 rfl ?_
                    refine w_isub C (pc := 153) dX9_goes_153 ?_
                    refine w_goto C (pc := 154) 158 dX9_goes_154 (by decide) ?_
                    obtain rfl := Option.some.inj e160
                    exact Jj159
              · refine w_aload_n C (pc := 232) dX9_goes_232 0 rfl ?_
                refine w_getR C (pc := 233) dX9_goes_233 f_X9_23 (sB_0 hY) rfl ?_
                refine w_iload_n C (pc := 236) dX9_goes_236 2 rfl ?_
                refine w_iload_n C (pc := 237) dX9_goes_237 1 rfl ?_
                obtain ⟨M186, e187, h143⟩ := ob h143
                refine w_iast C (pc := 238) dX9_goes_238 (sB_5 hY) e187 ?_
                refine w_aload_n C (pc := 239) dX9_goes_239 0 rfl ?_
                refine w_iload_n C (pc := 240) dX9_goes_240 2 rfl ?_
                refine w_iload_n C (pc := 241) dX9_goes_241 1 rfl ?_
                obtain ⟨v188, e189, h143⟩ := ob h143
                refine w_cVi C (pc := 242) dX9_goes_242 my_X9_launches mi_X9_launches ml_X9_214 (sB_0 hY) rfl rfl rfl [.int s122.2.1, .int x148.1] rfl rfl (Nat.le_of_ble_eq_true rfl) (tX9_launches hY  e189) ?_
                refine w_bnd h143 (fun v190 h143 => ?_)
                refine w_istore_n C (pc := 245) dX9_goes_245 (lv' := [(0, .ref (adr Y 0)), (1, .int v190), (2, .int s122.2.1), (3, .int v129)]) rfl rfl rfl ?_
                refine w_aload_n C (pc := 246) dX9_goes_246 0 rfl ?_
                refine w_getR C (pc := 247) dX9_goes_247 f_X9_26 (sB_0 hY) rfl ?_
                refine w_iload_n C (pc := 250) dX9_goes_250 2 rfl ?_
                refine w_iload_n C (pc := 251) dX9_goes_251 1 rfl ?_
                obtain ⟨M191, e192, h143⟩ := ob h143
                refine w_iast C (pc := 252) dX9_goes_252 (sB_6 hY) e192 ?_
                refine w_iinc C (pc := 253) dX9_goes_253 2 rfl (v := 1) (lv' := [(0, .ref (adr Y 0)), (1, .int v190), (2, .int (s122.2.1 + 1)), (3, .int v129)]) (by decide) rfl rfl rfl ?_
                refine w_goto C (pc := 256) 39 dX9_goes_256 (by decide) ?_
                obtain rfl := Option.some.inj h143
                refine w_lv [0, 1, 2] rfl ?_
                have k9 := ki124 (v190, s122.2.1 + 1, M191) rfl
                try dsimp only at k9
                exact k9
            refine w_ifle C (pc := 96) 107 dX9_goes_96 (by decide) (fun c => ?_) (fun c => ?_)
            · have e142 := it_t e142 c
              obtain rfl := Option.some.inj e142
              exact Jj141
            · have e142 := it_f e142 c
              refine w_aload_n C (pc := 99) dX9_goes_99 0 rfl ?_
              refine w_iload_n C (pc := 100) dX9_goes_100 1 rfl ?_
              refine w_iconst C (pc := 101) dX9_goes_101 (v := 1) (by decide) ?_
              refine w_iload_n C (pc := 102) dX9_goes_102 3 rfl ?_
              refine w_iconst C (pc := 103) dX9_goes_103 (v := (-1)) (by decide) ?_
              obtain ⟨v193, e194, e142⟩ := ob e142
              refine w_cVv C (pc := 104) dX9_goes_104 my_X9_happens mi_X9_happens ml_X9_202 (sB_0 hY) rfl rfl rfl [.int v140, .int 1, .int v129, .int (-1)] rfl rfl (Nat.le_of_ble_eq_true rfl) (tX9_happens hY  e194) ?_
              obtain rfl := Option.some.inj e142
              exact Jj141
          refine w_ifle C (pc := 54) 72 dX9_goes_54 (by decide) (fun c => ?_) (fun c => ?_)
          · have e132 := it_t e132 c
            obtain rfl := Option.some.inj e132
            exact Jj131
          · have e132 := it_f e132 c
            refine w_iload_n C (pc := 57) dX9_goes_57 1 rfl ?_
            refine w_aload_n C (pc := 58) dX9_goes_58 0 rfl ?_
            refine w_aload_n C (pc := 59) dX9_goes_59 0 rfl ?_
            refine w_iload_n C (pc := 60) dX9_goes_60 2 rfl ?_
            refine w_iconst C (pc := 61) dX9_goes_61 (v := 1) (by decide) ?_
            refine w_isub C (pc := 62) dX9_goes_62 ?_
            obtain ⟨v195, e196, e132⟩ := ob e132
            refine w_cVi C (pc := 63) dX9_goes_63 my_X9_stopAt mi_X9_stopAt ml_X9_187 (sB_0 hY) rfl rfl rfl [.int (s122.2.1 - 1)] rfl rfl (Nat.le_of_ble_eq_true rfl) (tX9_stopAt hY  e196) ?_
            refine w_iload_n C (pc := 66) dX9_goes_66 3 rfl ?_
            obtain ⟨v197, e198, e132⟩ := ob e132
            refine w_cVi C (pc := 67) dX9_goes_67 my_X9_drive mi_X9_drive ml_X9_134 (sB_0 hY) rfl rfl rfl [.int v195, .int v129] rfl rfl (Nat.le_of_ble_eq_true rfl) (tX9_drive hY  e198) ?_
            refine w_iadd C (pc := 70) dX9_goes_70 ?_
            refine w_bnd e132 (fun v199 e132 => ?_)
            refine w_istore_n C (pc := 71) dX9_goes_71 (lv' := [(0, .ref (adr Y 0)), (1, .int v199), (2, .int s122.2.1), (3, .int v129)]) rfl rfl rfl ?_
            obtain rfl := Option.some.inj e132
            exact Jj131
      · refine w_aload_n C (pc := 259) dX9_goes_259 0 rfl ?_
        obtain ⟨v200, e201, h⟩ := ob h
        refine w_cVv C (pc := 260) dX9_goes_260 my_X9_sorts mi_X9_sorts ml_X9_217 (sB_0 hY) rfl rfl rfl [] rfl rfl (Nat.le_of_ble_eq_true rfl) (tX9_sorts hY  e201) ?_
        refine w_iconst C (pc := 263) dX9_goes_263 (v := 1) (by decide) ?_
        exact w_retz C (pc := 264) dX9_goes_264 rfl (by decide) (Option.some.inj h)
  · have h := it_f h c
    refine w_iconst C (pc := 7) dX9_goes_7 (v := 0) (by decide) ?_
    exact w_retz C (pc := 8) dX9_goes_8 rfl (by decide) (Option.some.inj h)
theorem dX9_ends_0 : decode cX9_ends 0 = .ok (.aload_n 0, 1) := by decide +kernel
theorem dX9_ends_1 : decode cX9_ends 1 = .ok (.iconst 0, 1) := by decide +kernel
theorem dX9_ends_2 : decode cX9_ends 2 = .ok (.putfield 66, 3) := by decide +kernel
theorem dX9_ends_5 : decode cX9_ends 5 = .ok (.aload_n 0, 1) := by decide +kernel
theorem dX9_ends_6 : decode cX9_ends 6 = .ok (.invokevirtual 223, 3) := by decide +kernel
theorem dX9_ends_9 : decode cX9_ends 9 = .ok (.ifCond .eq 17, 3) := by decide +kernel
theorem dX9_ends_12 : decode cX9_ends 12 = .ok (.aload_n 0, 1) := by decide +kernel
theorem dX9_ends_13 : decode cX9_ends 13 = .ok (.getfield 23, 3) := by decide +kernel
theorem dX9_ends_16 : decode cX9_ends 16 = .ok (.aload_n 0, 1) := by decide +kernel
theorem dX9_ends_17 : decode cX9_ends 17 = .ok (.invokevirtual 107, 3) := by decide +kernel
theorem dX9_ends_20 : decode cX9_ends 20 = .ok (.iconst 1, 1) := by decide +kernel
theorem dX9_ends_21 : decode cX9_ends 21 = .ok (.isub, 1) := by decide +kernel
theorem dX9_ends_22 : decode cX9_ends 22 = .ok (.iaload, 1) := by decide +kernel
theorem dX9_ends_23 : decode cX9_ends 23 = .ok (.goto 4, 3) := by decide +kernel
theorem dX9_ends_26 : decode cX9_ends 26 = .ok (.iconst (-1), 1) := by decide +kernel
theorem dX9_ends_27 : decode cX9_ends 27 = .ok (.ireturn, 1) := by decide +kernel
def pX9_ends (M : Mm) : Option (Int32 × Mm) :=
bnd (mset M 0 0 0) fun M1 =>
(pX9_goes M1).bind fun v3 =>
if v3.1 = 0 then
(some ((-1), v3.2))
else
((pX9_stops v3.2).bind fun v5 =>
(ald v3.2 5 10 (v5 - 1)).bind fun v7 =>
some (v7, v3.2))
abbrev zX9_ends : Zx := (cX9_ends, RX9, 1, 5, (some .int))
set_option maxRecDepth 100000 in
set_option maxHeartbeats 4000000 in
theorem tX9_ends {l : Launch} {Y : Sx} {M : Mm} {q : Int32 × Mm} (hY : isB Y) (h : pX9_ends M = some q) : Ct l Y yX9_ends cX9_ends 1 (some .int) 5 [.ref (adr Y 0)] M (some q.1) q.2 := by
  refine Ct.of (by decide) rfl (lv := [(0, .ref (adr Y 0))]) rfl ?_
  intro K hkl C
  change Cx K zX9_ends Y at C
  subst hkl
  unfold pX9_ends at h
  show Wp K zX9_ends Y (Qm K Y (some q.1) q.2) M 0 [(0, .ref (adr Y 0))] []
  refine w_aload_n C (pc := 0) dX9_ends_0 0 rfl ?_
  refine w_iconst C (pc := 1) dX9_ends_1 (v := 0) (by decide) ?_
  obtain ⟨M1, e2, h⟩ := bn h
  refine w_putI C (pc := 2) dX9_ends_2 fp_X9_66 (sB_0 hY) rfl ?_
  rw [e2]
  refine w_aload_n C (pc := 5) dX9_ends_5 0 rfl ?_
  obtain ⟨v3, e4, h⟩ := ob h
  refine w_cVi C (pc := 6) dX9_ends_6 my_X9_goes mi_X9_goes ml_X9_223 (sB_0 hY) rfl rfl rfl [] rfl rfl (Nat.le_of_ble_eq_true rfl) (tX9_goes hY  e4) ?_
  refine w_ifeq C (pc := 9) 26 dX9_ends_9 (by decide) (fun c => ?_) (fun c => ?_)
  · have h := it_t h c
    refine w_iconst C (pc := 26) dX9_ends_26 (v := (-1)) (by decide) ?_
    exact w_ret C (pc := 27) dX9_ends_27 rfl (Option.some.inj h)
  · have h := it_f h c
    refine w_aload_n C (pc := 12) dX9_ends_12 0 rfl ?_
    refine w_getR C (pc := 13) dX9_ends_13 f_X9_23 (sB_0 hY) rfl ?_
    refine w_aload_n C (pc := 16) dX9_ends_16 0 rfl ?_
    obtain ⟨v5, e6, h⟩ := ob h
    refine w_cVi C (pc := 17) dX9_ends_17 my_X9_stops mi_X9_stops ml_X9_107 (sB_0 hY) rfl rfl rfl [] rfl rfl (Nat.le_of_ble_eq_true rfl) (tX9_stops hY  e6) ?_
    refine w_iconst C (pc := 20) dX9_ends_20 (v := 1) (by decide) ?_
    refine w_isub C (pc := 21) dX9_ends_21 ?_
    obtain ⟨v7, e8, h⟩ := ob h
    refine w_iald C (pc := 22) dX9_ends_22 (sB_5 hY) e8 ?_
    refine w_goto C (pc := 23) 27 dX9_ends_23 (by decide) ?_
    exact w_ret C (pc := 27) dX9_ends_27 rfl (Option.some.inj h)
theorem dX9_event_0 : decode cX9_event 0 = .ok (.aload_n 0, 1) := by decide +kernel
theorem dX9_event_1 : decode cX9_event 1 = .ok (.iconst 0, 1) := by decide +kernel
theorem dX9_event_2 : decode cX9_event 2 = .ok (.putfield 66, 3) := by decide +kernel
theorem dX9_event_5 : decode cX9_event 5 = .ok (.iload_n 2, 1) := by decide +kernel
theorem dX9_event_6 : decode cX9_event 6 = .ok (.iconst 0, 1) := by decide +kernel
theorem dX9_event_7 : decode cX9_event 7 = .ok (.iconst 3, 1) := by decide +kernel
theorem dX9_event_8 : decode cX9_event 8 = .ok (.invokestatic 70, 3) := by decide +kernel
theorem dX9_event_11 : decode cX9_event 11 = .ok (.ifCond .eq 10, 3) := by decide +kernel
theorem dX9_event_14 : decode cX9_event 14 = .ok (.aload_n 0, 1) := by decide +kernel
theorem dX9_event_15 : decode cX9_event 15 = .ok (.invokevirtual 223, 3) := by decide +kernel
theorem dX9_event_18 : decode cX9_event 18 = .ok (.ifCond .ne 6, 3) := by decide +kernel
theorem dX9_event_21 : decode cX9_event 21 = .ok (.bipush (-2), 2) := by decide +kernel
theorem dX9_event_23 : decode cX9_event 23 = .ok (.ireturn, 1) := by decide +kernel
theorem dX9_event_24 : decode cX9_event 24 = .ok (.iload_n 1, 1) := by decide +kernel
theorem dX9_event_25 : decode cX9_event 25 = .ok (.iconst (-1), 1) := by decide +kernel
theorem dX9_event_26 : decode cX9_event 26 = .ok (.if_icmp .ne 17, 3) := by decide +kernel
theorem dX9_event_29 : decode cX9_event 29 = .ok (.iload_n 2, 1) := by decide +kernel
theorem dX9_event_30 : decode cX9_event 30 = .ok (.ifCond .ne 10, 3) := by decide +kernel
theorem dX9_event_33 : decode cX9_event 33 = .ok (.aload_n 0, 1) := by decide +kernel
theorem dX9_event_34 : decode cX9_event 34 = .ok (.getfield 199, 3) := by decide +kernel
theorem dX9_event_37 : decode cX9_event 37 = .ok (.goto 5, 3) := by decide +kernel
theorem dX9_event_40 : decode cX9_event 40 = .ok (.bipush (-2), 2) := by decide +kernel
theorem dX9_event_42 : decode cX9_event 42 = .ok (.ireturn, 1) := by decide +kernel
theorem dX9_event_43 : decode cX9_event 43 = .ok (.iload_n 1, 1) := by decide +kernel
theorem dX9_event_44 : decode cX9_event 44 = .ok (.iconst 0, 1) := by decide +kernel
theorem dX9_event_45 : decode cX9_event 45 = .ok (.aload_n 0, 1) := by decide +kernel
theorem dX9_event_46 : decode cX9_event 46 = .ok (.getfield 199, 3) := by decide +kernel
theorem dX9_event_49 : decode cX9_event 49 = .ok (.iconst 1, 1) := by decide +kernel
theorem dX9_event_50 : decode cX9_event 50 = .ok (.isub, 1) := by decide +kernel
theorem dX9_event_51 : decode cX9_event 51 = .ok (.invokestatic 70, 3) := by decide +kernel
theorem dX9_event_54 : decode cX9_event 54 = .ok (.ifCond .eq 16, 3) := by decide +kernel
theorem dX9_event_57 : decode cX9_event 57 = .ok (.aload_n 0, 1) := by decide +kernel
theorem dX9_event_58 : decode cX9_event 58 = .ok (.getfield 45, 3) := by decide +kernel
theorem dX9_event_61 : decode cX9_event 61 = .ok (.iconst 4, 1) := by decide +kernel
theorem dX9_event_62 : decode cX9_event 62 = .ok (.iload_n 1, 1) := by decide +kernel
theorem dX9_event_63 : decode cX9_event 63 = .ok (.imul, 1) := by decide +kernel
theorem dX9_event_64 : decode cX9_event 64 = .ok (.iload_n 2, 1) := by decide +kernel
theorem dX9_event_65 : decode cX9_event 65 = .ok (.iadd, 1) := by decide +kernel
theorem dX9_event_66 : decode cX9_event 66 = .ok (.iaload, 1) := by decide +kernel
theorem dX9_event_67 : decode cX9_event 67 = .ok (.goto 5, 3) := by decide +kernel
theorem dX9_event_70 : decode cX9_event 70 = .ok (.bipush (-2), 2) := by decide +kernel
theorem dX9_event_72 : decode cX9_event 72 = .ok (.ireturn, 1) := by decide +kernel
def pX9_event (x1 : Int32) (x2 : Int32) (M : Mm) : Option (Int32 × Mm) :=
bnd (mset M 0 0 0) fun M1 =>
if (pX9_isIn x2 0 3) = 0 then
(some ((-2), M1))
else
((pX9_goes M1).bind fun v3 =>
if v3.1 = 0 then
(some ((-2), v3.2))
else
(if x1 = (-1) then
(if x2 = 0 then
(some (v3.2 0 18, v3.2))
else
(some ((-2), v3.2)))
else
(if (pX9_isIn x1 0 ((v3.2 0 18) - 1)) = 0 then
(some ((-2), v3.2))
else
((ald v3.2 12 200 ((4 * x1) + x2)).bind fun v5 =>
some (v5, v3.2)))))
abbrev zX9_event : Zx := (cX9_event, RX9, 3, 5, (some .int))
set_option maxRecDepth 100000 in
set_option maxHeartbeats 4000000 in
theorem tX9_event {l : Launch} {Y : Sx} {M : Mm} {x1 : Int32} {x2 : Int32} {q : Int32 × Mm} (hY : isB Y) (h : pX9_event x1 x2 M = some q) : Ct l Y yX9_event cX9_event 3 (some .int) 5 [.ref (adr Y 0), .int x1, .int x2] M (some q.1) q.2 := by
  refine Ct.of (by decide) rfl (lv := [(0, .ref (adr Y 0)), (1, .int x1), (2, .int x2)]) rfl ?_
  intro K hkl C
  change Cx K zX9_event Y at C
  subst hkl
  unfold pX9_event at h
  show Wp K zX9_event Y (Qm K Y (some q.1) q.2) M 0 [(0, .ref (adr Y 0)), (1, .int x1), (2, .int x2)] []
  refine w_aload_n C (pc := 0) dX9_event_0 0 rfl ?_
  refine w_iconst C (pc := 1) dX9_event_1 (v := 0) (by decide) ?_
  obtain ⟨M1, e2, h⟩ := bn h
  refine w_putI C (pc := 2) dX9_event_2 fp_X9_66 (sB_0 hY) rfl ?_
  rw [e2]
  refine w_iload_n C (pc := 5) dX9_event_5 2 rfl ?_
  refine w_iconst C (pc := 6) dX9_event_6 (v := 0) (by decide) ?_
  refine w_iconst C (pc := 7) dX9_event_7 (v := 3) (by decide) ?_
  refine w_cSi C (pc := 8) dX9_event_8 my_X9_isIn ms_X9_isIn ml_X9_70 rfl rfl [.int x2, .int 0, .int 3] rfl rfl (Nat.le_of_ble_eq_true rfl) (tX9_isIn  rfl) ?_
  refine w_ifeq C (pc := 11) 21 dX9_event_11 (by decide) (fun c => ?_) (fun c => ?_)
  · have h := it_t h c
    refine w_bipush C (pc := 21) dX9_event_21 (v := (-2)) (by decide) ?_
    exact w_ret C (pc := 23) dX9_event_23 rfl (Option.some.inj h)
  · have h := it_f h c
    refine w_aload_n C (pc := 14) dX9_event_14 0 rfl ?_
    obtain ⟨v3, e4, h⟩ := ob h
    refine w_cVi C (pc := 15) dX9_event_15 my_X9_goes mi_X9_goes ml_X9_223 (sB_0 hY) rfl rfl rfl [] rfl rfl (Nat.le_of_ble_eq_true rfl) (tX9_goes hY  e4) ?_
    refine w_ifne C (pc := 18) 24 dX9_event_18 (by decide) (fun c => ?_) (fun c => ?_)
    · have h := it_t h c
      refine w_bipush C (pc := 21) dX9_event_21 (v := (-2)) (by decide) ?_
      exact w_ret C (pc := 23) dX9_event_23 rfl (Option.some.inj h)
    · have h := it_f h c
      refine w_iload_n C (pc := 24) dX9_event_24 1 rfl ?_
      refine w_iconst C (pc := 25) dX9_event_25 (v := (-1)) (by decide) ?_
      refine w_icne C (pc := 26) 43 dX9_event_26 (by decide) (fun c => ?_) (fun c => ?_)
      · have h := it_t h c
        refine w_iload_n C (pc := 29) dX9_event_29 2 rfl ?_
        refine w_ifne C (pc := 30) 40 dX9_event_30 (by decide) (fun c => ?_) (fun c => ?_)
        · have h := it_t h c
          refine w_aload_n C (pc := 33) dX9_event_33 0 rfl ?_
          refine w_getI C (pc := 34) dX9_event_34 f_X9_199 (sB_0 hY) rfl ?_
          refine w_goto C (pc := 37) 42 dX9_event_37 (by decide) ?_
          exact w_ret C (pc := 42) dX9_event_42 rfl (Option.some.inj h)
        · have h := it_f h c
          refine w_bipush C (pc := 40) dX9_event_40 (v := (-2)) (by decide) ?_
          exact w_ret C (pc := 42) dX9_event_42 rfl (Option.some.inj h)
      · have h := it_f h c
        refine w_iload_n C (pc := 43) dX9_event_43 1 rfl ?_
        refine w_iconst C (pc := 44) dX9_event_44 (v := 0) (by decide) ?_
        refine w_aload_n C (pc := 45) dX9_event_45 0 rfl ?_
        refine w_getI C (pc := 46) dX9_event_46 f_X9_199 (sB_0 hY) rfl ?_
        refine w_iconst C (pc := 49) dX9_event_49 (v := 1) (by decide) ?_
        refine w_isub C (pc := 50) dX9_event_50 ?_
        refine w_cSi C (pc := 51) dX9_event_51 my_X9_isIn ms_X9_isIn ml_X9_70 rfl rfl [.int x1, .int 0, .int ((v3.2 0 18) - 1)] rfl rfl (Nat.le_of_ble_eq_true rfl) (tX9_isIn  rfl) ?_
        refine w_ifeq C (pc := 54) 70 dX9_event_54 (by decide) (fun c => ?_) (fun c => ?_)
        · have h := it_t h c
          refine w_bipush C (pc := 70) dX9_event_70 (v := (-2)) (by decide) ?_
          exact w_ret C (pc := 72) dX9_event_72 rfl (Option.some.inj h)
        · have h := it_f h c
          refine w_aload_n C (pc := 57) dX9_event_57 0 rfl ?_
          refine w_getR C (pc := 58) dX9_event_58 f_X9_45 (sB_0 hY) rfl ?_
          refine w_iconst C (pc := 61) dX9_event_61 (v := 4) (by decide) ?_
          refine w_iload_n C (pc := 62) dX9_event_62 1 rfl ?_
          refine w_imul C (pc := 63) dX9_event_63 ?_
          refine w_iload_n C (pc := 64) dX9_event_64 2 rfl ?_
          refine w_iadd C (pc := 65) dX9_event_65 ?_
          obtain ⟨v5, e6, h⟩ := ob h
          refine w_iald C (pc := 66) dX9_event_66 (sB_12 hY) e6 ?_
          refine w_goto C (pc := 67) 72 dX9_event_67 (by decide) ?_
          exact w_ret C (pc := 72) dX9_event_72 rfl (Option.some.inj h)
theorem dX9_fails_0 : decode cX9_fails 0 = .ok (.aload_n 0, 1) := by decide +kernel
theorem dX9_fails_1 : decode cX9_fails 1 = .ok (.getfield 149, 3) := by decide +kernel
theorem dX9_fails_4 : decode cX9_fails 4 = .ok (.ifCond .ne 13, 3) := by decide +kernel
theorem dX9_fails_7 : decode cX9_fails 7 = .ok (.aload_n 0, 1) := by decide +kernel
theorem dX9_fails_8 : decode cX9_fails 8 = .ok (.iload_n 1, 1) := by decide +kernel
theorem dX9_fails_9 : decode cX9_fails 9 = .ok (.bipush 8, 2) := by decide +kernel
theorem dX9_fails_11 : decode cX9_fails 11 = .ok (.iload_n 2, 1) := by decide +kernel
theorem dX9_fails_12 : decode cX9_fails 12 = .ok (.imul, 1) := by decide +kernel
theorem dX9_fails_13 : decode cX9_fails 13 = .ok (.iadd, 1) := by decide +kernel
theorem dX9_fails_14 : decode cX9_fails 14 = .ok (.putfield 149, 3) := by decide +kernel
theorem dX9_fails_17 : decode cX9_fails 17 = .ok (.return_, 1) := by decide +kernel
def pX9_fails (x1 : Int32) (x2 : Int32) (M : Mm) : Mm :=
if (M 0 5) = 0 then
(bnd (mset M 0 5 (x1 + (8 * x2))) fun M1 =>
M1)
else
(M)
abbrev zX9_fails : Zx := (cX9_fails, RX9, 3, 0, none)
set_option maxRecDepth 100000 in
set_option maxHeartbeats 4000000 in
theorem tX9_fails {l : Launch} {Y : Sx} {M : Mm} {x1 : Int32} {x2 : Int32} {q : Mm} (hY : isB Y) (h : pX9_fails x1 x2 M = q) : Ct l Y yX9_fails cX9_fails 3 none 0 [.ref (adr Y 0), .int x1, .int x2] M none q := by
  refine Ct.of (by decide) rfl (lv := [(0, .ref (adr Y 0)), (1, .int x1), (2, .int x2)]) rfl ?_
  intro K hkl C
  change Cx K zX9_fails Y at C
  subst hkl
  unfold pX9_fails at h
  show Wp K zX9_fails Y (Qm K Y none q) M 0 [(0, .ref (adr Y 0)), (1, .int x1), (2, .int x2)] []
  refine w_aload_n C (pc := 0) dX9_fails_0 0 rfl ?_
  refine w_getI C (pc := 1) dX9_fails_1 f_X9_149 (sB_0 hY) rfl ?_
  refine w_ifne C (pc := 4) 17 dX9_fails_4 (by decide) (fun c => ?_) (fun c => ?_)
  · have h := it_t h c
    refine w_aload_n C (pc := 7) dX9_fails_7 0 rfl ?_
    refine w_iload_n C (pc := 8) dX9_fails_8 1 rfl ?_
    refine w_bipush C (pc := 9) dX9_fails_9 (v := 8) (by decide) ?_
    refine w_iload_n C (pc := 11) dX9_fails_11 2 rfl ?_
    refine w_imul C (pc := 12) dX9_fails_12 ?_
    refine w_iadd C (pc := 13) dX9_fails_13 ?_
    obtain ⟨M1, e2, h⟩ := bn h
    refine w_putI C (pc := 14) dX9_fails_14 fp_X9_149 (sB_0 hY) rfl ?_
    rw [e2]
    exact w_retV C (pc := 17) dX9_fails_17 rfl h
  · have h := it_f h c
    exact w_retV C (pc := 17) dX9_fails_17 rfl h
theorem dX9_fault_0 : decode cX9_fault 0 = .ok (.aload_n 0, 1) := by decide +kernel
theorem dX9_fault_1 : decode cX9_fault 1 = .ok (.iconst 0, 1) := by decide +kernel
theorem dX9_fault_2 : decode cX9_fault 2 = .ok (.putfield 66, 3) := by decide +kernel
theorem dX9_fault_5 : decode cX9_fault 5 = .ok (.aload_n 0, 1) := by decide +kernel
theorem dX9_fault_6 : decode cX9_fault 6 = .ok (.getfield 149, 3) := by decide +kernel
theorem dX9_fault_9 : decode cX9_fault 9 = .ok (.ireturn, 1) := by decide +kernel
def pX9_fault (M : Mm) : Int32 × Mm :=
bnd (mset M 0 0 0) fun M1 =>
(M1 0 5, M1)
abbrev zX9_fault : Zx := (cX9_fault, RX9, 1, 0, (some .int))
set_option maxRecDepth 100000 in
set_option maxHeartbeats 4000000 in
theorem tX9_fault {l : Launch} {Y : Sx} {M : Mm} {q : Int32 × Mm} (hY : isB Y) (h : pX9_fault M = q) : Ct l Y yX9_fault cX9_fault 1 (some .int) 0 [.ref (adr Y 0)] M (some q.1) q.2 := by
  refine Ct.of (by decide) rfl (lv := [(0, .ref (adr Y 0))]) rfl ?_
  intro K hkl C
  change Cx K zX9_fault Y at C
  subst hkl
  unfold pX9_fault at h
  show Wp K zX9_fault Y (Qm K Y (some q.1) q.2) M 0 [(0, .ref (adr Y 0))] []
  refine w_aload_n C (pc := 0) dX9_fault_0 0 rfl ?_
  refine w_iconst C (pc := 1) dX9_fault_1 (v := 0) (by decide) ?_
  obtain ⟨M1, e2, h⟩ := bn h
  refine w_putI C (pc := 2) dX9_fault_2 fp_X9_66 (sB_0 hY) rfl ?_
  rw [e2]
  refine w_aload_n C (pc := 5) dX9_fault_5 0 rfl ?_
  refine w_getI C (pc := 6) dX9_fault_6 f_X9_149 (sB_0 hY) rfl ?_
  exact w_ret C (pc := 9) dX9_fault_9 rfl h
theorem dX9_put_0 : decode cX9_put 0 = .ok (.bipush 24, 2) := by decide +kernel
theorem dX9_put_2 : decode cX9_put 2 = .ok (.istore_n 2, 1) := by decide +kernel
theorem dX9_put_3 : decode cX9_put 3 = .ok (.iload_n 2, 1) := by decide +kernel
theorem dX9_put_4 : decode cX9_put 4 = .ok (.ifCond .lt 32, 3) := by decide +kernel
theorem dX9_put_7 : decode cX9_put 7 = .ok (.aload_n 0, 1) := by decide +kernel
theorem dX9_put_8 : decode cX9_put 8 = .ok (.getfield 16, 3) := by decide +kernel
theorem dX9_put_11 : decode cX9_put 11 = .ok (.aload_n 0, 1) := by decide +kernel
theorem dX9_put_12 : decode cX9_put 12 = .ok (.getfield 125, 3) := by decide +kernel
theorem dX9_put_15 : decode cX9_put 15 = .ok (.iload_n 1, 1) := by decide +kernel
theorem dX9_put_16 : decode cX9_put 16 = .ok (.iload_n 2, 1) := by decide +kernel
theorem dX9_put_17 : decode cX9_put 17 = .ok (.ishr, 1) := by decide +kernel
theorem dX9_put_18 : decode cX9_put 18 = .ok (.i2b, 1) := by decide +kernel
theorem dX9_put_19 : decode cX9_put 19 = .ok (.bastore, 1) := by decide +kernel
theorem dX9_put_20 : decode cX9_put 20 = .ok (.aload_n 0, 1) := by decide +kernel
theorem dX9_put_21 : decode cX9_put 21 = .ok (.dup, 1) := by decide +kernel
theorem dX9_put_22 : decode cX9_put 22 = .ok (.getfield 125, 3) := by decide +kernel
theorem dX9_put_25 : decode cX9_put 25 = .ok (.iconst 1, 1) := by decide +kernel
theorem dX9_put_26 : decode cX9_put 26 = .ok (.iadd, 1) := by decide +kernel
theorem dX9_put_27 : decode cX9_put 27 = .ok (.putfield 125, 3) := by decide +kernel
theorem dX9_put_30 : decode cX9_put 30 = .ok (.iinc 2 (-8), 3) := by decide +kernel
theorem dX9_put_33 : decode cX9_put 33 = .ok (.goto (-30), 3) := by decide +kernel
theorem dX9_put_36 : decode cX9_put 36 = .ok (.return_, 1) := by decide +kernel
def pX9_put_L3 (x1 : Int32) (s : Int32 × Mm) : Option ((Int32 × Mm) ⊕ (Mm)) :=
if s.1 < 0 then
(some (Sum.inr s.2))
else
((ast s.2 3 300 (s.2 0 4) (vp_nar .byte ((x1 >>> (s.1 &&& 31)).toInt8.toInt32))).bind fun M1 =>
bnd (mset M1 0 4 ((M1 0 4) + 1)) fun M3 =>
some (Sum.inl (s.1 + (-8), M3)))
def pX9_put (x1 : Int32) (M : Mm) : Option (Mm) :=
(itr (pX9_put_L3 x1) fuel (24, M)).bind fun x5 =>
some x5
abbrev zX9_put : Zx := (cX9_put, RX9, 3, 0, none)
set_option maxRecDepth 100000 in
set_option maxHeartbeats 4000000 in
theorem tX9_put {l : Launch} {Y : Sx} {M : Mm} {x1 : Int32} {q : Mm} (hY : isB Y) (h : pX9_put x1 M = some q) : Ct l Y yX9_put cX9_put 3 none 0 [.ref (adr Y 0), .int x1] M none q := by
  refine Ct.of (by decide) rfl (lv := [(0, .ref (adr Y 0)), (1, .int x1)]) rfl ?_
  intro K hkl C
  change Cx K zX9_put Y at C
  subst hkl
  unfold pX9_put at h
  show Wp K zX9_put Y (Qm K Y none q) M 0 [(0, .ref (adr Y 0)), (1, .int x1)] []
  refine w_bipush C (pc := 0) dX9_put_0 (v := 24) (by decide) ?_
  refine w_istore_n C (pc := 2) dX9_put_2 (lv' := [(0, .ref (adr Y 0)), (1, .int x1), (2, .int 24)]) rfl rfl rfl ?_
  obtain ⟨x5, e6, h⟩ := ob h
  refine itr_W (P := fun s7 => Wp K zX9_put Y (Qm K Y none q) s7.2 3 [(0, .ref (adr Y 0)), (1, .int x1), (2, .int s7.1)] []) (R := fun x5 => Wp K zX9_put Y (Qm K Y none q) x5 36 [(0, .ref (adr Y 0)), (1, .int x1)] []) ?_ fuel (24, M) x5 e6 ?_
  · intro s7 r8 h11 ki9 kx10
    unfold pX9_put_L3 at h11
    show Wp K zX9_put Y (Qm K Y none q) s7.2 3 [(0, .ref (adr Y 0)), (1, .int x1), (2, .int s7.1)] []
    refine w_iload_n C (pc := 3) dX9_put_3 2 rfl ?_
    refine w_iflt C (pc := 4) 36 dX9_put_4 (by decide) (fun c => ?_) (fun c => ?_)
    · have h11 := it_t h11 c
      obtain rfl := Option.some.inj h11
      refine w_lv [0, 1] rfl ?_
      have k9 := kx10 s7.2 rfl
      try dsimp only at k9
      exact k9
    · have h11 := it_f h11 c
      refine w_aload_n C (pc := 7) dX9_put_7 0 rfl ?_
      refine w_getR C (pc := 8) dX9_put_8 f_X9_16 (sB_0 hY) rfl ?_
      refine w_aload_n C (pc := 11) dX9_put_11 0 rfl ?_
      refine w_getI C (pc := 12) dX9_put_12 f_X9_125 (sB_0 hY) rfl ?_
      refine w_iload_n C (pc := 15) dX9_put_15 1 rfl ?_
      refine w_iload_n C (pc := 16) dX9_put_16 2 rfl ?_
      refine w_ishr C (pc := 17) dX9_put_17 ?_
      refine w_i2b C (pc := 18) dX9_put_18 ?_
      obtain ⟨M12, e13, h11⟩ := ob h11
      refine w_bast C (pc := 19) dX9_put_19 (sB_3 hY) e13 ?_
      refine w_aload_n C (pc := 20) dX9_put_20 0 rfl ?_
      refine w_dup C (pc := 21) dX9_put_21 rfl ?_
      refine w_getI C (pc := 22) dX9_put_22 f_X9_125 (sB_0 hY) rfl ?_
      refine w_iconst C (pc := 25) dX9_put_25 (v := 1) (by decide) ?_
      refine w_iadd C (pc := 26) dX9_put_26 ?_
      obtain ⟨M14, e15, h11⟩ := bn h11
      refine w_putI C (pc := 27) dX9_put_27 fp_X9_125 (sB_0 hY) rfl ?_
      rw [e15]
      refine w_iinc C (pc := 30) dX9_put_30 2 rfl (v := (-8)) (lv' := [(0, .ref (adr Y 0)), (1, .int x1), (2, .int (s7.1 + (-8)))]) (by decide) rfl rfl rfl ?_
      refine w_goto C (pc := 33) 3 dX9_put_33 (by decide) ?_
      obtain rfl := Option.some.inj h11
      have k9 := ki9 (s7.1 + (-8), M14) rfl
      try dsimp only at k9
      exact k9
  · exact w_retV C (pc := 36) dX9_put_36 rfl (Option.some.inj h)
theorem dX9_feed_0 : decode cX9_feed 0 = .ok (.aload_n 0, 1) := by decide +kernel
theorem dX9_feed_1 : decode cX9_feed 1 = .ok (.iconst 0, 1) := by decide +kernel
theorem dX9_feed_2 : decode cX9_feed 2 = .ok (.putfield 66, 3) := by decide +kernel
theorem dX9_feed_5 : decode cX9_feed 5 = .ok (.aload_n 0, 1) := by decide +kernel
theorem dX9_feed_6 : decode cX9_feed 6 = .ok (.getfield 125, 3) := by decide +kernel
theorem dX9_feed_9 : decode cX9_feed 9 = .ok (.bipush 20, 2) := by decide +kernel
theorem dX9_feed_11 : decode cX9_feed 11 = .ok (.iadd, 1) := by decide +kernel
theorem dX9_feed_12 : decode cX9_feed 12 = .ok (.sipush 300, 3) := by decide +kernel
theorem dX9_feed_15 : decode cX9_feed 15 = .ok (.if_icmp .le 5, 3) := by decide +kernel
theorem dX9_feed_18 : decode cX9_feed 18 = .ok (.iconst (-1), 1) := by decide +kernel
theorem dX9_feed_19 : decode cX9_feed 19 = .ok (.ireturn, 1) := by decide +kernel
theorem dX9_feed_20 : decode cX9_feed 20 = .ok (.aload_n 0, 1) := by decide +kernel
theorem dX9_feed_21 : decode cX9_feed 21 = .ok (.iload_n 1, 1) := by decide +kernel
theorem dX9_feed_22 : decode cX9_feed 22 = .ok (.invokevirtual 140, 3) := by decide +kernel
theorem dX9_feed_25 : decode cX9_feed 25 = .ok (.aload_n 0, 1) := by decide +kernel
theorem dX9_feed_26 : decode cX9_feed 26 = .ok (.iload_n 2, 1) := by decide +kernel
theorem dX9_feed_27 : decode cX9_feed 27 = .ok (.invokevirtual 140, 3) := by decide +kernel
theorem dX9_feed_30 : decode cX9_feed 30 = .ok (.aload_n 0, 1) := by decide +kernel
theorem dX9_feed_31 : decode cX9_feed 31 = .ok (.iload_n 3, 1) := by decide +kernel
theorem dX9_feed_32 : decode cX9_feed 32 = .ok (.invokevirtual 140, 3) := by decide +kernel
theorem dX9_feed_35 : decode cX9_feed 35 = .ok (.aload_n 0, 1) := by decide +kernel
theorem dX9_feed_36 : decode cX9_feed 36 = .ok (.iload 4, 2) := by decide +kernel
theorem dX9_feed_38 : decode cX9_feed 38 = .ok (.invokevirtual 140, 3) := by decide +kernel
theorem dX9_feed_41 : decode cX9_feed 41 = .ok (.aload_n 0, 1) := by decide +kernel
theorem dX9_feed_42 : decode cX9_feed 42 = .ok (.iload 5, 2) := by decide +kernel
theorem dX9_feed_44 : decode cX9_feed 44 = .ok (.invokevirtual 140, 3) := by decide +kernel
theorem dX9_feed_47 : decode cX9_feed 47 = .ok (.aload_n 0, 1) := by decide +kernel
theorem dX9_feed_48 : decode cX9_feed 48 = .ok (.getfield 125, 3) := by decide +kernel
theorem dX9_feed_51 : decode cX9_feed 51 = .ok (.ireturn, 1) := by decide +kernel
def pX9_feed (x1 : Int32) (x2 : Int32) (x3 : Int32) (x4 : Int32) (x5 : Int32) (M : Mm) : Option (Int32 × Mm) :=
bnd (mset M 0 0 0) fun M1 =>
if ((M1 0 4) + 20) ≤ 300 then
((pX9_put x1 M1).bind fun v3 =>
(pX9_put x2 v3).bind fun v5 =>
(pX9_put x3 v5).bind fun v7 =>
(pX9_put x4 v7).bind fun v9 =>
(pX9_put x5 v9).bind fun v11 =>
some (v11 0 4, v11))
else
(some ((-1), M1))
abbrev zX9_feed : Zx := (cX9_feed, RX9, 6, 1, (some .int))
set_option maxRecDepth 100000 in
set_option maxHeartbeats 4000000 in
theorem tX9_feed {l : Launch} {Y : Sx} {M : Mm} {x1 : Int32} {x2 : Int32} {x3 : Int32} {x4 : Int32} {x5 : Int32} {q : Int32 × Mm} (hY : isB Y) (h : pX9_feed x1 x2 x3 x4 x5 M = some q) : Ct l Y yX9_feed cX9_feed 6 (some .int) 1 [.ref (adr Y 0), .int x1, .int x2, .int x3, .int x4, .int x5] M (some q.1) q.2 := by
  refine Ct.of (by decide) rfl (lv := [(0, .ref (adr Y 0)), (1, .int x1), (2, .int x2), (3, .int x3), (4, .int x4), (5, .int x5)]) rfl ?_
  intro K hkl C
  change Cx K zX9_feed Y at C
  subst hkl
  unfold pX9_feed at h
  show Wp K zX9_feed Y (Qm K Y (some q.1) q.2) M 0 [(0, .ref (adr Y 0)), (1, .int x1), (2, .int x2), (3, .int x3), (4, .int x4), (5, .int x5)] []
  refine w_aload_n C (pc := 0) dX9_feed_0 0 rfl ?_
  refine w_iconst C (pc := 1) dX9_feed_1 (v := 0) (by decide) ?_
  obtain ⟨M1, e2, h⟩ := bn h
  refine w_putI C (pc := 2) dX9_feed_2 fp_X9_66 (sB_0 hY) rfl ?_
  rw [e2]
  refine w_aload_n C (pc := 5) dX9_feed_5 0 rfl ?_
  refine w_getI C (pc := 6) dX9_feed_6 f_X9_125 (sB_0 hY) rfl ?_
  refine w_bipush C (pc := 9) dX9_feed_9 (v := 20) (by decide) ?_
  refine w_iadd C (pc := 11) dX9_feed_11 ?_
  refine w_sipush C (pc := 12) dX9_feed_12 (v := 300) (by decide) ?_
  refine w_icle C (pc := 15) 20 dX9_feed_15 (by decide) (fun c => ?_) (fun c => ?_)
  · have h := it_t h c
    refine w_aload_n C (pc := 20) dX9_feed_20 0 rfl ?_
    refine w_iload_n C (pc := 21) dX9_feed_21 1 rfl ?_
    obtain ⟨v3, e4, h⟩ := ob h
    refine w_cVv C (pc := 22) dX9_feed_22 my_X9_put mi_X9_put ml_X9_140 (sB_0 hY) rfl rfl rfl [.int x1] rfl rfl (Nat.le_of_ble_eq_true rfl) (tX9_put hY  e4) ?_
    refine w_aload_n C (pc := 25) dX9_feed_25 0 rfl ?_
    refine w_iload_n C (pc := 26) dX9_feed_26 2 rfl ?_
    obtain ⟨v5, e6, h⟩ := ob h
    refine w_cVv C (pc := 27) dX9_feed_27 my_X9_put mi_X9_put ml_X9_140 (sB_0 hY) rfl rfl rfl [.int x2] rfl rfl (Nat.le_of_ble_eq_true rfl) (tX9_put hY  e6) ?_
    refine w_aload_n C (pc := 30) dX9_feed_30 0 rfl ?_
    refine w_iload_n C (pc := 31) dX9_feed_31 3 rfl ?_
    obtain ⟨v7, e8, h⟩ := ob h
    refine w_cVv C (pc := 32) dX9_feed_32 my_X9_put mi_X9_put ml_X9_140 (sB_0 hY) rfl rfl rfl [.int x3] rfl rfl (Nat.le_of_ble_eq_true rfl) (tX9_put hY  e8) ?_
    refine w_aload_n C (pc := 35) dX9_feed_35 0 rfl ?_
    refine w_iload C (pc := 36) dX9_feed_36 4 rfl ?_
    obtain ⟨v9, e10, h⟩ := ob h
    refine w_cVv C (pc := 38) dX9_feed_38 my_X9_put mi_X9_put ml_X9_140 (sB_0 hY) rfl rfl rfl [.int x4] rfl rfl (Nat.le_of_ble_eq_true rfl) (tX9_put hY  e10) ?_
    refine w_aload_n C (pc := 41) dX9_feed_41 0 rfl ?_
    refine w_iload C (pc := 42) dX9_feed_42 5 rfl ?_
    obtain ⟨v11, e12, h⟩ := ob h
    refine w_cVv C (pc := 44) dX9_feed_44 my_X9_put mi_X9_put ml_X9_140 (sB_0 hY) rfl rfl rfl [.int x5] rfl rfl (Nat.le_of_ble_eq_true rfl) (tX9_put hY  e12) ?_
    refine w_aload_n C (pc := 47) dX9_feed_47 0 rfl ?_
    refine w_getI C (pc := 48) dX9_feed_48 f_X9_125 (sB_0 hY) rfl ?_
    exact w_ret C (pc := 51) dX9_feed_51 rfl (Option.some.inj h)
  · have h := it_f h c
    refine w_iconst C (pc := 18) dX9_feed_18 (v := (-1)) (by decide) ?_
    exact w_ret C (pc := 19) dX9_feed_19 rfl (Option.some.inj h)
theorem dX9_flown_0 : decode cX9_flown 0 = .ok (.aload_n 0, 1) := by decide +kernel
theorem dX9_flown_1 : decode cX9_flown 1 = .ok (.iconst 0, 1) := by decide +kernel
theorem dX9_flown_2 : decode cX9_flown 2 = .ok (.putfield 66, 3) := by decide +kernel
theorem dX9_flown_5 : decode cX9_flown 5 = .ok (.iload_n 1, 1) := by decide +kernel
theorem dX9_flown_6 : decode cX9_flown 6 = .ok (.iconst 0, 1) := by decide +kernel
theorem dX9_flown_7 : decode cX9_flown 7 = .ok (.aload_n 0, 1) := by decide +kernel
theorem dX9_flown_8 : decode cX9_flown 8 = .ok (.invokevirtual 118, 3) := by decide +kernel
theorem dX9_flown_11 : decode cX9_flown 11 = .ok (.iconst 1, 1) := by decide +kernel
theorem dX9_flown_12 : decode cX9_flown 12 = .ok (.isub, 1) := by decide +kernel
theorem dX9_flown_13 : decode cX9_flown 13 = .ok (.invokestatic 70, 3) := by decide +kernel
theorem dX9_flown_16 : decode cX9_flown 16 = .ok (.ifCond .eq 10, 3) := by decide +kernel
theorem dX9_flown_19 : decode cX9_flown 19 = .ok (.aload_n 0, 1) := by decide +kernel
theorem dX9_flown_20 : decode cX9_flown 20 = .ok (.invokevirtual 223, 3) := by decide +kernel
theorem dX9_flown_23 : decode cX9_flown 23 = .ok (.ifCond .ne 5, 3) := by decide +kernel
theorem dX9_flown_26 : decode cX9_flown 26 = .ok (.iconst (-1), 1) := by decide +kernel
theorem dX9_flown_27 : decode cX9_flown 27 = .ok (.ireturn, 1) := by decide +kernel
theorem dX9_flown_28 : decode cX9_flown 28 = .ok (.iload_n 2, 1) := by decide +kernel
theorem dX9_flown_29 : decode cX9_flown 29 = .ok (.tableswitch 65 0 3 #[31, 38, 45, 51], 31) := by decide +kernel
theorem dX9_flown_60 : decode cX9_flown 60 = .ok (.aload_n 0, 1) := by decide +kernel
theorem dX9_flown_61 : decode cX9_flown 61 = .ok (.getfield 32, 3) := by decide +kernel
theorem dX9_flown_64 : decode cX9_flown 64 = .ok (.iload_n 1, 1) := by decide +kernel
theorem dX9_flown_65 : decode cX9_flown 65 = .ok (.iaload, 1) := by decide +kernel
theorem dX9_flown_66 : decode cX9_flown 66 = .ok (.ireturn, 1) := by decide +kernel
theorem dX9_flown_67 : decode cX9_flown 67 = .ok (.aload_n 0, 1) := by decide +kernel
theorem dX9_flown_68 : decode cX9_flown 68 = .ok (.getfield 35, 3) := by decide +kernel
theorem dX9_flown_71 : decode cX9_flown 71 = .ok (.iload_n 1, 1) := by decide +kernel
theorem dX9_flown_72 : decode cX9_flown 72 = .ok (.iaload, 1) := by decide +kernel
theorem dX9_flown_73 : decode cX9_flown 73 = .ok (.ireturn, 1) := by decide +kernel
theorem dX9_flown_74 : decode cX9_flown 74 = .ok (.aload_n 0, 1) := by decide +kernel
theorem dX9_flown_75 : decode cX9_flown 75 = .ok (.iload_n 1, 1) := by decide +kernel
theorem dX9_flown_76 : decode cX9_flown 76 = .ok (.invokevirtual 227, 3) := by decide +kernel
theorem dX9_flown_79 : decode cX9_flown 79 = .ok (.ireturn, 1) := by decide +kernel
theorem dX9_flown_80 : decode cX9_flown 80 = .ok (.aload_n 0, 1) := by decide +kernel
theorem dX9_flown_81 : decode cX9_flown 81 = .ok (.getfield 38, 3) := by decide +kernel
theorem dX9_flown_84 : decode cX9_flown 84 = .ok (.iload_n 1, 1) := by decide +kernel
theorem dX9_flown_85 : decode cX9_flown 85 = .ok (.iaload, 1) := by decide +kernel
theorem dX9_flown_86 : decode cX9_flown 86 = .ok (.aload_n 0, 1) := by decide +kernel
theorem dX9_flown_87 : decode cX9_flown 87 = .ok (.getfield 35, 3) := by decide +kernel
theorem dX9_flown_90 : decode cX9_flown 90 = .ok (.iload_n 1, 1) := by decide +kernel
theorem dX9_flown_91 : decode cX9_flown 91 = .ok (.iaload, 1) := by decide +kernel
theorem dX9_flown_92 : decode cX9_flown 92 = .ok (.isub, 1) := by decide +kernel
theorem dX9_flown_93 : decode cX9_flown 93 = .ok (.ireturn, 1) := by decide +kernel
theorem dX9_flown_94 : decode cX9_flown 94 = .ok (.iconst (-1), 1) := by decide +kernel
theorem dX9_flown_95 : decode cX9_flown 95 = .ok (.ireturn, 1) := by decide +kernel
def pX9_flown (x1 : Int32) (x2 : Int32) (M : Mm) : Option (Int32 × Mm) :=
bnd (mset M 0 0 0) fun M1 =>
(pX9_sorties M1).bind fun v3 =>
if (pX9_isIn x1 0 (v3 - 1)) = 0 then
(some ((-1), M1))
else
((pX9_goes M1).bind fun v5 =>
if v5.1 = 0 then
(some ((-1), v5.2))
else
(if x2 = 0 then
((ald v5.2 8 8 x1).bind fun v7 =>
some (v7, v5.2))
else
(if x2 = 1 then
((ald v5.2 9 8 x1).bind fun v9 =>
some (v9, v5.2))
else
(if x2 = 2 then
((pX9_airOf x1 v5.2).bind fun v11 =>
some (v11, v5.2))
else
(if x2 = 3 then
((ald v5.2 10 8 x1).bind fun v13 =>
(ald v5.2 9 8 x1).bind fun v15 =>
some (v13 - v15, v5.2))
else
(some ((-1), v5.2)))))))
abbrev zX9_flown : Zx := (cX9_flown, RX9, 3, 5, (some .int))
set_option maxRecDepth 100000 in
set_option maxHeartbeats 4000000 in
theorem tX9_flown {l : Launch} {Y : Sx} {M : Mm} {x1 : Int32} {x2 : Int32} {q : Int32 × Mm} (hY : isB Y) (h : pX9_flown x1 x2 M = some q) : Ct l Y yX9_flown cX9_flown 3 (some .int) 5 [.ref (adr Y 0), .int x1, .int x2] M (some q.1) q.2 := by
  refine Ct.of (by decide) rfl (lv := [(0, .ref (adr Y 0)), (1, .int x1), (2, .int x2)]) rfl ?_
  intro K hkl C
  change Cx K zX9_flown Y at C
  subst hkl
  unfold pX9_flown at h
  show Wp K zX9_flown Y (Qm K Y (some q.1) q.2) M 0 [(0, .ref (adr Y 0)), (1, .int x1), (2, .int x2)] []
  refine w_aload_n C (pc := 0) dX9_flown_0 0 rfl ?_
  refine w_iconst C (pc := 1) dX9_flown_1 (v := 0) (by decide) ?_
  obtain ⟨M1, e2, h⟩ := bn h
  refine w_putI C (pc := 2) dX9_flown_2 fp_X9_66 (sB_0 hY) rfl ?_
  rw [e2]
  refine w_iload_n C (pc := 5) dX9_flown_5 1 rfl ?_
  refine w_iconst C (pc := 6) dX9_flown_6 (v := 0) (by decide) ?_
  refine w_aload_n C (pc := 7) dX9_flown_7 0 rfl ?_
  obtain ⟨v3, e4, h⟩ := ob h
  refine w_cVi C (pc := 8) dX9_flown_8 my_X9_sorties mi_X9_sorties ml_X9_118 (sB_0 hY) rfl rfl rfl [] rfl rfl (Nat.le_of_ble_eq_true rfl) (tX9_sorties hY  e4) ?_
  refine w_iconst C (pc := 11) dX9_flown_11 (v := 1) (by decide) ?_
  refine w_isub C (pc := 12) dX9_flown_12 ?_
  refine w_cSi C (pc := 13) dX9_flown_13 my_X9_isIn ms_X9_isIn ml_X9_70 rfl rfl [.int x1, .int 0, .int (v3 - 1)] rfl rfl (Nat.le_of_ble_eq_true rfl) (tX9_isIn  rfl) ?_
  refine w_ifeq C (pc := 16) 26 dX9_flown_16 (by decide) (fun c => ?_) (fun c => ?_)
  · have h := it_t h c
    refine w_iconst C (pc := 26) dX9_flown_26 (v := (-1)) (by decide) ?_
    exact w_ret C (pc := 27) dX9_flown_27 rfl (Option.some.inj h)
  · have h := it_f h c
    refine w_aload_n C (pc := 19) dX9_flown_19 0 rfl ?_
    obtain ⟨v5, e6, h⟩ := ob h
    refine w_cVi C (pc := 20) dX9_flown_20 my_X9_goes mi_X9_goes ml_X9_223 (sB_0 hY) rfl rfl rfl [] rfl rfl (Nat.le_of_ble_eq_true rfl) (tX9_goes hY  e6) ?_
    refine w_ifne C (pc := 23) 28 dX9_flown_23 (by decide) (fun c => ?_) (fun c => ?_)
    · have h := it_t h c
      refine w_iconst C (pc := 26) dX9_flown_26 (v := (-1)) (by decide) ?_
      exact w_ret C (pc := 27) dX9_flown_27 rfl (Option.some.inj h)
    · have h := it_f h c
      refine w_iload_n C (pc := 28) dX9_flown_28 2 rfl ?_
      by_cases c29_0 : x2 = 0
      · have h := it_t h c29_0
        refine w_swIn C (pc := 29) (v := 0) 60 dX9_flown_29 c29_0 (by decide) (by decide) rfl (by decide) ?_
        refine w_aload_n C (pc := 60) dX9_flown_60 0 rfl ?_
        refine w_getR C (pc := 61) dX9_flown_61 f_X9_32 (sB_0 hY) rfl ?_
        refine w_iload_n C (pc := 64) dX9_flown_64 1 rfl ?_
        obtain ⟨v7, e8, h⟩ := ob h
        refine w_iald C (pc := 65) dX9_flown_65 (sB_8 hY) e8 ?_
        exact w_ret C (pc := 66) dX9_flown_66 rfl (Option.some.inj h)
      have h := it_f h c29_0
      by_cases c29_1 : x2 = 1
      · have h := it_t h c29_1
        refine w_swIn C (pc := 29) (v := 1) 67 dX9_flown_29 c29_1 (by decide) (by decide) rfl (by decide) ?_
        refine w_aload_n C (pc := 67) dX9_flown_67 0 rfl ?_
        refine w_getR C (pc := 68) dX9_flown_68 f_X9_35 (sB_0 hY) rfl ?_
        refine w_iload_n C (pc := 71) dX9_flown_71 1 rfl ?_
        obtain ⟨v9, e10, h⟩ := ob h
        refine w_iald C (pc := 72) dX9_flown_72 (sB_9 hY) e10 ?_
        exact w_ret C (pc := 73) dX9_flown_73 rfl (Option.some.inj h)
      have h := it_f h c29_1
      by_cases c29_2 : x2 = 2
      · have h := it_t h c29_2
        refine w_swIn C (pc := 29) (v := 2) 74 dX9_flown_29 c29_2 (by decide) (by decide) rfl (by decide) ?_
        refine w_aload_n C (pc := 74) dX9_flown_74 0 rfl ?_
        refine w_iload_n C (pc := 75) dX9_flown_75 1 rfl ?_
        obtain ⟨v11, e12, h⟩ := ob h
        refine w_cVi C (pc := 76) dX9_flown_76 my_X9_airOf mi_X9_airOf ml_X9_227 (sB_0 hY) rfl rfl rfl [.int x1] rfl rfl (Nat.le_of_ble_eq_true rfl) (tX9_airOf hY  e12) ?_
        exact w_ret C (pc := 79) dX9_flown_79 rfl (Option.some.inj h)
      have h := it_f h c29_2
      by_cases c29_3 : x2 = 3
      · have h := it_t h c29_3
        refine w_swIn C (pc := 29) (v := 3) 80 dX9_flown_29 c29_3 (by decide) (by decide) rfl (by decide) ?_
        refine w_aload_n C (pc := 80) dX9_flown_80 0 rfl ?_
        refine w_getR C (pc := 81) dX9_flown_81 f_X9_38 (sB_0 hY) rfl ?_
        refine w_iload_n C (pc := 84) dX9_flown_84 1 rfl ?_
        obtain ⟨v13, e14, h⟩ := ob h
        refine w_iald C (pc := 85) dX9_flown_85 (sB_10 hY) e14 ?_
        refine w_aload_n C (pc := 86) dX9_flown_86 0 rfl ?_
        refine w_getR C (pc := 87) dX9_flown_87 f_X9_35 (sB_0 hY) rfl ?_
        refine w_iload_n C (pc := 90) dX9_flown_90 1 rfl ?_
        obtain ⟨v15, e16, h⟩ := ob h
        refine w_iald C (pc := 91) dX9_flown_91 (sB_9 hY) e16 ?_
        refine w_isub C (pc := 92) dX9_flown_92 ?_
        exact w_ret C (pc := 93) dX9_flown_93 rfl (Option.some.inj h)
      have h := it_f h c29_3
      refine w_swOut C (pc := 29) 94 dX9_flown_29 (by have q0 := lv_neT c29_0 (a := 0) rfl; have q1 := lv_neT c29_1 (a := 1) rfl; have q2 := lv_neT c29_2 (a := 2) rfl; have q3 := lv_neT c29_3 (a := 3) rfl; omega) (by decide) ?_
      refine w_iconst C (pc := 94) dX9_flown_94 (v := (-1)) (by decide) ?_
      exact w_ret C (pc := 95) dX9_flown_95 rfl (Option.some.inj h)
theorem dX9_isCustomer_0 : decode cX9_isCustomer 0 = .ok (.iload_n 1, 1) := by decide +kernel
theorem dX9_isCustomer_1 : decode cX9_isCustomer 1 = .ok (.iconst 1, 1) := by decide +kernel
theorem dX9_isCustomer_2 : decode cX9_isCustomer 2 = .ok (.aload_n 0, 1) := by decide +kernel
theorem dX9_isCustomer_3 : decode cX9_isCustomer 3 = .ok (.invokevirtual 74, 3) := by decide +kernel
theorem dX9_isCustomer_6 : decode cX9_isCustomer 6 = .ok (.invokestatic 70, 3) := by decide +kernel
theorem dX9_isCustomer_9 : decode cX9_isCustomer 9 = .ok (.ireturn, 1) := by decide +kernel
def pX9_isCustomer (x1 : Int32) (M : Mm) : Option (Int32) :=
(pX9_customers M).bind fun v1 =>
some ((pX9_isIn x1 1 v1) &&& 1)
abbrev zX9_isCustomer : Zx := (cX9_isCustomer, RX9, 2, 1, (some .boolean))
set_option maxRecDepth 100000 in
set_option maxHeartbeats 4000000 in
theorem tX9_isCustomer {l : Launch} {Y : Sx} {M : Mm} {x1 : Int32} {q : Int32} (hY : isB Y) (h : pX9_isCustomer x1 M = some q) : Ct l Y yX9_isCustomer cX9_isCustomer 2 (some .boolean) 1 [.ref (adr Y 0), .int x1] M (some q) M := by
  refine Ct.of (by decide) rfl (lv := [(0, .ref (adr Y 0)), (1, .int x1)]) rfl ?_
  intro K hkl C
  change Cx K zX9_isCustomer Y at C
  subst hkl
  unfold pX9_isCustomer at h
  show Wp K zX9_isCustomer Y (Qm K Y (some q) M) M 0 [(0, .ref (adr Y 0)), (1, .int x1)] []
  refine w_iload_n C (pc := 0) dX9_isCustomer_0 1 rfl ?_
  refine w_iconst C (pc := 1) dX9_isCustomer_1 (v := 1) (by decide) ?_
  refine w_aload_n C (pc := 2) dX9_isCustomer_2 0 rfl ?_
  obtain ⟨v1, e2, h⟩ := ob h
  refine w_cVi C (pc := 3) dX9_isCustomer_3 my_X9_customers mi_X9_customers ml_X9_74 (sB_0 hY) rfl rfl rfl [] rfl rfl (Nat.le_of_ble_eq_true rfl) (tX9_customers hY  e2) ?_
  refine w_cSi C (pc := 6) dX9_isCustomer_6 my_X9_isIn ms_X9_isIn ml_X9_70 rfl rfl [.int x1, .int 1, .int v1] rfl rfl (Nat.le_of_ble_eq_true rfl) (tX9_isIn  rfl) ?_
  exact w_retZR C (pc := 9) dX9_isCustomer_9 rfl (Option.some.inj h)
theorem dX9_maySend_0 : decode cX9_maySend 0 = .ok (.iload_n 1, 1) := by decide +kernel
theorem dX9_maySend_1 : decode cX9_maySend 1 = .ok (.iconst 0, 1) := by decide +kernel
theorem dX9_maySend_2 : decode cX9_maySend 2 = .ok (.iconst 1, 1) := by decide +kernel
theorem dX9_maySend_3 : decode cX9_maySend 3 = .ok (.invokestatic 70, 3) := by decide +kernel
theorem dX9_maySend_6 : decode cX9_maySend 6 = .ok (.ifCond .eq 36, 3) := by decide +kernel
theorem dX9_maySend_9 : decode cX9_maySend 9 = .ok (.iload_n 2, 1) := by decide +kernel
theorem dX9_maySend_10 : decode cX9_maySend 10 = .ok (.iconst 0, 1) := by decide +kernel
theorem dX9_maySend_11 : decode cX9_maySend 11 = .ok (.bipush 9, 2) := by decide +kernel
theorem dX9_maySend_13 : decode cX9_maySend 13 = .ok (.invokestatic 70, 3) := by decide +kernel
theorem dX9_maySend_16 : decode cX9_maySend 16 = .ok (.ifCond .eq 26, 3) := by decide +kernel
theorem dX9_maySend_19 : decode cX9_maySend 19 = .ok (.iload 4, 2) := by decide +kernel
theorem dX9_maySend_21 : decode cX9_maySend 21 = .ok (.iconst 0, 1) := by decide +kernel
theorem dX9_maySend_22 : decode cX9_maySend 22 = .ok (.bipush 9, 2) := by decide +kernel
theorem dX9_maySend_24 : decode cX9_maySend 24 = .ok (.invokestatic 70, 3) := by decide +kernel
theorem dX9_maySend_27 : decode cX9_maySend 27 = .ok (.ifCond .eq 15, 3) := by decide +kernel
theorem dX9_maySend_30 : decode cX9_maySend 30 = .ok (.aload_n 0, 1) := by decide +kernel
theorem dX9_maySend_31 : decode cX9_maySend 31 = .ok (.iload_n 3, 1) := by decide +kernel
theorem dX9_maySend_32 : decode cX9_maySend 32 = .ok (.invokevirtual 103, 3) := by decide +kernel
theorem dX9_maySend_35 : decode cX9_maySend 35 = .ok (.ifCond .eq 7, 3) := by decide +kernel
theorem dX9_maySend_38 : decode cX9_maySend 38 = .ok (.iconst 1, 1) := by decide +kernel
theorem dX9_maySend_39 : decode cX9_maySend 39 = .ok (.goto 4, 3) := by decide +kernel
theorem dX9_maySend_42 : decode cX9_maySend 42 = .ok (.iconst 0, 1) := by decide +kernel
theorem dX9_maySend_43 : decode cX9_maySend 43 = .ok (.ireturn, 1) := by decide +kernel
def pX9_maySend (x1 : Int32) (x2 : Int32) (x3 : Int32) (x4 : Int32) (M : Mm) : Option (Int32) :=
if (pX9_isIn x1 0 1) = 0 then
(some 0)
else
(if (pX9_isIn x2 0 9) = 0 then
(some 0)
else
(if (pX9_isIn x4 0 9) = 0 then
(some 0)
else
((pX9_isCustomer x3 M).bind fun v1 =>
if v1 = 0 then
(some 0)
else
(some 1))))
abbrev zX9_maySend : Zx := (cX9_maySend, RX9, 5, 2, (some .boolean))
set_option maxRecDepth 100000 in
set_option maxHeartbeats 4000000 in
theorem tX9_maySend {l : Launch} {Y : Sx} {M : Mm} {x1 : Int32} {x2 : Int32} {x3 : Int32} {x4 : Int32} {q : Int32} (hY : isB Y) (h : pX9_maySend x1 x2 x3 x4 M = some q) : Ct l Y yX9_maySend cX9_maySend 5 (some .boolean) 2 [.ref (adr Y 0), .int x1, .int x2, .int x3, .int x4] M (some q) M := by
  refine Ct.of (by decide) rfl (lv := [(0, .ref (adr Y 0)), (1, .int x1), (2, .int x2), (3, .int x3), (4, .int x4)]) rfl ?_
  intro K hkl C
  change Cx K zX9_maySend Y at C
  subst hkl
  unfold pX9_maySend at h
  show Wp K zX9_maySend Y (Qm K Y (some q) M) M 0 [(0, .ref (adr Y 0)), (1, .int x1), (2, .int x2), (3, .int x3), (4, .int x4)] []
  refine w_iload_n C (pc := 0) dX9_maySend_0 1 rfl ?_
  refine w_iconst C (pc := 1) dX9_maySend_1 (v := 0) (by decide) ?_
  refine w_iconst C (pc := 2) dX9_maySend_2 (v := 1) (by decide) ?_
  refine w_cSi C (pc := 3) dX9_maySend_3 my_X9_isIn ms_X9_isIn ml_X9_70 rfl rfl [.int x1, .int 0, .int 1] rfl rfl (Nat.le_of_ble_eq_true rfl) (tX9_isIn  rfl) ?_
  refine w_ifeq C (pc := 6) 42 dX9_maySend_6 (by decide) (fun c => ?_) (fun c => ?_)
  · have h := it_t h c
    refine w_iconst C (pc := 42) dX9_maySend_42 (v := 0) (by decide) ?_
    exact w_retzR C (pc := 43) dX9_maySend_43 rfl (by decide) (Option.some.inj h)
  · have h := it_f h c
    refine w_iload_n C (pc := 9) dX9_maySend_9 2 rfl ?_
    refine w_iconst C (pc := 10) dX9_maySend_10 (v := 0) (by decide) ?_
    refine w_bipush C (pc := 11) dX9_maySend_11 (v := 9) (by decide) ?_
    refine w_cSi C (pc := 13) dX9_maySend_13 my_X9_isIn ms_X9_isIn ml_X9_70 rfl rfl [.int x2, .int 0, .int 9] rfl rfl (Nat.le_of_ble_eq_true rfl) (tX9_isIn  rfl) ?_
    refine w_ifeq C (pc := 16) 42 dX9_maySend_16 (by decide) (fun c => ?_) (fun c => ?_)
    · have h := it_t h c
      refine w_iconst C (pc := 42) dX9_maySend_42 (v := 0) (by decide) ?_
      exact w_retzR C (pc := 43) dX9_maySend_43 rfl (by decide) (Option.some.inj h)
    · have h := it_f h c
      refine w_iload C (pc := 19) dX9_maySend_19 4 rfl ?_
      refine w_iconst C (pc := 21) dX9_maySend_21 (v := 0) (by decide) ?_
      refine w_bipush C (pc := 22) dX9_maySend_22 (v := 9) (by decide) ?_
      refine w_cSi C (pc := 24) dX9_maySend_24 my_X9_isIn ms_X9_isIn ml_X9_70 rfl rfl [.int x4, .int 0, .int 9] rfl rfl (Nat.le_of_ble_eq_true rfl) (tX9_isIn  rfl) ?_
      refine w_ifeq C (pc := 27) 42 dX9_maySend_27 (by decide) (fun c => ?_) (fun c => ?_)
      · have h := it_t h c
        refine w_iconst C (pc := 42) dX9_maySend_42 (v := 0) (by decide) ?_
        exact w_retzR C (pc := 43) dX9_maySend_43 rfl (by decide) (Option.some.inj h)
      · have h := it_f h c
        refine w_aload_n C (pc := 30) dX9_maySend_30 0 rfl ?_
        refine w_iload_n C (pc := 31) dX9_maySend_31 3 rfl ?_
        obtain ⟨v1, e2, h⟩ := ob h
        refine w_cVi C (pc := 32) dX9_maySend_32 my_X9_isCustomer mi_X9_isCustomer ml_X9_103 (sB_0 hY) rfl rfl rfl [.int x3] rfl rfl (Nat.le_of_ble_eq_true rfl) (tX9_isCustomer hY  e2) ?_
        refine w_ifeq C (pc := 35) 42 dX9_maySend_35 (by decide) (fun c => ?_) (fun c => ?_)
        · have h := it_t h c
          refine w_iconst C (pc := 42) dX9_maySend_42 (v := 0) (by decide) ?_
          exact w_retzR C (pc := 43) dX9_maySend_43 rfl (by decide) (Option.some.inj h)
        · have h := it_f h c
          refine w_iconst C (pc := 38) dX9_maySend_38 (v := 1) (by decide) ?_
          refine w_goto C (pc := 39) 43 dX9_maySend_39 (by decide) ?_
          exact w_retzR C (pc := 43) dX9_maySend_43 rfl (by decide) (Option.some.inj h)
theorem dX9_sends_0 : decode cX9_sends 0 = .ok (.bipush 71, 2) := by decide +kernel
theorem dX9_sends_2 : decode cX9_sends 2 = .ok (.iconst 4, 1) := by decide +kernel
theorem dX9_sends_3 : decode cX9_sends 3 = .ok (.aload_n 0, 1) := by decide +kernel
theorem dX9_sends_4 : decode cX9_sends 4 = .ok (.getfield 7, 3) := by decide +kernel
theorem dX9_sends_7 : decode cX9_sends 7 = .ok (.bipush 70, 2) := by decide +kernel
theorem dX9_sends_9 : decode cX9_sends 9 = .ok (.iaload, 1) := by decide +kernel
theorem dX9_sends_10 : decode cX9_sends 10 = .ok (.imul, 1) := by decide +kernel
theorem dX9_sends_11 : decode cX9_sends 11 = .ok (.iadd, 1) := by decide +kernel
theorem dX9_sends_12 : decode cX9_sends 12 = .ok (.istore 5, 2) := by decide +kernel
theorem dX9_sends_14 : decode cX9_sends 14 = .ok (.aload_n 0, 1) := by decide +kernel
theorem dX9_sends_15 : decode cX9_sends 15 = .ok (.getfield 7, 3) := by decide +kernel
theorem dX9_sends_18 : decode cX9_sends 18 = .ok (.iload 5, 2) := by decide +kernel
theorem dX9_sends_20 : decode cX9_sends 20 = .ok (.iload_n 1, 1) := by decide +kernel
theorem dX9_sends_21 : decode cX9_sends 21 = .ok (.iastore, 1) := by decide +kernel
theorem dX9_sends_22 : decode cX9_sends 22 = .ok (.aload_n 0, 1) := by decide +kernel
theorem dX9_sends_23 : decode cX9_sends 23 = .ok (.getfield 7, 3) := by decide +kernel
theorem dX9_sends_26 : decode cX9_sends 26 = .ok (.iload 5, 2) := by decide +kernel
theorem dX9_sends_28 : decode cX9_sends 28 = .ok (.iconst 1, 1) := by decide +kernel
theorem dX9_sends_29 : decode cX9_sends 29 = .ok (.iadd, 1) := by decide +kernel
theorem dX9_sends_30 : decode cX9_sends 30 = .ok (.iload_n 2, 1) := by decide +kernel
theorem dX9_sends_31 : decode cX9_sends 31 = .ok (.iastore, 1) := by decide +kernel
theorem dX9_sends_32 : decode cX9_sends 32 = .ok (.aload_n 0, 1) := by decide +kernel
theorem dX9_sends_33 : decode cX9_sends 33 = .ok (.getfield 7, 3) := by decide +kernel
theorem dX9_sends_36 : decode cX9_sends 36 = .ok (.iload 5, 2) := by decide +kernel
theorem dX9_sends_38 : decode cX9_sends 38 = .ok (.iconst 2, 1) := by decide +kernel
theorem dX9_sends_39 : decode cX9_sends 39 = .ok (.iadd, 1) := by decide +kernel
theorem dX9_sends_40 : decode cX9_sends 40 = .ok (.iload_n 3, 1) := by decide +kernel
theorem dX9_sends_41 : decode cX9_sends 41 = .ok (.iastore, 1) := by decide +kernel
theorem dX9_sends_42 : decode cX9_sends 42 = .ok (.aload_n 0, 1) := by decide +kernel
theorem dX9_sends_43 : decode cX9_sends 43 = .ok (.getfield 7, 3) := by decide +kernel
theorem dX9_sends_46 : decode cX9_sends 46 = .ok (.iload 5, 2) := by decide +kernel
theorem dX9_sends_48 : decode cX9_sends 48 = .ok (.iconst 3, 1) := by decide +kernel
theorem dX9_sends_49 : decode cX9_sends 49 = .ok (.iadd, 1) := by decide +kernel
theorem dX9_sends_50 : decode cX9_sends 50 = .ok (.iload 4, 2) := by decide +kernel
theorem dX9_sends_52 : decode cX9_sends 52 = .ok (.iastore, 1) := by decide +kernel
theorem dX9_sends_53 : decode cX9_sends 53 = .ok (.aload_n 0, 1) := by decide +kernel
theorem dX9_sends_54 : decode cX9_sends 54 = .ok (.getfield 7, 3) := by decide +kernel
theorem dX9_sends_57 : decode cX9_sends 57 = .ok (.bipush 70, 2) := by decide +kernel
theorem dX9_sends_59 : decode cX9_sends 59 = .ok (.dup2, 1) := by decide +kernel
theorem dX9_sends_60 : decode cX9_sends 60 = .ok (.iaload, 1) := by decide +kernel
theorem dX9_sends_61 : decode cX9_sends 61 = .ok (.iconst 1, 1) := by decide +kernel
theorem dX9_sends_62 : decode cX9_sends 62 = .ok (.iadd, 1) := by decide +kernel
theorem dX9_sends_63 : decode cX9_sends 63 = .ok (.iastore, 1) := by decide +kernel
theorem dX9_sends_64 : decode cX9_sends 64 = .ok (.return_, 1) := by decide +kernel
def pX9_sends (x1 : Int32) (x2 : Int32) (x3 : Int32) (x4 : Int32) (M : Mm) : Option (Mm) :=
(ald M 1 160 70).bind fun v1 =>
bnd (71 + (4 * v1)) fun v3 =>
(ast M 1 160 v3 x1).bind fun M4 =>
(ast M4 1 160 (v3 + 1) x2).bind fun M6 =>
(ast M6 1 160 (v3 + 2) x3).bind fun M8 =>
(ast M8 1 160 (v3 + 3) x4).bind fun M10 =>
(ald M10 1 160 70).bind fun v12 =>
(ast M10 1 160 70 (v12 + 1)).bind fun M14 =>
some M14
abbrev zX9_sends : Zx := (cX9_sends, RX9, 6, 0, none)
set_option maxRecDepth 100000 in
set_option maxHeartbeats 4000000 in
theorem tX9_sends {l : Launch} {Y : Sx} {M : Mm} {x1 : Int32} {x2 : Int32} {x3 : Int32} {x4 : Int32} {q : Mm} (hY : isB Y) (h : pX9_sends x1 x2 x3 x4 M = some q) : Ct l Y yX9_sends cX9_sends 6 none 0 [.ref (adr Y 0), .int x1, .int x2, .int x3, .int x4] M none q := by
  refine Ct.of (by decide) rfl (lv := [(0, .ref (adr Y 0)), (1, .int x1), (2, .int x2), (3, .int x3), (4, .int x4)]) rfl ?_
  intro K hkl C
  change Cx K zX9_sends Y at C
  subst hkl
  unfold pX9_sends at h
  show Wp K zX9_sends Y (Qm K Y none q) M 0 [(0, .ref (adr Y 0)), (1, .int x1), (2, .int x2), (3, .int x3), (4, .int x4)] []
  refine w_bipush C (pc := 0) dX9_sends_0 (v := 71) (by decide) ?_
  refine w_iconst C (pc := 2) dX9_sends_2 (v := 4) (by decide) ?_
  refine w_aload_n C (pc := 3) dX9_sends_3 0 rfl ?_
  refine w_getR C (pc := 4) dX9_sends_4 f_X9_7 (sB_0 hY) rfl ?_
  refine w_bipush C (pc := 7) dX9_sends_7 (v := 70) (by decide) ?_
  obtain ⟨v1, e2, h⟩ := ob h
  refine w_iald C (pc := 9) dX9_sends_9 (sB_1 hY) e2 ?_
  refine w_imul C (pc := 10) dX9_sends_10 ?_
  refine w_iadd C (pc := 11) dX9_sends_11 ?_
  refine w_bnd h (fun v3 h => ?_)
  refine w_istore C (pc := 12) dX9_sends_12 (lv' := [(0, .ref (adr Y 0)), (1, .int x1), (2, .int x2), (3, .int x3), (4, .int x4), (5, .int v3)]) rfl rfl rfl ?_
  refine w_aload_n C (pc := 14) dX9_sends_14 0 rfl ?_
  refine w_getR C (pc := 15) dX9_sends_15 f_X9_7 (sB_0 hY) rfl ?_
  refine w_iload C (pc := 18) dX9_sends_18 5 rfl ?_
  refine w_iload_n C (pc := 20) dX9_sends_20 1 rfl ?_
  obtain ⟨M4, e5, h⟩ := ob h
  refine w_iast C (pc := 21) dX9_sends_21 (sB_1 hY) e5 ?_
  refine w_aload_n C (pc := 22) dX9_sends_22 0 rfl ?_
  refine w_getR C (pc := 23) dX9_sends_23 f_X9_7 (sB_0 hY) rfl ?_
  refine w_iload C (pc := 26) dX9_sends_26 5 rfl ?_
  refine w_iconst C (pc := 28) dX9_sends_28 (v := 1) (by decide) ?_
  refine w_iadd C (pc := 29) dX9_sends_29 ?_
  refine w_iload_n C (pc := 30) dX9_sends_30 2 rfl ?_
  obtain ⟨M6, e7, h⟩ := ob h
  refine w_iast C (pc := 31) dX9_sends_31 (sB_1 hY) e7 ?_
  refine w_aload_n C (pc := 32) dX9_sends_32 0 rfl ?_
  refine w_getR C (pc := 33) dX9_sends_33 f_X9_7 (sB_0 hY) rfl ?_
  refine w_iload C (pc := 36) dX9_sends_36 5 rfl ?_
  refine w_iconst C (pc := 38) dX9_sends_38 (v := 2) (by decide) ?_
  refine w_iadd C (pc := 39) dX9_sends_39 ?_
  refine w_iload_n C (pc := 40) dX9_sends_40 3 rfl ?_
  obtain ⟨M8, e9, h⟩ := ob h
  refine w_iast C (pc := 41) dX9_sends_41 (sB_1 hY) e9 ?_
  refine w_aload_n C (pc := 42) dX9_sends_42 0 rfl ?_
  refine w_getR C (pc := 43) dX9_sends_43 f_X9_7 (sB_0 hY) rfl ?_
  refine w_iload C (pc := 46) dX9_sends_46 5 rfl ?_
  refine w_iconst C (pc := 48) dX9_sends_48 (v := 3) (by decide) ?_
  refine w_iadd C (pc := 49) dX9_sends_49 ?_
  refine w_iload C (pc := 50) dX9_sends_50 4 rfl ?_
  obtain ⟨M10, e11, h⟩ := ob h
  refine w_iast C (pc := 52) dX9_sends_52 (sB_1 hY) e11 ?_
  refine w_aload_n C (pc := 53) dX9_sends_53 0 rfl ?_
  refine w_getR C (pc := 54) dX9_sends_54 f_X9_7 (sB_0 hY) rfl ?_
  refine w_bipush C (pc := 57) dX9_sends_57 (v := 70) (by decide) ?_
  refine w_dup2 C (pc := 59) dX9_sends_59 rfl rfl ?_
  obtain ⟨v12, e13, h⟩ := ob h
  refine w_iald C (pc := 60) dX9_sends_60 (sB_1 hY) e13 ?_
  refine w_iconst C (pc := 61) dX9_sends_61 (v := 1) (by decide) ?_
  refine w_iadd C (pc := 62) dX9_sends_62 ?_
  obtain ⟨M14, e15, h⟩ := ob h
  refine w_iast C (pc := 63) dX9_sends_63 (sB_1 hY) e15 ?_
  exact w_retV C (pc := 64) dX9_sends_64 rfl (Option.some.inj h)
theorem dX9_fly_0 : decode cX9_fly 0 = .ok (.aload_n 0, 1) := by decide +kernel
theorem dX9_fly_1 : decode cX9_fly 1 = .ok (.iconst 0, 1) := by decide +kernel
theorem dX9_fly_2 : decode cX9_fly 2 = .ok (.putfield 66, 3) := by decide +kernel
theorem dX9_fly_5 : decode cX9_fly 5 = .ok (.aload_n 0, 1) := by decide +kernel
theorem dX9_fly_6 : decode cX9_fly 6 = .ok (.iload_n 1, 1) := by decide +kernel
theorem dX9_fly_7 : decode cX9_fly 7 = .ok (.iload_n 2, 1) := by decide +kernel
theorem dX9_fly_8 : decode cX9_fly 8 = .ok (.iload_n 3, 1) := by decide +kernel
theorem dX9_fly_9 : decode cX9_fly 9 = .ok (.iload 4, 2) := by decide +kernel
theorem dX9_fly_11 : decode cX9_fly 11 = .ok (.invokevirtual 114, 3) := by decide +kernel
theorem dX9_fly_14 : decode cX9_fly 14 = .ok (.ifCond .ne 5, 3) := by decide +kernel
theorem dX9_fly_17 : decode cX9_fly 17 = .ok (.iconst (-1), 1) := by decide +kernel
theorem dX9_fly_18 : decode cX9_fly 18 = .ok (.ireturn, 1) := by decide +kernel
theorem dX9_fly_19 : decode cX9_fly 19 = .ok (.aload_n 0, 1) := by decide +kernel
theorem dX9_fly_20 : decode cX9_fly 20 = .ok (.invokevirtual 118, 3) := by decide +kernel
theorem dX9_fly_23 : decode cX9_fly 23 = .ok (.bipush 8, 2) := by decide +kernel
theorem dX9_fly_25 : decode cX9_fly 25 = .ok (.if_icmp .ne 6, 3) := by decide +kernel
theorem dX9_fly_28 : decode cX9_fly 28 = .ok (.bipush (-2), 2) := by decide +kernel
theorem dX9_fly_30 : decode cX9_fly 30 = .ok (.ireturn, 1) := by decide +kernel
theorem dX9_fly_31 : decode cX9_fly 31 = .ok (.aload_n 0, 1) := by decide +kernel
theorem dX9_fly_32 : decode cX9_fly 32 = .ok (.iload_n 1, 1) := by decide +kernel
theorem dX9_fly_33 : decode cX9_fly 33 = .ok (.iload_n 2, 1) := by decide +kernel
theorem dX9_fly_34 : decode cX9_fly 34 = .ok (.iload_n 3, 1) := by decide +kernel
theorem dX9_fly_35 : decode cX9_fly 35 = .ok (.iload 4, 2) := by decide +kernel
theorem dX9_fly_37 : decode cX9_fly 37 = .ok (.invokevirtual 121, 3) := by decide +kernel
theorem dX9_fly_40 : decode cX9_fly 40 = .ok (.aload_n 0, 1) := by decide +kernel
theorem dX9_fly_41 : decode cX9_fly 41 = .ok (.invokevirtual 118, 3) := by decide +kernel
theorem dX9_fly_44 : decode cX9_fly 44 = .ok (.iconst 1, 1) := by decide +kernel
theorem dX9_fly_45 : decode cX9_fly 45 = .ok (.isub, 1) := by decide +kernel
theorem dX9_fly_46 : decode cX9_fly 46 = .ok (.ireturn, 1) := by decide +kernel
def pX9_fly (x1 : Int32) (x2 : Int32) (x3 : Int32) (x4 : Int32) (M : Mm) : Option (Int32 × Mm) :=
bnd (mset M 0 0 0) fun M1 =>
(pX9_maySend x1 x2 x3 x4 M1).bind fun v3 =>
if v3 = 0 then
(some ((-1), M1))
else
((pX9_sorties M1).bind fun v5 =>
if v5 = 8 then
(some ((-2), M1))
else
((pX9_sends x1 x2 x3 x4 M1).bind fun v7 =>
(pX9_sorties v7).bind fun v9 =>
some (v9 - 1, v7)))
abbrev zX9_fly : Zx := (cX9_fly, RX9, 5, 3, (some .int))
set_option maxRecDepth 100000 in
set_option maxHeartbeats 4000000 in
theorem tX9_fly {l : Launch} {Y : Sx} {M : Mm} {x1 : Int32} {x2 : Int32} {x3 : Int32} {x4 : Int32} {q : Int32 × Mm} (hY : isB Y) (h : pX9_fly x1 x2 x3 x4 M = some q) : Ct l Y yX9_fly cX9_fly 5 (some .int) 3 [.ref (adr Y 0), .int x1, .int x2, .int x3, .int x4] M (some q.1) q.2 := by
  refine Ct.of (by decide) rfl (lv := [(0, .ref (adr Y 0)), (1, .int x1), (2, .int x2), (3, .int x3), (4, .int x4)]) rfl ?_
  intro K hkl C
  change Cx K zX9_fly Y at C
  subst hkl
  unfold pX9_fly at h
  show Wp K zX9_fly Y (Qm K Y (some q.1) q.2) M 0 [(0, .ref (adr Y 0)), (1, .int x1), (2, .int x2), (3, .int x3), (4, .int x4)] []
  refine w_aload_n C (pc := 0) dX9_fly_0 0 rfl ?_
  refine w_iconst C (pc := 1) dX9_fly_1 (v := 0) (by decide) ?_
  obtain ⟨M1, e2, h⟩ := bn h
  refine w_putI C (pc := 2) dX9_fly_2 fp_X9_66 (sB_0 hY) rfl ?_
  rw [e2]
  refine w_aload_n C (pc := 5) dX9_fly_5 0 rfl ?_
  refine w_iload_n C (pc := 6) dX9_fly_6 1 rfl ?_
  refine w_iload_n C (pc := 7) dX9_fly_7 2 rfl ?_
  refine w_iload_n C (pc := 8) dX9_fly_8 3 rfl ?_
  refine w_iload C (pc := 9) dX9_fly_9 4 rfl ?_
  obtain ⟨v3, e4, h⟩ := ob h
  refine w_cVi C (pc := 11) dX9_fly_11 my_X9_maySend mi_X9_maySend ml_X9_114 (sB_0 hY) rfl rfl rfl [.int x1, .int x2, .int x3, .int x4] rfl rfl (Nat.le_of_ble_eq_true rfl) (tX9_maySend hY  e4) ?_
  refine w_ifne C (pc := 14) 19 dX9_fly_14 (by decide) (fun c => ?_) (fun c => ?_)
  · have h := it_t h c
    refine w_iconst C (pc := 17) dX9_fly_17 (v := (-1)) (by decide) ?_
    exact w_ret C (pc := 18) dX9_fly_18 rfl (Option.some.inj h)
  · have h := it_f h c
    refine w_aload_n C (pc := 19) dX9_fly_19 0 rfl ?_
    obtain ⟨v5, e6, h⟩ := ob h
    refine w_cVi C (pc := 20) dX9_fly_20 my_X9_sorties mi_X9_sorties ml_X9_118 (sB_0 hY) rfl rfl rfl [] rfl rfl (Nat.le_of_ble_eq_true rfl) (tX9_sorties hY  e6) ?_
    refine w_bipush C (pc := 23) dX9_fly_23 (v := 8) (by decide) ?_
    refine w_icne C (pc := 25) 31 dX9_fly_25 (by decide) (fun c => ?_) (fun c => ?_)
    · have h := it_t h c
      refine w_bipush C (pc := 28) dX9_fly_28 (v := (-2)) (by decide) ?_
      exact w_ret C (pc := 30) dX9_fly_30 rfl (Option.some.inj h)
    · have h := it_f h c
      refine w_aload_n C (pc := 31) dX9_fly_31 0 rfl ?_
      refine w_iload_n C (pc := 32) dX9_fly_32 1 rfl ?_
      refine w_iload_n C (pc := 33) dX9_fly_33 2 rfl ?_
      refine w_iload_n C (pc := 34) dX9_fly_34 3 rfl ?_
      refine w_iload C (pc := 35) dX9_fly_35 4 rfl ?_
      obtain ⟨v7, e8, h⟩ := ob h
      refine w_cVv C (pc := 37) dX9_fly_37 my_X9_sends mi_X9_sends ml_X9_121 (sB_0 hY) rfl rfl rfl [.int x1, .int x2, .int x3, .int x4] rfl rfl (Nat.le_of_ble_eq_true rfl) (tX9_sends hY  e8) ?_
      refine w_aload_n C (pc := 40) dX9_fly_40 0 rfl ?_
      obtain ⟨v9, e10, h⟩ := ob h
      refine w_cVi C (pc := 41) dX9_fly_41 my_X9_sorties mi_X9_sorties ml_X9_118 (sB_0 hY) rfl rfl rfl [] rfl rfl (Nat.le_of_ble_eq_true rfl) (tX9_sorties hY  e10) ?_
      refine w_iconst C (pc := 44) dX9_fly_44 (v := 1) (by decide) ?_
      refine w_isub C (pc := 45) dX9_fly_45 ?_
      exact w_ret C (pc := 46) dX9_fly_46 rfl (Option.some.inj h)
theorem dX9_stopsAt_0 : decode cX9_stopsAt 0 = .ok (.aload_n 0, 1) := by decide +kernel
theorem dX9_stopsAt_1 : decode cX9_stopsAt 1 = .ok (.getfield 7, 3) := by decide +kernel
theorem dX9_stopsAt_4 : decode cX9_stopsAt 4 = .ok (.bipush 61, 2) := by decide +kernel
theorem dX9_stopsAt_6 : decode cX9_stopsAt 6 = .ok (.aload_n 0, 1) := by decide +kernel
theorem dX9_stopsAt_7 : decode cX9_stopsAt 7 = .ok (.getfield 7, 3) := by decide +kernel
theorem dX9_stopsAt_10 : decode cX9_stopsAt 10 = .ok (.bipush 60, 2) := by decide +kernel
theorem dX9_stopsAt_12 : decode cX9_stopsAt 12 = .ok (.iaload, 1) := by decide +kernel
theorem dX9_stopsAt_13 : decode cX9_stopsAt 13 = .ok (.iadd, 1) := by decide +kernel
theorem dX9_stopsAt_14 : decode cX9_stopsAt 14 = .ok (.iload_n 1, 1) := by decide +kernel
theorem dX9_stopsAt_15 : decode cX9_stopsAt 15 = .ok (.iastore, 1) := by decide +kernel
theorem dX9_stopsAt_16 : decode cX9_stopsAt 16 = .ok (.aload_n 0, 1) := by decide +kernel
theorem dX9_stopsAt_17 : decode cX9_stopsAt 17 = .ok (.getfield 7, 3) := by decide +kernel
theorem dX9_stopsAt_20 : decode cX9_stopsAt 20 = .ok (.bipush 60, 2) := by decide +kernel
theorem dX9_stopsAt_22 : decode cX9_stopsAt 22 = .ok (.dup2, 1) := by decide +kernel
theorem dX9_stopsAt_23 : decode cX9_stopsAt 23 = .ok (.iaload, 1) := by decide +kernel
theorem dX9_stopsAt_24 : decode cX9_stopsAt 24 = .ok (.iconst 1, 1) := by decide +kernel
theorem dX9_stopsAt_25 : decode cX9_stopsAt 25 = .ok (.iadd, 1) := by decide +kernel
theorem dX9_stopsAt_26 : decode cX9_stopsAt 26 = .ok (.iastore, 1) := by decide +kernel
theorem dX9_stopsAt_27 : decode cX9_stopsAt 27 = .ok (.return_, 1) := by decide +kernel
def pX9_stopsAt (x1 : Int32) (M : Mm) : Option (Mm) :=
(ald M 1 160 60).bind fun v1 =>
(ast M 1 160 (61 + v1) x1).bind fun M3 =>
(ald M3 1 160 60).bind fun v5 =>
(ast M3 1 160 60 (v5 + 1)).bind fun M7 =>
some M7
abbrev zX9_stopsAt : Zx := (cX9_stopsAt, RX9, 2, 0, none)
set_option maxRecDepth 100000 in
set_option maxHeartbeats 4000000 in
theorem tX9_stopsAt {l : Launch} {Y : Sx} {M : Mm} {x1 : Int32} {q : Mm} (hY : isB Y) (h : pX9_stopsAt x1 M = some q) : Ct l Y yX9_stopsAt cX9_stopsAt 2 none 0 [.ref (adr Y 0), .int x1] M none q := by
  refine Ct.of (by decide) rfl (lv := [(0, .ref (adr Y 0)), (1, .int x1)]) rfl ?_
  intro K hkl C
  change Cx K zX9_stopsAt Y at C
  subst hkl
  unfold pX9_stopsAt at h
  show Wp K zX9_stopsAt Y (Qm K Y none q) M 0 [(0, .ref (adr Y 0)), (1, .int x1)] []
  refine w_aload_n C (pc := 0) dX9_stopsAt_0 0 rfl ?_
  refine w_getR C (pc := 1) dX9_stopsAt_1 f_X9_7 (sB_0 hY) rfl ?_
  refine w_bipush C (pc := 4) dX9_stopsAt_4 (v := 61) (by decide) ?_
  refine w_aload_n C (pc := 6) dX9_stopsAt_6 0 rfl ?_
  refine w_getR C (pc := 7) dX9_stopsAt_7 f_X9_7 (sB_0 hY) rfl ?_
  refine w_bipush C (pc := 10) dX9_stopsAt_10 (v := 60) (by decide) ?_
  obtain ⟨v1, e2, h⟩ := ob h
  refine w_iald C (pc := 12) dX9_stopsAt_12 (sB_1 hY) e2 ?_
  refine w_iadd C (pc := 13) dX9_stopsAt_13 ?_
  refine w_iload_n C (pc := 14) dX9_stopsAt_14 1 rfl ?_
  obtain ⟨M3, e4, h⟩ := ob h
  refine w_iast C (pc := 15) dX9_stopsAt_15 (sB_1 hY) e4 ?_
  refine w_aload_n C (pc := 16) dX9_stopsAt_16 0 rfl ?_
  refine w_getR C (pc := 17) dX9_stopsAt_17 f_X9_7 (sB_0 hY) rfl ?_
  refine w_bipush C (pc := 20) dX9_stopsAt_20 (v := 60) (by decide) ?_
  refine w_dup2 C (pc := 22) dX9_stopsAt_22 rfl rfl ?_
  obtain ⟨v5, e6, h⟩ := ob h
  refine w_iald C (pc := 23) dX9_stopsAt_23 (sB_1 hY) e6 ?_
  refine w_iconst C (pc := 24) dX9_stopsAt_24 (v := 1) (by decide) ?_
  refine w_iadd C (pc := 25) dX9_stopsAt_25 ?_
  obtain ⟨M7, e8, h⟩ := ob h
  refine w_iast C (pc := 26) dX9_stopsAt_26 (sB_1 hY) e8 ?_
  exact w_retV C (pc := 27) dX9_stopsAt_27 rfl (Option.some.inj h)
theorem dX9_go_0 : decode cX9_go 0 = .ok (.aload_n 0, 1) := by decide +kernel
theorem dX9_go_1 : decode cX9_go 1 = .ok (.iconst 0, 1) := by decide +kernel
theorem dX9_go_2 : decode cX9_go 2 = .ok (.putfield 66, 3) := by decide +kernel
theorem dX9_go_5 : decode cX9_go 5 = .ok (.aload_n 0, 1) := by decide +kernel
theorem dX9_go_6 : decode cX9_go 6 = .ok (.iload_n 1, 1) := by decide +kernel
theorem dX9_go_7 : decode cX9_go 7 = .ok (.invokevirtual 103, 3) := by decide +kernel
theorem dX9_go_10 : decode cX9_go 10 = .ok (.ifCond .ne 5, 3) := by decide +kernel
theorem dX9_go_13 : decode cX9_go 13 = .ok (.iconst (-1), 1) := by decide +kernel
theorem dX9_go_14 : decode cX9_go 14 = .ok (.ireturn, 1) := by decide +kernel
theorem dX9_go_15 : decode cX9_go 15 = .ok (.aload_n 0, 1) := by decide +kernel
theorem dX9_go_16 : decode cX9_go 16 = .ok (.invokevirtual 107, 3) := by decide +kernel
theorem dX9_go_19 : decode cX9_go 19 = .ok (.bipush 10, 2) := by decide +kernel
theorem dX9_go_21 : decode cX9_go 21 = .ok (.if_icmp .ne 6, 3) := by decide +kernel
theorem dX9_go_24 : decode cX9_go 24 = .ok (.bipush (-2), 2) := by decide +kernel
theorem dX9_go_26 : decode cX9_go 26 = .ok (.ireturn, 1) := by decide +kernel
theorem dX9_go_27 : decode cX9_go 27 = .ok (.aload_n 0, 1) := by decide +kernel
theorem dX9_go_28 : decode cX9_go 28 = .ok (.iload_n 1, 1) := by decide +kernel
theorem dX9_go_29 : decode cX9_go 29 = .ok (.invokevirtual 110, 3) := by decide +kernel
theorem dX9_go_32 : decode cX9_go 32 = .ok (.aload_n 0, 1) := by decide +kernel
theorem dX9_go_33 : decode cX9_go 33 = .ok (.invokevirtual 107, 3) := by decide +kernel
theorem dX9_go_36 : decode cX9_go 36 = .ok (.ireturn, 1) := by decide +kernel
def pX9_go (x1 : Int32) (M : Mm) : Option (Int32 × Mm) :=
bnd (mset M 0 0 0) fun M1 =>
(pX9_isCustomer x1 M1).bind fun v3 =>
if v3 = 0 then
(some ((-1), M1))
else
((pX9_stops M1).bind fun v5 =>
if v5 = 10 then
(some ((-2), M1))
else
((pX9_stopsAt x1 M1).bind fun v7 =>
(pX9_stops v7).bind fun v9 =>
some (v9, v7)))
abbrev zX9_go : Zx := (cX9_go, RX9, 2, 2, (some .int))
set_option maxRecDepth 100000 in
set_option maxHeartbeats 4000000 in
theorem tX9_go {l : Launch} {Y : Sx} {M : Mm} {x1 : Int32} {q : Int32 × Mm} (hY : isB Y) (h : pX9_go x1 M = some q) : Ct l Y yX9_go cX9_go 2 (some .int) 2 [.ref (adr Y 0), .int x1] M (some q.1) q.2 := by
  refine Ct.of (by decide) rfl (lv := [(0, .ref (adr Y 0)), (1, .int x1)]) rfl ?_
  intro K hkl C
  change Cx K zX9_go Y at C
  subst hkl
  unfold pX9_go at h
  show Wp K zX9_go Y (Qm K Y (some q.1) q.2) M 0 [(0, .ref (adr Y 0)), (1, .int x1)] []
  refine w_aload_n C (pc := 0) dX9_go_0 0 rfl ?_
  refine w_iconst C (pc := 1) dX9_go_1 (v := 0) (by decide) ?_
  obtain ⟨M1, e2, h⟩ := bn h
  refine w_putI C (pc := 2) dX9_go_2 fp_X9_66 (sB_0 hY) rfl ?_
  rw [e2]
  refine w_aload_n C (pc := 5) dX9_go_5 0 rfl ?_
  refine w_iload_n C (pc := 6) dX9_go_6 1 rfl ?_
  obtain ⟨v3, e4, h⟩ := ob h
  refine w_cVi C (pc := 7) dX9_go_7 my_X9_isCustomer mi_X9_isCustomer ml_X9_103 (sB_0 hY) rfl rfl rfl [.int x1] rfl rfl (Nat.le_of_ble_eq_true rfl) (tX9_isCustomer hY  e4) ?_
  refine w_ifne C (pc := 10) 15 dX9_go_10 (by decide) (fun c => ?_) (fun c => ?_)
  · have h := it_t h c
    refine w_iconst C (pc := 13) dX9_go_13 (v := (-1)) (by decide) ?_
    exact w_ret C (pc := 14) dX9_go_14 rfl (Option.some.inj h)
  · have h := it_f h c
    refine w_aload_n C (pc := 15) dX9_go_15 0 rfl ?_
    obtain ⟨v5, e6, h⟩ := ob h
    refine w_cVi C (pc := 16) dX9_go_16 my_X9_stops mi_X9_stops ml_X9_107 (sB_0 hY) rfl rfl rfl [] rfl rfl (Nat.le_of_ble_eq_true rfl) (tX9_stops hY  e6) ?_
    refine w_bipush C (pc := 19) dX9_go_19 (v := 10) (by decide) ?_
    refine w_icne C (pc := 21) 27 dX9_go_21 (by decide) (fun c => ?_) (fun c => ?_)
    · have h := it_t h c
      refine w_bipush C (pc := 24) dX9_go_24 (v := (-2)) (by decide) ?_
      exact w_ret C (pc := 26) dX9_go_26 rfl (Option.some.inj h)
    · have h := it_f h c
      refine w_aload_n C (pc := 27) dX9_go_27 0 rfl ?_
      refine w_iload_n C (pc := 28) dX9_go_28 1 rfl ?_
      obtain ⟨v7, e8, h⟩ := ob h
      refine w_cVv C (pc := 29) dX9_go_29 my_X9_stopsAt mi_X9_stopsAt ml_X9_110 (sB_0 hY) rfl rfl rfl [.int x1] rfl rfl (Nat.le_of_ble_eq_true rfl) (tX9_stopsAt hY  e8) ?_
      refine w_aload_n C (pc := 32) dX9_go_32 0 rfl ?_
      obtain ⟨v9, e10, h⟩ := ob h
      refine w_cVi C (pc := 33) dX9_go_33 my_X9_stops mi_X9_stops ml_X9_107 (sB_0 hY) rfl rfl rfl [] rfl rfl (Nat.le_of_ble_eq_true rfl) (tX9_stops hY  e10) ?_
      exact w_ret C (pc := 36) dX9_go_36 rfl (Option.some.inj h)
theorem dX9_here_0 : decode cX9_here 0 = .ok (.aload_n 0, 1) := by decide +kernel
theorem dX9_here_1 : decode cX9_here 1 = .ok (.getfield 143, 3) := by decide +kernel
theorem dX9_here_4 : decode cX9_here 4 = .ok (.aload_n 0, 1) := by decide +kernel
theorem dX9_here_5 : decode cX9_here 5 = .ok (.getfield 146, 3) := by decide +kernel
theorem dX9_here_8 : decode cX9_here 8 = .ok (.if_icmp .ge 44, 3) := by decide +kernel
theorem dX9_here_11 : decode cX9_here 11 = .ok (.aload_n 0, 1) := by decide +kernel
theorem dX9_here_12 : decode cX9_here 12 = .ok (.getfield 16, 3) := by decide +kernel
theorem dX9_here_15 : decode cX9_here 15 = .ok (.aload_n 0, 1) := by decide +kernel
theorem dX9_here_16 : decode cX9_here 16 = .ok (.getfield 143, 3) := by decide +kernel
theorem dX9_here_19 : decode cX9_here 19 = .ok (.baload, 1) := by decide +kernel
theorem dX9_here_20 : decode cX9_here 20 = .ok (.bipush 32, 2) := by decide +kernel
theorem dX9_here_22 : decode cX9_here 22 = .ok (.if_icmp .eq 17, 3) := by decide +kernel
theorem dX9_here_25 : decode cX9_here 25 = .ok (.aload_n 0, 1) := by decide +kernel
theorem dX9_here_26 : decode cX9_here 26 = .ok (.getfield 16, 3) := by decide +kernel
theorem dX9_here_29 : decode cX9_here 29 = .ok (.aload_n 0, 1) := by decide +kernel
theorem dX9_here_30 : decode cX9_here 30 = .ok (.getfield 143, 3) := by decide +kernel
theorem dX9_here_33 : decode cX9_here 33 = .ok (.baload, 1) := by decide +kernel
theorem dX9_here_34 : decode cX9_here 34 = .ok (.bipush 10, 2) := by decide +kernel
theorem dX9_here_36 : decode cX9_here 36 = .ok (.if_icmp .ne 16, 3) := by decide +kernel
theorem dX9_here_39 : decode cX9_here 39 = .ok (.aload_n 0, 1) := by decide +kernel
theorem dX9_here_40 : decode cX9_here 40 = .ok (.dup, 1) := by decide +kernel
theorem dX9_here_41 : decode cX9_here 41 = .ok (.getfield 143, 3) := by decide +kernel
theorem dX9_here_44 : decode cX9_here 44 = .ok (.iconst 1, 1) := by decide +kernel
theorem dX9_here_45 : decode cX9_here 45 = .ok (.iadd, 1) := by decide +kernel
theorem dX9_here_46 : decode cX9_here 46 = .ok (.putfield 143, 3) := by decide +kernel
theorem dX9_here_49 : decode cX9_here 49 = .ok (.goto (-49), 3) := by decide +kernel
theorem dX9_here_52 : decode cX9_here 52 = .ok (.aload_n 0, 1) := by decide +kernel
theorem dX9_here_53 : decode cX9_here 53 = .ok (.getfield 143, 3) := by decide +kernel
theorem dX9_here_56 : decode cX9_here 56 = .ok (.aload_n 0, 1) := by decide +kernel
theorem dX9_here_57 : decode cX9_here 57 = .ok (.getfield 146, 3) := by decide +kernel
theorem dX9_here_60 : decode cX9_here 60 = .ok (.if_icmp .ge 19, 3) := by decide +kernel
theorem dX9_here_63 : decode cX9_here 63 = .ok (.aload_n 0, 1) := by decide +kernel
theorem dX9_here_64 : decode cX9_here 64 = .ok (.getfield 16, 3) := by decide +kernel
theorem dX9_here_67 : decode cX9_here 67 = .ok (.aload_n 0, 1) := by decide +kernel
theorem dX9_here_68 : decode cX9_here 68 = .ok (.getfield 143, 3) := by decide +kernel
theorem dX9_here_71 : decode cX9_here 71 = .ok (.baload, 1) := by decide +kernel
theorem dX9_here_72 : decode cX9_here 72 = .ok (.sipush 255, 3) := by decide +kernel
theorem dX9_here_75 : decode cX9_here 75 = .ok (.iand, 1) := by decide +kernel
theorem dX9_here_76 : decode cX9_here 76 = .ok (.goto 4, 3) := by decide +kernel
theorem dX9_here_79 : decode cX9_here 79 = .ok (.iconst (-1), 1) := by decide +kernel
theorem dX9_here_80 : decode cX9_here 80 = .ok (.ireturn, 1) := by decide +kernel
def pX9_here_L0 (s : Mm) : Option ((Mm) ⊕ (Mm)) :=
if (s 0 6) ≤ (s 0 7) then
(some (Sum.inr s))
else
((ald s 3 300 (s 0 7)).bind fun v1 =>
Option.bind (α := (Unit) ⊕ ((Mm) ⊕ (Mm))) (if v1 = 32 then
(some (Sum.inl ()))
else
((ald s 3 300 (s 0 7)).bind fun v8 =>
if v8 = 10 then
(some (Sum.inl ()))
else
(some (Sum.inr (Sum.inr s))))) fun j3 =>
Sum.elim (fun yj3 =>
bnd (mset s 0 7 ((s 0 7) + 1)) fun M6 =>
some (Sum.inl M6)) (fun r => some r) j3)
def pX9_here (M : Mm) : Option (Int32 × Mm) :=
(itr (pX9_here_L0) fuel M).bind fun x11 =>
if (x11 0 6) ≤ (x11 0 7) then
(some ((-1), x11))
else
((ald x11 3 300 (x11 0 7)).bind fun v28 =>
some (v28 &&& 255, x11))
abbrev zX9_here : Zx := (cX9_here, RX9, 1, 0, (some .int))
set_option maxRecDepth 100000 in
set_option maxHeartbeats 4000000 in
theorem tX9_here {l : Launch} {Y : Sx} {M : Mm} {q : Int32 × Mm} (hY : isB Y) (h : pX9_here M = some q) : Ct l Y yX9_here cX9_here 1 (some .int) 0 [.ref (adr Y 0)] M (some q.1) q.2 := by
  refine Ct.of (by decide) rfl (lv := [(0, .ref (adr Y 0))]) rfl ?_
  intro K hkl C
  change Cx K zX9_here Y at C
  subst hkl
  unfold pX9_here at h
  show Wp K zX9_here Y (Qm K Y (some q.1) q.2) M 0 [(0, .ref (adr Y 0))] []
  obtain ⟨x11, e12, h⟩ := ob h
  refine itr_W (P := fun s13 => Wp K zX9_here Y (Qm K Y (some q.1) q.2) s13 0 [(0, .ref (adr Y 0))] []) (R := fun x11 => Wp K zX9_here Y (Qm K Y (some q.1) q.2) x11 52 [(0, .ref (adr Y 0))] []) ?_ fuel M x11 e12 ?_
  · intro s13 r14 h17 ki15 kx16
    unfold pX9_here_L0 at h17
    show Wp K zX9_here Y (Qm K Y (some q.1) q.2) s13 0 [(0, .ref (adr Y 0))] []
    refine w_aload_n C (pc := 0) dX9_here_0 0 rfl ?_
    refine w_getI C (pc := 1) dX9_here_1 f_X9_143 (sB_0 hY) rfl ?_
    refine w_aload_n C (pc := 4) dX9_here_4 0 rfl ?_
    refine w_getI C (pc := 5) dX9_here_5 f_X9_146 (sB_0 hY) rfl ?_
    refine w_icge C (pc := 8) 52 dX9_here_8 (by decide) (fun c => ?_) (fun c => ?_)
    · have h17 := it_t h17 c
      obtain rfl := Option.some.inj h17
      have k9 := kx16 s13 rfl
      try dsimp only at k9
      exact k9
    · have h17 := it_f h17 c
      refine w_aload_n C (pc := 11) dX9_here_11 0 rfl ?_
      refine w_getR C (pc := 12) dX9_here_12 f_X9_16 (sB_0 hY) rfl ?_
      refine w_aload_n C (pc := 15) dX9_here_15 0 rfl ?_
      refine w_getI C (pc := 16) dX9_here_16 f_X9_143 (sB_0 hY) rfl ?_
      obtain ⟨v18, e19, h17⟩ := ob h17
      refine w_bald C (pc := 19) dX9_here_19 (sB_3 hY) e19 ?_
      refine w_bipush C (pc := 20) dX9_here_20 (v := 32) (by decide) ?_
      obtain ⟨j20, e21, h22⟩ := ob h17
      have Jj20 : ∀ yj20, j20 = Sum.inl yj20 → Wp K zX9_here Y (Qm K Y (some q.1) q.2) s13 39 [(0, .ref (adr Y 0))] [] := by
        intro yj20 hj
        subst hj
        dsimp only [Sum.elim] at h22
        refine w_aload_n C (pc := 39) dX9_here_39 0 rfl ?_
        refine w_dup C (pc := 40) dX9_here_40 rfl ?_
        refine w_getI C (pc := 41) dX9_here_41 f_X9_143 (sB_0 hY) rfl ?_
        refine w_iconst C (pc := 44) dX9_here_44 (v := 1) (by decide) ?_
        refine w_iadd C (pc := 45) dX9_here_45 ?_
        obtain ⟨M23, e24, h22⟩ := bn h22
        refine w_putI C (pc := 46) dX9_here_46 fp_X9_143 (sB_0 hY) rfl ?_
        rw [e24]
        refine w_goto C (pc := 49) 0 dX9_here_49 (by decide) ?_
        obtain rfl := Option.some.inj h22
        have k9 := ki15 M23 rfl
        try dsimp only at k9
        exact k9
      refine w_iceq C (pc := 22) 39 dX9_here_22 (by decide) (fun c => ?_) (fun c => ?_)
      · have e21 := it_t e21 c
        obtain rfl := Option.some.inj e21
        have k9 := Jj20 () rfl
        try dsimp only at k9
        exact k9
      · have e21 := it_f e21 c
        refine w_aload_n C (pc := 25) dX9_here_25 0 rfl ?_
        refine w_getR C (pc := 26) dX9_here_26 f_X9_16 (sB_0 hY) rfl ?_
        refine w_aload_n C (pc := 29) dX9_here_29 0 rfl ?_
        refine w_getI C (pc := 30) dX9_here_30 f_X9_143 (sB_0 hY) rfl ?_
        obtain ⟨v25, e26, e21⟩ := ob e21
        refine w_bald C (pc := 33) dX9_here_33 (sB_3 hY) e26 ?_
        refine w_bipush C (pc := 34) dX9_here_34 (v := 10) (by decide) ?_
        refine w_icne C (pc := 36) 52 dX9_here_36 (by decide) (fun c => ?_) (fun c => ?_)
        · have e21 := it_t e21 c
          obtain rfl := Option.some.inj e21
          have k9 := Jj20 () rfl
          try dsimp only at k9
          exact k9
        · have e21 := it_f e21 c
          obtain rfl := Option.some.inj e21
          have h27 : some (Sum.inr s13) = some r14 := h22
          obtain rfl := Option.some.inj h27
          have k9 := kx16 s13 rfl
          try dsimp only at k9
          exact k9
  · refine w_aload_n C (pc := 52) dX9_here_52 0 rfl ?_
    refine w_getI C (pc := 53) dX9_here_53 f_X9_143 (sB_0 hY) rfl ?_
    refine w_aload_n C (pc := 56) dX9_here_56 0 rfl ?_
    refine w_getI C (pc := 57) dX9_here_57 f_X9_146 (sB_0 hY) rfl ?_
    refine w_icge C (pc := 60) 79 dX9_here_60 (by decide) (fun c => ?_) (fun c => ?_)
    · have h := it_t h c
      refine w_iconst C (pc := 79) dX9_here_79 (v := (-1)) (by decide) ?_
      exact w_ret C (pc := 80) dX9_here_80 rfl (Option.some.inj h)
    · have h := it_f h c
      refine w_aload_n C (pc := 63) dX9_here_63 0 rfl ?_
      refine w_getR C (pc := 64) dX9_here_64 f_X9_16 (sB_0 hY) rfl ?_
      refine w_aload_n C (pc := 67) dX9_here_67 0 rfl ?_
      refine w_getI C (pc := 68) dX9_here_68 f_X9_143 (sB_0 hY) rfl ?_
      obtain ⟨v28, e29, h⟩ := ob h
      refine w_bald C (pc := 71) dX9_here_71 (sB_3 hY) e29 ?_
      refine w_sipush C (pc := 72) dX9_here_72 (v := 255) (by decide) ?_
      refine w_iand C (pc := 75) dX9_here_75 ?_
      refine w_goto C (pc := 76) 80 dX9_here_76 (by decide) ?_
      exact w_ret C (pc := 80) dX9_here_80 rfl (Option.some.inj h)
theorem dX9_isDigitAt_0 : decode cX9_isDigitAt 0 = .ok (.iload_n 1, 1) := by decide +kernel
theorem dX9_isDigitAt_1 : decode cX9_isDigitAt 1 = .ok (.aload_n 0, 1) := by decide +kernel
theorem dX9_isDigitAt_2 : decode cX9_isDigitAt 2 = .ok (.getfield 146, 3) := by decide +kernel
theorem dX9_isDigitAt_5 : decode cX9_isDigitAt 5 = .ok (.if_icmp .ge 23, 3) := by decide +kernel
theorem dX9_isDigitAt_8 : decode cX9_isDigitAt 8 = .ok (.aload_n 0, 1) := by decide +kernel
theorem dX9_isDigitAt_9 : decode cX9_isDigitAt 9 = .ok (.getfield 16, 3) := by decide +kernel
theorem dX9_isDigitAt_12 : decode cX9_isDigitAt 12 = .ok (.iload_n 1, 1) := by decide +kernel
theorem dX9_isDigitAt_13 : decode cX9_isDigitAt 13 = .ok (.baload, 1) := by decide +kernel
theorem dX9_isDigitAt_14 : decode cX9_isDigitAt 14 = .ok (.bipush 48, 2) := by decide +kernel
theorem dX9_isDigitAt_16 : decode cX9_isDigitAt 16 = .ok (.bipush 57, 2) := by decide +kernel
theorem dX9_isDigitAt_18 : decode cX9_isDigitAt 18 = .ok (.invokestatic 70, 3) := by decide +kernel
theorem dX9_isDigitAt_21 : decode cX9_isDigitAt 21 = .ok (.ifCond .eq 7, 3) := by decide +kernel
theorem dX9_isDigitAt_24 : decode cX9_isDigitAt 24 = .ok (.iconst 1, 1) := by decide +kernel
theorem dX9_isDigitAt_25 : decode cX9_isDigitAt 25 = .ok (.goto 4, 3) := by decide +kernel
theorem dX9_isDigitAt_28 : decode cX9_isDigitAt 28 = .ok (.iconst 0, 1) := by decide +kernel
theorem dX9_isDigitAt_29 : decode cX9_isDigitAt 29 = .ok (.ireturn, 1) := by decide +kernel
def pX9_isDigitAt (x1 : Int32) (M : Mm) : Option (Int32) :=
if (M 0 6) ≤ x1 then
(some 0)
else
((ald M 3 300 x1).bind fun v1 =>
if (pX9_isIn v1 48 57) = 0 then
(some 0)
else
(some 1))
abbrev zX9_isDigitAt : Zx := (cX9_isDigitAt, RX9, 2, 1, (some .boolean))
set_option maxRecDepth 100000 in
set_option maxHeartbeats 4000000 in
theorem tX9_isDigitAt {l : Launch} {Y : Sx} {M : Mm} {x1 : Int32} {q : Int32} (hY : isB Y) (h : pX9_isDigitAt x1 M = some q) : Ct l Y yX9_isDigitAt cX9_isDigitAt 2 (some .boolean) 1 [.ref (adr Y 0), .int x1] M (some q) M := by
  refine Ct.of (by decide) rfl (lv := [(0, .ref (adr Y 0)), (1, .int x1)]) rfl ?_
  intro K hkl C
  change Cx K zX9_isDigitAt Y at C
  subst hkl
  unfold pX9_isDigitAt at h
  show Wp K zX9_isDigitAt Y (Qm K Y (some q) M) M 0 [(0, .ref (adr Y 0)), (1, .int x1)] []
  refine w_iload_n C (pc := 0) dX9_isDigitAt_0 1 rfl ?_
  refine w_aload_n C (pc := 1) dX9_isDigitAt_1 0 rfl ?_
  refine w_getI C (pc := 2) dX9_isDigitAt_2 f_X9_146 (sB_0 hY) rfl ?_
  refine w_icge C (pc := 5) 28 dX9_isDigitAt_5 (by decide) (fun c => ?_) (fun c => ?_)
  · have h := it_t h c
    refine w_iconst C (pc := 28) dX9_isDigitAt_28 (v := 0) (by decide) ?_
    exact w_retzR C (pc := 29) dX9_isDigitAt_29 rfl (by decide) (Option.some.inj h)
  · have h := it_f h c
    refine w_aload_n C (pc := 8) dX9_isDigitAt_8 0 rfl ?_
    refine w_getR C (pc := 9) dX9_isDigitAt_9 f_X9_16 (sB_0 hY) rfl ?_
    refine w_iload_n C (pc := 12) dX9_isDigitAt_12 1 rfl ?_
    obtain ⟨v1, e2, h⟩ := ob h
    refine w_bald C (pc := 13) dX9_isDigitAt_13 (sB_3 hY) e2 ?_
    refine w_bipush C (pc := 14) dX9_isDigitAt_14 (v := 48) (by decide) ?_
    refine w_bipush C (pc := 16) dX9_isDigitAt_16 (v := 57) (by decide) ?_
    refine w_cSi C (pc := 18) dX9_isDigitAt_18 my_X9_isIn ms_X9_isIn ml_X9_70 rfl rfl [.int v1, .int 48, .int 57] rfl rfl (Nat.le_of_ble_eq_true rfl) (tX9_isIn  rfl) ?_
    refine w_ifeq C (pc := 21) 28 dX9_isDigitAt_21 (by decide) (fun c => ?_) (fun c => ?_)
    · have h := it_t h c
      refine w_iconst C (pc := 28) dX9_isDigitAt_28 (v := 0) (by decide) ?_
      exact w_retzR C (pc := 29) dX9_isDigitAt_29 rfl (by decide) (Option.some.inj h)
    · have h := it_f h c
      refine w_iconst C (pc := 24) dX9_isDigitAt_24 (v := 1) (by decide) ?_
      refine w_goto C (pc := 25) 29 dX9_isDigitAt_25 (by decide) ?_
      exact w_retzR C (pc := 29) dX9_isDigitAt_29 rfl (by decide) (Option.some.inj h)
theorem dX9_isPlace_0 : decode cX9_isPlace 0 = .ok (.iload_n 1, 1) := by decide +kernel
theorem dX9_isPlace_1 : decode cX9_isPlace 1 = .ok (.iconst 0, 1) := by decide +kernel
theorem dX9_isPlace_2 : decode cX9_isPlace 2 = .ok (.aload_n 0, 1) := by decide +kernel
theorem dX9_isPlace_3 : decode cX9_isPlace 3 = .ok (.invokevirtual 74, 3) := by decide +kernel
theorem dX9_isPlace_6 : decode cX9_isPlace 6 = .ok (.invokestatic 70, 3) := by decide +kernel
theorem dX9_isPlace_9 : decode cX9_isPlace 9 = .ok (.ireturn, 1) := by decide +kernel
def pX9_isPlace (x1 : Int32) (M : Mm) : Option (Int32) :=
(pX9_customers M).bind fun v1 =>
some ((pX9_isIn x1 0 v1) &&& 1)
abbrev zX9_isPlace : Zx := (cX9_isPlace, RX9, 2, 1, (some .boolean))
set_option maxRecDepth 100000 in
set_option maxHeartbeats 4000000 in
theorem tX9_isPlace {l : Launch} {Y : Sx} {M : Mm} {x1 : Int32} {q : Int32} (hY : isB Y) (h : pX9_isPlace x1 M = some q) : Ct l Y yX9_isPlace cX9_isPlace 2 (some .boolean) 1 [.ref (adr Y 0), .int x1] M (some q) M := by
  refine Ct.of (by decide) rfl (lv := [(0, .ref (adr Y 0)), (1, .int x1)]) rfl ?_
  intro K hkl C
  change Cx K zX9_isPlace Y at C
  subst hkl
  unfold pX9_isPlace at h
  show Wp K zX9_isPlace Y (Qm K Y (some q) M) M 0 [(0, .ref (adr Y 0)), (1, .int x1)] []
  refine w_iload_n C (pc := 0) dX9_isPlace_0 1 rfl ?_
  refine w_iconst C (pc := 1) dX9_isPlace_1 (v := 0) (by decide) ?_
  refine w_aload_n C (pc := 2) dX9_isPlace_2 0 rfl ?_
  obtain ⟨v1, e2, h⟩ := ob h
  refine w_cVi C (pc := 3) dX9_isPlace_3 my_X9_customers mi_X9_customers ml_X9_74 (sB_0 hY) rfl rfl rfl [] rfl rfl (Nat.le_of_ble_eq_true rfl) (tX9_customers hY  e2) ?_
  refine w_cSi C (pc := 6) dX9_isPlace_6 my_X9_isIn ms_X9_isIn ml_X9_70 rfl rfl [.int x1, .int 0, .int v1] rfl rfl (Nat.le_of_ble_eq_true rfl) (tX9_isIn  rfl) ?_
  exact w_retZR C (pc := 9) dX9_isPlace_9 rfl (Option.some.inj h)
theorem dX9_lays_0 : decode cX9_lays 0 = .ok (.aload_n 0, 1) := by decide +kernel
theorem dX9_lays_1 : decode cX9_lays 1 = .ok (.invokevirtual 74, 3) := by decide +kernel
theorem dX9_lays_4 : decode cX9_lays 4 = .ok (.istore_n 2, 1) := by decide +kernel
theorem dX9_lays_5 : decode cX9_lays 5 = .ok (.iload_n 1, 1) := by decide +kernel
theorem dX9_lays_6 : decode cX9_lays 6 = .ok (.istore_n 3, 1) := by decide +kernel
theorem dX9_lays_7 : decode cX9_lays 7 = .ok (.iload_n 1, 1) := by decide +kernel
theorem dX9_lays_8 : decode cX9_lays 8 = .ok (.ifCond .lt 7, 3) := by decide +kernel
theorem dX9_lays_11 : decode cX9_lays 11 = .ok (.iconst 1, 1) := by decide +kernel
theorem dX9_lays_12 : decode cX9_lays 12 = .ok (.goto 4, 3) := by decide +kernel
theorem dX9_lays_15 : decode cX9_lays 15 = .ok (.iconst 0, 1) := by decide +kernel
theorem dX9_lays_16 : decode cX9_lays 16 = .ok (.istore 4, 2) := by decide +kernel
theorem dX9_lays_18 : decode cX9_lays 18 = .ok (.iload_n 2, 1) := by decide +kernel
theorem dX9_lays_19 : decode cX9_lays 19 = .ok (.istore 5, 2) := by decide +kernel
theorem dX9_lays_21 : decode cX9_lays 21 = .ok (.iload 5, 2) := by decide +kernel
theorem dX9_lays_23 : decode cX9_lays 23 = .ok (.ifCond .le 98, 3) := by decide +kernel
theorem dX9_lays_26 : decode cX9_lays 26 = .ok (.aload_n 0, 1) := by decide +kernel
theorem dX9_lays_27 : decode cX9_lays 27 = .ok (.getfield 48, 3) := by decide +kernel
theorem dX9_lays_30 : decode cX9_lays 30 = .ok (.iload 5, 2) := by decide +kernel
theorem dX9_lays_32 : decode cX9_lays 32 = .ok (.iload_n 3, 1) := by decide +kernel
theorem dX9_lays_33 : decode cX9_lays 33 = .ok (.bipush 10, 2) := by decide +kernel
theorem dX9_lays_35 : decode cX9_lays 35 = .ok (.irem, 1) := by decide +kernel
theorem dX9_lays_36 : decode cX9_lays 36 = .ok (.iastore, 1) := by decide +kernel
theorem dX9_lays_37 : decode cX9_lays 37 = .ok (.iload_n 3, 1) := by decide +kernel
theorem dX9_lays_38 : decode cX9_lays 38 = .ok (.bipush 10, 2) := by decide +kernel
theorem dX9_lays_40 : decode cX9_lays 40 = .ok (.idiv, 1) := by decide +kernel
theorem dX9_lays_41 : decode cX9_lays 41 = .ok (.istore_n 3, 1) := by decide +kernel
theorem dX9_lays_42 : decode cX9_lays 42 = .ok (.iload 4, 2) := by decide +kernel
theorem dX9_lays_44 : decode cX9_lays 44 = .ok (.ifCond .eq 21, 3) := by decide +kernel
theorem dX9_lays_47 : decode cX9_lays 47 = .ok (.aload_n 0, 1) := by decide +kernel
theorem dX9_lays_48 : decode cX9_lays 48 = .ok (.aload_n 0, 1) := by decide +kernel
theorem dX9_lays_49 : decode cX9_lays 49 = .ok (.getfield 48, 3) := by decide +kernel
theorem dX9_lays_52 : decode cX9_lays 52 = .ok (.iload 5, 2) := by decide +kernel
theorem dX9_lays_54 : decode cX9_lays 54 = .ok (.iaload, 1) := by decide +kernel
theorem dX9_lays_55 : decode cX9_lays 55 = .ok (.invokevirtual 103, 3) := by decide +kernel
theorem dX9_lays_58 : decode cX9_lays 58 = .ok (.ifCond .eq 7, 3) := by decide +kernel
theorem dX9_lays_61 : decode cX9_lays 61 = .ok (.iconst 1, 1) := by decide +kernel
theorem dX9_lays_62 : decode cX9_lays 62 = .ok (.goto 4, 3) := by decide +kernel
theorem dX9_lays_65 : decode cX9_lays 65 = .ok (.iconst 0, 1) := by decide +kernel
theorem dX9_lays_66 : decode cX9_lays 66 = .ok (.istore 4, 2) := by decide +kernel
theorem dX9_lays_68 : decode cX9_lays 68 = .ok (.iload 5, 2) := by decide +kernel
theorem dX9_lays_70 : decode cX9_lays 70 = .ok (.iconst 1, 1) := by decide +kernel
theorem dX9_lays_71 : decode cX9_lays 71 = .ok (.iadd, 1) := by decide +kernel
theorem dX9_lays_72 : decode cX9_lays 72 = .ok (.istore 6, 2) := by decide +kernel
theorem dX9_lays_74 : decode cX9_lays 74 = .ok (.iload 6, 2) := by decide +kernel
theorem dX9_lays_76 : decode cX9_lays 76 = .ok (.iload_n 2, 1) := by decide +kernel
theorem dX9_lays_77 : decode cX9_lays 77 = .ok (.if_icmp .gt 38, 3) := by decide +kernel
theorem dX9_lays_80 : decode cX9_lays 80 = .ok (.iload 4, 2) := by decide +kernel
theorem dX9_lays_82 : decode cX9_lays 82 = .ok (.ifCond .eq 24, 3) := by decide +kernel
theorem dX9_lays_85 : decode cX9_lays 85 = .ok (.aload_n 0, 1) := by decide +kernel
theorem dX9_lays_86 : decode cX9_lays 86 = .ok (.getfield 48, 3) := by decide +kernel
theorem dX9_lays_89 : decode cX9_lays 89 = .ok (.iload 6, 2) := by decide +kernel
theorem dX9_lays_91 : decode cX9_lays 91 = .ok (.iaload, 1) := by decide +kernel
theorem dX9_lays_92 : decode cX9_lays 92 = .ok (.aload_n 0, 1) := by decide +kernel
theorem dX9_lays_93 : decode cX9_lays 93 = .ok (.getfield 48, 3) := by decide +kernel
theorem dX9_lays_96 : decode cX9_lays 96 = .ok (.iload 5, 2) := by decide +kernel
theorem dX9_lays_98 : decode cX9_lays 98 = .ok (.iaload, 1) := by decide +kernel
theorem dX9_lays_99 : decode cX9_lays 99 = .ok (.if_icmp .eq 7, 3) := by decide +kernel
theorem dX9_lays_102 : decode cX9_lays 102 = .ok (.iconst 1, 1) := by decide +kernel
theorem dX9_lays_103 : decode cX9_lays 103 = .ok (.goto 4, 3) := by decide +kernel
theorem dX9_lays_106 : decode cX9_lays 106 = .ok (.iconst 0, 1) := by decide +kernel
theorem dX9_lays_107 : decode cX9_lays 107 = .ok (.istore 4, 2) := by decide +kernel
theorem dX9_lays_109 : decode cX9_lays 109 = .ok (.iinc 6 1, 3) := by decide +kernel
theorem dX9_lays_112 : decode cX9_lays 112 = .ok (.goto (-38), 3) := by decide +kernel
theorem dX9_lays_115 : decode cX9_lays 115 = .ok (.iinc 5 (-1), 3) := by decide +kernel
theorem dX9_lays_118 : decode cX9_lays 118 = .ok (.goto (-97), 3) := by decide +kernel
theorem dX9_lays_121 : decode cX9_lays 121 = .ok (.aload_n 0, 1) := by decide +kernel
theorem dX9_lays_122 : decode cX9_lays 122 = .ok (.getfield 48, 3) := by decide +kernel
theorem dX9_lays_125 : decode cX9_lays 125 = .ok (.iconst 0, 1) := by decide +kernel
theorem dX9_lays_126 : decode cX9_lays 126 = .ok (.iconst 0, 1) := by decide +kernel
theorem dX9_lays_127 : decode cX9_lays 127 = .ok (.iastore, 1) := by decide +kernel
theorem dX9_lays_128 : decode cX9_lays 128 = .ok (.aload_n 0, 1) := by decide +kernel
theorem dX9_lays_129 : decode cX9_lays 129 = .ok (.getfield 48, 3) := by decide +kernel
theorem dX9_lays_132 : decode cX9_lays 132 = .ok (.iload_n 2, 1) := by decide +kernel
theorem dX9_lays_133 : decode cX9_lays 133 = .ok (.iconst 1, 1) := by decide +kernel
theorem dX9_lays_134 : decode cX9_lays 134 = .ok (.iadd, 1) := by decide +kernel
theorem dX9_lays_135 : decode cX9_lays 135 = .ok (.iconst 0, 1) := by decide +kernel
theorem dX9_lays_136 : decode cX9_lays 136 = .ok (.iastore, 1) := by decide +kernel
theorem dX9_lays_137 : decode cX9_lays 137 = .ok (.iload 4, 2) := by decide +kernel
theorem dX9_lays_139 : decode cX9_lays 139 = .ok (.ifCond .eq 11, 3) := by decide +kernel
theorem dX9_lays_142 : decode cX9_lays 142 = .ok (.iload_n 3, 1) := by decide +kernel
theorem dX9_lays_143 : decode cX9_lays 143 = .ok (.ifCond .ne 7, 3) := by decide +kernel
theorem dX9_lays_146 : decode cX9_lays 146 = .ok (.iconst 1, 1) := by decide +kernel
theorem dX9_lays_147 : decode cX9_lays 147 = .ok (.goto 4, 3) := by decide +kernel
theorem dX9_lays_150 : decode cX9_lays 150 = .ok (.iconst 0, 1) := by decide +kernel
theorem dX9_lays_151 : decode cX9_lays 151 = .ok (.ireturn, 1) := by decide +kernel
def pX9_lays_L74 (x2 : Int32) (x3 : Int32) (x5 : Int32) (M : Mm) (s : Int32 × Int32) : Option ((Int32 × Int32) ⊕ (Int32)) :=
if x2 < s.2 then
(some (Sum.inr s.1))
else
(if s.1 = 0 then
(some (Sum.inl (0, s.2 + 1)))
else
((ald M 13 10 s.2).bind fun v13 =>
(ald M 13 10 x5).bind fun v15 =>
if v13 = v15 then
(some (Sum.inl (0, s.2 + 1)))
else
(some (Sum.inl (1, s.2 + 1)))))
def pX9_lays_L21 (x2 : Int32) (s : Int32 × Int32 × Int32 × Mm) : Option ((Int32 × Int32 × Int32 × Mm) ⊕ (Int32 × Int32 × Mm)) :=
if s.2.2.1 ≤ 0 then
(some (Sum.inr (s.1, s.2.1, s.2.2.2)))
else
((ast s.2.2.2 13 10 s.2.2.1 (rmi s.1 10)).bind fun M6 =>
bnd (s.1 / 10) fun v8 =>
Option.bind (α := (Int32) ⊕ ((Int32 × Int32 × Int32 × Mm) ⊕ (Int32 × Int32 × Mm))) (if s.2.1 = 0 then
(some (Sum.inl s.2.2.1))
else
((ald M6 13 10 s.2.2.1).bind fun v28 =>
(pX9_isCustomer v28 M6).bind fun v30 =>
if v30 = 0 then
(some (Sum.inl s.2.2.1))
else
(bnd (s.2.2.1 + 1) fun v32 =>
(itr (pX9_lays_L74 x2 v8 s.2.2.1 M6) fuel (1, v32)).bind fun x33 =>
some (Sum.inr (Sum.inl (v8, x33, s.2.2.1 + (-1), M6)))))) fun j9 =>
Sum.elim (fun yj9 =>
bnd (yj9 + 1) fun v12 =>
(itr (pX9_lays_L74 x2 v8 yj9 M6) fuel (0, v12)).bind fun x17 =>
some (Sum.inl (v8, x17, yj9 + (-1), M6))) (fun r => some r) j9)
def pX9_lays (x1 : Int32) (M : Mm) : Option (Int32 × Mm) :=
(pX9_customers M).bind fun v1 =>
bnd (α := Int32) (if x1 < 0 then
(0)
else
(1)) fun j3 =>
(itr (pX9_lays_L21 v1) fuel (x1, j3, v1, M)).bind fun x45 =>
(ast x45.2.2 13 10 0 0).bind fun M87 =>
(ast M87 13 10 (v1 + 1) 0).bind fun M89 =>
if x45.2.1 = 0 then
(some (0, M89))
else
(if x45.1 = 0 then
(some (1, M89))
else
(some (0, M89)))
abbrev zX9_lays : Zx := (cX9_lays, RX9, 7, 2, (some .boolean))
set_option maxRecDepth 100000 in
set_option maxHeartbeats 4000000 in
theorem tX9_lays {l : Launch} {Y : Sx} {M : Mm} {x1 : Int32} {q : Int32 × Mm} (hY : isB Y) (h : pX9_lays x1 M = some q) : Ct l Y yX9_lays cX9_lays 7 (some .boolean) 2 [.ref (adr Y 0), .int x1] M (some q.1) q.2 := by
  refine Ct.of (by decide) rfl (lv := [(0, .ref (adr Y 0)), (1, .int x1)]) rfl ?_
  intro K hkl C
  change Cx K zX9_lays Y at C
  subst hkl
  unfold pX9_lays at h
  show Wp K zX9_lays Y (Qm K Y (some q.1) q.2) M 0 [(0, .ref (adr Y 0)), (1, .int x1)] []
  refine w_aload_n C (pc := 0) dX9_lays_0 0 rfl ?_
  obtain ⟨v1, e2, h⟩ := ob h
  refine w_cVi C (pc := 1) dX9_lays_1 my_X9_customers mi_X9_customers ml_X9_74 (sB_0 hY) rfl rfl rfl [] rfl rfl (Nat.le_of_ble_eq_true rfl) (tX9_customers hY  e2) ?_
  refine w_istore_n C (pc := 4) dX9_lays_4 (lv' := [(0, .ref (adr Y 0)), (1, .int x1), (2, .int v1)]) rfl rfl rfl ?_
  refine w_iload_n C (pc := 5) dX9_lays_5 1 rfl ?_
  refine w_istore_n C (pc := 6) dX9_lays_6 (lv' := [(0, .ref (adr Y 0)), (1, .int x1), (2, .int v1), (3, .int x1)]) rfl rfl rfl ?_
  refine w_iload_n C (pc := 7) dX9_lays_7 1 rfl ?_
  obtain ⟨j3, e4, h5⟩ := bn h
  have Jj3 : Wp K zX9_lays Y (Qm K Y (some q.1) q.2) M 16 [(0, .ref (adr Y 0)), (1, .int x1), (2, .int v1), (3, .int x1)] [.int j3] := by
    refine w_istore C (pc := 16) dX9_lays_16 (lv' := [(0, .ref (adr Y 0)), (1, .int x1), (2, .int v1), (3, .int x1), (4, .int j3)]) rfl rfl rfl ?_
    refine w_iload_n C (pc := 18) dX9_lays_18 2 rfl ?_
    refine w_istore C (pc := 19) dX9_lays_19 (lv' := [(0, .ref (adr Y 0)), (1, .int x1), (2, .int v1), (3, .int x1), (4, .int j3), (5, .int v1)]) rfl rfl rfl ?_
    obtain ⟨x45, e46, h5⟩ := ob h5
    refine itr_W (P := fun s47 => Wp K zX9_lays Y (Qm K Y (some q.1) q.2) s47.2.2.2 21 [(0, .ref (adr Y 0)), (1, .int x1), (2, .int v1), (3, .int s47.1), (4, .int s47.2.1), (5, .int s47.2.2.1)] []) (R := fun x45 => Wp K zX9_lays Y (Qm K Y (some q.1) q.2) x45.2.2 121 [(0, .ref (adr Y 0)), (1, .int x1), (2, .int v1), (3, .int x45.1), (4, .int x45.2.1)] []) ?_ fuel (x1, j3, v1, M) x45 e46 ?_
    · intro s47 r48 h51 ki49 kx50
      unfold pX9_lays_L21 at h51
      show Wp K zX9_lays Y (Qm K Y (some q.1) q.2) s47.2.2.2 21 [(0, .ref (adr Y 0)), (1, .int x1), (2, .int v1), (3, .int s47.1), (4, .int s47.2.1), (5, .int s47.2.2.1)] []
      refine w_iload C (pc := 21) dX9_lays_21 5 rfl ?_
      refine w_ifle C (pc := 23) 121 dX9_lays_23 (by decide) (fun c => ?_) (fun c => ?_)
      · have h51 := it_t h51 c
        obtain rfl := Option.some.inj h51
        refine w_lv [0, 1, 2, 3, 4] rfl ?_
        have k9 := kx50 (s47.1, s47.2.1, s47.2.2.2) rfl
        try dsimp only at k9
        exact k9
      · have h51 := it_f h51 c
        refine w_aload_n C (pc := 26) dX9_lays_26 0 rfl ?_
        refine w_getR C (pc := 27) dX9_lays_27 f_X9_48 (sB_0 hY) rfl ?_
        refine w_iload C (pc := 30) dX9_lays_30 5 rfl ?_
        refine w_iload_n C (pc := 32) dX9_lays_32 3 rfl ?_
        refine w_bipush C (pc := 33) dX9_lays_33 (v := 10) (by decide) ?_
        refine w_irem C (pc := 35) dX9_lays_35 (by decide) ?_
        obtain ⟨M52, e53, h51⟩ := ob h51
        refine w_iast C (pc := 36) dX9_lays_36 (sB_13 hY) e53 ?_
        refine w_iload_n C (pc := 37) dX9_lays_37 3 rfl ?_
        refine w_bipush C (pc := 38) dX9_lays_38 (v := 10) (by decide) ?_
        refine w_idiv C (pc := 40) dX9_lays_40 (by decide) ?_
        refine w_bnd h51 (fun v54 h51 => ?_)
        refine w_istore_n C (pc := 41) dX9_lays_41 (lv' := [(0, .ref (adr Y 0)), (1, .int x1), (2, .int v1), (3, .int v54), (4, .int s47.2.1), (5, .int s47.2.2.1)]) rfl rfl rfl ?_
        refine w_iload C (pc := 42) dX9_lays_42 4 rfl ?_
        obtain ⟨j55, e56, h57⟩ := ob h51
        have Jj55 : ∀ yj55, j55 = Sum.inl yj55 → Wp K zX9_lays Y (Qm K Y (some q.1) q.2) M52 65 [(0, .ref (adr Y 0)), (1, .int x1), (2, .int v1), (3, .int v54), (5, .int yj55)] [] := by
          intro yj55 hj
          subst hj
          dsimp only [Sum.elim] at h57
          refine w_iconst C (pc := 65) dX9_lays_65 (v := 0) (by decide) ?_
          refine w_istore C (pc := 66) dX9_lays_66 (lv' := [(0, .ref (adr Y 0)), (1, .int x1), (2, .int v1), (3, .int v54), (4, .int 0), (5, .int yj55)]) rfl rfl rfl ?_
          refine w_iload C (pc := 68) dX9_lays_68 5 rfl ?_
          refine w_iconst C (pc := 70) dX9_lays_70 (v := 1) (by decide) ?_
          refine w_iadd C (pc := 71) dX9_lays_71 ?_
          refine w_bnd h57 (fun v58 h57 => ?_)
          refine w_istore C (pc := 72) dX9_lays_72 (lv' := [(0, .ref (adr Y 0)), (1, .int x1), (2, .int v1), (3, .int v54), (4, .int 0), (5, .int yj55), (6, .int v58)]) rfl rfl rfl ?_
          obtain ⟨x59, e60, h57⟩ := ob h57
          refine itr_W (P := fun s61 => Wp K zX9_lays Y (Qm K Y (some q.1) q.2) M52 74 [(0, .ref (adr Y 0)), (1, .int x1), (2, .int v1), (3, .int v54), (4, .int s61.1), (5, .int yj55), (6, .int s61.2)] []) (R := fun x59 => Wp K zX9_lays Y (Qm K Y (some q.1) q.2) M52 115 [(0, .ref (adr Y 0)), (1, .int x1), (2, .int v1), (3, .int v54), (4, .int x59), (5, .int yj55)] []) ?_ fuel (0, v58) x59 e60 ?_
          · intro s61 r62 h65 ki63 kx64
            unfold pX9_lays_L74 at h65
            show Wp K zX9_lays Y (Qm K Y (some q.1) q.2) M52 74 [(0, .ref (adr Y 0)), (1, .int x1), (2, .int v1), (3, .int v54), (4, .int s61.1), (5, .int yj55), (6, .int s61.2)] []
            refine w_iload C (pc := 74) dX9_lays_74 6 rfl ?_
            refine w_iload_n C (pc := 76) dX9_lays_76 2 rfl ?_
            refine w_icgt C (pc := 77) 115 dX9_lays_77 (by decide) (fun c => ?_) (fun c => ?_)
            · have h65 := it_t h65 c
              obtain rfl := Option.some.inj h65
              refine w_lv [0, 1, 2, 3, 4, 5] rfl ?_
              have k9 := kx64 s61.1 rfl
              try dsimp only at k9
              exact k9
            · have h65 := it_f h65 c
              refine w_iload C (pc := 80) dX9_lays_80 4 rfl ?_
              refine w_ifeq C (pc := 82) 106 dX9_lays_82 (by decide) (fun c => ?_) (fun c => ?_)
              · have h65 := it_t h65 c
                refine w_iconst C (pc := 106) dX9_lays_106 (v := 0) (by decide) ?_
                refine w_istore C (pc := 107) dX9_lays_107 (lv' := [(0, .ref (adr Y 0)), (1, .int x1), (2, .int v1), (3, .int v54), (4, .int 0), (5, .int yj55), (6, .int s61.2)]) rfl rfl rfl ?_
                refine w_iinc C (pc := 109) dX9_lays_109 6 rfl (v := 1) (lv' := [(0, .ref (adr Y 0)), (1, .int x1), (2, .int v1), (3, .int v54), (4, .int 0), (5, .int yj55), (6, .int (s61.2 + 1))]) (by decide) rfl rfl rfl ?_
                refine w_goto C (pc := 112) 74 dX9_lays_112 (by decide) ?_
                obtain rfl := Option.some.inj h65
                have k9 := ki63 (0, s61.2 + 1) rfl
                try dsimp only at k9
                exact k9
              · have h65 := it_f h65 c
                refine w_aload_n C (pc := 85) dX9_lays_85 0 rfl ?_
                refine w_getR C (pc := 86) dX9_lays_86 f_X9_48 (sB_0 hY) rfl ?_
                refine w_iload C (pc := 89) dX9_lays_89 6 rfl ?_
                obtain ⟨v66, e67, h65⟩ := ob h65
                refine w_iald C (pc := 91) dX9_lays_91 (sB_13 hY) e67 ?_
                refine w_aload_n C (pc := 92) dX9_lays_92 0 rfl ?_
                refine w_getR C (pc := 93) dX9_lays_93 f_X9_48 (sB_0 hY) rfl ?_
                refine w_iload C (pc := 96) dX9_lays_96 5 rfl ?_
                obtain ⟨v68, e69, h65⟩ := ob h65
                refine w_iald C (pc := 98) dX9_lays_98 (sB_13 hY) e69 ?_
                refine w_iceq C (pc := 99) 106 dX9_lays_99 (by decide) (fun c => ?_) (fun c => ?_)
                · have h65 := it_t h65 c
                  refine w_iconst C (pc := 106) dX9_lays_106 (v := 0) (by decide) ?_
                  refine w_istore C (pc := 107) dX9_lays_107 (lv' := [(0, .ref (adr Y 0)), (1, .int x1), (2, .int v1), (3, .int v54), (4, .int 0), (5, .int yj55), (6, .int s61.2)]) rfl rfl rfl ?_
                  refine w_iinc C (pc := 109) dX9_lays_109 6 rfl (v := 1) (lv' := [(0, .ref (adr Y 0)), (1, .int x1), (2, .int v1), (3, .int v54), (4, .int 0), (5, .int yj55), (6, .int (s61.2 + 1))]) (by decide) rfl rfl rfl ?_
                  refine w_goto C (pc := 112) 74 dX9_lays_112 (by decide) ?_
                  obtain rfl := Option.some.inj h65
                  have k9 := ki63 (0, s61.2 + 1) rfl
                  try dsimp only at k9
                  exact k9
                · have h65 := it_f h65 c
                  refine w_iconst C (pc := 102) dX9_lays_102 (v := 1) (by decide) ?_
                  refine w_goto C (pc := 103) 107 dX9_lays_103 (by decide) ?_
                  refine w_istore C (pc := 107) dX9_lays_107 (lv' := [(0, .ref (adr Y 0)), (1, .int x1), (2, .int v1), (3, .int v54), (4, .int 1), (5, .int yj55), (6, .int s61.2)]) rfl rfl rfl ?_
                  refine w_iinc C (pc := 109) dX9_lays_109 6 rfl (v := 1) (lv' := [(0, .ref (adr Y 0)), (1, .int x1), (2, .int v1), (3, .int v54), (4, .int 1), (5, .int yj55), (6, .int (s61.2 + 1))]) (by decide) rfl rfl rfl ?_
                  refine w_goto C (pc := 112) 74 dX9_lays_112 (by decide) ?_
                  obtain rfl := Option.some.inj h65
                  have k9 := ki63 (1, s61.2 + 1) rfl
                  try dsimp only at k9
                  exact k9
          · refine w_iinc C (pc := 115) dX9_lays_115 5 rfl (v := (-1)) (lv' := [(0, .ref (adr Y 0)), (1, .int x1), (2, .int v1), (3, .int v54), (4, .int x59), (5, .int (yj55 + (-1)))]) (by decide) rfl rfl rfl ?_
            refine w_goto C (pc := 118) 21 dX9_lays_118 (by decide) ?_
            obtain rfl := Option.some.inj h57
            have k9 := ki49 (v54, x59, yj55 + (-1), M52) rfl
            try dsimp only at k9
            exact k9
        refine w_ifeq C (pc := 44) 65 dX9_lays_44 (by decide) (fun c => ?_) (fun c => ?_)
        · have e56 := it_t e56 c
          obtain rfl := Option.some.inj e56
          refine w_lv [0, 1, 2, 3, 5] rfl ?_
          have k9 := Jj55 s47.2.2.1 rfl
          try dsimp only at k9
          exact k9
        · have e56 := it_f e56 c
          refine w_aload_n C (pc := 47) dX9_lays_47 0 rfl ?_
          refine w_aload_n C (pc := 48) dX9_lays_48 0 rfl ?_
          refine w_getR C (pc := 49) dX9_lays_49 f_X9_48 (sB_0 hY) rfl ?_
          refine w_iload C (pc := 52) dX9_lays_52 5 rfl ?_
          obtain ⟨v70, e71, e56⟩ := ob e56
          refine w_iald C (pc := 54) dX9_lays_54 (sB_13 hY) e71 ?_
          obtain ⟨v72, e73, e56⟩ := ob e56
          refine w_cVi C (pc := 55) dX9_lays_55 my_X9_isCustomer mi_X9_isCustomer ml_X9_103 (sB_0 hY) rfl rfl rfl [.int v70] rfl rfl (Nat.le_of_ble_eq_true rfl) (tX9_isCustomer hY  e73) ?_
          refine w_ifeq C (pc := 58) 65 dX9_lays_58 (by decide) (fun c => ?_) (fun c => ?_)
          · have e56 := it_t e56 c
            obtain rfl := Option.some.inj e56
            refine w_lv [0, 1, 2, 3, 5] rfl ?_
            have k9 := Jj55 s47.2.2.1 rfl
            try dsimp only at k9
            exact k9
          · have e56 := it_f e56 c
            refine w_iconst C (pc := 61) dX9_lays_61 (v := 1) (by decide) ?_
            refine w_goto C (pc := 62) 66 dX9_lays_62 (by decide) ?_
            refine w_istore C (pc := 66) dX9_lays_66 (lv' := [(0, .ref (adr Y 0)), (1, .int x1), (2, .int v1), (3, .int v54), (4, .int 1), (5, .int s47.2.2.1)]) rfl rfl rfl ?_
            refine w_iload C (pc := 68) dX9_lays_68 5 rfl ?_
            refine w_iconst C (pc := 70) dX9_lays_70 (v := 1) (by decide) ?_
            refine w_iadd C (pc := 71) dX9_lays_71 ?_
            refine w_bnd e56 (fun v74 e56 => ?_)
            refine w_istore C (pc := 72) dX9_lays_72 (lv' := [(0, .ref (adr Y 0)), (1, .int x1), (2, .int v1), (3, .int v54), (4, .int 1), (5, .int s47.2.2.1), (6, .int v74)]) rfl rfl rfl ?_
            obtain ⟨x75, e76, e56⟩ := ob e56
            refine itr_W (P := fun s77 => Wp K zX9_lays Y (Qm K Y (some q.1) q.2) M52 74 [(0, .ref (adr Y 0)), (1, .int x1), (2, .int v1), (3, .int v54), (4, .int s77.1), (5, .int s47.2.2.1), (6, .int s77.2)] []) (R := fun x75 => Wp K zX9_lays Y (Qm K Y (some q.1) q.2) M52 115 [(0, .ref (adr Y 0)), (1, .int x1), (2, .int v1), (3, .int v54), (4, .int x75), (5, .int s47.2.2.1)] []) ?_ fuel (1, v74) x75 e76 ?_
            · intro s77 r78 h81 ki79 kx80
              unfold pX9_lays_L74 at h81
              show Wp K zX9_lays Y (Qm K Y (some q.1) q.2) M52 74 [(0, .ref (adr Y 0)), (1, .int x1), (2, .int v1), (3, .int v54), (4, .int s77.1), (5, .int s47.2.2.1), (6, .int s77.2)] []
              refine w_iload C (pc := 74) dX9_lays_74 6 rfl ?_
              refine w_iload_n C (pc := 76) dX9_lays_76 2 rfl ?_
              refine w_icgt C (pc := 77) 115 dX9_lays_77 (by decide) (fun c => ?_) (fun c => ?_)
              · have h81 := it_t h81 c
                obtain rfl := Option.some.inj h81
                refine w_lv [0, 1, 2, 3, 4, 5] rfl ?_
                have k9 := kx80 s77.1 rfl
                try dsimp only at k9
                exact k9
              · have h81 := it_f h81 c
                refine w_iload C (pc := 80) dX9_lays_80 4 rfl ?_
                refine w_ifeq C (pc := 82) 106 dX9_lays_82 (by decide) (fun c => ?_) (fun c => ?_)
                · have h81 := it_t h81 c
                  refine w_iconst C (pc := 106) dX9_lays_106 (v := 0) (by decide) ?_
                  refine w_istore C (pc := 107) dX9_lays_107 (lv' := [(0, .ref (adr Y 0)), (1, .int x1), (2, .int v1), (3, .int v54), (4, .int 0), (5, .int s47.2.2.1), (6, .int s77.2)]) rfl rfl rfl ?_
                  refine w_iinc C (pc := 109) dX9_lays_109 6 rfl (v := 1) (lv' := [(0, .ref (adr Y 0)), (1, .int x1), (2, .int v1), (3, .int v54), (4, .int 0), (5, .int s47.2.2.1), (6, .int (s77.2 + 1))]) (by decide) rfl rfl rfl ?_
                  refine w_goto C (pc := 112) 74 dX9_lays_112 (by decide) ?_
                  obtain rfl := Option.some.inj h81
                  have k9 := ki79 (0, s77.2 + 1) rfl
                  try dsimp only at k9
                  exact k9
                · have h81 := it_f h81 c
                  refine w_aload_n C (pc := 85) dX9_lays_85 0 rfl ?_
                  refine w_getR C (pc := 86) dX9_lays_86 f_X9_48 (sB_0 hY) rfl ?_
                  refine w_iload C (pc := 89) dX9_lays_89 6 rfl ?_
                  obtain ⟨v82, e83, h81⟩ := ob h81
                  refine w_iald C (pc := 91) dX9_lays_91 (sB_13 hY) e83 ?_
                  refine w_aload_n C (pc := 92) dX9_lays_92 0 rfl ?_
                  refine w_getR C (pc := 93) dX9_lays_93 f_X9_48 (sB_0 hY) rfl ?_
                  refine w_iload C (pc := 96) dX9_lays_96 5 rfl ?_
                  obtain ⟨v84, e85, h81⟩ := ob h81
                  refine w_iald C (pc := 98) dX9_lays_98 (sB_13 hY) e85 ?_
                  refine w_iceq C (pc := 99) 106 dX9_lays_99 (by decide) (fun c => ?_) (fun c => ?_)
                  · have h81 := it_t h81 c
                    refine w_iconst C (pc := 106) dX9_lays_106 (v := 0) (by decide) ?_
                    refine w_istore C (pc := 107) dX9_lays_107 (lv' := [(0, .ref (adr Y 0)), (1, .int x1), (2, .int v1), (3, .int v54), (4, .int 0), (5, .int s47.2.2.1), (6, .int s77.2)]) rfl rfl rfl ?_
                    refine w_iinc C (pc := 109) dX9_lays_109 6 rfl (v := 1) (lv' := [(0, .ref (adr Y 0)), (1, .int x1), (2, .int v1), (3, .int v54), (4, .int 0), (5, .int s47.2.2.1), (6, .int (s77.2 + 1))]) (by decide) rfl rfl rfl ?_
                    refine w_goto C (pc := 112) 74 dX9_lays_112 (by decide) ?_
                    obtain rfl := Option.some.inj h81
                    have k9 := ki79 (0, s77.2 + 1) rfl
                    try dsimp only at k9
                    exact k9
                  · have h81 := it_f h81 c
                    refine w_iconst C (pc := 102) dX9_lays_102 (v := 1) (by decide) ?_
                    refine w_goto C (pc := 103) 107 dX9_lays_103 (by decide) ?_
                    refine w_istore C (pc := 107) dX9_lays_107 (lv' := [(0, .ref (adr Y 0)), (1, .int x1), (2, .int v1), (3, .int v54), (4, .int 1), (5, .int s47.2.2.1), (6, .int s77.2)]) rfl rfl rfl ?_
                    refine w_iinc C (pc := 109) dX9_lays_109 6 rfl (v := 1) (lv' := [(0, .ref (adr Y 0)), (1, .int x1), (2, .int v1), (3, .int v54), (4, .int 1), (5, .int s47.2.2.1), (6, .int (s77.2 + 1))]) (by decide) rfl rfl rfl ?_
                    refine w_goto C (pc := 112) 74 dX9_lays_112 (by decide) ?_
                    obtain rfl := Option.some.inj h81
                    have k9 := ki79 (1, s77.2 + 1) rfl
                    try dsimp only at k9
                    exact k9
            · refine w_iinc C (pc := 115) dX9_lays_115 5 rfl (v := (-1)) (lv' := [(0, .ref (adr Y 0)), (1, .int x1), (2, .int v1), (3, .int v54), (4, .int x75), (5, .int (s47.2.2.1 + (-1)))]) (by decide) rfl rfl rfl ?_
              refine w_goto C (pc := 118) 21 dX9_lays_118 (by decide) ?_
              obtain rfl := Option.some.inj e56
              have h86 : some (Sum.inl (v54, x75, s47.2.2.1 + (-1), M52)) = some r48 := h57
              obtain rfl := Option.some.inj h86
              have k9 := ki49 (v54, x75, s47.2.2.1 + (-1), M52) rfl
              try dsimp only at k9
              exact k9
    · refine w_aload_n C (pc := 121) dX9_lays_121 0 rfl ?_
      refine w_getR C (pc := 122) dX9_lays_122 f_X9_48 (sB_0 hY) rfl ?_
      refine w_iconst C (pc := 125) dX9_lays_125 (v := 0) (by decide) ?_
      refine w_iconst C (pc := 126) dX9_lays_126 (v := 0) (by decide) ?_
      obtain ⟨M87, e88, h5⟩ := ob h5
      refine w_iast C (pc := 127) dX9_lays_127 (sB_13 hY) e88 ?_
      refine w_aload_n C (pc := 128) dX9_lays_128 0 rfl ?_
      refine w_getR C (pc := 129) dX9_lays_129 f_X9_48 (sB_0 hY) rfl ?_
      refine w_iload_n C (pc := 132) dX9_lays_132 2 rfl ?_
      refine w_iconst C (pc := 133) dX9_lays_133 (v := 1) (by decide) ?_
      refine w_iadd C (pc := 134) dX9_lays_134 ?_
      refine w_iconst C (pc := 135) dX9_lays_135 (v := 0) (by decide) ?_
      obtain ⟨M89, e90, h5⟩ := ob h5
      refine w_iast C (pc := 136) dX9_lays_136 (sB_13 hY) e90 ?_
      refine w_iload C (pc := 137) dX9_lays_137 4 rfl ?_
      refine w_ifeq C (pc := 139) 150 dX9_lays_139 (by decide) (fun c => ?_) (fun c => ?_)
      · have h5 := it_t h5 c
        refine w_iconst C (pc := 150) dX9_lays_150 (v := 0) (by decide) ?_
        exact w_retz C (pc := 151) dX9_lays_151 rfl (by decide) (Option.some.inj h5)
      · have h5 := it_f h5 c
        refine w_iload_n C (pc := 142) dX9_lays_142 3 rfl ?_
        refine w_ifne C (pc := 143) 150 dX9_lays_143 (by decide) (fun c => ?_) (fun c => ?_)
        · have h5 := it_t h5 c
          refine w_iconst C (pc := 146) dX9_lays_146 (v := 1) (by decide) ?_
          refine w_goto C (pc := 147) 151 dX9_lays_147 (by decide) ?_
          exact w_retz C (pc := 151) dX9_lays_151 rfl (by decide) (Option.some.inj h5)
        · have h5 := it_f h5 c
          refine w_iconst C (pc := 150) dX9_lays_150 (v := 0) (by decide) ?_
          exact w_retz C (pc := 151) dX9_lays_151 rfl (by decide) (Option.some.inj h5)
  refine w_iflt C (pc := 8) 15 dX9_lays_8 (by decide) (fun c => ?_) (fun c => ?_)
  · have e4 := it_t e4 c
    refine w_iconst C (pc := 15) dX9_lays_15 (v := 0) (by decide) ?_
    obtain rfl := e4
    exact Jj3
  · have e4 := it_f e4 c
    refine w_iconst C (pc := 11) dX9_lays_11 (v := 1) (by decide) ?_
    refine w_goto C (pc := 12) 16 dX9_lays_12 (by decide) ?_
    obtain rfl := e4
    exact Jj3
theorem dX9_letters_0 : decode cX9_letters 0 = .ok (.bipush 32, 2) := by decide +kernel
theorem dX9_letters_2 : decode cX9_letters 2 = .ok (.bipush 32, 2) := by decide +kernel
theorem dX9_letters_4 : decode cX9_letters 4 = .ok (.iload_n 0, 1) := by decide +kernel
theorem dX9_letters_5 : decode cX9_letters 5 = .ok (.imul, 1) := by decide +kernel
theorem dX9_letters_6 : decode cX9_letters 6 = .ok (.iload_n 1, 1) := by decide +kernel
theorem dX9_letters_7 : decode cX9_letters 7 = .ok (.iadd, 1) := by decide +kernel
theorem dX9_letters_8 : decode cX9_letters 8 = .ok (.imul, 1) := by decide +kernel
theorem dX9_letters_9 : decode cX9_letters 9 = .ok (.iload_n 2, 1) := by decide +kernel
theorem dX9_letters_10 : decode cX9_letters 10 = .ok (.iadd, 1) := by decide +kernel
theorem dX9_letters_11 : decode cX9_letters 11 = .ok (.ireturn, 1) := by decide +kernel
def pX9_letters (x0 : Int32) (x1 : Int32) (x2 : Int32) : Int32 :=
(32 * ((32 * x0) + x1)) + x2
abbrev zX9_letters : Zx := (cX9_letters, RX9, 3, 0, (some .int))
set_option maxRecDepth 100000 in
set_option maxHeartbeats 4000000 in
theorem tX9_letters {l : Launch} {Y : Sx} {M : Mm} {x0 : Int32} {x1 : Int32} {x2 : Int32} {q : Int32} (h : pX9_letters x0 x1 x2 = q) : Ct l Y yX9_letters cX9_letters 3 (some .int) 0 [.int x0, .int x1, .int x2] M (some q) M := by
  refine Ct.of (by decide) rfl (lv := [(0, .int x0), (1, .int x1), (2, .int x2)]) rfl ?_
  intro K hkl C
  change Cx K zX9_letters Y at C
  subst hkl
  unfold pX9_letters at h
  show Wp K zX9_letters Y (Qm K Y (some q) M) M 0 [(0, .int x0), (1, .int x1), (2, .int x2)] []
  refine w_bipush C (pc := 0) dX9_letters_0 (v := 32) (by decide) ?_
  refine w_bipush C (pc := 2) dX9_letters_2 (v := 32) (by decide) ?_
  refine w_iload_n C (pc := 4) dX9_letters_4 0 rfl ?_
  refine w_imul C (pc := 5) dX9_letters_5 ?_
  refine w_iload_n C (pc := 6) dX9_letters_6 1 rfl ?_
  refine w_iadd C (pc := 7) dX9_letters_7 ?_
  refine w_imul C (pc := 8) dX9_letters_8 ?_
  refine w_iload_n C (pc := 9) dX9_letters_9 2 rfl ?_
  refine w_iadd C (pc := 10) dX9_letters_10 ?_
  exact w_retR C (pc := 11) dX9_letters_11 rfl h
theorem dX9_maySet_0 : decode cX9_maySet 0 = .ok (.iload_n 0, 1) := by decide +kernel
theorem dX9_maySet_1 : decode cX9_maySet 1 = .ok (.tableswitch 99 0 8 #[51, 51, 59, 59, 67, 75, 84, 84, 92], 51) := by decide +kernel
theorem dX9_maySet_52 : decode cX9_maySet 52 = .ok (.iload_n 1, 1) := by decide +kernel
theorem dX9_maySet_53 : decode cX9_maySet 53 = .ok (.iconst 1, 1) := by decide +kernel
theorem dX9_maySet_54 : decode cX9_maySet 54 = .ok (.bipush 9, 2) := by decide +kernel
theorem dX9_maySet_56 : decode cX9_maySet 56 = .ok (.invokestatic 70, 3) := by decide +kernel
theorem dX9_maySet_59 : decode cX9_maySet 59 = .ok (.ireturn, 1) := by decide +kernel
theorem dX9_maySet_60 : decode cX9_maySet 60 = .ok (.iload_n 1, 1) := by decide +kernel
theorem dX9_maySet_61 : decode cX9_maySet 61 = .ok (.bipush (-3), 2) := by decide +kernel
theorem dX9_maySet_63 : decode cX9_maySet 63 = .ok (.iconst 3, 1) := by decide +kernel
theorem dX9_maySet_64 : decode cX9_maySet 64 = .ok (.invokestatic 70, 3) := by decide +kernel
theorem dX9_maySet_67 : decode cX9_maySet 67 = .ok (.ireturn, 1) := by decide +kernel
theorem dX9_maySet_68 : decode cX9_maySet 68 = .ok (.iload_n 1, 1) := by decide +kernel
theorem dX9_maySet_69 : decode cX9_maySet 69 = .ok (.iconst 0, 1) := by decide +kernel
theorem dX9_maySet_70 : decode cX9_maySet 70 = .ok (.bipush 99, 2) := by decide +kernel
theorem dX9_maySet_72 : decode cX9_maySet 72 = .ok (.invokestatic 70, 3) := by decide +kernel
theorem dX9_maySet_75 : decode cX9_maySet 75 = .ok (.ireturn, 1) := by decide +kernel
theorem dX9_maySet_76 : decode cX9_maySet 76 = .ok (.iload_n 1, 1) := by decide +kernel
theorem dX9_maySet_77 : decode cX9_maySet 77 = .ok (.iconst 1, 1) := by decide +kernel
theorem dX9_maySet_78 : decode cX9_maySet 78 = .ok (.sipush 999, 3) := by decide +kernel
theorem dX9_maySet_81 : decode cX9_maySet 81 = .ok (.invokestatic 70, 3) := by decide +kernel
theorem dX9_maySet_84 : decode cX9_maySet 84 = .ok (.ireturn, 1) := by decide +kernel
theorem dX9_maySet_85 : decode cX9_maySet 85 = .ok (.iload_n 1, 1) := by decide +kernel
theorem dX9_maySet_86 : decode cX9_maySet 86 = .ok (.iconst 0, 1) := by decide +kernel
theorem dX9_maySet_87 : decode cX9_maySet 87 = .ok (.bipush 9, 2) := by decide +kernel
theorem dX9_maySet_89 : decode cX9_maySet 89 = .ok (.invokestatic 70, 3) := by decide +kernel
theorem dX9_maySet_92 : decode cX9_maySet 92 = .ok (.ireturn, 1) := by decide +kernel
theorem dX9_maySet_93 : decode cX9_maySet 93 = .ok (.iload_n 1, 1) := by decide +kernel
theorem dX9_maySet_94 : decode cX9_maySet 94 = .ok (.iconst 0, 1) := by decide +kernel
theorem dX9_maySet_95 : decode cX9_maySet 95 = .ok (.iconst 2, 1) := by decide +kernel
theorem dX9_maySet_96 : decode cX9_maySet 96 = .ok (.invokestatic 70, 3) := by decide +kernel
theorem dX9_maySet_99 : decode cX9_maySet 99 = .ok (.ireturn, 1) := by decide +kernel
theorem dX9_maySet_100 : decode cX9_maySet 100 = .ok (.iload_n 0, 1) := by decide +kernel
theorem dX9_maySet_101 : decode cX9_maySet 101 = .ok (.bipush 9, 2) := by decide +kernel
theorem dX9_maySet_103 : decode cX9_maySet 103 = .ok (.if_icmp .ne 16, 3) := by decide +kernel
theorem dX9_maySet_106 : decode cX9_maySet 106 = .ok (.iload_n 1, 1) := by decide +kernel
theorem dX9_maySet_107 : decode cX9_maySet 107 = .ok (.iconst 0, 1) := by decide +kernel
theorem dX9_maySet_108 : decode cX9_maySet 108 = .ok (.iconst 1, 1) := by decide +kernel
theorem dX9_maySet_109 : decode cX9_maySet 109 = .ok (.invokestatic 70, 3) := by decide +kernel
theorem dX9_maySet_112 : decode cX9_maySet 112 = .ok (.ifCond .eq 7, 3) := by decide +kernel
theorem dX9_maySet_115 : decode cX9_maySet 115 = .ok (.iconst 1, 1) := by decide +kernel
theorem dX9_maySet_116 : decode cX9_maySet 116 = .ok (.goto 4, 3) := by decide +kernel
theorem dX9_maySet_119 : decode cX9_maySet 119 = .ok (.iconst 0, 1) := by decide +kernel
theorem dX9_maySet_120 : decode cX9_maySet 120 = .ok (.ireturn, 1) := by decide +kernel
def pX9_maySet (x0 : Int32) (x1 : Int32) : Int32 :=
if x0 = 0 then
((pX9_isIn x1 1 9) &&& 1)
else
(if x0 = 1 then
((pX9_isIn x1 1 9) &&& 1)
else
(if x0 = 2 then
((pX9_isIn x1 (-3) 3) &&& 1)
else
(if x0 = 3 then
((pX9_isIn x1 (-3) 3) &&& 1)
else
(if x0 = 4 then
((pX9_isIn x1 0 99) &&& 1)
else
(if x0 = 5 then
((pX9_isIn x1 1 999) &&& 1)
else
(if x0 = 6 then
((pX9_isIn x1 0 9) &&& 1)
else
(if x0 = 7 then
((pX9_isIn x1 0 9) &&& 1)
else
(if x0 = 8 then
((pX9_isIn x1 0 2) &&& 1)
else
(if x0 = 9 then
(if (pX9_isIn x1 0 1) = 0 then
(0)
else
(1))
else
(0))))))))))
abbrev zX9_maySet : Zx := (cX9_maySet, RX9, 2, 1, (some .boolean))
set_option maxRecDepth 100000 in
set_option maxHeartbeats 4000000 in
theorem tX9_maySet {l : Launch} {Y : Sx} {M : Mm} {x0 : Int32} {x1 : Int32} {q : Int32} (h : pX9_maySet x0 x1 = q) : Ct l Y yX9_maySet cX9_maySet 2 (some .boolean) 1 [.int x0, .int x1] M (some q) M := by
  refine Ct.of (by decide) rfl (lv := [(0, .int x0), (1, .int x1)]) rfl ?_
  intro K hkl C
  change Cx K zX9_maySet Y at C
  subst hkl
  unfold pX9_maySet at h
  show Wp K zX9_maySet Y (Qm K Y (some q) M) M 0 [(0, .int x0), (1, .int x1)] []
  refine w_iload_n C (pc := 0) dX9_maySet_0 0 rfl ?_
  by_cases c1_0 : x0 = 0
  · have h := it_t h c1_0
    refine w_swIn C (pc := 1) (v := 0) 52 dX9_maySet_1 c1_0 (by decide) (by decide) rfl (by decide) ?_
    refine w_iload_n C (pc := 52) dX9_maySet_52 1 rfl ?_
    refine w_iconst C (pc := 53) dX9_maySet_53 (v := 1) (by decide) ?_
    refine w_bipush C (pc := 54) dX9_maySet_54 (v := 9) (by decide) ?_
    refine w_cSi C (pc := 56) dX9_maySet_56 my_X9_isIn ms_X9_isIn ml_X9_70 rfl rfl [.int x1, .int 1, .int 9] rfl rfl (Nat.le_of_ble_eq_true rfl) (tX9_isIn  rfl) ?_
    exact w_retZR C (pc := 59) dX9_maySet_59 rfl h
  have h := it_f h c1_0
  by_cases c1_1 : x0 = 1
  · have h := it_t h c1_1
    refine w_swIn C (pc := 1) (v := 1) 52 dX9_maySet_1 c1_1 (by decide) (by decide) rfl (by decide) ?_
    refine w_iload_n C (pc := 52) dX9_maySet_52 1 rfl ?_
    refine w_iconst C (pc := 53) dX9_maySet_53 (v := 1) (by decide) ?_
    refine w_bipush C (pc := 54) dX9_maySet_54 (v := 9) (by decide) ?_
    refine w_cSi C (pc := 56) dX9_maySet_56 my_X9_isIn ms_X9_isIn ml_X9_70 rfl rfl [.int x1, .int 1, .int 9] rfl rfl (Nat.le_of_ble_eq_true rfl) (tX9_isIn  rfl) ?_
    exact w_retZR C (pc := 59) dX9_maySet_59 rfl h
  have h := it_f h c1_1
  by_cases c1_2 : x0 = 2
  · have h := it_t h c1_2
    refine w_swIn C (pc := 1) (v := 2) 60 dX9_maySet_1 c1_2 (by decide) (by decide) rfl (by decide) ?_
    refine w_iload_n C (pc := 60) dX9_maySet_60 1 rfl ?_
    refine w_bipush C (pc := 61) dX9_maySet_61 (v := (-3)) (by decide) ?_
    refine w_iconst C (pc := 63) dX9_maySet_63 (v := 3) (by decide) ?_
    refine w_cSi C (pc := 64) dX9_maySet_64 my_X9_isIn ms_X9_isIn ml_X9_70 rfl rfl [.int x1, .int (-3), .int 3] rfl rfl (Nat.le_of_ble_eq_true rfl) (tX9_isIn  rfl) ?_
    exact w_retZR C (pc := 67) dX9_maySet_67 rfl h
  have h := it_f h c1_2
  by_cases c1_3 : x0 = 3
  · have h := it_t h c1_3
    refine w_swIn C (pc := 1) (v := 3) 60 dX9_maySet_1 c1_3 (by decide) (by decide) rfl (by decide) ?_
    refine w_iload_n C (pc := 60) dX9_maySet_60 1 rfl ?_
    refine w_bipush C (pc := 61) dX9_maySet_61 (v := (-3)) (by decide) ?_
    refine w_iconst C (pc := 63) dX9_maySet_63 (v := 3) (by decide) ?_
    refine w_cSi C (pc := 64) dX9_maySet_64 my_X9_isIn ms_X9_isIn ml_X9_70 rfl rfl [.int x1, .int (-3), .int 3] rfl rfl (Nat.le_of_ble_eq_true rfl) (tX9_isIn  rfl) ?_
    exact w_retZR C (pc := 67) dX9_maySet_67 rfl h
  have h := it_f h c1_3
  by_cases c1_4 : x0 = 4
  · have h := it_t h c1_4
    refine w_swIn C (pc := 1) (v := 4) 68 dX9_maySet_1 c1_4 (by decide) (by decide) rfl (by decide) ?_
    refine w_iload_n C (pc := 68) dX9_maySet_68 1 rfl ?_
    refine w_iconst C (pc := 69) dX9_maySet_69 (v := 0) (by decide) ?_
    refine w_bipush C (pc := 70) dX9_maySet_70 (v := 99) (by decide) ?_
    refine w_cSi C (pc := 72) dX9_maySet_72 my_X9_isIn ms_X9_isIn ml_X9_70 rfl rfl [.int x1, .int 0, .int 99] rfl rfl (Nat.le_of_ble_eq_true rfl) (tX9_isIn  rfl) ?_
    exact w_retZR C (pc := 75) dX9_maySet_75 rfl h
  have h := it_f h c1_4
  by_cases c1_5 : x0 = 5
  · have h := it_t h c1_5
    refine w_swIn C (pc := 1) (v := 5) 76 dX9_maySet_1 c1_5 (by decide) (by decide) rfl (by decide) ?_
    refine w_iload_n C (pc := 76) dX9_maySet_76 1 rfl ?_
    refine w_iconst C (pc := 77) dX9_maySet_77 (v := 1) (by decide) ?_
    refine w_sipush C (pc := 78) dX9_maySet_78 (v := 999) (by decide) ?_
    refine w_cSi C (pc := 81) dX9_maySet_81 my_X9_isIn ms_X9_isIn ml_X9_70 rfl rfl [.int x1, .int 1, .int 999] rfl rfl (Nat.le_of_ble_eq_true rfl) (tX9_isIn  rfl) ?_
    exact w_retZR C (pc := 84) dX9_maySet_84 rfl h
  have h := it_f h c1_5
  by_cases c1_6 : x0 = 6
  · have h := it_t h c1_6
    refine w_swIn C (pc := 1) (v := 6) 85 dX9_maySet_1 c1_6 (by decide) (by decide) rfl (by decide) ?_
    refine w_iload_n C (pc := 85) dX9_maySet_85 1 rfl ?_
    refine w_iconst C (pc := 86) dX9_maySet_86 (v := 0) (by decide) ?_
    refine w_bipush C (pc := 87) dX9_maySet_87 (v := 9) (by decide) ?_
    refine w_cSi C (pc := 89) dX9_maySet_89 my_X9_isIn ms_X9_isIn ml_X9_70 rfl rfl [.int x1, .int 0, .int 9] rfl rfl (Nat.le_of_ble_eq_true rfl) (tX9_isIn  rfl) ?_
    exact w_retZR C (pc := 92) dX9_maySet_92 rfl h
  have h := it_f h c1_6
  by_cases c1_7 : x0 = 7
  · have h := it_t h c1_7
    refine w_swIn C (pc := 1) (v := 7) 85 dX9_maySet_1 c1_7 (by decide) (by decide) rfl (by decide) ?_
    refine w_iload_n C (pc := 85) dX9_maySet_85 1 rfl ?_
    refine w_iconst C (pc := 86) dX9_maySet_86 (v := 0) (by decide) ?_
    refine w_bipush C (pc := 87) dX9_maySet_87 (v := 9) (by decide) ?_
    refine w_cSi C (pc := 89) dX9_maySet_89 my_X9_isIn ms_X9_isIn ml_X9_70 rfl rfl [.int x1, .int 0, .int 9] rfl rfl (Nat.le_of_ble_eq_true rfl) (tX9_isIn  rfl) ?_
    exact w_retZR C (pc := 92) dX9_maySet_92 rfl h
  have h := it_f h c1_7
  by_cases c1_8 : x0 = 8
  · have h := it_t h c1_8
    refine w_swIn C (pc := 1) (v := 8) 93 dX9_maySet_1 c1_8 (by decide) (by decide) rfl (by decide) ?_
    refine w_iload_n C (pc := 93) dX9_maySet_93 1 rfl ?_
    refine w_iconst C (pc := 94) dX9_maySet_94 (v := 0) (by decide) ?_
    refine w_iconst C (pc := 95) dX9_maySet_95 (v := 2) (by decide) ?_
    refine w_cSi C (pc := 96) dX9_maySet_96 my_X9_isIn ms_X9_isIn ml_X9_70 rfl rfl [.int x1, .int 0, .int 2] rfl rfl (Nat.le_of_ble_eq_true rfl) (tX9_isIn  rfl) ?_
    exact w_retZR C (pc := 99) dX9_maySet_99 rfl h
  have h := it_f h c1_8
  refine w_swOut C (pc := 1) 100 dX9_maySet_1 (by have q0 := lv_neT c1_0 (a := 0) rfl; have q1 := lv_neT c1_1 (a := 1) rfl; have q2 := lv_neT c1_2 (a := 2) rfl; have q3 := lv_neT c1_3 (a := 3) rfl; have q4 := lv_neT c1_4 (a := 4) rfl; have q5 := lv_neT c1_5 (a := 5) rfl; have q6 := lv_neT c1_6 (a := 6) rfl; have q7 := lv_neT c1_7 (a := 7) rfl; have q8 := lv_neT c1_8 (a := 8) rfl; omega) (by decide) ?_
  refine w_iload_n C (pc := 100) dX9_maySet_100 0 rfl ?_
  refine w_bipush C (pc := 101) dX9_maySet_101 (v := 9) (by decide) ?_
  refine w_icne C (pc := 103) 119 dX9_maySet_103 (by decide) (fun c => ?_) (fun c => ?_)
  · have h := it_t h c
    refine w_iload_n C (pc := 106) dX9_maySet_106 1 rfl ?_
    refine w_iconst C (pc := 107) dX9_maySet_107 (v := 0) (by decide) ?_
    refine w_iconst C (pc := 108) dX9_maySet_108 (v := 1) (by decide) ?_
    refine w_cSi C (pc := 109) dX9_maySet_109 my_X9_isIn ms_X9_isIn ml_X9_70 rfl rfl [.int x1, .int 0, .int 1] rfl rfl (Nat.le_of_ble_eq_true rfl) (tX9_isIn  rfl) ?_
    refine w_ifeq C (pc := 112) 119 dX9_maySet_112 (by decide) (fun c => ?_) (fun c => ?_)
    · have h := it_t h c
      refine w_iconst C (pc := 119) dX9_maySet_119 (v := 0) (by decide) ?_
      exact w_retzR C (pc := 120) dX9_maySet_120 rfl (by decide) h
    · have h := it_f h c
      refine w_iconst C (pc := 115) dX9_maySet_115 (v := 1) (by decide) ?_
      refine w_goto C (pc := 116) 120 dX9_maySet_116 (by decide) ?_
      exact w_retzR C (pc := 120) dX9_maySet_120 rfl (by decide) h
  · have h := it_f h c
    refine w_iconst C (pc := 119) dX9_maySet_119 (v := 0) (by decide) ?_
    exact w_retzR C (pc := 120) dX9_maySet_120 rfl (by decide) h
