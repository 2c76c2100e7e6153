theorem dJ0_length_8abf5_0 : decode cJ0_length_8abf5 0 = .ok (.aload_n 0, 1) := by decide +kernel
theorem dJ0_length_8abf5_1 : decode cJ0_length_8abf5 1 = .ok (.getfield 9, 3) := by decide +kernel
theorem dJ0_length_8abf5_4 : decode cJ0_length_8abf5 4 = .ok (.arraylength, 1) := by decide +kernel
theorem dJ0_length_8abf5_5 : decode cJ0_length_8abf5 5 = .ok (.aload_n 0, 1) := by decide +kernel
theorem dJ0_length_8abf5_6 : decode cJ0_length_8abf5 6 = .ok (.invokevirtual 335, 3) := by decide +kernel
theorem dJ0_length_8abf5_9 : decode cJ0_length_8abf5 9 = .ok (.ishr, 1) := by decide +kernel
theorem dJ0_length_8abf5_10 : decode cJ0_length_8abf5 10 = .ok (.ireturn, 1) := by decide +kernel
set_option maxRecDepth 20000 in
theorem tmy_length : MY yJ0_length_8abf5 cJ0_length_8abf5 1 (some .int) 0 := ⟨gw_mem (tb2 140 rfl) rfl, gw_mem (tb1 12 rfl) rfl, by decide +kernel⟩
set_option maxRecDepth 20000 in
theorem tmi_length : MI yJ0_length_8abf5 := ⟨gw_mem (tb2 138 rfl) rfl, gw_mem (tb2 139 rfl) rfl⟩
theorem dJ0_coder_7d493_0 : decode cJ0_coder_7d493 0 = .ok (.getstatic 38, 3) := by decide +kernel
theorem dJ0_coder_7d493_3 : decode cJ0_coder_7d493 3 = .ok (.ifCond .eq 10, 3) := by decide +kernel
theorem dJ0_coder_7d493_6 : decode cJ0_coder_7d493 6 = .ok (.aload_n 0, 1) := by decide +kernel
theorem dJ0_coder_7d493_7 : decode cJ0_coder_7d493 7 = .ok (.getfield 15, 3) := by decide +kernel
theorem dJ0_coder_7d493_10 : decode cJ0_coder_7d493 10 = .ok (.goto 4, 3) := by decide +kernel
theorem dJ0_coder_7d493_13 : decode cJ0_coder_7d493 13 = .ok (.iconst 1, 1) := by decide +kernel
theorem dJ0_coder_7d493_14 : decode cJ0_coder_7d493 14 = .ok (.ireturn, 1) := by decide +kernel
set_option maxRecDepth 20000 in
theorem tmy_coder : MY yJ0_coder_7d493 cJ0_coder_7d493 1 (some .byte) 0 := ⟨gw_mem (tb2 144 rfl) rfl, gw_mem (tb1 12 rfl) rfl, by decide +kernel⟩
set_option maxRecDepth 20000 in
theorem tmi_coder : MI yJ0_coder_7d493 := ⟨gw_mem (tb2 142 rfl) rfl, gw_mem (tb2 143 rfl) rfl⟩
theorem dJ0_charAt_5068e_0 : decode cJ0_charAt_5068e 0 = .ok (.aload_n 0, 1) := by decide +kernel
theorem dJ0_charAt_5068e_1 : decode cJ0_charAt_5068e 1 = .ok (.invokevirtual 492, 3) := by decide +kernel
theorem dJ0_charAt_5068e_4 : decode cJ0_charAt_5068e 4 = .ok (.ifCond .eq 12, 3) := by decide +kernel
theorem dJ0_charAt_5068e_7 : decode cJ0_charAt_5068e 7 = .ok (.aload_n 0, 1) := by decide +kernel
theorem dJ0_charAt_5068e_8 : decode cJ0_charAt_5068e 8 = .ok (.getfield 9, 3) := by decide +kernel
theorem dJ0_charAt_5068e_11 : decode cJ0_charAt_5068e 11 = .ok (.iload_n 1, 1) := by decide +kernel
theorem dJ0_charAt_5068e_12 : decode cJ0_charAt_5068e 12 = .ok (.invokestatic 495, 3) := by decide +kernel
theorem dJ0_charAt_5068e_15 : decode cJ0_charAt_5068e 15 = .ok (.ireturn, 1) := by decide +kernel
theorem dJ0_charAt_5068e_16 : decode cJ0_charAt_5068e 16 = .ok (.aload_n 0, 1) := by decide +kernel
theorem dJ0_charAt_5068e_17 : decode cJ0_charAt_5068e 17 = .ok (.getfield 9, 3) := by decide +kernel
theorem dJ0_charAt_5068e_20 : decode cJ0_charAt_5068e 20 = .ok (.iload_n 1, 1) := by decide +kernel
theorem dJ0_charAt_5068e_21 : decode cJ0_charAt_5068e 21 = .ok (.invokestatic 498, 3) := by decide +kernel
theorem dJ0_charAt_5068e_24 : decode cJ0_charAt_5068e 24 = .ok (.ireturn, 1) := by decide +kernel
set_option maxRecDepth 20000 in
theorem tmy_charAt : MY yJ0_charAt_5068e cJ0_charAt_5068e 2 (some .char) 1 := ⟨gw_mem (tb2 150 rfl) rfl, gw_mem (tb1 12 rfl) rfl, by decide +kernel⟩
set_option maxRecDepth 20000 in
theorem tmi_charAt : MI yJ0_charAt_5068e := ⟨gw_mem (tb2 148 rfl) rfl, gw_mem (tb2 149 rfl) rfl⟩
theorem dJ0_isLatin1_aae02_0 : decode cJ0_isLatin1_aae02 0 = .ok (.getstatic 38, 3) := by decide +kernel
theorem dJ0_isLatin1_aae02_3 : decode cJ0_isLatin1_aae02 3 = .ok (.ifCond .eq 14, 3) := by decide +kernel
theorem dJ0_isLatin1_aae02_6 : decode cJ0_isLatin1_aae02 6 = .ok (.aload_n 0, 1) := by decide +kernel
theorem dJ0_isLatin1_aae02_7 : decode cJ0_isLatin1_aae02 7 = .ok (.getfield 15, 3) := by decide +kernel
theorem dJ0_isLatin1_aae02_10 : decode cJ0_isLatin1_aae02 10 = .ok (.ifCond .ne 7, 3) := by decide +kernel
theorem dJ0_isLatin1_aae02_13 : decode cJ0_isLatin1_aae02 13 = .ok (.iconst 1, 1) := by decide +kernel
theorem dJ0_isLatin1_aae02_14 : decode cJ0_isLatin1_aae02 14 = .ok (.goto 4, 3) := by decide +kernel
theorem dJ0_isLatin1_aae02_17 : decode cJ0_isLatin1_aae02 17 = .ok (.iconst 0, 1) := by decide +kernel
theorem dJ0_isLatin1_aae02_18 : decode cJ0_isLatin1_aae02 18 = .ok (.ireturn, 1) := by decide +kernel
set_option maxRecDepth 20000 in
theorem tmy_isLatin1 : MY yJ0_isLatin1_aae02 cJ0_isLatin1_aae02 1 (some .boolean) 0 := ⟨gw_mem (tb2 154 rfl) rfl, gw_mem (tb1 12 rfl) rfl, by decide +kernel⟩
set_option maxRecDepth 20000 in
theorem tmi_isLatin1 : MI yJ0_isLatin1_aae02 := ⟨gw_mem (tb2 152 rfl) rfl, gw_mem (tb2 153 rfl) rfl⟩
theorem dJ0_checkIndex_df160_0 : decode cJ0_checkIndex_df160 0 = .ok (.iload_n 0, 1) := by decide +kernel
theorem dJ0_checkIndex_df160_1 : decode cJ0_checkIndex_df160 1 = .ok (.iload_n 1, 1) := by decide +kernel
theorem dJ0_checkIndex_df160_2 : decode cJ0_checkIndex_df160 2 = .ok (.getstatic 1053, 3) := by decide +kernel
theorem dJ0_checkIndex_df160_5 : decode cJ0_checkIndex_df160 5 = .ok (.invokestatic 1059, 3) := by decide +kernel
theorem dJ0_checkIndex_df160_8 : decode cJ0_checkIndex_df160 8 = .ok (.pop, 1) := by decide +kernel
theorem dJ0_checkIndex_df160_9 : decode cJ0_checkIndex_df160 9 = .ok (.return_, 1) := by decide +kernel
set_option maxRecDepth 20000 in
theorem tmy_checkIndex : MY yJ0_checkIndex_df160 cJ0_checkIndex_df160 2 none 2 := ⟨gw_mem (tb2 160 rfl) rfl, gw_mem (tb1 12 rfl) rfl, by decide +kernel⟩
set_option maxRecDepth 20000 in
theorem tms_checkIndex : Cond.static yJ0_checkIndex_df160 ∈ gw := gw_mem (tb2 159 rfl) rfl
theorem dJ1_charAt_3b067_0 : decode cJ1_charAt_3b067 0 = .ok (.iload_n 1, 1) := by decide +kernel
theorem dJ1_charAt_3b067_1 : decode cJ1_charAt_3b067 1 = .ok (.aload_n 0, 1) := by decide +kernel
theorem dJ1_charAt_3b067_2 : decode cJ1_charAt_3b067 2 = .ok (.arraylength, 1) := by decide +kernel
theorem dJ1_charAt_3b067_3 : decode cJ1_charAt_3b067 3 = .ok (.invokestatic 9, 3) := by decide +kernel
theorem dJ1_charAt_3b067_6 : decode cJ1_charAt_3b067 6 = .ok (.aload_n 0, 1) := by decide +kernel
theorem dJ1_charAt_3b067_7 : decode cJ1_charAt_3b067 7 = .ok (.iload_n 1, 1) := by decide +kernel
theorem dJ1_charAt_3b067_8 : decode cJ1_charAt_3b067 8 = .ok (.baload, 1) := by decide +kernel
theorem dJ1_charAt_3b067_9 : decode cJ1_charAt_3b067 9 = .ok (.sipush 255, 3) := by decide +kernel
theorem dJ1_charAt_3b067_12 : decode cJ1_charAt_3b067 12 = .ok (.iand, 1) := by decide +kernel
theorem dJ1_charAt_3b067_13 : decode cJ1_charAt_3b067 13 = .ok (.i2c, 1) := by decide +kernel
theorem dJ1_charAt_3b067_14 : decode cJ1_charAt_3b067 14 = .ok (.ireturn, 1) := by decide +kernel
set_option maxRecDepth 20000 in
theorem tmy_lcharAt : MY yJ1_charAt_3b067 cJ1_charAt_3b067 2 (some .char) 2 := ⟨gw_mem (tb2 157 rfl) rfl, gw_mem (tb1 13 rfl) rfl, by decide +kernel⟩
set_option maxRecDepth 20000 in
theorem tms_lcharAt : Cond.static yJ1_charAt_3b067 ∈ gw := gw_mem (tb2 156 rfl) rfl
theorem dJ3_checkIndex_8e157_0 : decode cJ3_checkIndex_8e157 0 = .ok (.iload_n 0, 1) := by decide +kernel
theorem dJ3_checkIndex_8e157_1 : decode cJ3_checkIndex_8e157 1 = .ok (.ifCond .lt 8, 3) := by decide +kernel
theorem dJ3_checkIndex_8e157_4 : decode cJ3_checkIndex_8e157 4 = .ok (.iload_n 0, 1) := by decide +kernel
theorem dJ3_checkIndex_8e157_5 : decode cJ3_checkIndex_8e157 5 = .ok (.iload_n 1, 1) := by decide +kernel
theorem dJ3_checkIndex_8e157_6 : decode cJ3_checkIndex_8e157 6 = .ok (.if_icmp .lt 10, 3) := by decide +kernel
theorem dJ3_checkIndex_8e157_9 : decode cJ3_checkIndex_8e157 9 = .ok (.aload_n 2, 1) := by decide +kernel
theorem dJ3_checkIndex_8e157_10 : decode cJ3_checkIndex_8e157 10 = .ok (.iload_n 0, 1) := by decide +kernel
theorem dJ3_checkIndex_8e157_11 : decode cJ3_checkIndex_8e157 11 = .ok (.iload_n 1, 1) := by decide +kernel
theorem dJ3_checkIndex_8e157_12 : decode cJ3_checkIndex_8e157 12 = .ok (.invokestatic 95, 3) := by decide +kernel
theorem dJ3_checkIndex_8e157_15 : decode cJ3_checkIndex_8e157 15 = .ok (.athrow, 1) := by decide +kernel
theorem dJ3_checkIndex_8e157_16 : decode cJ3_checkIndex_8e157 16 = .ok (.iload_n 0, 1) := by decide +kernel
theorem dJ3_checkIndex_8e157_17 : decode cJ3_checkIndex_8e157 17 = .ok (.ireturn, 1) := by decide +kernel
set_option maxRecDepth 20000 in
theorem tmy_pcheck : MY yJ3_checkIndex_8e157 cJ3_checkIndex_8e157 3 (some .int) 3 := ⟨gw_mem (tb2 165 rfl) rfl, gw_mem (tb1 14 rfl) rfl, by decide +kernel⟩
set_option maxRecDepth 20000 in
theorem tms_pcheck : Cond.static yJ3_checkIndex_8e157 ∈ gw := gw_mem (tb2 164 rfl) rfl
set_option maxRecDepth 20000 in
theorem tml_coder : ML RJ0 335 yJ0_coder_7d493 := Or.inl (gw_mem (tb2 141 rfl) rfl)
set_option maxRecDepth 20000 in
theorem tml_isLatin1 : ML RJ0 492 yJ0_isLatin1_aae02 := Or.inl (gw_mem (tb2 151 rfl) rfl)
set_option maxRecDepth 20000 in
theorem tml_lcharAt : ML RJ0 495 yJ1_charAt_3b067 := Or.inl (gw_mem (tb2 155 rfl) rfl)
set_option maxRecDepth 20000 in
theorem tml_checkIndex : ML RJ1 9 yJ0_checkIndex_df160 := Or.inl (gw_mem (tb2 158 rfl) rfl)
set_option maxRecDepth 20000 in
theorem tml_pcheck : ML RJ0 1059 yJ3_checkIndex_8e157 := Or.inl (gw_mem (tb2 163 rfl) rfl)
set_option maxRecDepth 20000 in
theorem tfl_value : Cond.fieldLink RJ0 9 "java/lang/String" "value" "[B" ∈ gw := gw_mem (tb6 197 rfl) rfl
set_option maxRecDepth 20000 in
theorem tfl_coder : Cond.fieldLink RJ0 15 "java/lang/String" "coder" "B" ∈ gw := gw_mem (tb6 198 rfl) rfl
set_option maxRecDepth 20000 in
theorem tfl_compact : Cond.fieldLink RJ0 38 "java/lang/String" "COMPACT_STRINGS" "Z" ∈ gw := gw_mem (tb2 145 rfl) rfl
set_option maxRecDepth 20000 in
theorem tfl_fmt : Cond.fieldLink RJ0 1053 "jdk/internal/util/Preconditions" "SIOOBE_FORMATTER" "Ljava/util/function/BiFunction;" ∈ gw := gw_mem (tb2 161 rfl) rfl
section TXT
variable {K : Pk} {Z : Zx} {Y : Sx} {Q : State → Prop} {M : Mm} {pc : Nat} {lv : List (Nat × Value)} {st : List Value}
theorem w_tcoder (C : Cx K Z Y) {idx w : Nat} (hd : decode Z.1 pc = .ok (.getfield idx, 3)) (hl : Cond.fieldLink Z.2.1 idx "java/lang/String" "coder" "B" ∈ gw) (hw : w < 5) (h : Wp K Z Y Q M (pc + 3) lv (.int 0 :: st)) : Wp K Z Y Q M pc lv (.ref (ska Y w) :: st) :=
  fun H locs ls hP hS hlv => vk_getf C.1 C.2.1 (C.2.2.2.2.2.2.2.2.1.2.1.1 w hw).2.1 hS C.2.2.2.1 (C.2.2.2.2.1 _ hl) (fun _ h9 => h9) hd (h H locs ls hP hS hlv)
theorem w_tvalue (C : Cx K Z Y) {idx w : Nat} (hd : decode Z.1 pc = .ok (.getfield idx, 3)) (hl : Cond.fieldLink Z.2.1 idx "java/lang/String" "value" "[B" ∈ gw) (hw : w < 5) (h : Wp K Z Y Q M (pc + 3) lv (.ref (skv Y w) :: st)) : Wp K Z Y Q M pc lv (.ref (ska Y w) :: st) :=
  fun H locs ls hP hS hlv => vk_getf C.1 C.2.1 (C.2.2.2.2.2.2.2.2.1.2.1.1 w hw).2.2.1 hS C.2.2.2.1 (C.2.2.2.2.1 _ hl) (fun _ h9 => h9) hd (h H locs ls hP hS hlv)
theorem w_tlen (C : Cx K Z Y) {w : Nat} (hd : decode Z.1 pc = .ok (.arraylength, 1)) (hw : w < 5) (h : Wp K Z Y Q M (pc + 1) lv (.int (nI (skL.getD w 0)) :: st)) : Wp K Z Y Q M pc lv (.ref (skv Y w) :: st) :=
  fun H locs ls hP hS hlv => va_tlen C.1 C.2.1 (C.2.2.2.2.2.2.2.2.1.2.1.1 w hw).2.2.2 hS rfl hd (h H locs ls hP hS hlv)
theorem w_tbald (C : Cx K Z Y) {w : Nat} {x : Int32} (hd : decode Z.1 pc = .ok (.baload, 1)) (hw : w < 5) (hx : vp_in x (skL.getD w 0)) (h : Wp K Z Y Q M (pc + 1) lv (.int ((skB.getD w []).getD x.toNatClampNeg 0) :: st)) : Wp K Z Y Q M pc lv (.int x :: .ref (skv Y w) :: st) :=
  fun H locs ls hP hS hlv => va_tb C.1 C.2.1 (C.2.2.2.2.2.2.2.2.1.2.1.1 w hw).2.2.2 hS hx rfl hd (h H locs ls hP hS hlv)
theorem w_tcompact (C : Cx K Z Y) {idx : Nat} (hd : decode Z.1 pc = .ok (.getstatic idx, 3)) (hl : Cond.fieldLink Z.2.1 idx "java/lang/String" "COMPACT_STRINGS" "Z" ∈ gw) (h : Wp K Z Y Q M (pc + 3) lv (.int 1 :: st)) : Wp K Z Y Q M pc lv st :=
  fun H locs ls hP hS hlv => va_gets C.1 C.2.1 C.2.2.2.2.2.2.2.2.1.2.2.1 hS C.2.2.2.1 (C.2.2.2.2.1 _ hl) (fun _ h9 => h9) hd (h H locs ls hP hS hlv)
theorem w_tfmt (C : Cx K Z Y) {idx : Nat} (hd : decode Z.1 pc = .ok (.getstatic idx, 3)) (hl : Cond.fieldLink Z.2.1 idx "jdk/internal/util/Preconditions" "SIOOBE_FORMATTER" "Ljava/util/function/BiFunction;" ∈ gw) (h : ∀ v : Value, (v = .null ∨ ∃ t, v = .ref t) → Wp K Z Y Q M (pc + 3) lv (v :: st)) : Wp K Z Y Q M pc lv st := by
  intro H locs ls hP hS hlv
  rcases C.2.2.2.2.2.2.2.2.1.2.2.2 with hq | ⟨t, hq⟩
  · exact va_gets C.1 C.2.1 hq hS C.2.2.2.1 (C.2.2.2.2.1 _ hl) (fun _ h9 => h9) hd (h _ (Or.inl rfl) H locs ls hP hS hlv)
  · exact va_gets C.1 C.2.1 hq hS C.2.2.2.1 (C.2.2.2.2.1 _ hl) (fun _ h9 => h9) hd (h _ (Or.inr ⟨t, rfl⟩) H locs ls hP hS hlv)
theorem w_i2c (C : Cx K Z Y) {x : Int32} (hd : decode Z.1 pc = .ok (.i2c, 1)) (h : Wp K Z Y Q M (pc + 1) lv (.int (x.toUInt32 % 65536).toInt32 :: st)) : Wp K Z Y Q M pc lv (.int x :: st) :=
  fun H locs ls hP hS hl => lv_i2c C.1 C.2.1 hd rfl (h H locs ls hP hS hl)
theorem w_retT (C : Cx K Z Y) {v q : Int32} {ty : FieldType} (hd : decode Z.1 pc = .ok (.ireturn, 1)) (hr : Z.2.2.2.2 = some ty) (hn : narrow ty (.int v) = .int v) (h : v = q) : Wp K Z Y (Qm K Y (some q) M) M pc lv [.int v] := by
  intro H locs ls hP hS hl
  subst h
  exact W.zret (Qc := Qr Y (ks K).heap.size (some v) M) C.1 C.2.1 (by rw [C.2.2.2.2.2.2.2.2.2.2.2]; exact hr) hn (fun t ht _ => ⟨rfl, by rw [ht]; exact hP, hS.F ht⟩) hS.2.2 hd C.2.2.2.2.2.2.2.2.2.1
/-- a call whose receiver is a text -/
theorem w_callT (C : Cx K Z Y) {idx w n mL d : Nat} {y : MethodName} {cc : ByteArray} {ret : Option FieldType} {r : Option Int32} {M' : Mm} {stk : List Value} (hd : decode Z.1 pc = .ok (.invokevirtual idx, 3)) (hy : MY y cc mL ret n) (hi : MI y) (hlk : ML Z.2.1 idx y) (hw : w < 5) (hcs : y.cls = "java/lang/String") (hdd : Nat.blt d Z.2.2.2.1 = true) (hmm : Nat.ble mL 13 = true)
    (As : List Value) (hn : As.length = n) (hst : stk = As.reverse ++ .ref (ska Y w) :: st) (hW : (st.map fun v => v.category).sum ≤ 8) (hc : Ct (kl K) Y y cc mL ret d (.ref (ska Y w) :: As) M r M') (h : Wp K Z Y Q M' (pc + 3) lv ((r.map Value.int).toList ++ st)) : Wp K Z Y Q M pc lv stk := by
  intro H locs ls hP hS hl
  have hR : (rmd Z.2.2.2.1).frames ≤ (kR K).frames ∧ (rmd Z.2.2.2.1).locals ≤ (kR K).locals := C.2.2.2.2.2.2.2.2.2.2.1
  have hfix : CallFix (kp K) (km K) (kc K) Z.1 Z.2.2.1 (ks K) (ka K) gw Z.2.1 := ⟨C.1, C.2.1, C.2.2.1, C.2.2.2.1, C.2.2.2.2.1⟩
  have hrc : ∃ cell : Cell, H[ska Y w]? = some cell ∧ cell.vm.isStatics = false ∧ (ks K).vm.findClass y.cls = some cell.cls := by rw [hcs]; exact vk_recv C.2.2.2.2.2.2.2.2.1.2.1 hw hS
  have hpre : PreV (ks K) H y.cls (ska Y w) (va_Pc (.ref (ska Y w) :: As) (Pre Y M H.size)) As := ⟨pre_blind, hrc, fun U hU hW => ⟨rfl, pre_of C hP hS hU hW⟩⟩
  have hw2 : (Cond.instanceMethod y).before (ka K) (ks K) = true ∧ (Cond.selects y.cls y y).before (ka K) (ks K) = true := ⟨C.2.2.2.2.1 _ hi.1, C.2.2.2.2.1 _ hi.2⟩
  rcases hlk with hlk | ⟨host, hlk⟩
  · have cw : CallW (kR K) (ks K) (ka K) Z.2.1 y.cls idx y cc mL ret (Cond.code y cc mL ret :: gw) (rmd d) 0 0 n := ⟨callB_of n C.2.2.2.2.1 (gIn y cc mL ret hy.1) rfl rfl rfl (C.2.2.2.2.1 _ hy.2.1) (C.2.2.2.2.1 _ hlk) hy.2.2 (rm_le2 hR hdd hmm), hw2.1, hw2.2⟩
    exact call_end (idx := idx) hl hS (va_runV (As := As) (rest := st) hfix (hc H.size) cw hpre rfl hn hl.1 hst (lv_room hW) hd ⟨Nat.zero_le _, Nat.zero_le _⟩) h
  · have cw : va_CN (kR K) (ks K) (ka K) Z.2.1 idx y host cc mL ret (Cond.code y cc mL ret :: gw) (rmd d) 0 0 n := va_cnB n C.2.2.2.2.1 (gIn y cc mL ret hy.1) rfl rfl rfl (C.2.2.2.2.2.1.1 _ hlk) (C.2.2.2.2.1 _ hy.2.1) hy.2.2 (rm_le2 hR hdd hmm)
    exact call_end (idx := idx) hl hS (va_runVN (As := As) (rest := st) hfix (hc H.size) ⟨cw, hw2.1, hw2.2⟩ hpre rfl hn hl.1 hst (lv_room hW) hd ⟨Nat.zero_le _, Nat.zero_le _⟩) h
end TXT
abbrev zT_coder : Zx := (cJ0_coder_7d493, RJ0, 1, 0, some .byte)
theorem tT_coder {l : Launch} {Y : Sx} {M : Mm} {w : Nat} (hw : w < 5) : Ct l Y yJ0_coder_7d493 cJ0_coder_7d493 1 (some .byte) 0 [.ref (ska Y w)] M (some 0) M := by
  refine Ct.of (by decide) rfl (lv := [(0, .ref (ska Y w))]) rfl ?_
  intro K hkl C
  change Cx K zT_coder Y at C
  show Wp K zT_coder Y (Qm K Y (some 0) M) M 0 [(0, .ref (ska Y w))] []
  refine w_tcompact C (pc := 0) dJ0_coder_7d493_0 tfl_compact ?_
  refine w_ifeq C (pc := 3) 13 dJ0_coder_7d493_3 (by decide) (fun c => ?_) (fun c => ?_)
  · exact absurd c (by decide)
  · refine w_aload_n C (pc := 6) dJ0_coder_7d493_6 0 rfl ?_
    refine w_tcoder C (pc := 7) dJ0_coder_7d493_7 tfl_coder hw ?_
    refine w_goto C (pc := 10) 14 dJ0_coder_7d493_10 (by decide) ?_
    exact w_retT C (pc := 14) dJ0_coder_7d493_14 rfl (by decide) rfl
abbrev zT_isLatin1 : Zx := (cJ0_isLatin1_aae02, RJ0, 1, 0, some .boolean)
theorem tT_isLatin1 {l : Launch} {Y : Sx} {M : Mm} {w : Nat} (hw : w < 5) : Ct l Y yJ0_isLatin1_aae02 cJ0_isLatin1_aae02 1 (some .boolean) 0 [.ref (ska Y w)] M (some 1) M := by
  refine Ct.of (by decide) rfl (lv := [(0, .ref (ska Y w))]) rfl ?_
  intro K hkl C
  change Cx K zT_isLatin1 Y at C
  show Wp K zT_isLatin1 Y (Qm K Y (some 1) M) M 0 [(0, .ref (ska Y w))] []
  refine w_tcompact C (pc := 0) dJ0_isLatin1_aae02_0 tfl_compact ?_
  refine w_ifeq C (pc := 3) 17 dJ0_isLatin1_aae02_3 (by decide) (fun c => ?_) (fun c => ?_)
  · exact absurd c (by decide)
  · refine w_aload_n C (pc := 6) dJ0_isLatin1_aae02_6 0 rfl ?_
    refine w_tcoder C (pc := 7) dJ0_isLatin1_aae02_7 tfl_coder hw ?_
    refine w_ifne C (pc := 10) 17 dJ0_isLatin1_aae02_10 (by decide) (fun c => ?_) (fun c => ?_)
    · refine w_iconst C (pc := 13) dJ0_isLatin1_aae02_13 (v := 1) (by decide) ?_
      refine w_goto C (pc := 14) 18 dJ0_isLatin1_aae02_14 (by decide) ?_
      exact w_retzR C (pc := 18) dJ0_isLatin1_aae02_18 rfl (by decide) rfl
    · exact absurd rfl c
abbrev zT_length : Zx := (cJ0_length_8abf5, RJ0, 1, 1, some .int)
theorem sh0 (x : Int32) : x >>> ((0 : Int32) &&& 31) = x := sb_shr0 x
theorem tT_length {l : Launch} {Y : Sx} {M : Mm} {w : Nat} (hw : w < 5) : Ct l Y yJ0_length_8abf5 cJ0_length_8abf5 1 (some .int) 1 [.ref (ska Y w)] M (some (nI (skL.getD w 0))) M := by
  refine Ct.of (by decide) rfl (lv := [(0, .ref (ska Y w))]) rfl ?_
  intro K hkl C
  change Cx K zT_length Y at C
  subst hkl
  show Wp K zT_length Y (Qm K Y (some (nI (skL.getD w 0))) M) M 0 [(0, .ref (ska Y w))] []
  refine w_aload_n C (pc := 0) dJ0_length_8abf5_0 0 rfl ?_
  refine w_tvalue C (pc := 1) dJ0_length_8abf5_1 tfl_value hw ?_
  refine w_tlen C (pc := 4) dJ0_length_8abf5_4 hw ?_
  refine w_aload_n C (pc := 5) dJ0_length_8abf5_5 0 rfl ?_
  refine w_callT C (pc := 6) dJ0_length_8abf5_6 tmy_coder tmi_coder tml_coder hw rfl rfl rfl [] rfl rfl (Nat.le_of_ble_eq_true rfl) (tT_coder hw) ?_
  show Wp K zT_length Y (Qm K Y (some (nI (skL.getD w 0))) M) M 9 [(0, .ref (ska Y w))] [.int 0, .int (nI (skL.getD w 0))]
  refine w_ishr C (pc := 9) dJ0_length_8abf5_9 ?_
  exact w_retR C (pc := 10) dJ0_length_8abf5_10 rfl (sh0 _)
abbrev zT_pcheck : Zx := (cJ3_checkIndex_8e157, RJ3, 3, 0, some .int)
theorem tT_pcheck {l : Launch} {Y : Sx} {M : Mm} {x n : Int32} {v : Value} (hv : v = .null ∨ ∃ t, v = .ref t) (h0 : ¬ x < 0) (h1 : x < n) : Ct l Y yJ3_checkIndex_8e157 cJ3_checkIndex_8e157 3 (some .int) 0 [.int x, .int n, v] M (some x) M := by
  have key : ∀ v : Value, Nat.ble (lg_sl [Value.int x, Value.int n, v]).length 3 = true → lv_args 0 [Value.int x, Value.int n, v] = [(0, .int x), (1, .int n), (2, v)] → Ct l Y yJ3_checkIndex_8e157 cJ3_checkIndex_8e157 3 (some .int) 0 [.int x, .int n, v] M (some x) M := by
    intro v e1 e2
    refine Ct.of (by decide) e1 (lv := [(0, .int x), (1, .int n), (2, v)]) e2 ?_
    intro K hkl C
    change Cx K zT_pcheck Y at C
    show Wp K zT_pcheck Y (Qm K Y (some x) M) M 0 [(0, .int x), (1, .int n), (2, v)] []
    refine w_iload_n C (pc := 0) dJ3_checkIndex_8e157_0 0 rfl ?_
    refine w_iflt C (pc := 1) 9 dJ3_checkIndex_8e157_1 (by decide) (fun c => absurd c h0) (fun c => ?_)
    refine w_iload_n C (pc := 4) dJ3_checkIndex_8e157_4 0 rfl ?_
    refine w_iload_n C (pc := 5) dJ3_checkIndex_8e157_5 1 rfl ?_
    refine w_iclt C (pc := 6) 16 dJ3_checkIndex_8e157_6 (by decide) (fun c => ?_) (fun c => absurd h1 c)
    refine w_iload_n C (pc := 16) dJ3_checkIndex_8e157_16 0 rfl ?_
    exact w_retR C (pc := 17) dJ3_checkIndex_8e157_17 rfl rfl
  rcases hv with rfl | ⟨t, rfl⟩
  · exact key _ rfl rfl
  · exact key _ rfl rfl
abbrev zT_check : Zx := (cJ0_checkIndex_df160, RJ0, 2, 1, none)
theorem tT_check {l : Launch} {Y : Sx} {M : Mm} {x n : Int32} (h0 : ¬ x < 0) (h1 : x < n) : Ct l Y yJ0_checkIndex_df160 cJ0_checkIndex_df160 2 none 1 [.int x, .int n] M none M := by
  refine Ct.of (by decide) rfl (lv := [(0, .int x), (1, .int n)]) rfl ?_
  intro K hkl C
  change Cx K zT_check Y at C
  subst hkl
  show Wp K zT_check Y (Qm K Y none M) M 0 [(0, .int x), (1, .int n)] []
  refine w_iload_n C (pc := 0) dJ0_checkIndex_df160_0 0 rfl ?_
  refine w_iload_n C (pc := 1) dJ0_checkIndex_df160_1 1 rfl ?_
  refine w_tfmt C (pc := 2) dJ0_checkIndex_df160_2 tfl_fmt (fun v hv => ?_)
  refine w_callS C (pc := 5) (st := []) dJ0_checkIndex_df160_5 tmy_pcheck tms_pcheck tml_pcheck rfl rfl [.int x, .int n, v] rfl rfl (Nat.le_of_ble_eq_true rfl) (tT_pcheck hv h0 h1) ?_
  show Wp K zT_check Y (Qm K Y none M) M 8 [(0, .int x), (1, .int n)] [.int x]
  refine w_pop C (pc := 8) dJ0_checkIndex_df160_8 rfl ?_
  exact w_retV C (pc := 9) dJ0_checkIndex_df160_9 rfl rfl
abbrev zT_lchar : Zx := (cJ1_charAt_3b067, RJ1, 2, 2, some .char)
theorem skb_char : ∀ w, w < 5 → ∀ j, j < skL.getD w 0 → narrow .char (.int ((((skB.getD w []).getD j 0) &&& 255).toUInt32 % 65536).toInt32) = .int ((((skB.getD w []).getD j 0) &&& 255).toUInt32 % 65536).toInt32 ∧ ((((skB.getD w []).getD j 0) &&& 255).toUInt32 % 65536).toInt32 = (skB.getD w []).getD j 0 := by decide +kernel
theorem tT_lchar {l : Launch} {Y : Sx} {M : Mm} {w : Nat} {x : Int32} (hw : w < 5) (hx : vp_in x (skL.getD w 0)) : Ct l Y yJ1_charAt_3b067 cJ1_charAt_3b067 2 (some .char) 2 [.ref (skv Y w), .int x] M (some ((skB.getD w []).getD x.toNatClampNeg 0)) M := by
  have hL : skL.getD w 0 < 2 ^ 31 := by
    have : ∀ w, w < 5 → skL.getD w 0 < 2 ^ 31 := by decide +kernel
    exact this w hw
  obtain ⟨j, hj, rfl⟩ := vp_in_of hx hL
  have ej : (nI j).toNatClampNeg = j := nI_clamp (by omega)
  have hb := skb_char w hw j hj
  refine Ct.of (by decide) rfl (lv := [(0, .ref (skv Y w)), (1, .int (nI j))]) rfl ?_
  intro K hkl C
  change Cx K zT_lchar Y at C
  subst hkl
  rw [ej]
  show Wp K zT_lchar Y (Qm K Y (some ((skB.getD w []).getD j 0)) M) M 0 [(0, .ref (skv Y w)), (1, .int (nI j))] []
  refine w_iload_n C (pc := 0) dJ1_charAt_3b067_0 1 rfl ?_
  refine w_aload_n C (pc := 1) dJ1_charAt_3b067_1 0 rfl ?_
  refine w_tlen C (pc := 2) dJ1_charAt_3b067_2 hw ?_
  refine w_callS C (pc := 3) (st := []) dJ1_charAt_3b067_3 tmy_checkIndex tms_checkIndex tml_checkIndex rfl rfl [.int (nI j), .int (nI (skL.getD w 0))] rfl rfl (Nat.le_of_ble_eq_true rfl) (tT_check (nI_pos (by omega)) (nI_lt hj hL)) ?_
  show Wp K zT_lchar Y (Qm K Y (some ((skB.getD w []).getD j 0)) M) M 6 [(0, .ref (skv Y w)), (1, .int (nI j))] []
  refine w_aload_n C (pc := 6) dJ1_charAt_3b067_6 0 rfl ?_
  refine w_iload_n C (pc := 7) dJ1_charAt_3b067_7 1 rfl ?_
  refine w_tbald C (pc := 8) dJ1_charAt_3b067_8 hw hx ?_
  rw [ej]
  refine w_sipush C (pc := 9) dJ1_charAt_3b067_9 (v := 255) (by decide) ?_
  refine w_iand C (pc := 12) dJ1_charAt_3b067_12 ?_
  refine w_i2c C (pc := 13) dJ1_charAt_3b067_13 ?_
  exact w_retT C (pc := 14) dJ1_charAt_3b067_14 rfl hb.1 hb.2
abbrev zT_char : Zx := (cJ0_charAt_5068e, RJ0, 2, 3, some .char)
theorem skb_nar : ∀ w, w < 5 → ∀ j, j < skL.getD w 0 → narrow .char (.int ((skB.getD w []).getD j 0)) = .int ((skB.getD w []).getD j 0) := by decide +kernel
theorem tT_char {l : Launch} {Y : Sx} {M : Mm} {w : Nat} {x : Int32} (hw : w < 5) (hx : vp_in x (skL.getD w 0)) : Ct l Y yJ0_charAt_5068e cJ0_charAt_5068e 2 (some .char) 3 [.ref (ska Y w), .int x] M (some ((skB.getD w []).getD x.toNatClampNeg 0)) M := by
  have hL : skL.getD w 0 < 2 ^ 31 := by
    have : ∀ w, w < 5 → skL.getD w 0 < 2 ^ 31 := by decide +kernel
    exact this w hw
  have hnn : narrow .char (.int ((skB.getD w []).getD x.toNatClampNeg 0)) = .int ((skB.getD w []).getD x.toNatClampNeg 0) := by
    obtain ⟨j, hj, rfl⟩ := vp_in_of hx hL
    rw [nI_clamp (by omega)]
    exact skb_nar w hw j hj
  refine Ct.of (by decide) rfl (lv := [(0, .ref (ska Y w)), (1, .int x)]) rfl ?_
  intro K hkl C
  change Cx K zT_char Y at C
  subst hkl
  generalize hv : (skB.getD w []).getD x.toNatClampNeg 0 = v at hnn
  show Wp K zT_char Y (Qm K Y (some v) M) M 0 [(0, .ref (ska Y w)), (1, .int x)] []
  refine w_aload_n C (pc := 0) dJ0_charAt_5068e_0 0 rfl ?_
  refine w_callT C (pc := 1) dJ0_charAt_5068e_1 tmy_isLatin1 tmi_isLatin1 tml_isLatin1 hw rfl rfl rfl [] rfl rfl (Nat.le_of_ble_eq_true rfl) (tT_isLatin1 hw) ?_
  show Wp K zT_char Y (Qm K Y (some v) M) M 4 [(0, .ref (ska Y w)), (1, .int x)] [.int 1]
  refine w_ifeq C (pc := 4) 16 dJ0_charAt_5068e_4 (by decide) (fun c => absurd c (by decide)) (fun c => ?_)
  refine w_aload_n C (pc := 7) dJ0_charAt_5068e_7 0 rfl ?_
  refine w_tvalue C (pc := 8) dJ0_charAt_5068e_8 tfl_value hw ?_
  refine w_iload_n C (pc := 11) dJ0_charAt_5068e_11 1 rfl ?_
  refine w_callS C (pc := 12) (st := []) dJ0_charAt_5068e_12 tmy_lcharAt tms_lcharAt tml_lcharAt rfl rfl [.ref (skv Y w), .int x] rfl rfl (Nat.le_of_ble_eq_true rfl) (tT_lchar hw hx) ?_
  rw [hv]
  show Wp K zT_char Y (Qm K Y (some v) M) M 15 [(0, .ref (ska Y w)), (1, .int x)] [.int v]
  exact w_retT C (pc := 15) dJ0_charAt_5068e_15 rfl hnn rfl
section TXT2
variable {K : Pk} {Z : Zx} {Y : Sx} {Q : State → Prop} {M : Mm} {pc : Nat} {lv : List (Nat × Value)} {st : List Value}
theorem w_slen (C : Cx K Z Y) {idx w : Nat} (hd : decode Z.1 pc = .ok (.invokevirtual idx, 3)) (hlk : ML Z.2.1 idx yJ0_length_8abf5) (hw : w < 5) (hdd : Nat.blt 1 Z.2.2.2.1 = true) (hW : (st.map fun v => v.category).sum ≤ 8) (h : Wp K Z Y Q M (pc + 3) lv (.int (nI (skL.getD w 0)) :: st)) : Wp K Z Y Q M pc lv (.ref (ska Y w) :: st) :=
  w_callT C hd tmy_length tmi_length hlk hw rfl hdd rfl [] rfl rfl hW (tT_length hw) h
theorem sca_some {w : Nat} {x v : Int32} (h : sca w x = some v) : vp_in x (skL.getD w 0) ∧ (skB.getD w []).getD x.toNatClampNeg 0 = v := by
  unfold sca at h
  split at h
  · rename_i hi; exact ⟨inb_in hi, Option.some.inj h⟩
  · cases h
theorem w_schar (C : Cx K Z Y) {idx w : Nat} {x v : Int32} (hd : decode Z.1 pc = .ok (.invokevirtual idx, 3)) (hlk : ML Z.2.1 idx yJ0_charAt_5068e) (hw : w < 5) (hdd : Nat.blt 3 Z.2.2.2.1 = true) (hW : (st.map fun v => v.category).sum ≤ 8) (he : sca w x = some v) (h : Wp K Z Y Q M (pc + 3) lv (.int v :: st)) : Wp K Z Y Q M pc lv (.int x :: .ref (ska Y w) :: st) := by
  obtain ⟨hx, rfl⟩ := sca_some he
  exact w_callT C hd tmy_charAt tmi_charAt hlk hw rfl hdd rfl [.int x] rfl rfl hW (tT_char hw hx) h
end TXT2
