/-! THE LAW'S ENTRY -/
set_option maxRecDepth 20000 in
theorem sw_cast : Cond.castable "[I" "java/lang/Cloneable" ∈ lw_tbl := tb1 43 rfl
set_option maxRecDepth 20000 in
theorem sw_l0 : Cond.laysStatic "TruckWing" "FACT_MOST" "[I" ∈ lw_tbl := tb2 212 rfl
set_option maxRecDepth 20000 in
theorem sw_i0 : Cond.initialized "TruckWing" ∈ lw_tbl := tb1 1 rfl
set_option maxRecDepth 20000 in
theorem sw_l1 : Cond.laysStatic "TruckWing" "SETTING_LEAST" "[I" ∈ lw_tbl := tb2 204 rfl
set_option maxRecDepth 20000 in
theorem sw_i1 : Cond.initialized "TruckWing" ∈ lw_tbl := tb1 1 rfl
set_option maxRecDepth 20000 in
theorem sw_l2 : Cond.laysStatic "TruckWing" "SETTING_MOST" "[I" ∈ lw_tbl := tb2 210 rfl
set_option maxRecDepth 20000 in
theorem sw_i2 : Cond.initialized "TruckWing" ∈ lw_tbl := tb1 1 rfl
set_option maxRecDepth 20000 in
theorem sw_l3 : Cond.laysStatic "TruckWing" "SETTING_FIRST" "[I" ∈ lw_tbl := tb1 37 rfl
set_option maxRecDepth 20000 in
theorem sw_i3 : Cond.initialized "TruckWing" ∈ lw_tbl := tb1 1 rfl
set_option maxRecDepth 20000 in
theorem sw_l4 : Cond.laysStatic "TruckWing$Teller" "INTS" "[I" ∈ lw_tbl := tb2 198 rfl
set_option maxRecDepth 20000 in
theorem sw_i4 : Cond.initialized "TruckWing$Teller" ∈ lw_tbl := tb1 8 rfl
set_option maxRecDepth 20000 in
theorem sw_l5 : Cond.laysStatic "java/lang/String" "COMPACT_STRINGS" "Z" ∈ lw_tbl := tb2 146 rfl
set_option maxRecDepth 20000 in
theorem sw_i5 : Cond.initialized "java/lang/String" ∈ lw_tbl := tb1 12 rfl
set_option maxRecDepth 20000 in
theorem sw_l6 : Cond.laysStatic "jdk/internal/util/Preconditions" "SIOOBE_FORMATTER" "Ljava/util/function/BiFunction;" ∈ lw_tbl := tb2 162 rfl
set_option maxRecDepth 20000 in
theorem sw_i6 : Cond.initialized "jdk/internal/util/Preconditions" ∈ lw_tbl := tb1 14 rfl
set_option maxRecDepth 20000 in
theorem sw_l7 : Cond.laysStatic "java/lang/Throwable" "UNASSIGNED_STACK" "[Ljava/lang/StackTraceElement;" ∈ lw_tbl := tb4 221 rfl
set_option maxRecDepth 20000 in
theorem sw_i7 : Cond.initialized "java/lang/Throwable" ∈ lw_tbl := tb1 17 rfl
set_option maxRecDepth 20000 in
theorem sw_l8 : Cond.laysStatic "java/lang/Throwable" "SUPPRESSED_SENTINEL" "Ljava/util/List;" ∈ lw_tbl := tb4 223 rfl
set_option maxRecDepth 20000 in
theorem sw_i8 : Cond.initialized "java/lang/Throwable" ∈ lw_tbl := tb1 17 rfl
set_option maxRecDepth 20000 in
theorem sw_s0 : Cond.stringRef "TruckWing$Teller" 65 "depot" ∈ lw_tbl := tb2 132 rfl
set_option maxRecDepth 20000 in
theorem sw_s1 : Cond.stringRef "TruckWing$Teller" 71 "to" ∈ lw_tbl := tb2 185 rfl
set_option maxRecDepth 20000 in
theorem sw_s2 : Cond.stringRef "TruckWing$Teller" 73 "set" ∈ lw_tbl := tb2 186 rfl
set_option maxRecDepth 20000 in
theorem sw_s3 : Cond.stringRef "TruckWing$Teller" 75 "row" ∈ lw_tbl := tb2 187 rfl
set_option maxRecDepth 20000 in
theorem sw_s4 : Cond.stringRef "TruckWing$Teller" 77 "fly" ∈ lw_tbl := tb2 188 rfl
set_option maxRecDepth 20000 in
theorem sw_x0 : (Cond.castable nse nse : Cond) ∈ lw_tbl := tb4 196 rfl
set_option maxRecDepth 20000 in
theorem sw_x1 : (Cond.declares ⟨"java/lang/RuntimeException", "<init>", "()V"⟩ : Cond) ∈ lw_tbl := tb4 197 rfl
set_option maxRecDepth 20000 in
theorem sw_x2 : (Cond.declares ⟨"java/lang/Exception", "<init>", "()V"⟩ : Cond) ∈ lw_tbl := tb4 199 rfl
set_option maxRecDepth 20000 in
theorem sw_x3 : (Cond.declares ⟨"java/lang/Throwable", "<init>", "()V"⟩ : Cond) ∈ lw_tbl := tb4 201 rfl
set_option maxRecDepth 20000 in
theorem sw_n0 : Cond.instantiable RX0 11 ∈ gw := gw_mem (tb1 86 rfl) rfl
set_option maxRecDepth 20000 in
theorem sw_n1 : Cond.instantiable RX1 2 ∈ gw := gw_mem (tb1 92 rfl) rfl
set_option maxRecDepth 20000 in
theorem sw_n2 : Cond.instantiable RX2 3 ∈ gw := gw_mem (tb2 23 rfl) rfl
set_option maxRecDepth 20000 in
theorem sw_n3 : Cond.instantiable RX3 3 ∈ gw := gw_mem (tb1 31 rfl) rfl
set_option maxRecDepth 20000 in
theorem sw_n4 : Cond.instantiable RX4 4 ∈ gw := gw_mem (tb1 61 rfl) rfl
set_option maxRecDepth 20000 in
theorem sw_n5 : Cond.instantiable RX5 18 ∈ gw := gw_mem (tb1 142 rfl) rfl
set_option maxRecDepth 20000 in
theorem sw_n6 : Cond.instantiable RX6 2 ∈ gw := gw_mem (tb1 204 rfl) rfl
set_option maxRecDepth 20000 in
theorem sw_n7 : Cond.instantiable RX7 10 ∈ gw := gw_mem (tb1 219 rfl) rfl
set_option maxRecDepth 20000 in
theorem sw_n8 : Cond.instantiable RX8 8 ∈ gw := gw_mem (tb1 23 rfl) rfl
set_option maxRecDepth 20000 in
theorem sw_n9 : Cond.instantiable RX9 27 ∈ gw := gw_mem (tb5 17 rfl) rfl
set_option maxRecDepth 20000 in
theorem nc_L_8 : NC RL 8 8 [.null, .null, .null, .null, .null, .null, .null, .null] := ⟨RX8, TX8, 8, tyX8, rfl, inWX8, tyX8_ok, gw_mem (tb1 22 rfl) rfl, sw_n8, gw_mem (tb1 1 rfl) rfl, (by intro j hj; rcases (show j = 0 ∨ j = 1 ∨ j = 2 ∨ j = 3 ∨ j = 4 ∨ j = 5 ∨ j = 6 ∨ j = 7 by omega) with rfl | rfl | rfl | rfl | rfl | rfl | rfl | rfl <;> rfl), rfl⟩
set_option maxRecDepth 20000 in
theorem nc_L_16 : NC RL 16 9 [.int 0, .null, .null, .null, .int 0, .int 0, .int 0, .int 0, .int 0, .null, .null, .null, .null, .null, .null, .null, .null, .null, .int 0, .null, .null, .null, .null, .null, .null, .int 0, .int 0] := ⟨RX9, TX9, 27, tyX9, rfl, inWX9, tyX9_ok, gw_mem (tb5 16 rfl) rfl, sw_n9, gw_mem (tb1 10 rfl) rfl, (by intro j hj; rcases (show j = 0 ∨ j = 1 ∨ j = 2 ∨ j = 3 ∨ j = 4 ∨ j = 5 ∨ j = 6 ∨ j = 7 ∨ j = 8 ∨ j = 9 ∨ j = 10 ∨ j = 11 ∨ j = 12 ∨ j = 13 ∨ j = 14 ∨ j = 15 ∨ j = 16 ∨ j = 17 ∨ j = 18 ∨ j = 19 ∨ j = 20 ∨ j = 21 ∨ j = 22 ∨ j = 23 ∨ j = 24 ∨ j = 25 ∨ j = 26 by omega) with rfl | rfl | rfl | rfl | rfl | rfl | rfl | rfl | rfl | rfl | rfl | rfl | rfl | rfl | rfl | rfl | rfl | rfl | rfl | rfl | rfl | rfl | rfl | rfl | rfl | rfl | rfl <;> rfl), rfl⟩
set_option maxRecDepth 20000 in
theorem ml_L_15 : ML RL 15 yX8_init := Or.inl (gw_mem (tb1 24 rfl) rfl)
set_option maxRecDepth 20000 in
theorem ml_L_18 : ML RL 18 yX9_init := Or.inl (gw_mem (tb5 18 rfl) rfl)
/-- what the law's frame has of what a constructor's has -/
def Cw (K : Pk) (Z : Zi) (G : Gx) (A : Nat → Prop) : Prop :=
  (kp K).tables.exec = Jvm.exec ∧ (kc K).code = Z.1 ∧ (kc K).maxLocals = Z.2.2.1 ∧ (ks K).vm.findClass Z.2.1 = some (km K).cls ∧ (∀ w ∈ gw, w.before (ka K) (ks K) = true) ∧ NsI (ks K) ∧ va_K G.1 vwCl (gtys G) (ks K) ∧ (∀ q, (ks K).heap.size ≤ q → A q) ∧ SF G A (ks K) (ks K).heap ∧ (kme K).locks = false ∧ kR K = Z.2.2.2 ∧ True
section CWROWS
variable {K : Pk} {Z : Zi} {G : Gx} {A : Nat → Prop} {Q : State → Prop} {ws : va_W} {nc ns : Nat} {pc : Nat} {lv : List (Nat × Value)} {st : List Value}
theorem cw_iconst (C : Cw K Z G A) {n : Int} (hd : decode Z.1 pc = .ok (.iconst n, 1)) {v : Int32} (hv : Int32.ofInt n = v) (h : Wi K Z G A Q ws nc ns (pc + 1) lv (.int v :: st)) : Wi K Z G A Q ws nc ns pc lv st :=
  fun H locs ls hP hD hS hl => lv_iconst C.1 C.2.1 hd hv (h H locs ls hP hD hS hl)
theorem cw_dup (C : Cw K Z G A) {v : Value} (hd : decode Z.1 pc = .ok (.dup, 1)) (hv : v.category = 1) (h : Wi K Z G A Q ws nc ns (pc + 1) lv (v :: v :: st)) : Wi K Z G A Q ws nc ns pc lv (v :: st) :=
  fun H locs ls hP hD hS hl => lv_dup C.1 C.2.1 hd hv (h H locs ls hP hD hS hl)
theorem cw_new (C : Cw K Z G A) {idx ci : Nat} {fs : List Value} {ws' : Nat → va_W} (hd : decode Z.1 pc = .ok (.new idx, 3)) (hN : NC Z.2.1 idx ci fs) (hc : Nat.ble (nc + 1) Z.2.2.2.cells = true) (hs : Nat.ble (ns + fs.length) Z.2.2.2.slots = true) (hw : ∀ q, ws ++ [(q, .inr (ci, fs))] = ws' q) (h : ∀ q, Wi K Z G A Q (ws' q) (nc + 1) (ns + fs.length) (pc + 3) lv (.ref q :: st)) : Wi K Z G A Q ws nc ns pc lv st := by
  intro H locs ls hP hD hS hl
  have eR : kR K = Z.2.2.2 := C.2.2.2.2.2.2.2.2.2.2.1
  obtain ⟨Cn, T, N, ty0, h1, h2, h3, h4, h5, h6, h7, h8⟩ := hN
  subst h8
  refine va_new (ci := ci) (fs := fs) (C := Cn) (T := T) (N := fs.length) C.1 C.2.1 C.2.2.2.2.1 h2 ty0 h3 C.2.2.2.1 (C.2.2.2.2.1 _ h4) (C.2.2.2.2.1 _ h5) (C.2.2.2.2.1 _ h6) C.2.2.2.2.2.2.1 hP hD hS C.2.2.2.2.2.2.2.1 h1 h7 (by rw [eR]; exact Nat.le_of_ble_eq_true hc) (by rw [eR]; exact Nat.le_of_ble_eq_true hs) hd (fun q H1 hP1 hD1 hS1 => ?_)
  rw [hw q] at hP1 hD1
  exact h q H1 locs ls hP1 hD1 hS1 hl
theorem cw_call (C : Cw K Z G A) {idx n mL d mc ms h0 : Nat} {y : MethodName} {cc : ByteArray} {e0 : va_E} {P : va_W → Prop} {wr : va_W} {stk : List Value} (hd : decode Z.1 pc = .ok (.invokespecial idx, 3)) (hy : MY y cc mL none n) (hi : Cond.instanceMethod y ∈ gw) (hnm : y.name = "<init>") (hlk : ML Z.2.1 idx y) (hws : ws = wr ++ [(h0, e0)])
    (hR : Nat.ble (d + 1) Z.2.2.2.frames = true ∧ Nat.ble (8 + (mL + 11) + 32 * d) Z.2.2.2.locals = true) (hc : Nat.ble (nc + mc) Z.2.2.2.cells = true) (hs : Nat.ble (ns + ms) Z.2.2.2.slots = true)
    (As : List Value) (hn : As.length = n) (hst : stk = As.reverse ++ .ref h0 :: st) (hW : (st.map fun v => v.category).sum ≤ 8) (hcon : Cn (kl K) G y cc mL d mc ms (.ref h0 :: As) h0 e0 P) (h : ∀ w1, P w1 → Wi K Z G A Q (wr ++ w1) (nc + mc) (ns + ms) (pc + 3) lv st) : Wi K Z G A Q ws nc ns pc lv stk := by
  intro H locs ls hP hD hS hl
  subst hws
  have eR : kR K = Z.2.2.2 := C.2.2.2.2.2.2.2.2.2.2.1
  have hAA := C.2.2.2.2.2.2.2.1
  have hC : [wr.length].map (fun i => (wr ++ [(h0, e0)])[i]?) = [(h0, e0)].map some := by simp
  have hP0 : va_P G.1 vwCl [(h0, e0)] H := hP.sub [wr.length] (by simp)
  have hD0 : va_D (fun _ => True) [(h0, e0)] := (hD.sub [wr.length] (by simp [va_nd]) hC).weaken (fun _ _ _ _ => trivial)
  have hFc := va_free (wc := [(h0, e0)]) hD hS hAA [wr.length] hC
  have hfix : CallFix (kp K) (km K) (kc K) Z.1 Z.2.2.1 (ks K) (ka K) gw Z.2.1 := ⟨C.1, C.2.1, C.2.2.1, C.2.2.2.1, C.2.2.2.2.1⟩
  have hpre : PreS (ks K) H (va_Pc (.ref h0 :: As) (PreI G [(h0, e0)] H.size)) (.ref h0 :: As) := ⟨i_blind, fun U hU hW => ⟨rfl, by rw [hU], by rw [hU]; exact hP0, va_K.moved hW.alike C.2.2.2.2.2.2.1, hD0, NsI.warm hW C.2.2.2.2.2.1, by
    rw [hU]
    exact SF.moved hW.alike (((C.2.2.2.2.2.2.2.2.1).kept hS.2.1).narrow hFc)⟩⟩
  have hin : (Cond.instanceMethod y).before (ka K) (ks K) = true := C.2.2.2.2.1 _ hi
  have hRm : (rmi0 d mc ms).frames + 1 ≤ (kR K).frames ∧ 8 + (mL + 11) + (rmi0 d mc ms).locals ≤ (kR K).locals := by rw [eR]; exact ⟨Nat.le_of_ble_eq_true hR.1, Nat.le_of_ble_eq_true hR.2⟩
  have hcs : nc + mc ≤ (kR K).cells ∧ ns + ms ≤ (kR K).slots := by rw [eR]; exact ⟨Nat.le_of_ble_eq_true hc, Nat.le_of_ble_eq_true hs⟩
  have fin : va_Run (kp K) (kl K) (ke K) (kR K) (ks K) (km K) (ka K) (kb K) (kme K) (kc K) H locs nc ns mc ms (F0 (km K) pc ls stk) st (fun st oc t => oc = .returned none ∧ (∃ w1, P w1 ∧ va_P G.1 vwCl w1 t.heap ∧ va_D (va_A [(h0, e0)] H.size) w1) ∧ va_F (va_A [(h0, e0)] H.size) st t) (va_A [(h0, e0)] H.size) := by
    rcases hlk with hlk | ⟨host, hlk⟩
    · exact va_runI (As := As) (rest := st) hfix (hcon H.size) ⟨callB_of n C.2.2.2.2.1 (gIn y cc mL none hy.1) rfl rfl rfl (C.2.2.2.2.1 _ hy.2.1) (C.2.2.2.2.1 _ hlk) hy.2.2 hRm, hnm, hin⟩ hpre rfl hn hl.1 hst (lv_room hW) hd hcs
    · exact va_runIN (As := As) (rest := st) hfix (hcon H.size) ⟨va_cnB n C.2.2.2.2.1 (gIn y cc mL none hy.1) rfl rfl rfl (C.2.2.2.2.2.1.1 _ hlk) (C.2.2.2.2.1 _ hy.2.1) hy.2.2 hRm, hnm, hin⟩ hpre rfl hn hl.1 hst (lv_room hW) hd hcs
  intro T hT X
  obtain ⟨v, st₀, t, T', L, g0, X', hL, e1, e2, ⟨hv, ⟨w1, hp1, hP1, hD1⟩, hz, hk⟩, go⟩ := fin T hT X
  cases hv
  rw [g0] at hz hk
  have hS1 : va_S A (ks K).heap T'.heap (locs ++ L) := by
    refine ⟨Nat.le_trans hS.1 (by rw [e1]; exact hz), fun q h1 h2 => ?_, fun q hq => ?_⟩
    · rw [e1, hk q (Nat.lt_of_lt_of_le h1 hS.1) (fun z => h2 (hFc q z))]
      exact hS.2.1 q h1 h2
    · rcases List.mem_append.mp hq with h2 | h2
      · exact hS.2.2 q h2
      · exact hFc _ (hL q h2)
  obtain ⟨hPj, hDj⟩ := va_join (wr := wr) (w1 := w1) (H1 := T'.heap) hP hD [wr.length] (List.range wr.length) hC gt_app (nd_range _) (fun i hi hj => by simp at hi hj; omega) (fun q h1 h2 => by rw [e1]; exact hk q h1 h2) hFc (by rw [e1]; exact hP1) hD1
  obtain ⟨t2, a1, b1⟩ := h w1 hp1 T'.heap (locs ++ L) ls hPj hDj hS1 hl T' rfl X'
  exact ⟨t2, go t2 a1, b1⟩
end CWROWS
/-! what the start gives of the statics -/
def FLT : List Cond := flatC (Jvm.Cond.and given_1 narrow_1)
theorem fa_0' : Cond.arrayOf (.static "TruckWing" "FACT_MOST" "[I") .int ∈ FLT := by decide +kernel
theorem fa_1' : Cond.arrayOf (.static "TruckWing" "SETTING_LEAST" "[I") .int ∈ FLT := by decide +kernel
theorem fa_2' : Cond.arrayOf (.static "TruckWing" "SETTING_MOST" "[I") .int ∈ FLT := by decide +kernel
theorem fa_3' : Cond.arrayOf (.static "TruckWing" "SETTING_FIRST" "[I") .int ∈ FLT := by decide +kernel
theorem fa_4' : Cond.arrayOf (.static "TruckWing$Teller" "INTS" "[I") .int ∈ FLT := by decide +kernel
theorem fz_0' : Cond.eq (.length (.static "TruckWing" "FACT_MOST" "[I")) (.int (Int32.ofNat 5)) ∈ FLT := by decide +kernel
theorem fz_1' : Cond.eq (.length (.static "TruckWing" "SETTING_LEAST" "[I")) (.int (Int32.ofNat 10)) ∈ FLT := by decide +kernel
theorem fz_2' : Cond.eq (.length (.static "TruckWing" "SETTING_MOST" "[I")) (.int (Int32.ofNat 10)) ∈ FLT := by decide +kernel
theorem fz_3' : Cond.eq (.length (.static "TruckWing" "SETTING_FIRST" "[I")) (.int (Int32.ofNat 10)) ∈ FLT := by decide +kernel
theorem fz_4' : Cond.eq (.length (.static "TruckWing$Teller" "INTS" "[I")) (.int (Int32.ofNat 5)) ∈ FLT := by decide +kernel
theorem fe_0' : ∀ j, j < 5 → Cond.eq (.elem (.static "TruckWing" "FACT_MOST" "[I") (.int (Int32.ofNat j))) (.int (([50, 50, 30, 30, 99] : List Int32).getD j 0)) ∈ FLT := by decide +kernel
theorem fe_1' : ∀ j, j < 10 → Cond.eq (.elem (.static "TruckWing" "SETTING_LEAST" "[I") (.int (Int32.ofNat j))) (.int (([1, 1, -3, -3, 0, 1, 0, 0, 0, 0] : List Int32).getD j 0)) ∈ FLT := by decide +kernel
theorem fe_2' : ∀ j, j < 10 → Cond.eq (.elem (.static "TruckWing" "SETTING_MOST" "[I") (.int (Int32.ofNat j))) (.int (([9, 9, 3, 3, 99, 999, 9, 9, 2, 1] : List Int32).getD j 0)) ∈ FLT := by decide +kernel
theorem fe_3' : ∀ j, j < 10 → Cond.eq (.elem (.static "TruckWing" "SETTING_FIRST" "[I") (.int (Int32.ofNat j))) (.int (([3, 2, 0, 0, 50, 100, 1, 1, 1, 1] : List Int32).getD j 0)) ∈ FLT := by decide +kernel
theorem fe_4' : ∀ j, j < 5 → Cond.eq (.elem (.static "TruckWing$Teller" "INTS" "[I") (.int (Int32.ofNat j))) (.int (([2, 5, 2, 8, 4] : List Int32).getD j 0)) ∈ FLT := by decide +kernel
theorem fx_3' : Cond.exactly (.static "TruckWing" "SETTING_FIRST" "[I") "[I" ∈ FLT := by decide +kernel
theorem fc_5' : Cond.eq (.static "java/lang/String" "COMPACT_STRINGS" "Z") (.int 1) ∈ FLT := by decide +kernel
theorem fr_6' : Cond.isRef (.static "jdk/internal/util/Preconditions" "SIOOBE_FORMATTER" "Ljava/util/function/BiFunction;") ∈ FLT := by decide +kernel
theorem fr_7' : Cond.isRef (.static "java/lang/Throwable" "UNASSIGNED_STACK" "[Ljava/lang/StackTraceElement;") ∈ FLT := by decide +kernel
theorem fr_8' : Cond.isRef (.static "java/lang/Throwable" "SUPPRESSED_SENTINEL" "Ljava/util/List;") ∈ FLT := by decide +kernel
def stm' (i : Nat) : Term := Term.string "TruckWing$Teller" ((skT.getD i (0, "")).1)
theorem fs_a : ∀ i, i < 5 → Cond.exactly (stm' i) "java/lang/String" ∈ FLT := by decide +kernel
theorem fs_b : ∀ i, i < 5 → Cond.eq (.field (stm' i) "java/lang/String" "coder" "B") (.int 0) ∈ FLT := by decide +kernel
theorem fs_c : ∀ i, i < 5 → Cond.arrayOf (.field (stm' i) "java/lang/String" "value" "[B") .byte ∈ FLT := by decide +kernel
theorem fs_d : ∀ i, i < 5 → Cond.eq (.length (.field (stm' i) "java/lang/String" "value" "[B")) (.int (Int32.ofNat (skL.getD i 0))) ∈ FLT := by decide +kernel
theorem fs_e : ∀ i, i < 5 → ∀ j, j < skL.getD i 0 → Cond.eq (.elem (.field (stm' i) "java/lang/String" "value" "[B") (.int (Int32.ofNat j))) (.int ((skB.getD i []).getD j 0)) ∈ FLT := by decide +kernel
theorem fs_f : ∀ i, i < 5 → ∀ j, j < 5 → i ≠ j → (Cond.not (Cond.eq (stm' i) (stm' j)) ∈ FLT ∨ Cond.not (Cond.eq (stm' j) (stm' i)) ∈ FLT) := by decide +kernel
section STATICS
variable {args : Array Value} {s : State} {A : Nat → Prop}
theorem len_small {t : Term} {v : Value} {b : Addr} {cell : Cell} (hv : (Term.length t).eval args s none [] s = some v) (ht : t.eval args s none [] s = some (.ref b)) (harr : s.arrayAt? b = some cell) : cell.slots.size < 2 ^ 31 := by
  simp only [Term.eval, ht, harr, Option.bind_eq_bind, Option.bind_some] at hv
  by_cases hlt : cell.slots.size < 2147483648
  · exact hlt
  · simp [hlt] at hv
theorem st_all (hf : ∀ c ∈ FLT, c.before args s = true) (hts : ∀ w ∈ lw_tbl, w.before args s = true) (hA : ∀ a : Nat, a < s.heap.size → ¬ A a) : ∃ sta : Nat → Nat, (∀ (i : Nat) (q : String × String × Nat × List Int32), stT[i]? = some q → va_Z q.1 q.2.1 "[I" (.ref (sta i)) A s s.heap ∧ va_T .int (sta i) q.2.2.1 (fun j => .int (q.2.2.2.getD j 0)) A s s.heap) ∧ (Term.static "TruckWing" "SETTING_FIRST" "[I").eval args s none [] s = some (.ref (sta 3)) := by
  obtain ⟨t0, e0, T0⟩ := va_Tof (tm := .static "TruckWing" "FACT_MOST" "[I") (ty := .int) (N := 5) (f := fun j => .int (([50, 50, 30, 30, 99] : List Int32).getD j 0)) (A := A) (by decide) (hf _ fa_0') (va_eqt (hf _ fz_0')) (fun j hj => va_eqt (hf _ (fe_0' j hj))) hA
  obtain ⟨t1, e1, T1⟩ := va_Tof (tm := .static "TruckWing" "SETTING_LEAST" "[I") (ty := .int) (N := 10) (f := fun j => .int (([1, 1, -3, -3, 0, 1, 0, 0, 0, 0] : List Int32).getD j 0)) (A := A) (by decide) (hf _ fa_1') (va_eqt (hf _ fz_1')) (fun j hj => va_eqt (hf _ (fe_1' j hj))) hA
  obtain ⟨t2, e2, T2⟩ := va_Tof (tm := .static "TruckWing" "SETTING_MOST" "[I") (ty := .int) (N := 10) (f := fun j => .int (([9, 9, 3, 3, 99, 999, 9, 9, 2, 1] : List Int32).getD j 0)) (A := A) (by decide) (hf _ fa_2') (va_eqt (hf _ fz_2')) (fun j hj => va_eqt (hf _ (fe_2' j hj))) hA
  obtain ⟨t3, e3, T3⟩ := va_Tof (tm := .static "TruckWing" "SETTING_FIRST" "[I") (ty := .int) (N := 10) (f := fun j => .int (([3, 2, 0, 0, 50, 100, 1, 1, 1, 1] : List Int32).getD j 0)) (A := A) (by decide) (hf _ fa_3') (va_eqt (hf _ fz_3')) (fun j hj => va_eqt (hf _ (fe_3' j hj))) hA
  obtain ⟨t4, e4, T4⟩ := va_Tof (tm := .static "TruckWing$Teller" "INTS" "[I") (ty := .int) (N := 5) (f := fun j => .int (([2, 5, 2, 8, 4] : List Int32).getD j 0)) (A := A) (by decide) (hf _ fa_4') (va_eqt (hf _ fz_4')) (fun j hj => va_eqt (hf _ (fe_4' j hj))) hA
  refine ⟨fun i => [t0, t1, t2, t3, t4].getD i 0, ?_, e3⟩
  intro i q hq
  match i, hq with
  | 0, hq => cases hq; exact ⟨va_Zref (hts _ sw_l0) (hts _ sw_i0) e0 hA, T0⟩
  | 1, hq => cases hq; exact ⟨va_Zref (hts _ sw_l1) (hts _ sw_i1) e1 hA, T1⟩
  | 2, hq => cases hq; exact ⟨va_Zref (hts _ sw_l2) (hts _ sw_i2) e2 hA, T2⟩
  | 3, hq => cases hq; exact ⟨va_Zref (hts _ sw_l3) (hts _ sw_i3) e3 hA, T3⟩
  | 4, hq => cases hq; exact ⟨va_Zref (hts _ sw_l4) (hts _ sw_i4) e4 hA, T4⟩
  | k + 5, hq => simp [stT] at hq
theorem sf_ok (hf : ∀ c ∈ FLT, c.before args s = true) {t : Nat} (e : (Term.static "TruckWing" "SETTING_FIRST" "[I").eval args s none [] s = some (.ref t)) : ∃ cell : Cell, s.heap[t]? = some cell ∧ cell.vm.isStatics = false ∧ cell.vm ≠ .unknown ∧ s.vm.findClass "[I" = some cell.cls ∧ ({ cls := cell.cls, slots := cell.slots } : Cell) = vp_cell cell.cls (10, .inl stF) := by
  have hlen := va_eqt (hf _ fz_3')
  obtain ⟨a, cell, ht, harr, hv⟩ := Term.length_spec hlen
  cases e.symm.trans ht
  have hsz : cell.slots.size < 2 ^ 31 := len_small hlen ht harr
  obtain ⟨hcell, hkn, hst, -⟩ := State.arrayAt?_spec harr
  obtain ⟨a2, c2, cA, kA, q1, q2, q3, q4, q5, q6, -⟩ := Cond.exactly_spec (args := args) (first := s) (o := none) (s := s) (idx := []) (t := .static "TruckWing" "SETTING_FIRST" "[I") (cls := "[I") (hf _ fx_3')
  cases e.symm.trans q1
  cases hcell.symm.trans q3
  have s10 : cell.slots.size = 10 := by
    have h1 : cell.slots.size.toInt32 = Int32.ofNat 10 := (Value.int.inj hv).symm
    have h2 := congrArg Int32.toNatClampNeg h1
    rw [show cell.slots.size.toInt32 = Int32.ofNat cell.slots.size from rfl, Int32.toNatClampNeg_ofNat_of_lt hsz] at h2
    exact h2
  obtain ⟨t', e', ⟨cell', g1, g2, g3, g4, g5, g6, g7⟩⟩ := va_Tof (tm := .static "TruckWing" "SETTING_FIRST" "[I") (ty := .int) (N := 10) (f := fun j => .int (([3, 2, 0, 0, 50, 100, 1, 1, 1, 1] : List Int32).getD j 0)) (A := fun _ => False) (by decide) (hf _ fa_3') (va_eqt (hf _ fz_3')) (fun j hj => va_eqt (hf _ (fe_3' j hj))) (fun _ _ h => h)
  cases e.symm.trans e'
  cases hcell.symm.trans g1
  refine ⟨cell, hcell, hst, hkn, by rw [q6]; exact q2, ?_⟩
  have hs : cell.slots = (arrV cell.cls 10 (fun j => Value.int (stF j))).slots := by
    apply Array.ext_getElem?
    intro i
    by_cases hi : i < 10
    · rw [g6 i hi, arrV_read _ _ hi]
      rfl
    · rw [Array.getElem?_eq_none (by omega), Array.getElem?_eq_none (by rw [arrV_size]; omega)]
  show ({ cls := cell.cls, slots := cell.slots } : Cell) = { cls := cell.cls, slots := (arrV cell.cls 10 (fun j => Value.int (stF j))).slots, vm := .none }
  rw [← hs]
theorem sk_all (hf : ∀ c ∈ FLT, c.before args s = true) (hts : ∀ w ∈ lw_tbl, w.before args s = true) (hA : ∀ a : Nat, a < s.heap.size → ¬ A a) : ∃ ska skv : Nat → Nat, vk_S 5 skL skB ska skv A s s.heap ∧ ∀ (i : Nat) (q : Nat × String), skT[i]? = some q → vk_R "TruckWing$Teller" q.1 q.2 (ska i) s := by
  obtain ⟨a, v, h1, h2⟩ := vk_Sof (args := args) (s := s) (N := 5) (tm := stm') (len := skL) (byt := skB) (A := A) (by decide) (fun i hi => hf _ (fs_a i hi)) (fun i hi => hf _ (fs_b i hi)) (fun i hi => hf _ (fs_c i hi)) (fun i hi => hf _ (fs_d i hi)) (fun i hi j hj => hf _ (fs_e i hi j hj)) (fun i j hi hj hij => (fs_f i hi j hj hij).elim (fun h => Or.inl (hf _ h)) (fun h => Or.inr (hf _ h))) hA
  refine ⟨a, v, h1, ?_⟩
  intro i q hq
  match i, hq with
  | 0, hq => cases hq; exact vk_R.of (hts _ sw_s0) (h2 0 (by omega))
  | 1, hq => cases hq; exact vk_R.of (hts _ sw_s1) (h2 1 (by omega))
  | 2, hq => cases hq; exact vk_R.of (hts _ sw_s2) (h2 2 (by omega))
  | 3, hq => cases hq; exact vk_R.of (hts _ sw_s3) (h2 3 (by omega))
  | 4, hq => cases hq; exact vk_R.of (hts _ sw_s4) (h2 4 (by omega))
  | k + 5, hq => simp [skT] at hq
theorem arr_ok {ty : FieldType} (h : (Cond.arrayClass ty).before args s = true) : ∃ c, ArrOfT s c ty ∧ s.vm.findClass ("[" ++ ty.toString) = some c := by
  obtain ⟨c, k, comp, h1, h2, h3⟩ := Cond.arrayClass_spec (args := args) (first := s) (o := none) (idx := []) h
  exact ⟨c, fun n z => ⟨(by intro k h; cases h), k, h2, comp, h3⟩, h1⟩
end STATICS
/-! the first memories -/
def M0A : Mm := fun c => if c = 3 then stF else if c = 34 then stF else fun _ => 0
def M0B : Mm := fun c => if c = 1 then (upd ((upd ((upd ((upd ((upd ((upd ((upd ((upd (fun _ => 0) 50 3)) 51 2)) 54 50)) 55 100)) 56 1)) 57 1)) 58 1)) 59 1) else fun _ => 0
theorem rel_0 : Rel M0A M0B := by
  refine ⟨0, 0, 0, 0, ⟨by omega, rfl, rfl, by decide, by decide⟩, ⟨fun p w _ _ => ⟨0, by omega, rfl⟩, ⟨rfl, rfl, rfl⟩, by decide⟩, ⟨by omega, by omega, rfl, rfl, rfl, rfl, by decide, by decide, fun i hi => absurd hi (by omega), fun i hi => absurd hi (by omega)⟩, ⟨by omega, rfl, rfl, fun i hi => absurd hi (by omega)⟩, rfl, Or.inl rfl, Or.inl rfl, rfl, rfl, rfl⟩
section ENTRY
variable {K : Pk} {Z : Zi} {G : Gx} {A : Nat → Prop} {Q : State → Prop} {ws : va_W} {nc ns : Nat} {pc : Nat} {lv : List (Nat × Value)} {st : List Value}
theorem cw_astore (C : Cw K Z G A) {k : Fin 4} {x : Nat} {lv' : List (Nat × Value)} (hd : decode Z.1 pc = .ok (.astore_n k, 1)) (hn : Nat.blt k Z.2.2.1 = true) (hl' : ((k : Nat), Value.ref x) :: lv.filter (fun q => !(q.1 == (k : Nat)) && !(q.1 + 1 == (k : Nat) && q.2.category == 2)) = lv') (h : Wi K Z G A Q ws nc ns (pc + 1) lv' st) : Wi K Z G A Q ws nc ns pc lv (.ref x :: st) :=
  fun H locs ls hP hD hS hl => lv_astore_n C.1 C.2.1 hd rfl hl (Nat.le_of_ble_eq_true hn) hl' (fun ls' hl2 => h H locs ls' hP hD hS hl2)
theorem cw_istore (C : Cw K Z G A) {k : Nat} {x : Int32} {lv' : List (Nat × Value)} (hd : decode Z.1 pc = .ok (.istore k, 2)) (hn : Nat.blt k Z.2.2.1 = true) (hl' : (k, Value.int x) :: lv.filter (fun q => !(q.1 == k) && !(q.1 + 1 == k && q.2.category == 2)) = lv') (h : Wi K Z G A Q ws nc ns (pc + 2) lv' st) : Wi K Z G A Q ws nc ns pc lv (.int x :: st) :=
  fun H locs ls hP hD hS hl => lv_istore C.1 C.2.1 hd hl (Nat.le_of_ble_eq_true hn) hl' (fun ls' hl2 => h H locs ls' hP hD hS hl2)
theorem cw_newl (C : Cw K Z G A) {n : Int32} {ws' : Nat → ClassId → va_W} (hd : decode Z.1 pc = .ok (.newarray .long, 2)) (hn : n = 1) (hc : Nat.ble (nc + 1) Z.2.2.2.cells = true) (hs : Nat.ble (ns + 1) Z.2.2.2.slots = true) (hw : ∀ q cA, ws ++ [(q, .inl (cA, 1, .inr (.inl fun _ => 0)))] = ws' q cA) (h : ∀ q cA, va_K G.1 vwCl [(cA, .long)] (ks K) → Wi K Z G A Q (ws' q cA) (nc + 1) (ns + 1) (pc + 2) lv (.ref q :: st)) : Wi K Z G A Q ws nc ns pc lv (.int n :: st) := by
  intro H locs ls hP hD hS hl
  have eR : kR K = Z.2.2.2 := C.2.2.2.2.2.2.2.2.2.2.1
  have hK := C.2.2.2.2.2.2.1
  subst hn
  refine va_newa (atype := .long) (ty := .long) (a0 := (1, .inr (.inl fun _ => 0))) C.1 C.2.1 (C.2.2.2.2.1 _ arc_long) rfl hK hP hD hS C.2.2.2.2.2.2.2.1 (fun cA => rfl) (by decide) (N' := 1) rfl (by decide) (by rw [eR]; exact Nat.le_of_ble_eq_true hc) (by rw [eR]; exact Nat.le_of_ble_eq_true hs) hd (fun q cA H1 hK1 hP1 hD1 hS1 => ?_)
  rw [hw q cA] at hP1 hD1
  exact h q cA (hK1.sub [3] rfl) H1 locs ls hP1 hD1 hS1 hl
end ENTRY

