/-! CALLS AND RETURNS of a side's methods, by contract Ct; loops -/
def Qm (K : Pk) (Y : Sx) (r : Option Int32) (M' : Mm) : State → Prop := MQ (kb K) (Qr Y (ks K).heap.size r M') (ka K) (ks K) 0 0 (AA Y (ks K).heap.size)
/-- what the tables say of a method -/
def MY (y : MethodName) (cc : ByteArray) (mL : Nat) (ret : Option FieldType) (n : Nat) : Prop := Cond.code y cc mL ret ∈ gw ∧ Cond.initialized y.cls ∈ gw ∧ (y.cls ≠ "java/lang/invoke/MethodHandle" ∧ y.cls ≠ "java/lang/invoke/VarHandle" ∧ (parseMethodDescriptor y.desc).map (fun d => d.parameters.length) = some n)
def MI (y : MethodName) : Prop := Cond.instanceMethod y ∈ gw ∧ Cond.selects y.cls y y ∈ gw
def ML (own : String) (idx : Nat) (y : MethodName) : Prop := Cond.methodLink own idx y ∈ gw ∨ ∃ host, Cond.methodLinkNest own idx y host ∈ nw
theorem gIn (y : MethodName) (cc : ByteArray) (mL : Nat) (ret : Option FieldType) (h : Cond.code y cc mL ret ∈ gw) : GoodIn gw (Cond.code y cc mL ret :: gw) := fun w hw => by
  rcases List.mem_cons.mp hw with e | e
  · rw [e]; exact ⟨h, good_of_word (gw_good h)⟩
  · exact ⟨e, good_of_word (gw_good e)⟩
theorem AA_mono {Y : Sx} {s1 s2 : Nat} (h : s1 ≤ s2) : ∀ q, AA Y s2 q → AA Y s1 q := fun q hq => hq.elim Or.inl (fun h2 => Or.inr (Nat.le_trans h h2))
section CALLS
variable {K : Pk} {Z : Zx} {Y : Sx} {Q : State → Prop} {M : Mm} {pc : Nat} {lv : List (Nat × Value)} {st : List Value}
theorem pre_blind {av : List Value} {sz : Nat} : FrameBlind (va_Pc av (Pre Y M sz)) := fun a U g mk q => by
  obtain ⟨q0, q1, q2, q3, q4, q5, q6⟩ := q
  have hA : U.vm.Alike (U.calling g mk a).vm := Vm.Alike.refl U.vm
  exact ⟨q0, q1, q2, va_K.moved (u := U) hA q3, Nst.same (u := U) (U := U.calling g mk a) rfl q4, Ext.moved hA q5, q6⟩
theorem pre_of (C : Cx K Z Y) {H : Heap} {locs : List Loc} (hP : va_P Y.2.1 vwCl (wsO Y M) H) (hS : va_S (AA Y (ks K).heap.size) (ks K).heap H locs) {U : State} (hU : U.heap = H) (hW : (ks K).WarmedH U.vm) : Pre Y M H.size U := by
  refine ⟨by rw [hU], by rw [hU]; exact hP, va_K.moved hW.alike C.2.2.2.2.2.2.1, Nst.warm hW C.2.2.2.2.2.1, ?_, C.2.2.2.2.2.2.2.1⟩
  rw [hU]
  exact Ext.moved hW.alike (((C.2.2.2.2.2.2.2.2.1).kept (fun a h1 h2 => hS.2.1 a h1 h2)).narrow (AA_mono hS.1))
/-- behind a call -/
theorem call_end {idx : Nat} {stk rest : List Value} {r : Option Int32} {M' : Mm} {H : Heap} {locs : List Loc} {ls : Array Slot} {a : Array Value} (hl : lv_has ls Z.2.2.1 lv) (hS : va_S (AA Y (ks K).heap.size) (ks K).heap H locs)
    (hr : va_Run (kp K) (kl K) (ke K) (kR K) (ks K) (km K) (ka K) (kb K) (kme K) (kc K) H locs 0 0 0 0 (F0 (km K) pc ls stk) rest (Qr Y H.size r M' a) (AA Y H.size)) (h : Wp K Z Y Q M' (pc + 3) lv ((r.map Value.int).toList ++ rest)) :
    W (kp K) (kl K) (ke K) (kR K) (ks K) (km K) (ka K) (kb K) (kme K) (kc K) H locs 0 0 Q (F0 (km K) pc ls stk) := by
  intro T hT X
  obtain ⟨v, st₀, t, T', L, h0, X', hL, e1, e2, ⟨hv, hP1, hz, hk⟩, go⟩ := hr T hT X
  cases hv
  rw [h0] at hz hk
  have hS1 : va_S (AA Y (ks K).heap.size) (ks K).heap T'.heap (locs ++ L) := by
    refine ⟨Nat.le_trans hS.1 (by rw [e1]; exact hz), fun q h1 h2 => ?_, fun q hq => ?_⟩
    · rw [e1, hk q (Nat.lt_of_lt_of_le h1 hS.1) (fun z => h2 (AA_mono hS.1 q z))]
      exact hS.2.1 q h1 h2
    · rcases List.mem_append.mp hq with h2 | h2
      · exact hS.2.2 q h2
      · exact AA_mono hS.1 _ (hL q h2)
  obtain ⟨t2, a1, b1⟩ := h T'.heap (locs ++ L) ls (by rw [e1]; exact hP1) hS1 hl T' rfl X'
  exact ⟨t2, go t2 a1, b1⟩
theorem rm_le {d d' mL : Nat} (h : Nat.blt d' d = true) (hm : Nat.ble mL 13 = true) : (rmd d').frames + 1 ≤ (rmd d).frames ∧ 8 + (mL + 11) + (rmd d').locals ≤ (rmd d).locals := by
  have h1 : d' < d := Nat.le_of_ble_eq_true h
  have h2 : mL ≤ 13 := Nat.le_of_ble_eq_true hm
  refine ⟨h1, ?_⟩
  show 8 + (mL + 11) + 32 * d' ≤ 32 * d
  omega
theorem rm_le2 {R : Room} {d d' mL : Nat} (hR : (rmd d).frames ≤ R.frames ∧ (rmd d).locals ≤ R.locals) (h : Nat.blt d' d = true) (hm : Nat.ble mL 13 = true) : (rmd d').frames + 1 ≤ R.frames ∧ 8 + (mL + 11) + (rmd d').locals ≤ R.locals :=
  ⟨Nat.le_trans (rm_le h hm).1 hR.1, Nat.le_trans (rm_le h hm).2 hR.2⟩
theorem w_callV (C : Cx K Z Y) {idx ci k n mL d : Nat} {y : MethodName} {cc : ByteArray} {ret : Option FieldType} {fs : List (Option Nat)} {T : u_T} {N : Nat} {r : Option Int32} {M' : Mm} {stk : List Value} (hd : decode Z.1 pc = .ok (.invokevirtual idx, 3)) (hy : MY y cc mL ret n) (hi : MI y) (hlk : ML Z.2.1 idx y) (hk : Y.1[k]? = some (.inr (ci, fs))) (hci : vwCl[ci]? = some (y.cls, T, N)) (hdd : Nat.blt d Z.2.2.2.1 = true) (hmm : Nat.ble mL 13 = true)
    (As : List Value) (hn : As.length = n) (hst : stk = As.reverse ++ .ref (adr Y k) :: st) (hW : (st.map fun v => v.category).sum ≤ 8) (hc : Ct (kl K) Y y cc mL ret d (.ref (adr Y k) :: As) M r M') (h : Wp K Z Y Q M' (pc + 3) lv ((r.map Value.int).toList ++ st)) : Wp K Z Y Q M pc lv stk := by
  intro H locs ls hP hS hl
  have hR : (rmd Z.2.2.2.1).frames ≤ (kR K).frames ∧ (rmd Z.2.2.2.1).locals ≤ (kR K).locals := C.2.2.2.2.2.2.2.2.2.2.1
  have hfix : CallFix (kp K) (km K) (kc K) Z.1 Z.2.2.1 (ks K) (ka K) gw Z.2.1 := ⟨C.1, C.2.1, C.2.2.1, C.2.2.2.1, C.2.2.2.2.1⟩
  have hpre : PreV (ks K) H y.cls (adr Y k) (va_Pc (.ref (adr Y k) :: As) (Pre Y M H.size)) As := ⟨pre_blind, va_recv C.2.2.2.2.2.2.1 hP hci (wsO_at hk), fun U hU hW => ⟨rfl, pre_of C hP hS hU hW⟩⟩
  have hw : (Cond.instanceMethod y).before (ka K) (ks K) = true ∧ (Cond.selects y.cls y y).before (ka K) (ks K) = true := ⟨C.2.2.2.2.1 _ hi.1, C.2.2.2.2.1 _ hi.2⟩
  rcases hlk with hlk | ⟨host, hlk⟩
  · have cw : CallW (kR K) (ks K) (ka K) Z.2.1 y.cls idx y cc mL ret (Cond.code y cc mL ret :: gw) (rmd d) 0 0 n := ⟨callB_of n C.2.2.2.2.1 (gIn y cc mL ret hy.1) rfl rfl rfl (C.2.2.2.2.1 _ hy.2.1) (C.2.2.2.2.1 _ hlk) hy.2.2 (rm_le2 hR hdd hmm), hw.1, hw.2⟩
    exact call_end (idx := idx) hl hS (va_runV (As := As) (rest := st) hfix (hc H.size) cw hpre rfl hn hl.1 hst (lv_room hW) hd ⟨Nat.zero_le _, Nat.zero_le _⟩) h
  · have cw : va_CN (kR K) (ks K) (ka K) Z.2.1 idx y host cc mL ret (Cond.code y cc mL ret :: gw) (rmd d) 0 0 n := va_cnB n C.2.2.2.2.1 (gIn y cc mL ret hy.1) rfl rfl rfl (C.2.2.2.2.2.1.1 _ hlk) (C.2.2.2.2.1 _ hy.2.1) hy.2.2 (rm_le2 hR hdd hmm)
    exact call_end (idx := idx) hl hS (va_runVN (As := As) (rest := st) hfix (hc H.size) ⟨cw, hw.1, hw.2⟩ hpre rfl hn hl.1 hst (lv_room hW) hd ⟨Nat.zero_le _, Nat.zero_le _⟩) h
theorem w_callS (C : Cx K Z Y) {idx n mL d : Nat} {y : MethodName} {cc : ByteArray} {ret : Option FieldType} {r : Option Int32} {M' : Mm} {stk : List Value} (hd : decode Z.1 pc = .ok (.invokestatic idx, 3)) (hy : MY y cc mL ret n) (hi : Cond.static y ∈ gw) (hlk : ML Z.2.1 idx y) (hdd : Nat.blt d Z.2.2.2.1 = true) (hmm : Nat.ble mL 13 = true)
    (As : List Value) (hn : As.length = n) (hst : stk = As.reverse ++ st) (hW : (st.map fun v => v.category).sum ≤ 8) (hc : Ct (kl K) Y y cc mL ret d As M r M') (h : Wp K Z Y Q M' (pc + 3) lv ((r.map Value.int).toList ++ st)) : Wp K Z Y Q M pc lv stk := by
  intro H locs ls hP hS hl
  have hR : (rmd Z.2.2.2.1).frames ≤ (kR K).frames ∧ (rmd Z.2.2.2.1).locals ≤ (kR K).locals := C.2.2.2.2.2.2.2.2.2.2.1
  have hfix : CallFix (kp K) (km K) (kc K) Z.1 Z.2.2.1 (ks K) (ka K) gw Z.2.1 := ⟨C.1, C.2.1, C.2.2.1, C.2.2.2.1, C.2.2.2.2.1⟩
  have hpre : PreS (ks K) H (va_Pc As (Pre Y M H.size)) As := ⟨pre_blind, fun U hU hW => ⟨rfl, pre_of C hP hS hU hW⟩⟩
  have hw : (Cond.static y).before (ka K) (ks K) = true := C.2.2.2.2.1 _ hi
  rcases hlk with hlk | ⟨host, hlk⟩
  · have cw : CallB (kR K) (ks K) (ka K) Z.2.1 idx y cc mL ret (Cond.code y cc mL ret :: gw) (rmd d) 0 0 n ∧ (Cond.static y).before (ka K) (ks K) = true := ⟨callB_of n C.2.2.2.2.1 (gIn y cc mL ret hy.1) rfl rfl rfl (C.2.2.2.2.1 _ hy.2.1) (C.2.2.2.2.1 _ hlk) hy.2.2 (rm_le2 hR hdd hmm), hw⟩
    exact call_end (idx := idx) hl hS (va_runS (As := As) (rest := st) hfix (hc H.size) cw hpre rfl hn hl.1 hst (lv_room hW) hd ⟨Nat.zero_le _, Nat.zero_le _⟩) h
  · have cw : va_CN (kR K) (ks K) (ka K) Z.2.1 idx y host cc mL ret (Cond.code y cc mL ret :: gw) (rmd d) 0 0 n := va_cnB n C.2.2.2.2.1 (gIn y cc mL ret hy.1) rfl rfl rfl (C.2.2.2.2.2.1.1 _ hlk) (C.2.2.2.2.1 _ hy.2.1) hy.2.2 (rm_le2 hR hdd hmm)
    exact call_end (idx := idx) hl hS (va_runSN (As := As) (rest := st) hfix (hc H.size) ⟨cw, hw, trivial⟩ hpre rfl hn hl.1 hst (lv_room hW) hd ⟨Nat.zero_le _, Nat.zero_le _⟩) h
/-- Math.max, Math.abs -/
def mmax (x y : Int32) : Int32 := if x < y then y else x
def mabs (x : Int32) : Int32 := if 0 ≤ x then x else 0 - x
def MX (own : String) (idx : Nat) : Prop := Cond.methodLink own idx Lib.Math.max.name ∈ gw ∧ Cond.static Lib.Math.max.name ∈ gw ∧ Cond.initialized "java/lang/Math" ∈ gw ∧ Cond.code Lib.Math.max.name Lib.Math.max.code 2 (some .int) ∈ gw
def MA (own : String) (idx : Nat) : Prop := Cond.methodLink own idx Lib.Math.abs.name ∈ gw ∧ Cond.static Lib.Math.abs.name ∈ gw ∧ Cond.initialized "java/lang/Math" ∈ gw ∧ Cond.code Lib.Math.abs.name Lib.Math.abs.code 1 (some .int) ∈ gw
theorem w_max (C : Cx K Z Y) {idx : Nat} {x y : Int32} (hd : decode Z.1 pc = .ok (.invokestatic idx, 3)) (hm : MX Z.2.1 idx) (hdd : Nat.blt 0 Z.2.2.2.1 = true) (hW : (st.map fun v => v.category).sum ≤ 8) (h : Wp K Z Y Q M (pc + 3) lv (.int (mmax x y) :: st)) : Wp K Z Y Q M pc lv (.int y :: .int x :: st) := by
  intro H locs ls hP hS hl
  have hR : (rmd Z.2.2.2.1).frames ≤ (kR K).frames ∧ (rmd Z.2.2.2.1).locals ≤ (kR K).locals := C.2.2.2.2.2.2.2.2.2.2.1
  have h0 : 0 < Z.2.2.2.1 := Nat.le_of_ble_eq_true hdd
  refine va_mmax C.1 C.2.1 (by rw [hl.1]; exact C.2.2.1) C.2.2.2.1 (C.2.2.2.2.1 _ hm.1) (C.2.2.2.2.1 _ hm.2.1) (C.2.2.2.2.1 _ hm.2.2.1) (C.2.2.2.2.1 _ hm.2.2.2) ?_ ?_ (Nat.zero_le _) (Nat.zero_le _) hd (h H locs ls hP hS hl)
  · exact Nat.le_trans h0 hR.1
  · refine Nat.le_trans ?_ hR.2
    show _ + 13 ≤ 32 * _
    omega
theorem w_abs (C : Cx K Z Y) {idx : Nat} {x : Int32} (hd : decode Z.1 pc = .ok (.invokestatic idx, 3)) (hm : MA Z.2.1 idx) (hdd : Nat.blt 0 Z.2.2.2.1 = true) (hW : (st.map fun v => v.category).sum ≤ 8) (h : Wp K Z Y Q M (pc + 3) lv (.int (mabs x) :: st)) : Wp K Z Y Q M pc lv (.int x :: st) := by
  intro H locs ls hP hS hl
  have hR : (rmd Z.2.2.2.1).frames ≤ (kR K).frames ∧ (rmd Z.2.2.2.1).locals ≤ (kR K).locals := C.2.2.2.2.2.2.2.2.2.2.1
  have h0 : 0 < Z.2.2.2.1 := Nat.le_of_ble_eq_true hdd
  refine va_mabs C.1 C.2.1 (by rw [hl.1]; exact C.2.2.1) C.2.2.2.1 (C.2.2.2.2.1 _ hm.1) (C.2.2.2.2.1 _ hm.2.1) (C.2.2.2.2.1 _ hm.2.2.1) (C.2.2.2.2.1 _ hm.2.2.2) ?_ ?_ (Nat.zero_le _) (Nat.zero_le _) hd (h H locs ls hP hS hl)
  · exact Nat.le_trans h0 hR.1
  · refine Nat.le_trans ?_ hR.2
    show _ + 13 ≤ 32 * _
    omega
/-- System.arraycopy(a, 0, b, 0, n) over whole int rows of n -/
def MC (own : String) (idx : Nat) : Prop := Cond.methodLink own idx arraycopyName ∈ gw ∧ Cond.native arraycopyName ∈ gw ∧ Cond.static arraycopyName ∈ gw ∧ Cond.initialized "java/lang/System" ∈ gw
theorem w_copy (C : Cx K Z Y) {idx k0 k1 n : Nat} {v : Int32} (hd : decode Z.1 pc = .ok (.invokestatic idx, 3)) (hm : MC Z.2.1 idx) (hdd : Nat.blt 0 Z.2.2.2.1 = true) (hW : (st.map fun v => v.category).sum ≤ 8) (h0 : Y.1[k0]? = some (.inl (.int, n))) (h1 : Y.1[k1]? = some (.inl (.int, n))) (hv : v = nI n) (hnn : Nat.blt n 1000 = true) (h : Wp K Z Y Q (mrow M k1 (va_cpy (M k0) (M k1) 0 0 n)) (pc + 3) lv st) : Wp K Z Y Q M pc lv (.int v :: .int 0 :: .ref (adr Y k1) :: .int 0 :: .ref (adr Y k0) :: st) := by
  intro H locs ls hP hS hl
  have hR : (rmd Z.2.2.2.1).frames ≤ (kR K).frames ∧ (rmd Z.2.2.2.1).locals ≤ (kR K).locals := C.2.2.2.2.2.2.2.2.2.2.1
  have hz : 0 < Z.2.2.2.1 := Nat.le_of_ble_eq_true hdd
  have hn : n < 2 ^ 31 := Nat.lt_trans (Nat.le_of_ble_eq_true hnn) (by decide)
  have ec : (nI n).toNatClampNeg = n := nI_clamp hn
  subst hv
  refine va_copyi (D := Y.2.1) (cl := vwCl) (ty := .int) C.1 C.2.1 (by rw [hl.1]; exact C.2.2.1) C.2.2.2.1 (C.2.2.2.2.1 _ hm.1) (C.2.2.2.2.1 _ hm.2.1) (C.2.2.2.2.1 _ hm.2.2.1) (C.2.2.2.2.1 _ hm.2.2.2) C.2.2.2.2.2.2.1 hP (apt_D C.2.2.2.2.2.2.2.1 (ks K).heap.size M) hS k0 k1 0 0 (wsO_at h0) (wsO_at h1) rfl rfl rfl (by decide) (by decide) (nI_pos hn) (by rw [ec]; show (0 : Int32).toNatClampNeg + n ≤ n; rw [sb_cl0]; omega) (by rw [ec]; show (0 : Int32).toNatClampNeg + n ≤ n; rw [sb_cl0]; omega) (fun i _ => rfl) ?_ ?_ hd (fun H1 locs1 hP1 _ hS1 => ?_)
  · exact Nat.le_trans hz hR.1
  · refine Nat.le_trans ?_ hR.2
    have : nativeFrameWords "java/lang/System" "arraycopy" 5 + 11 ≤ 24 := by decide +kernel
    show _ + (_ + 11) ≤ 32 * _
    omega
  · rw [ec, sb_cl0, wsO_arr h1] at hP1
    exact h H1 locs1 ls hP1 hS1 hl
/-- returns -/
theorem w_iret (C : Cx K Z Y) {v : Int32} {q : Int32 × Mm} (hd : decode Z.1 pc = .ok (.ireturn, 1)) (hr : Z.2.2.2.2 = some .int) (h : some (v, M) = some q) : Wp K Z Y (Qm K Y (some q.1) q.2) M pc lv [.int v] := by
  intro H locs ls hP hS hl
  obtain rfl := Option.some.inj h
  exact W.iret (Qc := Qr Y (ks K).heap.size (some v) M) C.1 C.2.1 (by rw [C.2.2.2.2.2.2.2.2.2.2.2]; exact hr) (fun t ht _ => ⟨rfl, by rw [ht]; exact hP, hS.F ht⟩) hS.2.2 hd C.2.2.2.2.2.2.2.2.2.1
theorem w_zret (C : Cx K Z Y) {v : Int32} {q : Int32 × Mm} (hd : decode Z.1 pc = .ok (.ireturn, 1)) (hr : Z.2.2.2.2 = some .boolean) (hz : v &&& 1 = v) (h : some (v, M) = some q) : Wp K Z Y (Qm K Y (some q.1) q.2) M pc lv [.int v] := by
  intro H locs ls hP hS hl
  obtain rfl := Option.some.inj h
  exact W.zret (Qc := Qr Y (ks K).heap.size (some v) M) C.1 C.2.1 (by rw [C.2.2.2.2.2.2.2.2.2.2.2]; exact hr) (by show Value.int (v &&& 1) = _; rw [hz]) (fun t ht _ => ⟨rfl, by rw [ht]; exact hP, hS.F ht⟩) hS.2.2 hd C.2.2.2.2.2.2.2.2.2.1
theorem w_iretR (C : Cx K Z Y) {v q : Int32} (hd : decode Z.1 pc = .ok (.ireturn, 1)) (hr : Z.2.2.2.2 = some .int) (h : some v = some q) : Wp K Z Y (Qm K Y (some q) M) M pc lv [.int v] := w_iret (q := (q, M)) C hd hr (by rw [Option.some.inj h])
theorem w_zretR (C : Cx K Z Y) {v q : Int32} (hd : decode Z.1 pc = .ok (.ireturn, 1)) (hr : Z.2.2.2.2 = some .boolean) (hz : v &&& 1 = v) (h : some v = some q) : Wp K Z Y (Qm K Y (some q) M) M pc lv [.int v] := w_zret (q := (q, M)) C hd hr hz (by rw [Option.some.inj h])
theorem w_vret (C : Cx K Z Y) {q : Mm} (hd : decode Z.1 pc = .ok (.return_, 1)) (hr : Z.2.2.2.2 = none) (h : some M = some q) : Wp K Z Y (Qm K Y none q) M pc lv [] := by
  intro H locs ls hP hS hl
  obtain rfl := Option.some.inj h
  exact W.vret (Qc := Qr Y (ks K).heap.size none M) C.1 C.2.1 (by rw [C.2.2.2.2.2.2.2.2.2.2.2]; exact hr) (fun t ht _ => ⟨rfl, by rw [ht]; exact hP, hS.F ht⟩) hS.2.2 hd C.2.2.2.2.2.2.2.2.2.1
end CALLS
theorem Ct.of {l : Launch} {Y : Sx} {y : MethodName} {cc : ByteArray} {mL d : Nat} {ret : Option FieldType} {av : List Value} {lv : List (Nat × Value)} {M M' : Mm} {r : Option Int32} (hy : plainName y.cls = true) (hlen : Nat.ble (lg_sl av).length mL = true) (hlv : lv_args 0 av = lv) (body : ∀ K : Pk, kl K = l → Cx K (cc, y.cls, mL, d, ret) Y → Wp K (cc, y.cls, mL, d, ret) Y (Qm K Y r M') M 0 lv []) : Ct l Y y cc mL ret d av M r M' := by
  intro sz
  refine Met.ofW (cc := cc) (maxL := mL) (ret := ret) hy rfl ?_
  intro p e s m args below meth c s₁ B hml hv
  obtain ⟨rfl, hsz, hP, hK, hN, hE, hap⟩ := hv
  subst hsz
  have hts := atoms_spec (ws := Cond.code y cc mL ret :: gw) B.pre
  have hown : s.vm.findClass y.cls = some m.cls := findClass_of_methodNamed B.named
  have C : Cx (p, l, e, rmd d, s, m, av.toArray, below, meth, c) (cc, y.cls, mL, d, ret) Y := ⟨B.exec, B.bytes, hml, hown, fun w hw => hts w (List.mem_cons_of_mem _ hw), hN, hK, hap, hE, B.notSynchronized, ⟨Nat.le_refl _, Nat.le_refl _⟩, B.returns⟩
  have hl := lv_entry av (n := mL) (Nat.le_of_ble_eq_true hlen)
  rw [lg_entry_eq]
  rw [hlv] at hl
  exact body (p, l, e, rmd d, s, m, av.toArray, below, meth, c) rfl C s.heap [] _ hP va_S.rf hl
/-- a loop: from head to head (inl), or out (inr) -/
def itr {σ ρ : Type} (step : σ → Option (σ ⊕ ρ)) : Nat → σ → Option ρ
  | 0, _ => none
  | n + 1, s => match step s with
    | none => none
    | some (.inl s') => itr step n s'
    | some (.inr r) => some r
theorem itr_W {σ ρ : Type} {step : σ → Option (σ ⊕ ρ)} (P : σ → Prop) (R : ρ → Prop) (hb : ∀ s r, step s = some r → (∀ s', r = .inl s' → P s') → (∀ x, r = .inr x → R x) → P s) : ∀ (n : Nat) (s : σ) (x : ρ), itr step n s = some x → R x → P s
  | 0, s, x, h, _ => by cases h
  | n + 1, s, x, h, hR => by
    rw [itr] at h
    cases hs : step s with
    | none => rw [hs] at h; cases h
    | some q =>
      rw [hs] at h
      cases q with
      | inl s' => exact hb s _ hs (fun s2 e => by cases e; exact itr_W P R hb n s' x h hR) (fun y e => by cases e)
      | inr r => exact hb s _ hs (fun s2 e => by cases e) (fun y e => by cases e; cases h; exact hR)
theorem ob {α β : Type} {o : Option α} {f : α → Option β} {q : β} (h : o.bind f = some q) : ∃ a, o = some a ∧ f a = some q := Option.bind_eq_some_iff.mp h
def bnd {α β : Type} (e : α) (f : α → β) : β := f e
theorem it_t {α : Type} {c : Prop} [Decidable c] {x y z : α} (h : (if c then x else y) = z) (hc : c) : x = z := by rw [if_pos hc] at h; exact h
theorem it_f {α : Type} {c : Prop} [Decidable c] {x y z : α} (h : (if c then x else y) = z) (hc : ¬ c) : y = z := by rw [if_neg hc] at h; exact h
theorem w_bnd {K : Pk} {Z : Zx} {Y : Sx} {Q : State → Prop} {M : Mm} {pc : Nat} {lv : List (Nat × Value)} {st : List Value} {β : Type} {e : Int32} {f : Int32 → β} {q : β} (h : bnd e f = q) (kk : ∀ x, f x = q → Wp K Z Y Q M pc lv (.int x :: st)) : Wp K Z Y Q M pc lv (.int e :: st) := kk e h
/-- a boolean that was computed -/
def zb (v : Int32) : Option Int32 := if v &&& 1 = v then some v else none
theorem zb_some {v r : Int32} (h : zb v = some r) : v &&& 1 = v ∧ v = r := by
  unfold zb at h
  split at h
  · rename_i hi; exact ⟨hi, Option.some.inj h⟩
  · cases h
theorem bn {α β : Type} {e : α} {f : α → β} {q : β} (h : bnd e f = q) : ∃ x, e = x ∧ f x = q := ⟨e, rfl, h⟩
section RETS
variable {K : Pk} {Z : Zx} {Y : Sx} {Q : State → Prop} {M : Mm} {pc : Nat} {lv : List (Nat × Value)} {st : List Value}
theorem w_ret (C : Cx K Z Y) {v : Int32} {q : Int32 × Mm} (hd : decode Z.1 pc = .ok (.ireturn, 1)) (hr : Z.2.2.2.2 = some .int) (h : (v, M) = q) : Wp K Z Y (Qm K Y (some q.1) q.2) M pc lv [.int v] := w_iret C hd hr (by rw [h])
theorem w_retR (C : Cx K Z Y) {v q : Int32} (hd : decode Z.1 pc = .ok (.ireturn, 1)) (hr : Z.2.2.2.2 = some .int) (h : v = q) : Wp K Z Y (Qm K Y (some q) M) M pc lv [.int v] := w_iretR C hd hr (by rw [h])
theorem w_retV (C : Cx K Z Y) {q : Mm} (hd : decode Z.1 pc = .ok (.return_, 1)) (hr : Z.2.2.2.2 = none) (h : M = q) : Wp K Z Y (Qm K Y none q) M pc lv [] := w_vret C hd hr (by rw [h])
/-- a boolean is cut to its last bit -/
theorem w_retZ (C : Cx K Z Y) {v : Int32} {q : Int32 × Mm} (hd : decode Z.1 pc = .ok (.ireturn, 1)) (hr : Z.2.2.2.2 = some .boolean) (h : (v &&& 1, M) = q) : Wp K Z Y (Qm K Y (some q.1) q.2) M pc lv [.int v] := by
  intro H locs ls hP hS hl T hT X
  subst h
  have hrt : (kme K).sig.returnType = some .boolean := by rw [C.2.2.2.2.2.2.2.2.2.2.2]; exact hr
  have hlocks : (kme K).locks = false := C.2.2.2.2.2.2.2.2.2.1
  have hx := C.1
  have hb := C.2.1
  obtain ⟨fs, hret, hrun, hended, hW, hframe⟩ := X.leave (v := some (.int (v &&& 1))) (hlocks := hlocks) (fun h => by rw [hrt] at h; cases h)
  have hmeth' : T.vm.method? (km K) = some (kme K) := X.method'
  refine ⟨T.setFrames fs, ?_, .returned (some (.int (v &&& 1))), hrun, hended, ⟨rfl, by show va_P _ _ _ T.heap; rw [hT]; exact hP, hS.F hT⟩, locs, ⟨⟨_, rfl⟩, hW, hframe⟩, hS.2.2⟩
  jvm_step X.here [X.here.top, hx, hb, hd, hmeth', hrt, narrow]
  (try refine ⟨rfl, ?_⟩); (try refine ⟨rfl, ?_⟩)
  first | (intro acts; rw [hret _ acts rfl rfl rfl]) | rw [hret _ _ rfl rfl rfl]
  exact Steps.refl _
theorem w_retZR (C : Cx K Z Y) {v q : Int32} (hd : decode Z.1 pc = .ok (.ireturn, 1)) (hr : Z.2.2.2.2 = some .boolean) (h : v &&& 1 = q) : Wp K Z Y (Qm K Y (some q) M) M pc lv [.int v] := w_retZ (q := (q, M)) C hd hr (by rw [h])
theorem w_retz (C : Cx K Z Y) {v : Int32} {q : Int32 × Mm} (hd : decode Z.1 pc = .ok (.ireturn, 1)) (hr : Z.2.2.2.2 = some .boolean) (hz : v &&& 1 = v) (h : (v, M) = q) : Wp K Z Y (Qm K Y (some q.1) q.2) M pc lv [.int v] := w_retZ C hd hr (by rw [hz]; exact h)
theorem w_retzR (C : Cx K Z Y) {v q : Int32} (hd : decode Z.1 pc = .ok (.ireturn, 1)) (hr : Z.2.2.2.2 = some .boolean) (hz : v &&& 1 = v) (h : v = q) : Wp K Z Y (Qm K Y (some q) M) M pc lv [.int v] := w_retz (q := (q, M)) C hd hr hz (by rw [h])
theorem w_putZ (C : Cx K Z Y) {idx ci i k : Nat} {fs : List (Option Nat)} {x : Int32} (hd : decode Z.1 pc = .ok (.putfield idx, 3)) (hF : FP Z.2.1 idx ci i .boolean) (hk : Y.1[k]? = some (.inr (ci, fs))) (hv : fs[i]? = some none) (hx : x = 0 ∨ x = 1) (h : Wp K Z Y Q (mset M k i x) (pc + 3) lv st) : Wp K Z Y Q M pc lv (.int x :: .ref (adr Y k) :: st) := by
  rcases hx with rfl | rfl
  · exact w_put C hd hF hk hv rfl rfl h
  · exact w_put C hd hF hk hv rfl rfl h
theorem w_ldcw (C : Cx K Z Y) {idx : Nat} {v : Int32} (hd : decode Z.1 pc = .ok (.ldc_w idx, 3)) (hc : Cond.constant Z.2.1 idx v ∈ gw) (h : Wp K Z Y Q M (pc + 3) lv (.int v :: st)) : Wp K Z Y Q M pc lv st := by
  intro H locs ls hP hS hl
  exact lv_ldcw C.1 C.2.1 C.2.2.2.1 (C.2.2.2.2.1 _ hc) hd (h H locs ls hP hS hl)
theorem w_ldcS (C : Cx K Z Y) {idx i : Nat} {tx : String} (hd : decode Z.1 pc = .ok (.ldc idx, 2)) (ho : Z.2.1 = "TruckWing$Teller") (hi : skT[i]? = some (idx, tx)) (h : Wp K Z Y Q M (pc + 2) lv (.ref (ska Y i) :: st)) : Wp K Z Y Q M pc lv st :=
  fun H locs ls hP hS hl => va_ldcS C.1 C.2.1 C.2.2.2.1 (by rw [ho]; exact C.2.2.2.2.2.1.2 i _ hi) hd (h H locs ls hP hS hl)
end RETS
section CWR
variable {K : Pk} {Z : Zx} {Y : Sx} {Q : State → Prop} {M : Mm} {pc : Nat} {lv : List (Nat × Value)} {st : List Value}
theorem w_cVi (C : Cx K Z Y) {idx ci k n mL d : Nat} {y : MethodName} {cc : ByteArray} {ret : Option FieldType} {fs : List (Option Nat)} {T : u_T} {N : Nat} {v : Int32} {M' : Mm} {stk : List Value} (hd : decode Z.1 pc = .ok (.invokevirtual idx, 3)) (hy : MY y cc mL ret n) (hi : MI y) (hlk : ML Z.2.1 idx y) (hk : Y.1[k]? = some (.inr (ci, fs))) (hci : vwCl[ci]? = some (y.cls, T, N)) (hdd : Nat.blt d Z.2.2.2.1 = true) (hmm : Nat.ble mL 13 = true)
    (As : List Value) (hn : As.length = n) (hst : stk = As.reverse ++ .ref (adr Y k) :: st) (hW : (st.map fun v => v.category).sum ≤ 8) (hc : Ct (kl K) Y y cc mL ret d (.ref (adr Y k) :: As) M (some v) M') (h : Wp K Z Y Q M' (pc + 3) lv (.int v :: st)) : Wp K Z Y Q M pc lv stk := w_callV C hd hy hi hlk hk hci hdd hmm As hn hst hW hc h
theorem w_cVv (C : Cx K Z Y) {idx ci k n mL d : Nat} {y : MethodName} {cc : ByteArray} {ret : Option FieldType} {fs : List (Option Nat)} {T : u_T} {N : Nat} {M' : Mm} {stk : List Value} (hd : decode Z.1 pc = .ok (.invokevirtual idx, 3)) (hy : MY y cc mL ret n) (hi : MI y) (hlk : ML Z.2.1 idx y) (hk : Y.1[k]? = some (.inr (ci, fs))) (hci : vwCl[ci]? = some (y.cls, T, N)) (hdd : Nat.blt d Z.2.2.2.1 = true) (hmm : Nat.ble mL 13 = true)
    (As : List Value) (hn : As.length = n) (hst : stk = As.reverse ++ .ref (adr Y k) :: st) (hW : (st.map fun v => v.category).sum ≤ 8) (hc : Ct (kl K) Y y cc mL ret d (.ref (adr Y k) :: As) M none M') (h : Wp K Z Y Q M' (pc + 3) lv st) : Wp K Z Y Q M pc lv stk := w_callV C hd hy hi hlk hk hci hdd hmm As hn hst hW hc h
theorem w_cSi (C : Cx K Z Y) {idx n mL d : Nat} {y : MethodName} {cc : ByteArray} {ret : Option FieldType} {v : Int32} {M' : Mm} {stk : List Value} (hd : decode Z.1 pc = .ok (.invokestatic idx, 3)) (hy : MY y cc mL ret n) (hi : Cond.static y ∈ gw) (hlk : ML Z.2.1 idx y) (hdd : Nat.blt d Z.2.2.2.1 = true) (hmm : Nat.ble mL 13 = true)
    (As : List Value) (hn : As.length = n) (hst : stk = As.reverse ++ st) (hW : (st.map fun v => v.category).sum ≤ 8) (hc : Ct (kl K) Y y cc mL ret d As M (some v) M') (h : Wp K Z Y Q M' (pc + 3) lv (.int v :: st)) : Wp K Z Y Q M pc lv stk := w_callS C hd hy hi hlk hdd hmm As hn hst hW hc h
end CWR
def fuel : Nat := 6000
theorem gw_sub (ws : List Cond) (ps : List Nat) (hp : ws = ps.filterMap (fun i => tables_1[i]?)) (hg : ws.all goodWord = true) : ∀ w ∈ ws, w ∈ gw := by
  intro w hw
  have h1 := List.all_eq_true.mp hg w hw
  rw [hp] at hw
  obtain ⟨i, -, hi⟩ := List.mem_filterMap.mp hw
  exact gw_mem (tb_mem i hi) h1
def isLand (Y : Sx) (b : Nat) : Prop := Y.1[b]? = some (.inr (3, [none, some (b + 1), some (b + 2)])) ∧ Y.1[b + 1]? = some (.inl (.int, 45)) ∧ Y.1[b + 2]? = some (.inl (.int, 10))
def isPlan (Y : Sx) (b : Nat) : Prop := Y.1[b]? = some (.inr (4, [none, none, some (b + 1), some (b + 2)])) ∧ Y.1[b + 1]? = some (.inl (.int, 8)) ∧ Y.1[b + 2]? = some (.inl (.int, 32))
def isFound (Y : Sx) (b : Nat) : Prop := Y.1[b]? = some (.inr (2, [none, none, none]))
def zo (v : Int32) : Option Int32 := if v = 0 ∨ v = 1 then some v else none
theorem zo_some {v x : Int32} (h : zo v = some x) : (v = 0 ∨ v = 1) ∧ v = x := by
  unfold zo at h
  split at h
  · rename_i hi; exact ⟨hi, Option.some.inj h⟩
  · cases h
/-- charAt of a constant text -/
def sca (w : Nat) (x : Int32) : Option Int32 := if inb x (skL.getD w 0) = true then some ((skB.getD w []).getD x.toNatClampNeg 0) else none
