/-! CONSTRUCTORS: worlds that grow -/
abbrev Gx : Type := va_G × (FieldType → ClassId) × Nat
def gtys (G : Gx) : List (ClassId × FieldType) := [(G.2.1 .int, .int), (G.2.1 .boolean, .boolean), (G.2.1 .byte, .byte)]
def stF : Nat → Int32 := fun j => stL3.getD j 0
/-- the static array that Land clones -/
def SF (G : Gx) (A : Nat → Prop) (U : State) (H : Heap) : Prop := va_Z "TruckWing" "SETTING_FIRST" "[I" (.ref G.2.2) A U H ∧ ∃ cell : Cell, H[G.2.2]? = some cell ∧ cell.vm.isStatics = false ∧ cell.vm ≠ .unknown ∧ U.vm.findClass "[I" = some cell.cls ∧ ({ cls := cell.cls, slots := cell.slots } : Cell) = vp_cell cell.cls (10, .inl stF) ∧ ¬ A G.2.2
theorem SF.moved {G : Gx} {A : Nat → Prop} {u U : State} {H : Heap} (hvm : u.vm.Alike U.vm) (h : SF G A u H) : SF G A U H := by
  obtain ⟨h1, cell, h2, h3, h4, h5, h6⟩ := h
  exact ⟨h1.moved hvm, cell, h2, h3, h4, by rw [hvm.findClass]; exact h5, h6⟩
theorem SF.kept {G : Gx} {A : Nat → Prop} {U : State} {H H1 : Heap} (h : SF G A U H) (hq : ∀ a : Nat, a < H.size → ¬ A a → H1[a]? = H[a]?) : SF G A U H1 := by
  obtain ⟨h1, cell, h2, h3, h4, h5, h6, h7⟩ := h
  exact ⟨h1.kept hq, cell, by rw [hq _ (Array.getElem?_eq_some_iff.mp h2).1 h7]; exact h2, h3, h4, h5, h6, h7⟩
theorem SF.narrow {G : Gx} {A B : Nat → Prop} {U : State} {H : Heap} (h : SF G A U H) (hAB : ∀ q, B q → A q) : SF G B U H := by
  obtain ⟨h1, cell, h2, h3, h4, h5, h6, h7⟩ := h
  exact ⟨h1.narrow hAB, cell, h2, h3, h4, h5, h6, fun z => h7 (hAB _ z)⟩
def NsI (U : State) : Prop := (∀ w ∈ nw, va_Nw w U) ∧ va_Nw (.castable "[I" "java/lang/Cloneable") U
theorem NsI.same {u U : State} (hv : u.vm = U.vm) (h : NsI u) : NsI U := ⟨fun w hw => va_Nw.same (nst_on (List.mem_filter.mp hw).2) hv (h.1 w hw), va_Nw.same rfl hv h.2⟩
theorem NsI.warm {s U : State} (hW : s.WarmedH U.vm) (h : NsI s) : NsI U := by
  refine ⟨fun w hw => ?_, va_Nw.warmC hW h.2⟩
  have h1 := h.1 w hw
  have h2 := (List.mem_filter.mp hw).2
  cases w <;> simp [isNst] at h2
  · exact va_Nw.warmM hW h1
  · exact va_Nw.warmF hW h1
def PreI (G : Gx) (ws : va_W) (sz : Nat) (U : State) : Prop := U.heap.size = sz ∧ va_P G.1 vwCl ws U.heap ∧ va_K G.1 vwCl (gtys G) U ∧ va_D (fun _ => True) ws ∧ NsI U ∧ SF G (va_A ws sz) U U.heap
def rmi0 (d mc ms : Nat) : Room := { frames := d, cells := mc, slots := ms, locals := 32 * d }
/-- a constructor's contract: of the new cell e0 at h0 it makes a world w1 with P w1 -/
def Cn (l : Launch) (G : Gx) (y : MethodName) (cc : ByteArray) (mL d mc ms : Nat) (av : List Value) (h0 : Nat) (e0 : va_E) (P : va_W → Prop) : Prop :=
  ∀ sz : Nat, Met l y (Cond.code y cc mL none :: gw) (rmi0 d mc ms) (va_Pc av (PreI G [(h0, e0)] sz)) (fun _ st oc t => oc = .returned none ∧ (∃ w1, P w1 ∧ va_P G.1 vwCl w1 t.heap ∧ va_D (va_A [(h0, e0)] sz) w1) ∧ va_F (va_A [(h0, e0)] sz) st t) mc ms (va_A [(h0, e0)] sz)
abbrev Zi : Type := ByteArray × String × Nat × Room
def Ck (K : Pk) (Z : Zi) (G : Gx) (A : Nat → Prop) : Prop :=
  (kp K).tables.exec = Jvm.exec ∧ (kc K).code = Z.1 ∧ (kc K).maxLocals = Z.2.2.1 ∧ (ks K).vm.findClass Z.2.1 = some (km K).cls ∧ (∀ w ∈ gw, w.before (ka K) (ks K) = true) ∧ NsI (ks K) ∧ va_K G.1 vwCl (gtys G) (ks K) ∧ (∀ q, (ks K).heap.size ≤ q → A q) ∧ SF G A (ks K) (ks K).heap ∧ (kme K).locks = false ∧ kR K = Z.2.2.2 ∧ (kme K).sig.returnType = none ∧ (kme K).name = "<init>"
def Wi (K : Pk) (Z : Zi) (G : Gx) (A : Nat → Prop) (Q : State → Prop) (ws : va_W) (nc ns : Nat) (pc : Nat) (lv : List (Nat × Value)) (st : List Value) : Prop :=
  ∀ (H : Heap) (locs : List Loc) (ls : Array Slot), va_P G.1 vwCl ws H → va_D A ws → va_S A (ks K).heap H locs → lv_has ls Z.2.2.1 lv → W (kp K) (kl K) (ke K) (kR K) (ks K) (km K) (ka K) (kb K) (kme K) (kc K) H locs nc ns Q (F0 (km K) pc ls st)
/-- links of a final field, put in a constructor -/
def FF (own : String) (idx ci i : Nat) : Prop := ∃ (T : u_T) (N : Nat) (ty0 : Nat → FieldType) (ty : FieldType), vwCl[ci]? = some (own, T, N) ∧ i < N ∧ (∀ w ∈ u_ws own T N, w ∈ gw) ∧ Cond.fieldLink own idx (T i).1 (T i).2.1 (T i).2.2.1 ∈ gw ∧
  (∀ k, k < N → parseFieldDescriptor (T k).2.2.1 = some (ty0 k)) ∧ (∀ a, a < N → ∀ b, b < N → a ≠ b → (T a).2.1 ≠ (T b).2.1) ∧ (T i).2.2.2 = true ∧ (T i).1 = own ∧ parseFieldDescriptor (T i).2.2.1 = some ty ∧ ∀ q, narrow ty (.ref q) = .ref q ∧ fits ty (.ref q) = true
/-- links of a class whose object is made -/
def NC (own : String) (idx ci : Nat) (fs : List Value) : Prop := ∃ (Cn : String) (T : u_T) (N : Nat) (ty0 : Nat → FieldType), vwCl[ci]? = some (Cn, T, N) ∧ (∀ w ∈ u_ws Cn T N, w ∈ gw) ∧ (∀ k, k < N → parseFieldDescriptor (T k).2.2.1 = some (ty0 k)) ∧ Cond.classLink own idx Cn ∈ gw ∧ Cond.instantiable Cn N ∈ gw ∧ Cond.initialized Cn ∈ gw ∧ (∀ j, j < N → defaultValue (ty0 j) = vp_V fs j) ∧ N = fs.length
section IROWS
variable {K : Pk} {Z : Zi} {G : Gx} {A : Nat → Prop} {Q : State → Prop} {ws : va_W} {nc ns : Nat} {pc : Nat} {lv : List (Nat × Value)} {st : List Value}
theorem i_bipush (C : Ck K Z G A) {n : Int} (hd : decode Z.1 pc = .ok (.bipush n, 2)) {v : Int32} (hv : (Int8.ofInt n).toInt32 = v) (h : Wi K Z G A Q ws nc ns (pc + 2) lv (.int v :: st)) : Wi K Z G A Q ws nc ns pc lv st :=
  fun H locs ls hP hD hS hl => lv_bipush C.1 C.2.1 hd hv (h H locs ls hP hD hS hl)
theorem i_sipush (C : Ck K Z G A) {n : Int} (hd : decode Z.1 pc = .ok (.sipush n, 3)) {v : Int32} (hv : (Int16.ofInt n).toInt32 = v) (h : Wi K Z G A Q ws nc ns (pc + 3) lv (.int v :: st)) : Wi K Z G A Q ws nc ns pc lv st :=
  fun H locs ls hP hD hS hl => lv_sipush C.1 C.2.1 hd hv (h H locs ls hP hD hS hl)
theorem i_iconst (C : Ck K Z G A) {n : Int} (hd : decode Z.1 pc = .ok (.iconst n, 1)) {v : Int32} (hv : Int32.ofInt n = v) (h : Wi K Z G A Q ws nc ns (pc + 1) lv (.int v :: st)) : Wi K Z G A Q ws nc ns pc lv st :=
  fun H locs ls hP hD hS hl => lv_iconst C.1 C.2.1 hd hv (h H locs ls hP hD hS hl)
theorem i_aload_n (C : Ck K Z G A) {k : Fin 4} (hd : decode Z.1 pc = .ok (.aload_n k, 1)) (j : Nat) {x : Nat} (hj : lv[j]? = some ((k : Nat), .ref x)) (h : Wi K Z G A Q ws nc ns (pc + 1) lv (.ref x :: st)) : Wi K Z G A Q ws nc ns pc lv st :=
  fun H locs ls hP hD hS hl => lv_aload_n C.1 C.2.1 hd rfl (lv_at hl j hj) (h H locs ls hP hD hS hl)
theorem i_dup (C : Ck K Z G A) {v : Value} (hd : decode Z.1 pc = .ok (.dup, 1)) (hv : v.category = 1) (h : Wi K Z G A Q ws nc ns (pc + 1) lv (v :: v :: st)) : Wi K Z G A Q ws nc ns pc lv (v :: st) :=
  fun H locs ls hP hD hS hl => lv_dup C.1 C.2.1 hd hv (h H locs ls hP hD hS hl)
theorem i_obj (C : Ck K Z G A) {idx a : Nat} (hd : decode Z.1 pc = .ok (.invokespecial idx, 3)) (h1 : Cond.methodLink Z.2.1 idx objectInit ∈ gw) (h2 : Cond.instanceMethod objectInit ∈ gw) (h3 : Cond.code objectInit ⟨#[0xb1]⟩ 1 none ∈ gw) (hR : Nat.ble 1 Z.2.2.2.frames = true ∧ Nat.ble ((st.map fun v => v.category).sum + 12) Z.2.2.2.locals = true) (h : Wi K Z G A Q ws nc ns (pc + 3) lv st) : Wi K Z G A Q ws nc ns pc lv (.ref a :: st) := by
  intro H locs ls hP hD hS hl
  have eR : kR K = Z.2.2.2 := C.2.2.2.2.2.2.2.2.2.2.1
  refine W.objInit C.1 C.2.1 C.2.2.2.1 (C.2.2.2.2.1 _ h1) (C.2.2.2.2.1 _ h2) (C.2.2.2.2.1 _ h3) rfl (by rw [C.2.2.1]; exact hl.1) rfl hd (by rw [eR]; exact Nat.le_of_ble_eq_true hR.1) ?_ (h H locs ls hP hD hS hl)
  rw [eR]
  have := Nat.le_of_ble_eq_true hR.2
  show 2 * 0 + _ + 12 ≤ _
  omega
theorem i_newa (C : Ck K Z G A) {atype : ArrayType} {ty : FieldType} {N t0 : Nat} {n : Int32} {ws' : Nat → va_W} (hd : decode Z.1 pc = .ok (.newarray atype, 2)) (ht : newarray.typeOf atype = ty) (harr : Cond.arrayClass ty ∈ gw) (htys : (gtys G)[t0]? = some (G.2.1 ty, ty)) (hdef : defaultValue ty = .int 0) (hra : ∀ c, va_RA (ks K) c ty ↔ (ks K).vm.findClass ("[" ++ ty.toString) = some c) (hn : ¬ n < 0) (hN : n.toNatClampNeg = N) (hbytes : N * componentBytes ty ≤ 536870912) (hc : Nat.ble (nc + 1) Z.2.2.2.cells = true) (hs : Nat.ble (ns + N) Z.2.2.2.slots = true)
    (hw : ∀ q, ws ++ [(q, .inl (G.2.1 ty, N, .inl fun _ => 0))] = ws' q) (h : ∀ q, Wi K Z G A Q (ws' q) (nc + 1) (ns + N) (pc + 2) lv (.ref q :: st)) : Wi K Z G A Q ws nc ns pc lv (.int n :: st) := by
  intro H locs ls hP hD hS hl
  have eR : kR K = Z.2.2.2 := C.2.2.2.2.2.2.2.2.2.2.1
  have hK := C.2.2.2.2.2.2.1
  refine va_newa (a0 := (N, .inl fun _ => 0)) C.1 C.2.1 (by rw [ht]; exact C.2.2.2.2.1 _ harr) ht hK hP hD hS C.2.2.2.2.2.2.2.1 (fun cA => by rw [hdef]; rfl) hn hN hbytes (by rw [eR]; exact Nat.le_of_ble_eq_true hc) (by rw [eR]; exact Nat.le_of_ble_eq_true hs) hd (fun q cA H1 hK1 hP1 hD1 hS1 => ?_)
  have e1 : (ks K).vm.findClass ("[" ++ ty.toString) = some cA := (hra cA).mp (hK1.2 (gtys G).length _ (by rw [List.getElem?_append_right (Nat.le_refl _), Nat.sub_self]; rfl)).2
  have e2 : (ks K).vm.findClass ("[" ++ ty.toString) = some (G.2.1 ty) := (hra _).mp (hK.2 t0 _ htys).2
  have e3 : cA = G.2.1 ty := Option.some.inj (e1.symm.trans e2)
  subst e3
  rw [hw q] at hP1 hD1
  exact h q H1 locs ls hP1 hD1 hS1 hl
theorem i_new (C : Ck K Z G A) {idx ci : Nat} {fs : List Value} {ws' : Nat → va_W} (hd : decode Z.1 pc = .ok (.new idx, 3)) (hN : NC Z.2.1 idx ci fs) (hc : Nat.ble (nc + 1) Z.2.2.2.cells = true) (hs : Nat.ble (ns + fs.length) Z.2.2.2.slots = true) (hw : ∀ q, ws ++ [(q, .inr (ci, fs))] = ws' q) (h : ∀ q, Wi K Z G A Q (ws' q) (nc + 1) (ns + fs.length) (pc + 3) lv (.ref q :: st)) : Wi K Z G A Q ws nc ns pc lv st := by
  intro H locs ls hP hD hS hl
  have eR : kR K = Z.2.2.2 := C.2.2.2.2.2.2.2.2.2.2.1
  obtain ⟨Cn, T, N, ty0, h1, h2, h3, h4, h5, h6, h7, h8⟩ := hN
  subst h8
  refine va_new (ci := ci) (fs := fs) (C := Cn) (T := T) (N := fs.length) C.1 C.2.1 C.2.2.2.2.1 h2 ty0 h3 C.2.2.2.1 (C.2.2.2.2.1 _ h4) (C.2.2.2.2.1 _ h5) (C.2.2.2.2.1 _ h6) C.2.2.2.2.2.2.1 hP hD hS C.2.2.2.2.2.2.2.1 h1 h7 (by rw [eR]; exact Nat.le_of_ble_eq_true hc) (by rw [eR]; exact Nat.le_of_ble_eq_true hs) hd (fun q H1 hP1 hD1 hS1 => ?_)
  rw [hw q] at hP1 hD1
  exact h q H1 locs ls hP1 hD1 hS1 hl
theorem i_putF (C : Ck K Z G A) {idx ci i k a q : Nat} {fs : List Value} {ws' : va_W} (hd : decode Z.1 pc = .ok (.putfield idx, 3)) (hF : FF Z.2.1 idx ci i) (hk : ws[k]? = some (a, .inr (ci, fs))) (hlen : Nat.blt i fs.length = true) (hw : ws.set k (a, .inr (ci, fs.set i (.ref q))) = ws') (h : Wi K Z G A Q ws' nc ns (pc + 3) lv st) : Wi K Z G A Q ws nc ns pc lv (.ref q :: .ref a :: st) := by
  intro H locs ls hP hD hS hl
  obtain ⟨T, N, ty0, ty, h1, h2, h3, h4, h5, h6, h7, h8, h9, h10⟩ := hF
  refine va_putF (C := Z.2.1) (T := T) (N := N) C.1 C.2.1 C.2.2.2.2.1 h3 ty0 h5 h6 C.2.2.2.1 C.2.2.2.2.2.2.1 hP hD hS k hk h1 i h2 (C.2.2.2.2.1 _ h4) (fun _ h9 => h9) h7 C.2.2.2.2.2.2.2.2.2.2.2.2 h8 h9 (h10 q).1 (h10 q).2 (Nat.le_of_ble_eq_true hlen) hd (fun H1 locs1 hP1 hD1 hS1 => ?_)
  rw [hw] at hP1 hD1
  exact h H1 locs1 ls hP1 hD1 hS1 hl
theorem i_getR (C : Ck K Z G A) {idx ci i k a q : Nat} {fs : List Value} (hd : decode Z.1 pc = .ok (.getfield idx, 3)) (hF : FF Z.2.1 idx ci i) (hk : ws[k]? = some (a, .inr (ci, fs))) (hv : fs[i]? = some (.ref q)) (h : Wi K Z G A Q ws nc ns (pc + 3) lv (.ref q :: st)) : Wi K Z G A Q ws nc ns pc lv (.ref a :: st) := by
  intro H locs ls hP hD hS hl
  obtain ⟨T, N, ty0, ty, h1, h2, h3, h4, h5, h6, h7, h8, h9, h10⟩ := hF
  exact va_get (C := Z.2.1) (T := T) (N := N) C.1 C.2.1 C.2.2.2.2.1 h3 C.2.2.2.1 C.2.2.2.2.2.2.1 hP k hk h1 i h2 (C.2.2.2.2.1 _ h4) (fun _ h9 => h9) hv hd (h H locs ls hP hD hS hl)
theorem i_iast (C : Ck K Z G A) {k a n : Nat} {f : Nat → Int32} {x v : Int32} {ws' : va_W} (hd : decode Z.1 pc = .ok (.iastore, 1)) (hk : ws[k]? = some (a, .inl (G.2.1 .int, n, .inl f))) (hi : inb x n = true) (hw : ws.set k (a, .inl (G.2.1 .int, n, .inl (upd f x.toNatClampNeg v))) = ws') (h : Wi K Z G A Q ws' nc ns (pc + 1) lv st) : Wi K Z G A Q ws nc ns pc lv (.int v :: .int x :: .ref a :: st) := by
  intro H locs ls hP hD hS hl
  refine va_iast C.1 C.2.1 C.2.2.2.2.2.2.1 hP hD hS k 0 hk rfl (inb_in hi) hd (fun H1 locs1 hP1 hD1 hS1 => ?_)
  rw [hw] at hP1 hD1
  exact h H1 locs1 ls hP1 hD1 hS1 hl
/-- SETTING_FIRST.clone() -/
theorem i_gets (C : Ck K Z G A) {idx : Nat} {host : String} (hd : decode Z.1 pc = .ok (.getstatic idx, 3)) (hl' : Cond.fieldLinkNest Z.2.1 idx "TruckWing" "SETTING_FIRST" "[I" host ∈ nw) (h : Wi K Z G A Q ws nc ns (pc + 3) lv (.ref G.2.2 :: st)) : Wi K Z G A Q ws nc ns pc lv st :=
  fun H locs ls hP hD hS hl => va_getsN C.1 C.2.1 C.2.2.2.2.2.2.2.2.1.1 hS C.2.2.2.1 (va_Nw.use rfl (C.2.2.2.2.2.1.1 _ hl')) (fun _ h9 => h9) hd (h H locs ls hP hD hS hl)
theorem i_clone (C : Ck K Z G A) {idx : Nat} {ws' : Nat → va_W} (hd : decode Z.1 pc = .ok (.invokevirtual idx, 3)) (hlink : Cond.methodLink Z.2.1 idx ⟨"[I", "clone", "()Ljava/lang/Object;"⟩ ∈ gw) (hsame : Cond.sameMethod "[I" "java/lang/Object" "clone" "()Ljava/lang/Object;" ∈ gw) (hnat : Cond.native ⟨"java/lang/Object", "clone", "()Ljava/lang/Object;"⟩ ∈ gw) (hinst : Cond.instanceMethod ⟨"java/lang/Object", "clone", "()Ljava/lang/Object;"⟩ ∈ gw) (hsel : Cond.selects "[I" ⟨"[I", "clone", "()Ljava/lang/Object;"⟩ ⟨"java/lang/Object", "clone", "()Ljava/lang/Object;"⟩ ∈ gw)
    (hR : Nat.ble 1 Z.2.2.2.frames = true ∧ Nat.ble ((st.map fun v => v.category).sum + 14) Z.2.2.2.locals = true) (hc : Nat.ble (nc + 1) Z.2.2.2.cells = true) (hs : Nat.ble (ns + 10) Z.2.2.2.slots = true) (hw : ∀ q, ws ++ [(q, .inl (G.2.1 .int, 10, .inl stF))] = ws' q) (h : ∀ q, Wi K Z G A Q (ws' q) (nc + 1) (ns + 10) (pc + 3) lv (.ref q :: st)) : Wi K Z G A Q ws nc ns pc lv (.ref G.2.2 :: st) := by
  intro H locs ls hP hD hS hl
  have eR : kR K = Z.2.2.2 := C.2.2.2.2.2.2.2.2.2.2.1
  have hK := C.2.2.2.2.2.2.1
  obtain ⟨-, cell, h2, h3, h4, h5, h6, h7⟩ := (C.2.2.2.2.2.2.2.2.1).kept hS.2.1
  have eI : cell.cls = G.2.1 .int := Option.some.inj (h5.symm.trans (va_nm_int (hK.2 0 _ rfl).2))
  have hsz : cell.slots.size = 10 := by
    have e : ({ cls := cell.cls, slots := cell.slots } : Cell).slots = (vp_cell cell.cls (10, .inl stF)).slots := congrArg Cell.slots h6
    change cell.slots = _ at e
    rw [e]
    exact arrV_size _ _ _
  have hsl : ∀ (i : Nat) (v : Value), cell.slots[i]? = some v → fits .int v = true := by
    intro i v hv
    have e : ({ cls := cell.cls, slots := cell.slots } : Cell).slots = (vp_cell cell.cls (10, .inl stF)).slots := congrArg Cell.slots h6
    change cell.slots = _ at e
    rw [e] at hv
    exact va_fit (fun i _ => rfl) i v hv
  obtain ⟨c0, t0', f1, f2, f3⟩ := Cond.castable_spec (va_Nw.use (A := ka K) rfl C.2.2.2.2.2.1.2)
  cases h5.symm.trans f1
  intro T hT X
  obtain ⟨-, kA, hkA, comp, hkind⟩ := State.isArrayOf_alike X.warmed.alike ((hK.2 0 _ rfl).1 0 (fun _ => .null))
  obtain ⟨-, kS, hkS, compS, hkindS⟩ := (hK.2 0 _ rfl).1 0 (fun _ => .null)
  obtain ⟨vm', X', go⟩ := X.cloneArray C.1 C.2.2.2.1 (C.2.2.2.2.1 _ hlink) (C.2.2.2.2.1 _ hsame) (C.2.2.2.2.1 _ hnat) (C.2.2.2.2.1 _ hinst) (C.2.2.2.2.1 _ hsel) (a := G.2.2) (cell := cell) (by rw [hT]; exact h2) (fun k h => by rw [h] at h3; cases h3) h4 h5 f2 f3
    (fun i v hv => by
      rw [eI]
      have hk' : T.vm.classes[G.2.1 .int]? = some kA := hkA
      simpa [State.fitsSlot, State.slotType?, hk', hkind] using hsl i v hv)
    (g := F0 (km K) pc ls (.ref G.2.2 :: st)) rfl (by rw [C.2.2.1]; exact hl.1) rfl (by rw [C.2.1]; exact hd) (by rw [eR]; exact Nat.le_of_ble_eq_true hR.1) (by rw [eR]; have := Nat.le_of_ble_eq_true hR.2; show 2 * 0 + _ + 14 ≤ _; omega) (by rw [eR]; exact Nat.le_of_ble_eq_true hc) (by rw [hsz, eR]; exact Nat.le_of_ble_eq_true hs) (hloader := by rw [eI]; exact Vm.clonesLoader_of_array hkS hkindS)
  rw [hsz] at X'
  generalize hH1 : H.push (vp_cell (G.2.1 .int) (10, .inl stF)) = H1
  have z1 : H1.size = H.size + 1 := by rw [← hH1, Array.size_push]
  have e1 : H1[H.size]? = some (vp_cell (G.2.1 .int) (10, .inl stF)) := by rw [← hH1, Array.getElem?_push_size]
  have o1 : ∀ q : Nat, q < H.size → H1[q]? = H[q]? := fun q hq => by rw [← hH1, Array.getElem?_push, if_neg (Nat.ne_of_lt hq)]
  have hk9 : ∀ (k : Nat) (y : Nat × va_E), ws[k]? = some y → H1[y.1]? = H[y.1]? := fun k y hy => o1 y.1 ((hP k y hy).lt)
  have hcE : ({ cls := cell.cls, slots := cell.slots } : Cell) = vp_cell (G.2.1 .int) (10, .inl stF) := by rw [h6, eI]
  have hP1 : va_P G.1 vwCl (ws ++ [(H.size, .inl (G.2.1 .int, 10, .inl stF))]) H1 := (hP.kept hk9).app (fun k y hy => by
      have hz : k < 1 := (List.getElem?_eq_some_iff.mp hy).1
      rw [show k = 0 by omega] at hy
      cases hy
      exact e1)
  have hD1 : va_D A (ws ++ [(H.size, .inl (G.2.1 .int, 10, .inl stF))]) := hD.push hP rfl (C.2.2.2.2.2.2.2.1 _ hS.1)
  rw [hw] at hP1 hD1
  obtain ⟨t, b1, b2⟩ := h H.size H1 locs ls hP1 hD1 ⟨Nat.le_trans hS.1 (by omega), fun y h1 h2 => (o1 y (Nat.lt_of_lt_of_le h1 hS.1)).trans (hS.2.1 y h1 h2), hS.2.2⟩ hl ((T.setVm vm').pushCell { cls := cell.cls, slots := cell.slots }) (by rw [hcE, ← hH1, ← hT]; rfl) X'
  refine ⟨t, go t ?_, b2⟩
  rw [hT]
  exact b1
theorem i_cast (C : Ck K Z G A) {idx k a : Nat} {x : vp_A} (hd : decode Z.1 pc = .ok (.checkcast idx, 3)) (hl' : Cond.classLink Z.2.1 idx "[I" ∈ gw) (hk : ws[k]? = some (a, .inl (G.2.1 .int, x))) (h : Wi K Z G A Q ws nc ns (pc + 3) lv (.ref a :: st)) : Wi K Z G A Q ws nc ns pc lv (.ref a :: st) :=
  fun H locs ls hP hD hS hl => va_castA C.1 C.2.1 C.2.2.2.1 (C.2.2.2.2.1 _ hl') hP k hk (va_nm_int (C.2.2.2.2.2.2.1.2 0 _ rfl).2) hd (h H locs ls hP hD hS hl)
theorem i_blind {av : List Value} {ws : va_W} {sz : Nat} : FrameBlind (va_Pc av (PreI G ws sz)) := fun a U g mk q => by
  obtain ⟨q0, q1, q2, q3, q4, q5, q6⟩ := q
  have hA : U.vm.Alike (U.calling g mk a).vm := Vm.Alike.refl U.vm
  exact ⟨q0, q1, q2, va_K.moved (u := U) hA q3, q4, NsI.same (u := U) (U := U.calling g mk a) rfl q5, SF.moved hA q6⟩
theorem gt_app {wr : va_W} {x : Nat × va_E} : (List.range wr.length).map (fun i => (wr ++ [x])[i]?) = wr.map some := by
  apply List.ext_getElem?
  intro i
  rw [List.getElem?_map, List.getElem?_map]
  by_cases hi : i < wr.length
  · rw [List.getElem?_range hi, List.getElem?_eq_getElem hi]
    simp [List.getElem?_append_left hi, List.getElem?_eq_getElem hi]
  · rw [List.getElem?_eq_none (by simp; omega), List.getElem?_eq_none (by omega)]
    rfl
theorem nd_range : ∀ n, va_nd (List.range n) = true := by
  have key : ∀ l : List Nat, l.Nodup → va_nd l = true := by
    intro l
    induction l with
    | nil => intro _; rfl
    | cons a l ih => intro h; rw [List.nodup_cons] at h; simp [va_nd, h.1, ih h.2]
  exact fun n => key _ List.nodup_range
/-- a nested constructor on the cell that was just made -/
theorem i_call (C : Ck K Z G A) {idx n mL d mc ms h0 : Nat} {y : MethodName} {cc : ByteArray} {e0 : va_E} {P : va_W → Prop} {wr : va_W} {stk : List Value} (hd : decode Z.1 pc = .ok (.invokespecial idx, 3)) (hy : MY y cc mL none n) (hi : Cond.instanceMethod y ∈ gw) (hnm : y.name = "<init>") (hlk : ML Z.2.1 idx y) (hws : ws = wr ++ [(h0, e0)])
    (hR : Nat.ble (d + 1) Z.2.2.2.frames = true ∧ Nat.ble (8 + (mL + 11) + 32 * d) Z.2.2.2.locals = true) (hc : Nat.ble (nc + mc) Z.2.2.2.cells = true) (hs : Nat.ble (ns + ms) Z.2.2.2.slots = true)
    (As : List Value) (hn : As.length = n) (hst : stk = As.reverse ++ .ref h0 :: st) (hW : (st.map fun v => v.category).sum ≤ 8) (hcon : Cn (kl K) G y cc mL d mc ms (.ref h0 :: As) h0 e0 P) (h : ∀ w1, P w1 → Wi K Z G A Q (wr ++ w1) (nc + mc) (ns + ms) (pc + 3) lv st) : Wi K Z G A Q ws nc ns pc lv stk := by
  intro H locs ls hP hD hS hl
  subst hws
  have eR : kR K = Z.2.2.2 := C.2.2.2.2.2.2.2.2.2.2.1
  have hAA := C.2.2.2.2.2.2.2.1
  have hC : [wr.length].map (fun i => (wr ++ [(h0, e0)])[i]?) = [(h0, e0)].map some := by simp
  have hP0 : va_P G.1 vwCl [(h0, e0)] H := hP.sub [wr.length] (by simp)
  have hD0 : va_D (fun _ => True) [(h0, e0)] := (hD.sub [wr.length] (by simp [va_nd]) hC).weaken (fun _ _ _ _ => trivial)
  have hFc := va_free (wc := [(h0, e0)]) hD hS hAA [wr.length] hC
  have hfix : CallFix (kp K) (km K) (kc K) Z.1 Z.2.2.1 (ks K) (ka K) gw Z.2.1 := ⟨C.1, C.2.1, C.2.2.1, C.2.2.2.1, C.2.2.2.2.1⟩
  have hpre : PreS (ks K) H (va_Pc (.ref h0 :: As) (PreI G [(h0, e0)] H.size)) (.ref h0 :: As) := ⟨i_blind, fun U hU hW => ⟨rfl, by rw [hU], by rw [hU]; exact hP0, va_K.moved hW.alike C.2.2.2.2.2.2.1, hD0, NsI.warm hW C.2.2.2.2.2.1, by
    rw [hU]
    exact SF.moved hW.alike (((C.2.2.2.2.2.2.2.2.1).kept hS.2.1).narrow hFc)⟩⟩
  have hin : (Cond.instanceMethod y).before (ka K) (ks K) = true := C.2.2.2.2.1 _ hi
  have hRm : (rmi0 d mc ms).frames + 1 ≤ (kR K).frames ∧ 8 + (mL + 11) + (rmi0 d mc ms).locals ≤ (kR K).locals := by rw [eR]; exact ⟨Nat.le_of_ble_eq_true hR.1, Nat.le_of_ble_eq_true hR.2⟩
  have hcs : nc + mc ≤ (kR K).cells ∧ ns + ms ≤ (kR K).slots := by rw [eR]; exact ⟨Nat.le_of_ble_eq_true hc, Nat.le_of_ble_eq_true hs⟩
  have fin : va_Run (kp K) (kl K) (ke K) (kR K) (ks K) (km K) (ka K) (kb K) (kme K) (kc K) H locs nc ns mc ms (F0 (km K) pc ls stk) st (fun st oc t => oc = .returned none ∧ (∃ w1, P w1 ∧ va_P G.1 vwCl w1 t.heap ∧ va_D (va_A [(h0, e0)] H.size) w1) ∧ va_F (va_A [(h0, e0)] H.size) st t) (va_A [(h0, e0)] H.size) := by
    rcases hlk with hlk | ⟨host, hlk⟩
    · exact va_runI (As := As) (rest := st) hfix (hcon H.size) ⟨callB_of n C.2.2.2.2.1 (gIn y cc mL none hy.1) rfl rfl rfl (C.2.2.2.2.1 _ hy.2.1) (C.2.2.2.2.1 _ hlk) hy.2.2 hRm, hnm, hin⟩ hpre rfl hn hl.1 hst (lv_room hW) hd hcs
    · exact va_runIN (As := As) (rest := st) hfix (hcon H.size) ⟨va_cnB n C.2.2.2.2.1 (gIn y cc mL none hy.1) rfl rfl rfl (C.2.2.2.2.2.1.1 _ hlk) (C.2.2.2.2.1 _ hy.2.1) hy.2.2 hRm, hnm, hin⟩ hpre rfl hn hl.1 hst (lv_room hW) hd hcs
  intro T hT X
  obtain ⟨v, st₀, t, T', L, g0, X', hL, e1, e2, ⟨hv, ⟨w1, hp1, hP1, hD1⟩, hz, hk⟩, go⟩ := fin T hT X
  cases hv
  rw [g0] at hz hk
  have hS1 : va_S A (ks K).heap T'.heap (locs ++ L) := by
    refine ⟨Nat.le_trans hS.1 (by rw [e1]; exact hz), fun q h1 h2 => ?_, fun q hq => ?_⟩
    · rw [e1, hk q (Nat.lt_of_lt_of_le h1 hS.1) (fun z => h2 (hFc q z))]
      exact hS.2.1 q h1 h2
    · rcases List.mem_append.mp hq with h2 | h2
      · exact hS.2.2 q h2
      · exact hFc _ (hL q h2)
  obtain ⟨hPj, hDj⟩ := va_join (wr := wr) (w1 := w1) (H1 := T'.heap) hP hD [wr.length] (List.range wr.length) hC gt_app (nd_range _) (fun i hi hj => by simp at hi hj; omega) (fun q h1 h2 => by rw [e1]; exact hk q h1 h2) hFc (by rw [e1]; exact hP1) hD1
  obtain ⟨t2, a1, b1⟩ := h w1 hp1 T'.heap (locs ++ L) ls hPj hDj hS1 hl T' rfl X'
  exact ⟨t2, go t2 a1, b1⟩
/-- a constructor's end -/
theorem i_ret (C : Ck K Z G A) {h0 mc ms : Nat} {e0 : va_E} {P : va_W → Prop} (hA : A = va_A [(h0, e0)] (ks K).heap.size) (hd : decode Z.1 pc = .ok (.return_, 1)) (hc : nc = mc) (hs : ns = ms) (hp : P ws) : Wi K Z G A (MQ (kb K) (fun _ st oc t => oc = .returned none ∧ (∃ w1, P w1 ∧ va_P G.1 vwCl w1 t.heap ∧ va_D (va_A [(h0, e0)] (ks K).heap.size) w1) ∧ va_F (va_A [(h0, e0)] (ks K).heap.size) st t) (ka K) (ks K) mc ms (va_A [(h0, e0)] (ks K).heap.size)) ws nc ns pc lv [] := by
  intro H locs ls hP hD hS hl
  subst hc; subst hs; subst hA
  exact W.vret C.1 C.2.1 C.2.2.2.2.2.2.2.2.2.2.2.1 (fun t ht _ => ⟨rfl, ⟨ws, hp, by rw [ht]; exact hP, hD⟩, hS.F ht⟩) hS.2.2 hd C.2.2.2.2.2.2.2.2.2.1
end IROWS
theorem Cn.of {l : Launch} {G : Gx} {y : MethodName} {cc : ByteArray} {mL d mc ms : Nat} {av : List Value} {lv : List (Nat × Value)} {h0 : Nat} {e0 : va_E} {P : va_W → Prop} (hy : plainName y.cls = true) (hnm : y.name = "<init>") (hlen : Nat.ble (lg_sl av).length mL = true) (hlv : lv_args 0 av = lv)
    (body : ∀ (K : Pk) (A : Nat → Prop), A = va_A [(h0, e0)] (ks K).heap.size → kl K = l → Ck K (cc, y.cls, mL, rmi0 d mc ms) G A → Wi K (cc, y.cls, mL, rmi0 d mc ms) G A (MQ (kb K) (fun _ st oc t => oc = .returned none ∧ (∃ w1, P w1 ∧ va_P G.1 vwCl w1 t.heap ∧ va_D (va_A [(h0, e0)] (ks K).heap.size) w1) ∧ va_F (va_A [(h0, e0)] (ks K).heap.size) st t) (ka K) (ks K) mc ms (va_A [(h0, e0)] (ks K).heap.size)) [(h0, e0)] 0 0 0 lv []) : Cn l G y cc mL d mc ms av h0 e0 P := by
  intro sz
  refine Met.ofW (cc := cc) (maxL := mL) (ret := none) hy rfl ?_
  intro p e s m args below meth c s₁ B hml hv
  obtain ⟨rfl, hsz, hP, hK, hD, hN, hE⟩ := hv
  subst hsz
  have hts := atoms_spec (ws := Cond.code y cc mL none :: gw) B.pre
  have hown : s.vm.findClass y.cls = some m.cls := findClass_of_methodNamed B.named
  have hin : meth.name = "<init>" := by rw [(name_of_methodNamed B.named B.method).1]; exact hnm
  have C : Ck (p, l, e, rmi0 d mc ms, s, m, av.toArray, below, meth, c) (cc, y.cls, mL, rmi0 d mc ms) G (va_A [(h0, e0)] s.heap.size) := ⟨B.exec, B.bytes, hml, hown, fun w hw => hts w (List.mem_cons_of_mem _ hw), hN, hK, fun q h => Or.inr h, hE, B.notSynchronized, rfl, B.returns, hin⟩
  have hl := lv_entry av (n := mL) (Nat.le_of_ble_eq_true hlen)
  rw [lg_entry_eq]
  rw [hlv] at hl
  exact body (p, l, e, rmi0 d mc ms, s, m, av.toArray, below, meth, c) _ rfl rfl C s.heap [] _ hP (hD.self) va_S.rf hl
