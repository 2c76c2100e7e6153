/-! THE BASE: a side's cells (class's or reference's) never change their shape once made: what changes are ints alone. A memory M : cell -> slot -> int. Wp: the machine at a program counter, over any heap that holds M. -/
theorem goodIn_r {big : List Cond} (ws : List Cond) (ps : List Nat) (hp : ws = ps.filterMap (fun i => big[i]?)) (h : ws.all goodWord = true) : GoodIn big ws := by
  intro w hw
  have h1 := List.all_eq_true.mp h w hw
  rw [hp] at hw
  obtain ⟨i, -, hi⟩ := List.mem_filterMap.mp hw
  have hm : w ∈ big := by first | exact List.mem_of_getElem? hi | exact List.getElem?_mem hi
  exact ⟨hm, good_of_word h1⟩
/-- the good words of the tables, and the nest mates' links -/
def gw : List Cond := lw_tbl.filter goodWord
def isNst (w : Cond) : Bool := match w with | .fieldLinkNest .. => true | .methodLinkNest .. => true | _ => false
def nw : List Cond := lw_tbl.filter isNst
theorem gw_mem {w : Cond} (h : w ∈ lw_tbl) (hg : goodWord w = true) : w ∈ gw := List.mem_filter.mpr ⟨h, hg⟩
theorem gw_good {w : Cond} (h : w ∈ gw) : goodWord w = true := (List.mem_filter.mp h).2
theorem tb_mem {w : Cond} (i : Nat) (h : tables_1[i]? = some w) : w ∈ lw_tbl := List.mem_append_right _ (List.mem_of_getElem? h)
theorem sl_mem {w : Cond} (i : Nat) (h : (k2_sels lw_privs)[i]? = some w) : w ∈ lw_tbl := List.mem_append_left _ (List.mem_of_getElem? h)
theorem nw_mem {w : Cond} (h : w ∈ lw_tbl) (hg : isNst w = true) : w ∈ nw := List.mem_filter.mpr ⟨h, hg⟩
abbrev Mm : Type := Nat → Nat → Int32
/-- a cell's shape: an array (type, length) or an object (class, its fields: another cell, or an int) -/
abbrev Sd : Type := (FieldType × Nat) ⊕ (Nat × List (Option Nat))
abbrev Pk : Type := Program × Launch × Env × Room × State × MethodId × Array Value × List Frame × Method × Code
/-- a side: shapes, class numbers, array classes, addresses, addresses of the static arrays, of the texts and of their bytes -/
abbrev Sx : Type := List Sd × va_G × (FieldType → ClassId) × (Nat → Nat) × (Nat → Nat) × (Nat → Nat) × (Nat → Nat)
abbrev Zx : Type := ByteArray × String × Nat × Nat × Option FieldType
abbrev kp (K : Pk) : Program := K.1
abbrev kl (K : Pk) : Launch := K.2.1
abbrev ke (K : Pk) : Env := K.2.2.1
abbrev kR (K : Pk) : Room := K.2.2.2.1
abbrev ks (K : Pk) : State := K.2.2.2.2.1
abbrev km (K : Pk) : MethodId := K.2.2.2.2.2.1
abbrev ka (K : Pk) : Array Value := K.2.2.2.2.2.2.1
abbrev kb (K : Pk) : List Frame := K.2.2.2.2.2.2.2.1
abbrev kme (K : Pk) : Method := K.2.2.2.2.2.2.2.2.1
abbrev kc (K : Pk) : Code := K.2.2.2.2.2.2.2.2.2
def cty (Y : Sx) (ty : FieldType) : ClassId := Y.2.2.1 ty
def adr (Y : Sx) (k : Nat) : Nat := Y.2.2.2.1 k
def sta (Y : Sx) (k : Nat) : Nat := Y.2.2.2.2.1 k
def ska (Y : Sx) (k : Nat) : Nat := Y.2.2.2.2.2.1 k
def skv (Y : Sx) (k : Nat) : Nat := Y.2.2.2.2.2.2 k
def rmd (d : Nat) : Room := { frames := d, cells := 0, slots := 0, locals := 32 * d }
def fvl (Y : Sx) (M : Mm) (k : Nat) (fs : List (Option Nat)) : List Value := fs.mapIdx (fun i o => match o with | some j => Value.ref (adr Y j) | none => Value.int (M k i))
def cel (Y : Sx) (M : Mm) (k : Nat) (d : Sd) : va_E := match d with | .inl a => .inl (cty Y a.1, a.2, .inl (M k)) | .inr o => .inr (o.1, fvl Y M k o.2)
def wsO (Y : Sx) (M : Mm) : va_W := Y.1.mapIdx (fun k d => (adr Y k, cel Y M k d))
def mset (M : Mm) (k i : Nat) (v : Int32) : Mm := fun a => if a = k then upd (M k) i v else M a
/-- a whole row is put -/
def mrow (M : Mm) (k : Nat) (f : Nat → Int32) : Mm := fun a => if a = k then f else M a
theorem mset_eq (M : Mm) (k i : Nat) (v : Int32) : mset M k i v = mrow M k (upd (M k) i v) := rfl
theorem wsO_at {Y : Sx} {M : Mm} {k : Nat} {d : Sd} (h : Y.1[k]? = some d) : (wsO Y M)[k]? = some (adr Y k, cel Y M k d) := by simp [wsO, List.getElem?_mapIdx, h]
theorem wsO_get {Y : Sx} {M : Mm} {k : Nat} {q : Nat × va_E} (h : (wsO Y M)[k]? = some q) : k < Y.1.length ∧ q.1 = adr Y k := by
  simp only [wsO, List.getElem?_mapIdx] at h
  cases hd : Y.1[k]? with
  | none => rw [hd] at h; cases h
  | some d => rw [hd] at h; cases h; exact ⟨(List.getElem?_eq_some_iff.mp hd).1, rfl⟩
theorem cel_ne {Y : Sx} {M : Mm} {k j : Nat} {f : Nat → Int32} (h : j ≠ k) (d : Sd) : cel Y (mrow M k f) j d = cel Y M j d := by
  have e : mrow M k f j = M j := by simp [mrow, h]
  cases d with
  | inl a => simp [cel, e]
  | inr o => simp [cel, fvl, e]
theorem wsO_row {Y : Sx} {M : Mm} {k : Nat} {d : Sd} {f : Nat → Int32} (h : Y.1[k]? = some d) : (wsO Y M).set k (adr Y k, cel Y (mrow M k f) k d) = wsO Y (mrow M k f) := by
  apply List.ext_getElem?
  intro j
  by_cases hj : j = k
  · subst hj
    rw [List.getElem?_set_self (List.getElem?_eq_some_iff.mp (wsO_at (M := M) h)).1, wsO_at h]
  · rw [List.getElem?_set_ne (Ne.symm hj)]
    simp only [wsO, List.getElem?_mapIdx]
    cases Y.1[j]? with
    | none => rfl
    | some d2 => simp [cel_ne hj]
theorem wsO_arr {Y : Sx} {M : Mm} {k n : Nat} {ty : FieldType} {f : Nat → Int32} (h : Y.1[k]? = some (.inl (ty, n))) : (wsO Y M).set k (adr Y k, .inl (cty Y ty, n, .inl f)) = wsO Y (mrow M k f) := by
  rw [← wsO_row h]
  simp [cel, mrow]
theorem wsO_fld {Y : Sx} {M : Mm} {k ci i : Nat} {fs : List (Option Nat)} {v : Int32} (h : Y.1[k]? = some (.inr (ci, fs))) (hi : fs[i]? = some none) : (wsO Y M).set k (adr Y k, .inr (ci, (fvl Y M k fs).set i (.int v))) = wsO Y (mset M k i v) := by
  rw [mset_eq, ← wsO_row h]
  congr 3
  show _ = (ci, fvl Y (mrow M k (upd (M k) i v)) k fs)
  congr 1
  apply List.ext_getElem?
  intro j
  have hl : i < (fvl Y M k fs).length := by simp [fvl]; exact (List.getElem?_eq_some_iff.mp hi).1
  by_cases hj : j = i
  · subst hj
    rw [List.getElem?_set_self hl]
    simp [fvl, List.getElem?_mapIdx, hi, mrow, upd]
  · rw [List.getElem?_set_ne (Ne.symm hj)]
    simp only [fvl, List.getElem?_mapIdx]
    cases fs[j]? with
    | none => rfl
    | some o => cases o <;> simp [mrow, upd, hj]
/-- the cells that a side's methods may change -/
def AA (Y : Sx) (sz : Nat) : Nat → Prop := fun q => (∃ k, k < Y.1.length ∧ q = adr Y k) ∨ sz ≤ q
def apt (Y : Sx) : Prop := ∀ i j, i < Y.1.length → j < Y.1.length → adr Y i = adr Y j → i = j
theorem apt_D {Y : Sx} (h : apt Y) (sz : Nat) (M : Mm) : va_D (AA Y sz) (wsO Y M) := by
  refine ⟨fun i j p q hi hj e => ?_, fun k q hk => ?_⟩
  · obtain ⟨h1, e1⟩ := wsO_get hi
    obtain ⟨h2, e2⟩ := wsO_get hj
    exact h i j h1 h2 (by rw [← e1, ← e2]; exact e)
  · obtain ⟨h1, e1⟩ := wsO_get hk
    exact Or.inl ⟨k, h1, e1⟩
def tyl (Y : Sx) : List (ClassId × FieldType) := [(cty Y .int, .int), (cty Y .boolean, .boolean), (cty Y .byte, .byte)]
/-- static arrays, texts -/
def stT : List (String × String × Nat × List Int32) := [("TruckWing", "FACT_MOST", 5, [50, 50, 30, 30, 99]), ("TruckWing", "SETTING_LEAST", 10, [1, 1, -3, -3, 0, 1, 0, 0, 0, 0]), ("TruckWing", "SETTING_MOST", 10, [9, 9, 3, 3, 99, 999, 9, 9, 2, 1]), ("TruckWing", "SETTING_FIRST", 10, [3, 2, 0, 0, 50, 100, 1, 1, 1, 1]), ("TruckWing$Teller", "INTS", 5, [2, 5, 2, 8, 4])]
def skT : List (Nat × String) := [(65, "depot"), (71, "to"), (73, "set"), (75, "row"), (77, "fly")]
def skL : List Nat := [5, 2, 3, 3, 3]
def skB : List (List Int32) := [[100, 101, 112, 111, 116], [116, 111], [115, 101, 116], [114, 111, 119], [102, 108, 121]]
def Ext (Y : Sx) (A : Nat → Prop) (U : State) (H : Heap) : Prop :=
  (∀ (i : Nat) (q : String × String × Nat × List Int32), stT[i]? = some q → va_Z q.1 q.2.1 "[I" (.ref (sta Y i)) A U H ∧ va_T .int (sta Y i) q.2.2.1 (fun j => .int (q.2.2.2.getD j 0)) A U H) ∧
  vk_S 5 skL skB (ska Y) (skv Y) A U H ∧ va_Z "java/lang/String" "COMPACT_STRINGS" "Z" (.int 1) A U H ∧ va_Zq "jdk/internal/util/Preconditions" "SIOOBE_FORMATTER" "Ljava/util/function/BiFunction;" A U H
theorem Ext.moved {Y : Sx} {A : Nat → Prop} {u U : State} {H : Heap} (hvm : u.vm.Alike U.vm) (h : Ext Y A u H) : Ext Y A U H :=
  ⟨fun i q hq => ⟨(h.1 i q hq).1.moved hvm, (h.1 i q hq).2.moved hvm⟩, h.2.1.moved hvm, h.2.2.1.moved hvm, h.2.2.2.moved hvm⟩
theorem Ext.kept {Y : Sx} {A : Nat → Prop} {U : State} {H H1 : Heap} (h : Ext Y A U H) (hq : ∀ a : Nat, a < H.size → ¬ A a → H1[a]? = H[a]?) : Ext Y A U H1 :=
  ⟨fun i q hi => ⟨(h.1 i q hi).1.kept hq, (h.1 i q hi).2.kept hq⟩, h.2.1.kept hq, h.2.2.1.kept hq, h.2.2.2.kept hq⟩
theorem Ext.narrow {Y : Sx} {A B : Nat → Prop} {U : State} {H : Heap} (h : Ext Y A U H) (hAB : ∀ q, B q → A q) : Ext Y B U H :=
  ⟨fun i q hi => ⟨(h.1 i q hi).1.narrow hAB, (h.1 i q hi).2.narrow hAB⟩, h.2.1.narrow hAB, h.2.2.1.narrow hAB, h.2.2.2.narrow hAB⟩
/-- what speaks of the tables alone -/
def Nst (Y : Sx) (U : State) : Prop := (∀ w ∈ nw, va_Nw w U) ∧ ∀ (i : Nat) (q : Nat × String), skT[i]? = some q → vk_R "TruckWing$Teller" q.1 q.2 (ska Y i) U
theorem nst_on {w : Cond} (h : isNst w = true) : w.onTables = true := by
  cases w <;> simp [isNst] at h <;> rfl
theorem Nst.same {Y : Sx} {u U : State} (hv : u.vm = U.vm) (h : Nst Y u) : Nst Y U :=
  ⟨fun w hw => va_Nw.same (nst_on (List.mem_filter.mp hw).2) hv (h.1 w hw), fun i q hq => vk_R.same hv.symm (h.2 i q hq)⟩
theorem Nst.warm {Y : Sx} {s U : State} (hW : s.WarmedH U.vm) (h : Nst Y s) : Nst Y U := by
  refine ⟨fun w hw => ?_, fun i q hq => vk_R.warm hW (h.2 i q hq)⟩
  have h1 := h.1 w hw
  have h2 := (List.mem_filter.mp hw).2
  cases w <;> simp [isNst] at h2
  · exact va_Nw.warmM hW h1
  · exact va_Nw.warmF hW h1
def Pre (Y : Sx) (M : Mm) (sz : Nat) (U : State) : Prop := U.heap.size = sz ∧ va_P Y.2.1 vwCl (wsO Y M) U.heap ∧ va_K Y.2.1 vwCl (tyl Y) U ∧ Nst Y U ∧ Ext Y (AA Y sz) U U.heap ∧ apt Y
def Qr (Y : Sx) (sz : Nat) (r : Option Int32) (M' : Mm) : Array Value → State → Outcome → State → Prop := fun _ st oc t => oc = .returned (r.map Value.int) ∧ va_P Y.2.1 vwCl (wsO Y M') t.heap ∧ va_F (AA Y sz) st t
/-- a method's contract: with these arguments and this memory it answers r, and the memory is M' then -/
def Ct (l : Launch) (Y : Sx) (y : MethodName) (cc : ByteArray) (mL : Nat) (ret : Option FieldType) (d : Nat) (av : List Value) (M : Mm) (r : Option Int32) (M' : Mm) : Prop :=
  ∀ sz : Nat, Met l y (Cond.code y cc mL ret :: gw) (rmd d) (va_Pc av (Pre Y M sz)) (Qr Y sz r M') 0 0 (AA Y sz)
def Cx (K : Pk) (Z : Zx) (Y : Sx) : Prop :=
  (kp K).tables.exec = Jvm.exec ∧ (kc K).code = Z.1 ∧ (kc K).maxLocals = Z.2.2.1 ∧ (ks K).vm.findClass Z.2.1 = some (km K).cls ∧ (∀ w ∈ gw, w.before (ka K) (ks K) = true) ∧ Nst Y (ks K) ∧ va_K Y.2.1 vwCl (tyl Y) (ks K) ∧ apt Y ∧ Ext Y (AA Y (ks K).heap.size) (ks K) (ks K).heap ∧ (kme K).locks = false ∧ ((rmd Z.2.2.2.1).frames ≤ (kR K).frames ∧ (rmd Z.2.2.2.1).locals ≤ (kR K).locals) ∧ (kme K).sig.returnType = Z.2.2.2.2
def Wp (K : Pk) (Z : Zx) (Y : Sx) (Q : State → Prop) (M : Mm) (pc : Nat) (lv : List (Nat × Value)) (st : List Value) : Prop :=
  ∀ (H : Heap) (locs : List Loc) (ls : Array Slot), va_P Y.2.1 vwCl (wsO Y M) H → va_S (AA Y (ks K).heap.size) (ks K).heap H locs → lv_has ls Z.2.2.1 lv →
    W (kp K) (kl K) (ke K) (kR K) (ks K) (km K) (ka K) (kb K) (kme K) (kc K) H locs 0 0 Q (F0 (km K) pc ls st)
section ROWS
variable {K : Pk} {Z : Zx} {Y : Sx} {Q : State → Prop} {M : Mm} {pc : Nat} {lv : List (Nat × Value)} {st : List Value}
theorem w_iconst (C : Cx K Z Y) {n : Int} (hd : decode Z.1 pc = .ok (.iconst n, 1)) {v : Int32} (hv : Int32.ofInt n = v) (h : Wp K Z Y Q M (pc + 1) lv (.int v :: st)) : Wp K Z Y Q M pc lv st :=
  fun H locs ls hP hS hl => lv_iconst C.1 C.2.1 hd hv (h H locs ls hP hS hl)
theorem w_bipush (C : Cx K Z Y) {n : Int} (hd : decode Z.1 pc = .ok (.bipush n, 2)) {v : Int32} (hv : (Int8.ofInt n).toInt32 = v) (h : Wp K Z Y Q M (pc + 2) lv (.int v :: st)) : Wp K Z Y Q M pc lv st :=
  fun H locs ls hP hS hl => lv_bipush C.1 C.2.1 hd hv (h H locs ls hP hS hl)
theorem w_sipush (C : Cx K Z Y) {n : Int} (hd : decode Z.1 pc = .ok (.sipush n, 3)) {v : Int32} (hv : (Int16.ofInt n).toInt32 = v) (h : Wp K Z Y Q M (pc + 3) lv (.int v :: st)) : Wp K Z Y Q M pc lv st :=
  fun H locs ls hP hS hl => lv_sipush C.1 C.2.1 hd hv (h H locs ls hP hS hl)
theorem w_iload_n (C : Cx K Z Y) {k : Fin 4} (hd : decode Z.1 pc = .ok (.iload_n k, 1)) (j : Nat) {x : Int32} (hj : lv[j]? = some ((k : Nat), .int x)) (h : Wp K Z Y Q M (pc + 1) lv (.int x :: st)) : Wp K Z Y Q M pc lv st :=
  fun H locs ls hP hS hl => lv_iload_n C.1 C.2.1 hd rfl (lv_at hl j hj) (h H locs ls hP hS hl)
theorem w_iload (C : Cx K Z Y) {i : Nat} (hd : decode Z.1 pc = .ok (.iload i, 2)) (j : Nat) {x : Int32} (hj : lv[j]? = some (i, .int x)) (h : Wp K Z Y Q M (pc + 2) lv (.int x :: st)) : Wp K Z Y Q M pc lv st :=
  fun H locs ls hP hS hl => lv_iload C.1 C.2.1 hd (lv_at hl j hj) (h H locs ls hP hS hl)
theorem w_aload_n (C : Cx K Z Y) {k : Fin 4} (hd : decode Z.1 pc = .ok (.aload_n k, 1)) (j : Nat) {x : Nat} (hj : lv[j]? = some ((k : Nat), .ref x)) (h : Wp K Z Y Q M (pc + 1) lv (.ref x :: st)) : Wp K Z Y Q M pc lv st :=
  fun H locs ls hP hS hl => lv_aload_n C.1 C.2.1 hd rfl (lv_at hl j hj) (h H locs ls hP hS hl)
theorem w_aload (C : Cx K Z Y) {i : Nat} (hd : decode Z.1 pc = .ok (.aload i, 2)) (j : Nat) {x : Nat} (hj : lv[j]? = some (i, .ref x)) (h : Wp K Z Y Q M (pc + 2) lv (.ref x :: st)) : Wp K Z Y Q M pc lv st :=
  fun H locs ls hP hS hl => lv_aload C.1 C.2.1 hd (lv_at hl j hj) (h H locs ls hP hS hl)
/-- the locals, one put: in the order of their numbers (ints and references alone) -/
def lput (i : Nat) (v : Value) : List (Nat × Value) → List (Nat × Value)
  | [] => [(i, v)]
  | q :: l => if i < q.1 then (i, v) :: q :: l else if i = q.1 then (i, v) :: l else q :: lput i v l
def lok : List (Nat × Value) → Bool
  | [] => true
  | q :: l => (q.2.category == 1) && lok l
theorem lput_mem {i : Nat} {v : Value} : ∀ {l : List (Nat × Value)} {q : Nat × Value}, l.Pairwise (fun a b => a.1 < b.1) → q ∈ lput i v l → q = (i, v) ∨ (q ∈ l ∧ q.1 ≠ i)
  | [], q, _, h => by simp [lput] at h; exact Or.inl h
  | a :: l, q, hp, h => by
    rw [List.pairwise_cons] at hp
    unfold lput at h
    split at h
    · rename_i h1
      rcases List.mem_cons.mp h with h | h
      · exact Or.inl h
      · refine Or.inr ⟨h, ?_⟩
        rcases List.mem_cons.mp h with h2 | h2
        · rw [h2]; omega
        · have := hp.1 q h2; omega
    · split at h
      · rename_i h1 h2
        rcases List.mem_cons.mp h with h | h
        · exact Or.inl h
        · refine Or.inr ⟨List.mem_cons_of_mem _ h, ?_⟩
          have := hp.1 q h; omega
      · rename_i h1 h2
        rcases List.mem_cons.mp h with h | h
        · exact Or.inr ⟨by rw [h]; exact List.mem_cons_self, by rw [h]; omega⟩
        · rcases lput_mem hp.2 h with h | h
          · exact Or.inl h
          · exact Or.inr ⟨List.mem_cons_of_mem _ h.1, h.2⟩
/-- sorted, and no value of two words -/
def lvok : List (Nat × Value) → Bool
  | [] => true
  | q :: l => (q.2.category == 1) && (l.all fun r => Nat.blt q.1 r.1) && lvok l
theorem lvok_p : ∀ {l : List (Nat × Value)}, lvok l = true → l.Pairwise (fun a b => a.1 < b.1) ∧ ∀ q ∈ l, q.2.category = 1
  | [], _ => ⟨List.Pairwise.nil, fun q h => by cases h⟩
  | a :: l, h => by
    simp only [lvok, Bool.and_eq_true, beq_iff_eq, List.all_eq_true] at h
    obtain ⟨⟨h1, h2⟩, h3⟩ := h
    obtain ⟨r1, r2⟩ := lvok_p h3
    refine ⟨List.pairwise_cons.mpr ⟨fun b hb => Nat.le_of_ble_eq_true (h2 b hb), r1⟩, fun q hq => ?_⟩
    rcases List.mem_cons.mp hq with e | e
    · rw [e]; exact h1
    · exact r2 q e
theorem lput_has {ls : Array Slot} {nL i : Nat} {v : Value} {l : List (Nat × Value)} (ho : lvok l = true) (h : lv_has ls nL ((i, v) :: l.filter (fun q => !(q.1 == i) && !(q.1 + 1 == i && q.2.category == 2)))) : lv_has ls nL (lput i v l) := by
  obtain ⟨h1, h2, h3⟩ := h
  obtain ⟨p1, p2⟩ := lvok_p ho
  refine ⟨h1, h2, fun q hq => ?_⟩
  rcases lput_mem p1 hq with e | ⟨e1, e2⟩
  · exact h3 q (by rw [e]; exact List.mem_cons_self)
  · refine h3 q (List.mem_cons_of_mem _ (List.mem_filter.mpr ⟨e1, ?_⟩))
    have := p2 q e1
    simp [e2, this]
theorem w_istore_n (C : Cx K Z Y) {k : Fin 4} (hd : decode Z.1 pc = .ok (.istore_n k, 1)) {x : Int32} {lv' : List (Nat × Value)} (hn : Nat.blt k Z.2.2.1 = true) (ho : lvok lv = true) (hl' : lput k (.int x) lv = lv') (h : Wp K Z Y Q M (pc + 1) lv' st) : Wp K Z Y Q M pc lv (.int x :: st) :=
  fun H locs ls hP hS hl => lv_istore_n C.1 C.2.1 hd rfl hl (Nat.le_of_ble_eq_true hn) rfl (fun ls' hl2 => h H locs ls' hP hS (by rw [← hl']; exact lput_has ho hl2))
theorem w_istore (C : Cx K Z Y) {k : Nat} (hd : decode Z.1 pc = .ok (.istore k, 2)) {x : Int32} {lv' : List (Nat × Value)} (hn : Nat.blt k Z.2.2.1 = true) (ho : lvok lv = true) (hl' : lput k (.int x) lv = lv') (h : Wp K Z Y Q M (pc + 2) lv' st) : Wp K Z Y Q M pc lv (.int x :: st) :=
  fun H locs ls hP hS hl => lv_istore C.1 C.2.1 hd hl (Nat.le_of_ble_eq_true hn) rfl (fun ls' hl2 => h H locs ls' hP hS (by rw [← hl']; exact lput_has ho hl2))
theorem w_iinc (C : Cx K Z Y) {k : Nat} {n : Int} (hd : decode Z.1 pc = .ok (.iinc k n, 3)) (j : Nat) {x v : Int32} {lv' : List (Nat × Value)} (hj : lv[j]? = some (k, .int x)) (hv : Int32.ofInt n = v) (hn : Nat.blt k Z.2.2.1 = true) (ho : lvok lv = true) (hl' : lput k (.int (x + v)) lv = lv') (h : Wp K Z Y Q M (pc + 3) lv' st) : Wp K Z Y Q M pc lv st :=
  fun H locs ls hP hS hl => lv_iinc C.1 C.2.1 hd hl hj (by rw [hv]) (Nat.le_of_ble_eq_true hn) rfl (fun ls' hl2 => h H locs ls' hP hS (by rw [← hl']; exact lput_has ho hl2))
/-- fewer locals are known -/
theorem w_lv {lv' : List (Nat × Value)} (ks' : List Nat) (hl' : lv_pick lv ks' = lv') (h : Wp K Z Y Q M pc lv' st) : Wp K Z Y Q M pc lv st :=
  fun H locs ls hP hS hl => h H locs ls hP hS (lv_sub hl ks' hl')
theorem w_iadd (C : Cx K Z Y) {x y : Int32} (hd : decode Z.1 pc = .ok (.iadd, 1)) (h : Wp K Z Y Q M (pc + 1) lv (.int (x + y) :: st)) : Wp K Z Y Q M pc lv (.int y :: .int x :: st) :=
  fun H locs ls hP hS hl => lv_iadd C.1 C.2.1 hd (h H locs ls hP hS hl)
theorem w_isub (C : Cx K Z Y) {x y : Int32} (hd : decode Z.1 pc = .ok (.isub, 1)) (h : Wp K Z Y Q M (pc + 1) lv (.int (x - y) :: st)) : Wp K Z Y Q M pc lv (.int y :: .int x :: st) :=
  fun H locs ls hP hS hl => lv_isub C.1 C.2.1 hd (h H locs ls hP hS hl)
theorem w_imul (C : Cx K Z Y) {x y : Int32} (hd : decode Z.1 pc = .ok (.imul, 1)) (h : Wp K Z Y Q M (pc + 1) lv (.int (x * y) :: st)) : Wp K Z Y Q M pc lv (.int y :: .int x :: st) :=
  fun H locs ls hP hS hl => lv_imul C.1 C.2.1 hd (h H locs ls hP hS hl)
theorem w_iand (C : Cx K Z Y) {x y : Int32} (hd : decode Z.1 pc = .ok (.iand, 1)) (h : Wp K Z Y Q M (pc + 1) lv (.int (x &&& y) :: st)) : Wp K Z Y Q M pc lv (.int y :: .int x :: st) :=
  fun H locs ls hP hS hl => lv_iand C.1 C.2.1 hd (h H locs ls hP hS hl)
theorem w_ior (C : Cx K Z Y) {x y : Int32} (hd : decode Z.1 pc = .ok (.ior, 1)) (h : Wp K Z Y Q M (pc + 1) lv (.int (x ||| y) :: st)) : Wp K Z Y Q M pc lv (.int y :: .int x :: st) :=
  fun H locs ls hP hS hl => lv_ior C.1 C.2.1 hd (h H locs ls hP hS hl)
theorem w_ishl (C : Cx K Z Y) {x y : Int32} (hd : decode Z.1 pc = .ok (.ishl, 1)) (h : Wp K Z Y Q M (pc + 1) lv (.int (x <<< (y &&& 31)) :: st)) : Wp K Z Y Q M pc lv (.int y :: .int x :: st) :=
  fun H locs ls hP hS hl => lv_ishl C.1 C.2.1 hd (h H locs ls hP hS hl)
theorem w_ishr (C : Cx K Z Y) {x y : Int32} (hd : decode Z.1 pc = .ok (.ishr, 1)) (h : Wp K Z Y Q M (pc + 1) lv (.int (x >>> (y &&& 31)) :: st)) : Wp K Z Y Q M pc lv (.int y :: .int x :: st) :=
  fun H locs ls hP hS hl => lv_ishr C.1 C.2.1 hd (h H locs ls hP hS hl)
/-- x >>> y -/
def ush (x y : Int32) : Int32 := (x.toUInt32 >>> (y.toUInt32 &&& Int32.toUInt32 31)).toInt32
theorem w_iushr (C : Cx K Z Y) {x y : Int32} (hd : decode Z.1 pc = .ok (.iushr, 1)) (h : Wp K Z Y Q M (pc + 1) lv (.int (ush x y) :: st)) : Wp K Z Y Q M pc lv (.int y :: .int x :: st) :=
  fun H locs ls hP hS hl => lv_iushr C.1 C.2.1 hd rfl (h H locs ls hP hS hl)
theorem w_ineg (C : Cx K Z Y) {x : Int32} (hd : decode Z.1 pc = .ok (.ineg, 1)) (h : Wp K Z Y Q M (pc + 1) lv (.int (-x) :: st)) : Wp K Z Y Q M pc lv (.int x :: st) :=
  fun H locs ls hP hS hl => lv_ineg C.1 C.2.1 hd (h H locs ls hP hS hl)
/-- x % y -/
def rmi (x y : Int32) : Int32 := x - x / y * y
theorem w_idiv (C : Cx K Z Y) {x y : Int32} (hd : decode Z.1 pc = .ok (.idiv, 1)) (hne : ¬ y = 0) (h : Wp K Z Y Q M (pc + 1) lv (.int (x / y) :: st)) : Wp K Z Y Q M pc lv (.int y :: .int x :: st) :=
  fun H locs ls hP hS hl => lv_idiv C.1 C.2.1 hd hne (h H locs ls hP hS hl)
theorem w_irem (C : Cx K Z Y) {x y : Int32} (hd : decode Z.1 pc = .ok (.irem, 1)) (hne : ¬ y = 0) (h : Wp K Z Y Q M (pc + 1) lv (.int (rmi x y) :: st)) : Wp K Z Y Q M pc lv (.int y :: .int x :: st) :=
  fun H locs ls hP hS hl => lv_irem C.1 C.2.1 hd hne (h H locs ls hP hS hl)
theorem w_i2b (C : Cx K Z Y) {x : Int32} (hd : decode Z.1 pc = .ok (.i2b, 1)) (h : Wp K Z Y Q M (pc + 1) lv (.int x.toInt8.toInt32 :: st)) : Wp K Z Y Q M pc lv (.int x :: st) :=
  fun H locs ls hP hS hl => lv_i2b C.1 C.2.1 hd rfl (h H locs ls hP hS hl)
theorem w_dup (C : Cx K Z Y) {v : Value} (hd : decode Z.1 pc = .ok (.dup, 1)) (hv : v.category = 1) (h : Wp K Z Y Q M (pc + 1) lv (v :: v :: st)) : Wp K Z Y Q M pc lv (v :: st) :=
  fun H locs ls hP hS hl => lv_dup C.1 C.2.1 hd hv (h H locs ls hP hS hl)
theorem w_pop (C : Cx K Z Y) {v : Value} (hd : decode Z.1 pc = .ok (.pop, 1)) (hv : v.category = 1) (h : Wp K Z Y Q M (pc + 1) lv st) : Wp K Z Y Q M pc lv (v :: st) :=
  fun H locs ls hP hS hl => lv_pop C.1 C.2.1 hd hv (h H locs ls hP hS hl)
theorem w_dup2 (C : Cx K Z Y) {v w : Value} (hd : decode Z.1 pc = .ok (.dup2, 1)) (hv : v.category = 1) (hw : w.category = 1) (h : Wp K Z Y Q M (pc + 1) lv (v :: w :: v :: w :: st)) : Wp K Z Y Q M pc lv (v :: w :: st) :=
  fun H locs ls hP hS hl => lv_dup2_11 C.1 C.2.1 hd hv hw (h H locs ls hP hS hl)
theorem w_goto (C : Cx K Z Y) {off : Int} (tgt : Nat) (hd : decode Z.1 pc = .ok (.goto off, 3)) (ht : (pc : Int) + off = (tgt : Int)) (h : Wp K Z Y Q M tgt lv st) : Wp K Z Y Q M pc lv st :=
  fun H locs ls hP hS hl => lv_goto C.1 C.2.1 hd ht (h H locs ls hP hS hl)
theorem w_ifeq (C : Cx K Z Y) {x : Int32} {off : Int} (tgt : Nat) (hd : decode Z.1 pc = .ok (.ifCond .eq off, 3)) (ht : (pc : Int) + off = (tgt : Int)) (kt : x = 0 → Wp K Z Y Q M tgt lv st) (kf : ¬ x = 0 → Wp K Z Y Q M (pc + 3) lv st) : Wp K Z Y Q M pc lv (.int x :: st) :=
  fun H locs ls hP hS hl => lv_if_eq C.1 C.2.1 hd ht (fun c => kt c H locs ls hP hS hl) (fun c => kf c H locs ls hP hS hl)
theorem w_ifne (C : Cx K Z Y) {x : Int32} {off : Int} (tgt : Nat) (hd : decode Z.1 pc = .ok (.ifCond .ne off, 3)) (ht : (pc : Int) + off = (tgt : Int)) (kf : x = 0 → Wp K Z Y Q M (pc + 3) lv st) (kt : ¬ x = 0 → Wp K Z Y Q M tgt lv st) : Wp K Z Y Q M pc lv (.int x :: st) :=
  fun H locs ls hP hS hl => lv_if_ne C.1 C.2.1 hd ht (fun c => kt c H locs ls hP hS hl) (fun c => kf c H locs ls hP hS hl)
theorem w_iflt (C : Cx K Z Y) {x : Int32} {off : Int} (tgt : Nat) (hd : decode Z.1 pc = .ok (.ifCond .lt off, 3)) (ht : (pc : Int) + off = (tgt : Int)) (kt : x < 0 → Wp K Z Y Q M tgt lv st) (kf : ¬ x < 0 → Wp K Z Y Q M (pc + 3) lv st) : Wp K Z Y Q M pc lv (.int x :: st) :=
  fun H locs ls hP hS hl => lv_if_lt C.1 C.2.1 hd ht (fun c => kt c H locs ls hP hS hl) (fun c => kf c H locs ls hP hS hl)
theorem w_ifge (C : Cx K Z Y) {x : Int32} {off : Int} (tgt : Nat) (hd : decode Z.1 pc = .ok (.ifCond .ge off, 3)) (ht : (pc : Int) + off = (tgt : Int)) (kt : 0 ≤ x → Wp K Z Y Q M tgt lv st) (kf : ¬ 0 ≤ x → Wp K Z Y Q M (pc + 3) lv st) : Wp K Z Y Q M pc lv (.int x :: st) :=
  fun H locs ls hP hS hl => lv_if_ge C.1 C.2.1 hd ht (fun c => kt c H locs ls hP hS hl) (fun c => kf c H locs ls hP hS hl)
theorem w_ifgt (C : Cx K Z Y) {x : Int32} {off : Int} (tgt : Nat) (hd : decode Z.1 pc = .ok (.ifCond .gt off, 3)) (ht : (pc : Int) + off = (tgt : Int)) (kt : 0 < x → Wp K Z Y Q M tgt lv st) (kf : ¬ 0 < x → Wp K Z Y Q M (pc + 3) lv st) : Wp K Z Y Q M pc lv (.int x :: st) :=
  fun H locs ls hP hS hl => lv_if_gt C.1 C.2.1 hd ht (fun c => kt c H locs ls hP hS hl) (fun c => kf c H locs ls hP hS hl)
theorem w_ifle (C : Cx K Z Y) {x : Int32} {off : Int} (tgt : Nat) (hd : decode Z.1 pc = .ok (.ifCond .le off, 3)) (ht : (pc : Int) + off = (tgt : Int)) (kt : x ≤ 0 → Wp K Z Y Q M tgt lv st) (kf : ¬ x ≤ 0 → Wp K Z Y Q M (pc + 3) lv st) : Wp K Z Y Q M pc lv (.int x :: st) :=
  fun H locs ls hP hS hl => lv_if_le C.1 C.2.1 hd ht (fun c => kt c H locs ls hP hS hl) (fun c => kf c H locs ls hP hS hl)
theorem w_iceq (C : Cx K Z Y) {x y : Int32} {off : Int} (tgt : Nat) (hd : decode Z.1 pc = .ok (.if_icmp .eq off, 3)) (ht : (pc : Int) + off = (tgt : Int)) (kt : x = y → Wp K Z Y Q M tgt lv st) (kf : ¬ x = y → Wp K Z Y Q M (pc + 3) lv st) : Wp K Z Y Q M pc lv (.int y :: .int x :: st) :=
  fun H locs ls hP hS hl => lv_icmp_eq C.1 C.2.1 hd ht (fun c => kt c H locs ls hP hS hl) (fun c => kf c H locs ls hP hS hl)
theorem w_icne (C : Cx K Z Y) {x y : Int32} {off : Int} (tgt : Nat) (hd : decode Z.1 pc = .ok (.if_icmp .ne off, 3)) (ht : (pc : Int) + off = (tgt : Int)) (kf : x = y → Wp K Z Y Q M (pc + 3) lv st) (kt : ¬ x = y → Wp K Z Y Q M tgt lv st) : Wp K Z Y Q M pc lv (.int y :: .int x :: st) :=
  fun H locs ls hP hS hl => lv_icmp_ne C.1 C.2.1 hd ht (fun c => kt c H locs ls hP hS hl) (fun c => kf c H locs ls hP hS hl)
theorem w_iclt (C : Cx K Z Y) {x y : Int32} {off : Int} (tgt : Nat) (hd : decode Z.1 pc = .ok (.if_icmp .lt off, 3)) (ht : (pc : Int) + off = (tgt : Int)) (kt : x < y → Wp K Z Y Q M tgt lv st) (kf : ¬ x < y → Wp K Z Y Q M (pc + 3) lv st) : Wp K Z Y Q M pc lv (.int y :: .int x :: st) :=
  fun H locs ls hP hS hl => lv_icmp_lt C.1 C.2.1 hd ht (fun c => kt c H locs ls hP hS hl) (fun c => kf c H locs ls hP hS hl)
theorem w_icge (C : Cx K Z Y) {x y : Int32} {off : Int} (tgt : Nat) (hd : decode Z.1 pc = .ok (.if_icmp .ge off, 3)) (ht : (pc : Int) + off = (tgt : Int)) (kt : y ≤ x → Wp K Z Y Q M tgt lv st) (kf : ¬ y ≤ x → Wp K Z Y Q M (pc + 3) lv st) : Wp K Z Y Q M pc lv (.int y :: .int x :: st) :=
  fun H locs ls hP hS hl => lv_icmp_ge C.1 C.2.1 hd ht (fun c => kt c H locs ls hP hS hl) (fun c => kf c H locs ls hP hS hl)
theorem w_icgt (C : Cx K Z Y) {x y : Int32} {off : Int} (tgt : Nat) (hd : decode Z.1 pc = .ok (.if_icmp .gt off, 3)) (ht : (pc : Int) + off = (tgt : Int)) (kt : y < x → Wp K Z Y Q M tgt lv st) (kf : ¬ y < x → Wp K Z Y Q M (pc + 3) lv st) : Wp K Z Y Q M pc lv (.int y :: .int x :: st) :=
  fun H locs ls hP hS hl => lv_icmp_gt C.1 C.2.1 hd ht (fun c => kt c H locs ls hP hS hl) (fun c => kf c H locs ls hP hS hl)
theorem w_icle (C : Cx K Z Y) {x y : Int32} {off : Int} (tgt : Nat) (hd : decode Z.1 pc = .ok (.if_icmp .le off, 3)) (ht : (pc : Int) + off = (tgt : Int)) (kt : x ≤ y → Wp K Z Y Q M tgt lv st) (kf : ¬ x ≤ y → Wp K Z Y Q M (pc + 3) lv st) : Wp K Z Y Q M pc lv (.int y :: .int x :: st) :=
  fun H locs ls hP hS hl => lv_icmp_le C.1 C.2.1 hd ht (fun c => kt c H locs ls hP hS hl) (fun c => kf c H locs ls hP hS hl)
/-- tableswitch from lo on: the number's own road -/
theorem w_swIn (C : Cx K Z Y) {x v : Int32} {dflt lo hi off : Int} {offs : Array Int} {len : Nat} (tgt : Nat) (hd : decode Z.1 pc = .ok (.tableswitch dflt lo hi offs, len)) (hx : x = v) (h1 : ¬ v.toInt < lo) (h2 : ¬ hi < v.toInt) (ho : offs[(v.toInt - lo).toNat]? = some off) (ht : (pc : Int) + off = (tgt : Int)) (h : Wp K Z Y Q M tgt lv st) : Wp K Z Y Q M pc lv (.int x :: st) :=
  fun H locs ls hP hS hl => by subst hx; exact lv_tableIn C.1 C.2.1 hd h1 h2 ho ht (h H locs ls hP hS hl)
theorem w_swOut (C : Cx K Z Y) {x : Int32} {dflt lo hi : Int} {offs : Array Int} {len : Nat} (tgt : Nat) (hd : decode Z.1 pc = .ok (.tableswitch dflt lo hi offs, len)) (ho : x.toInt < lo ∨ hi < x.toInt) (ht : (pc : Int) + dflt = (tgt : Int)) (h : Wp K Z Y Q M tgt lv st) : Wp K Z Y Q M pc lv (.int x :: st) :=
  fun H locs ls hP hS hl => lv_tableOut C.1 C.2.1 hd ho ht (h H locs ls hP hS hl)
/-- links of a field: its class's number, its slot -/
def FL (own : String) (idx ci i : Nat) : Prop := ∃ (Cn : String) (T : u_T) (N : Nat), vwCl[ci]? = some (Cn, T, N) ∧ i < N ∧ (∀ w ∈ u_ws Cn T N, w ∈ gw) ∧ (Cond.fieldLink own idx (T i).1 (T i).2.1 (T i).2.2.1 ∈ gw ∨ ∃ host, Cond.fieldLinkNest own idx (T i).1 (T i).2.1 (T i).2.2.1 host ∈ nw)
def FP (own : String) (idx ci i : Nat) (ty : FieldType) : Prop := ∃ (Cn : String) (T : u_T) (N : Nat) (ty0 : Nat → FieldType), vwCl[ci]? = some (Cn, T, N) ∧ i < N ∧ (∀ w ∈ u_ws Cn T N, w ∈ gw) ∧ (Cond.fieldLink own idx (T i).1 (T i).2.1 (T i).2.2.1 ∈ gw ∨ ∃ host, Cond.fieldLinkNest own idx (T i).1 (T i).2.1 (T i).2.2.1 host ∈ nw) ∧
  (∀ k, k < N → parseFieldDescriptor (T k).2.2.1 = some (ty0 k)) ∧ (∀ a, a < N → ∀ b, b < N → a ≠ b → (T a).2.1 ≠ (T b).2.1) ∧ (T i).2.2.2 = false ∧ parseFieldDescriptor (T i).2.2.1 = some ty
theorem w_get (C : Cx K Z Y) {idx ci i k : Nat} {fs : List (Option Nat)} (hd : decode Z.1 pc = .ok (.getfield idx, 3)) (hF : FL Z.2.1 idx ci i) (hk : Y.1[k]? = some (.inr (ci, fs))) {v : Value} (hv : (fvl Y M k fs)[i]? = some v) (h : Wp K Z Y Q M (pc + 3) lv (v :: st)) : Wp K Z Y Q M pc lv (.ref (adr Y k) :: st) := by
  intro H locs ls hP hS hl
  obtain ⟨Cn, T, N, hc, hi, hin, hlk⟩ := hF
  rcases hlk with hlk | ⟨host, hlk⟩
  · exact va_get (C := Cn) (T := T) (N := N) C.1 C.2.1 C.2.2.2.2.1 hin C.2.2.2.1 C.2.2.2.2.2.2.1 hP k (wsO_at hk) hc i hi (C.2.2.2.2.1 _ hlk) (fun _ h9 => h9) hv hd (h H locs ls hP hS hl)
  · exact va_getN (C := Cn) (T := T) (N := N) C.1 C.2.1 C.2.2.2.2.1 hin C.2.2.2.1 C.2.2.2.2.2.2.1 hP k (wsO_at hk) hc i hi (va_Nw.use rfl (C.2.2.2.2.2.1.1 _ hlk)) (fun _ h9 => h9) hv hd (h H locs ls hP hS hl)
theorem w_getI (C : Cx K Z Y) {idx ci i k : Nat} {fs : List (Option Nat)} (hd : decode Z.1 pc = .ok (.getfield idx, 3)) (hF : FL Z.2.1 idx ci i) (hk : Y.1[k]? = some (.inr (ci, fs))) (hv : fs[i]? = some none) (h : Wp K Z Y Q M (pc + 3) lv (.int (M k i) :: st)) : Wp K Z Y Q M pc lv (.ref (adr Y k) :: st) :=
  w_get C hd hF hk (by simp [fvl, List.getElem?_mapIdx, hv]) h
theorem w_getR (C : Cx K Z Y) {idx ci i k j : Nat} {fs : List (Option Nat)} (hd : decode Z.1 pc = .ok (.getfield idx, 3)) (hF : FL Z.2.1 idx ci i) (hk : Y.1[k]? = some (.inr (ci, fs))) (hv : fs[i]? = some (some j)) (h : Wp K Z Y Q M (pc + 3) lv (.ref (adr Y j) :: st)) : Wp K Z Y Q M pc lv (.ref (adr Y k) :: st) :=
  w_get C hd hF hk (by simp [fvl, List.getElem?_mapIdx, hv]) h
theorem fvl_len {k : Nat} {fs : List (Option Nat)} : (fvl Y M k fs).length = fs.length := by simp [fvl]
theorem w_put (C : Cx K Z Y) {idx ci i k : Nat} {fs : List (Option Nat)} {ty : FieldType} {x : Int32} (hd : decode Z.1 pc = .ok (.putfield idx, 3)) (hF : FP Z.2.1 idx ci i ty) (hk : Y.1[k]? = some (.inr (ci, fs))) (hv : fs[i]? = some none) (hn : narrow ty (.int x) = .int x) (hfit : fits ty (.int x) = true) (h : Wp K Z Y Q (mset M k i x) (pc + 3) lv st) : Wp K Z Y Q M pc lv (.int x :: .ref (adr Y k) :: st) := by
  intro H locs ls hP hS hl
  obtain ⟨Cn, T, N, ty0, hc, hi, hin, hlk, h1, h2, h3, h4⟩ := hF
  have hD := apt_D C.2.2.2.2.2.2.2.1 (ks K).heap.size M
  have hlen : i < (fvl Y M k fs).length := by rw [fvl_len]; exact (List.getElem?_eq_some_iff.mp hv).1
  rcases hlk with hlk | ⟨host, hlk⟩
  · refine va_put (C := Cn) (T := T) (N := N) C.1 C.2.1 C.2.2.2.2.1 hin ty0 h1 h2 C.2.2.2.1 C.2.2.2.2.2.2.1 hP hD hS k (wsO_at hk) hc i hi (C.2.2.2.2.1 _ hlk) (fun _ h9 => h9) h3 h4 hn hfit hlen hd (fun H1 locs1 hP1 _ hS1 => ?_)
    rw [wsO_fld hk hv] at hP1
    exact h H1 locs1 ls hP1 hS1 hl
  · refine va_putN (C := Cn) (T := T) (N := N) C.1 C.2.1 C.2.2.2.2.1 hin ty0 h1 h2 C.2.2.2.1 C.2.2.2.2.2.2.1 hP hD hS k (wsO_at hk) hc i hi (va_Nw.use rfl (C.2.2.2.2.2.1.1 _ hlk)) (fun _ h9 => h9) h3 h4 hn hfit hlen hd (fun H1 locs1 hP1 _ hS1 => ?_)
    rw [wsO_fld hk hv] at hP1
    exact h H1 locs1 ls hP1 hS1 hl
theorem w_putI (C : Cx K Z Y) {idx ci i k : Nat} {fs : List (Option Nat)} {x : Int32} (hd : decode Z.1 pc = .ok (.putfield idx, 3)) (hF : FP Z.2.1 idx ci i .int) (hk : Y.1[k]? = some (.inr (ci, fs))) (hv : fs[i]? = some none) (h : Wp K Z Y Q (mset M k i x) (pc + 3) lv st) : Wp K Z Y Q M pc lv (.int x :: .ref (adr Y k) :: st) := w_put C hd hF hk hv rfl rfl h
/-- an index in its row -/
def inb (x : Int32) (n : Nat) : Bool := decide (¬ (x < 0 ∨ n ≤ x.toNatClampNeg))
def ald (M : Mm) (k n : Nat) (x : Int32) : Option Int32 := if inb x n = true then some (M k x.toNatClampNeg) else none
def ast (M : Mm) (k n : Nat) (x v : Int32) : Option Mm := if inb x n = true then some (mset M k x.toNatClampNeg v) else none
def sld (l : List Int32) (x : Int32) : Option Int32 := if inb x l.length = true then some (l.getD x.toNatClampNeg 0) else none
theorem inb_in {x : Int32} {n : Nat} (h : inb x n = true) : vp_in x n := of_decide_eq_true (p := ¬ (x < 0 ∨ n ≤ x.toNatClampNeg)) h
theorem ald_some {k n : Nat} {x v : Int32} (h : ald M k n x = some v) : vp_in x n ∧ M k x.toNatClampNeg = v := by
  unfold ald at h
  split at h
  · rename_i hi; exact ⟨inb_in hi, Option.some.inj h⟩
  · cases h
theorem ast_some {k n : Nat} {x v : Int32} {M' : Mm} (h : ast M k n x v = some M') : vp_in x n ∧ mset M k x.toNatClampNeg v = M' := by
  unfold ast at h
  split at h
  · rename_i hi; exact ⟨inb_in hi, Option.some.inj h⟩
  · cases h
theorem sld_some {l : List Int32} {x v : Int32} (h : sld l x = some v) : vp_in x l.length ∧ l.getD x.toNatClampNeg 0 = v := by
  unfold sld at h
  split at h
  · rename_i hi; exact ⟨inb_in hi, Option.some.inj h⟩
  · cases h
theorem w_iald (C : Cx K Z Y) {k n : Nat} {x v : Int32} (hd : decode Z.1 pc = .ok (.iaload, 1)) (hk : Y.1[k]? = some (.inl (.int, n))) (he : ald M k n x = some v) (h : Wp K Z Y Q M (pc + 1) lv (.int v :: st)) : Wp K Z Y Q M pc lv (.int x :: .ref (adr Y k) :: st) := by
  intro H locs ls hP hS hl
  obtain ⟨hi, rfl⟩ := ald_some he
  exact va_iald C.1 C.2.1 C.2.2.2.2.2.2.1 hP k 0 (wsO_at hk) rfl hi hd (h H locs ls hP hS hl)
theorem w_zald (C : Cx K Z Y) {k n : Nat} {x v : Int32} (hd : decode Z.1 pc = .ok (.baload, 1)) (hk : Y.1[k]? = some (.inl (.boolean, n))) (he : ald M k n x = some v) (h : Wp K Z Y Q M (pc + 1) lv (.int v :: st)) : Wp K Z Y Q M pc lv (.int x :: .ref (adr Y k) :: st) := by
  intro H locs ls hP hS hl
  obtain ⟨hi, rfl⟩ := ald_some he
  exact va_zald C.1 C.2.1 C.2.2.2.2.2.2.1 hP k 1 (wsO_at hk) rfl hi hd (h H locs ls hP hS hl)
theorem w_bald (C : Cx K Z Y) {k n : Nat} {x v : Int32} (hd : decode Z.1 pc = .ok (.baload, 1)) (hk : Y.1[k]? = some (.inl (.byte, n))) (he : ald M k n x = some v) (h : Wp K Z Y Q M (pc + 1) lv (.int v :: st)) : Wp K Z Y Q M pc lv (.int x :: .ref (adr Y k) :: st) := by
  intro H locs ls hP hS hl
  obtain ⟨hi, rfl⟩ := ald_some he
  exact va_bald C.1 C.2.1 C.2.2.2.2.2.2.1 hP k 2 (wsO_at hk) rfl hi hd (h H locs ls hP hS hl)
theorem w_iast (C : Cx K Z Y) {k n : Nat} {x v : Int32} {M' : Mm} (hd : decode Z.1 pc = .ok (.iastore, 1)) (hk : Y.1[k]? = some (.inl (.int, n))) (he : ast M k n x v = some M') (h : Wp K Z Y Q M' (pc + 1) lv st) : Wp K Z Y Q M pc lv (.int v :: .int x :: .ref (adr Y k) :: st) := by
  intro H locs ls hP hS hl
  obtain ⟨hi, rfl⟩ := ast_some he
  refine va_iast C.1 C.2.1 C.2.2.2.2.2.2.1 hP (apt_D C.2.2.2.2.2.2.2.1 (ks K).heap.size M) hS k 0 (wsO_at hk) rfl hi hd (fun H1 locs1 hP1 _ hS1 => ?_)
  rw [wsO_arr hk, ← mset_eq] at hP1
  exact h H1 locs1 ls hP1 hS1 hl
theorem w_zast (C : Cx K Z Y) {k n : Nat} {x v : Int32} {M' : Mm} (hd : decode Z.1 pc = .ok (.bastore, 1)) (hk : Y.1[k]? = some (.inl (.boolean, n))) (he : ast M k n x (vp_nar .boolean v) = some M') (h : Wp K Z Y Q M' (pc + 1) lv st) : Wp K Z Y Q M pc lv (.int v :: .int x :: .ref (adr Y k) :: st) := by
  intro H locs ls hP hS hl
  obtain ⟨hi, rfl⟩ := ast_some he
  refine va_zast C.1 C.2.1 C.2.2.2.2.2.2.1 hP (apt_D C.2.2.2.2.2.2.2.1 (ks K).heap.size M) hS k 1 (wsO_at hk) rfl hi hd (fun H1 locs1 hP1 _ hS1 => ?_)
  rw [wsO_arr hk, ← mset_eq] at hP1
  exact h H1 locs1 ls hP1 hS1 hl
theorem w_bast (C : Cx K Z Y) {k n : Nat} {x v : Int32} {M' : Mm} (hd : decode Z.1 pc = .ok (.bastore, 1)) (hk : Y.1[k]? = some (.inl (.byte, n))) (he : ast M k n x (vp_nar .byte v) = some M') (h : Wp K Z Y Q M' (pc + 1) lv st) : Wp K Z Y Q M pc lv (.int v :: .int x :: .ref (adr Y k) :: st) := by
  intro H locs ls hP hS hl
  obtain ⟨hi, rfl⟩ := ast_some he
  refine va_bast C.1 C.2.1 C.2.2.2.2.2.2.1 hP (apt_D C.2.2.2.2.2.2.2.1 (ks K).heap.size M) hS k 2 (wsO_at hk) rfl hi hd (fun H1 locs1 hP1 _ hS1 => ?_)
  rw [wsO_arr hk, ← mset_eq] at hP1
  exact h H1 locs1 ls hP1 hS1 hl
theorem w_alenI (C : Cx K Z Y) {k n : Nat} {v : Int32} (hd : decode Z.1 pc = .ok (.arraylength, 1)) (hk : Y.1[k]? = some (.inl (.int, n))) (hv : Int32.ofNat n = v) (h : Wp K Z Y Q M (pc + 1) lv (.int v :: st)) : Wp K Z Y Q M pc lv (.ref (adr Y k) :: st) :=
  fun H locs ls hP hS hl => va_alen C.1 C.2.1 C.2.2.2.2.2.2.1 hP k 0 (wsO_at hk) rfl hv hd (h H locs ls hP hS hl)
/-- a static array -/
def SL (own : String) (idx i : Nat) : Prop := ∃ (Cn fn : String) (n : Nat) (l : List Int32), stT[i]? = some (Cn, fn, n, l) ∧ (Cond.fieldLink own idx Cn fn "[I" ∈ gw ∨ ∃ host, Cond.fieldLinkNest own idx Cn fn "[I" host ∈ nw)
theorem w_gets (C : Cx K Z Y) {idx i : Nat} (hd : decode Z.1 pc = .ok (.getstatic idx, 3)) (hF : SL Z.2.1 idx i) (h : Wp K Z Y Q M (pc + 3) lv (.ref (sta Y i) :: st)) : Wp K Z Y Q M pc lv st := by
  intro H locs ls hP hS hl
  obtain ⟨Cn, fn, n, l, hi, hlk⟩ := hF
  have hE := (C.2.2.2.2.2.2.2.2.1.1 i _ hi).1
  rcases hlk with hlk | ⟨host, hlk⟩
  · exact va_gets C.1 C.2.1 hE hS C.2.2.2.1 (C.2.2.2.2.1 _ hlk) (fun _ h9 => h9) hd (h H locs ls hP hS hl)
  · exact va_getsN C.1 C.2.1 hE hS C.2.2.2.1 (va_Nw.use rfl (C.2.2.2.2.2.1.1 _ hlk)) (fun _ h9 => h9) hd (h H locs ls hP hS hl)
theorem w_sald (C : Cx K Z Y) {i n : Nat} {Cn fn : String} {l : List Int32} {x v : Int32} (hd : decode Z.1 pc = .ok (.iaload, 1)) (hi : stT[i]? = some (Cn, fn, n, l)) (hn : l.length = n) (he : sld l x = some v) (h : Wp K Z Y Q M (pc + 1) lv (.int v :: st)) : Wp K Z Y Q M pc lv (.int x :: .ref (sta Y i) :: st) := by
  intro H locs ls hP hS hl
  obtain ⟨hx, rfl⟩ := sld_some he
  have hE := (C.2.2.2.2.2.2.2.2.1.1 i _ hi).2
  exact va_ti C.1 C.2.1 hE hS (by rw [← hn]; exact hx) rfl hd (h H locs ls hP hS hl)
end ROWS
