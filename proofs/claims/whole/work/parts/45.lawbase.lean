/-! THE LAW'S FRAME: both sides' memories, the row out, the script -/
abbrev Lz : Type := Sx × Sx × ClassId × Nat × Nat × Nat × (Nat → Int32)
abbrev lA (V : Lz) : Sx := V.1
abbrev lB (V : Lz) : Sx := V.2.1
abbrev lC (V : Lz) : ClassId := V.2.2.1
abbrev lo (V : Lz) : Nat := V.2.2.2.1
abbrev lb (V : Lz) : Nat := V.2.2.2.2.1
abbrev lL (V : Lz) : Nat := V.2.2.2.2.2.1
abbrev lxs (V : Lz) : Nat → Int32 := V.2.2.2.2.2.2
def lws (V : Lz) (M1 M2 : Mm) (f : Nat → Int64) : va_W := wsO (lA V) M1 ++ (wsO (lB V) M2 ++ [(lo V, .inl (lC V, 1, .inr (.inl f)))])
/-- new cells -/
def lnew (K : Pk) : Nat → Prop := fun q => (ks K).heap.size ≤ q
def Lx (K : Pk) (V : Lz) : Prop :=
  (kp K).tables.exec = Jvm.exec ∧ (kc K).code = code ∧ (kme K).sig.returnType = ret ∧ (kc K).maxLocals = 7 ∧ (ks K).vm.findClass RL = some (km K).cls ∧ (∀ w ∈ gw, w.before (ka K) (ks K) = true) ∧
  (Nst (lA V) (ks K) ∧ Nst (lB V) (ks K)) ∧ (va_K (lA V).2.1 vwCl (tyl (lA V)) (ks K) ∧ va_K (lB V).2.1 vwCl (tyl (lB V)) (ks K) ∧ va_K (lA V).2.1 vwCl [(lC V, .long)] (ks K) ∧ (lB V).2.1 = (lA V).2.1) ∧
  (apt (lA V) ∧ apt (lB V) ∧ (∀ M1 M2 f, va_D (lnew K) (lws V M1 M2 f))) ∧ (Ext (lA V) (lnew K) (ks K) (ks K).heap ∧ Ext (lB V) (lnew K) (ks K) (ks K).heap ∧ XE (lnew K) (ks K) (ks K).heap ∧ Xw (ks K)) ∧
  (va_X (lb V) (lL V) (lxs V) (ks K) (ks K).heap ∧ lb V < (ks K).heap.size) ∧ (isA (lA V) ∧ isB (lB V)) ∧ (kl K).stackTraces = false ∧ kR K = room_1 ∧ (kme K).locks = false ∧ ka K = #[Value.ref (lb V)] ∧ lL V ≤ 3072
def Wl (K : Pk) (V : Lz) (M1 M2 : Mm) (f : Nat → Int64) (nc ns : Nat) (pc : Nat) (lv : List (Nat × Value)) (st : List Value) : Prop :=
  ∀ (H : Heap) (locs : List Loc) (ls : Array Slot), va_P (lA V).2.1 vwCl (lws V M1 M2 f) H → va_S (lnew K) (ks K).heap H locs → lv_has ls 7 lv →
    W (kp K) (kl K) (ke K) (kR K) (ks K) (km K) (ka K) (kb K) (kme K) (kc K) H locs nc ns (lw_Z (kb K) (ka K) (ks K)) (F0 (km K) pc ls st)
section LROWS
variable {K : Pk} {V : Lz} {M1 M2 : Mm} {f : Nat → Int64} {nc ns : Nat} {pc : Nat} {lv : List (Nat × Value)} {st : List Value}
theorem l_iconst (C : Lx K V) {n : Int} (hd : decode code pc = .ok (.iconst n, 1)) {v : Int32} (hv : Int32.ofInt n = v) (h : Wl K V M1 M2 f nc ns (pc + 1) lv (.int v :: st)) : Wl K V M1 M2 f nc ns pc lv st :=
  fun H locs ls hP hS hl => lv_iconst C.1 C.2.1 hd hv (h H locs ls hP hS hl)
theorem l_bipush (C : Lx K V) {n : Int} (hd : decode code pc = .ok (.bipush n, 2)) {v : Int32} (hv : (Int8.ofInt n).toInt32 = v) (h : Wl K V M1 M2 f nc ns (pc + 2) lv (.int v :: st)) : Wl K V M1 M2 f nc ns pc lv st :=
  fun H locs ls hP hS hl => lv_bipush C.1 C.2.1 hd hv (h H locs ls hP hS hl)
theorem l_aload_n (C : Lx K V) {k : Fin 4} (hd : decode code pc = .ok (.aload_n k, 1)) (j : Nat) {x : Nat} (hj : lv[j]? = some ((k : Nat), .ref x)) (h : Wl K V M1 M2 f nc ns (pc + 1) lv (.ref x :: st)) : Wl K V M1 M2 f nc ns pc lv st :=
  fun H locs ls hP hS hl => lv_aload_n C.1 C.2.1 hd rfl (lv_at hl j hj) (h H locs ls hP hS hl)
theorem l_iload (C : Lx K V) {i : Nat} (hd : decode code pc = .ok (.iload i, 2)) (j : Nat) {x : Int32} (hj : lv[j]? = some (i, .int x)) (h : Wl K V M1 M2 f nc ns (pc + 2) lv (.int x :: st)) : Wl K V M1 M2 f nc ns pc lv st :=
  fun H locs ls hP hS hl => lv_iload C.1 C.2.1 hd (lv_at hl j hj) (h H locs ls hP hS hl)
theorem l_istore (C : Lx K V) {k : Nat} (hd : decode code pc = .ok (.istore k, 2)) {x : Int32} {lv' : List (Nat × Value)} (hn : Nat.blt k 7 = true) (ho : lvok lv = true) (hl' : lput k (.int x) lv = lv') (h : Wl K V M1 M2 f nc ns (pc + 2) lv' st) : Wl K V M1 M2 f nc ns pc lv (.int x :: st) :=
  fun H locs ls hP hS hl => lv_istore C.1 C.2.1 hd hl (Nat.le_of_ble_eq_true hn) rfl (fun ls' hl2 => h H locs ls' hP hS (by rw [← hl']; exact lput_has ho hl2))
theorem l_iinc (C : Lx K V) {k : Nat} {n : Int} (hd : decode code pc = .ok (.iinc k n, 3)) (j : Nat) {x v : Int32} {lv' : List (Nat × Value)} (hj : lv[j]? = some (k, .int x)) (hv : Int32.ofInt n = v) (hn : Nat.blt k 7 = true) (ho : lvok lv = true) (hl' : lput k (.int (x + v)) lv = lv') (h : Wl K V M1 M2 f nc ns (pc + 3) lv' st) : Wl K V M1 M2 f nc ns pc lv st :=
  fun H locs ls hP hS hl => lv_iinc C.1 C.2.1 hd hl hj (by rw [hv]) (Nat.le_of_ble_eq_true hn) rfl (fun ls' hl2 => h H locs ls' hP hS (by rw [← hl']; exact lput_has ho hl2))
theorem l_lv {lv' : List (Nat × Value)} (ks' : List Nat) (hl' : lv_pick lv ks' = lv') (h : Wl K V M1 M2 f nc ns pc lv' st) : Wl K V M1 M2 f nc ns pc lv st :=
  fun H locs ls hP hS hl => h H locs ls hP hS (lv_sub hl ks' hl')
theorem l_iadd (C : Lx K V) {x y : Int32} (hd : decode code pc = .ok (.iadd, 1)) (h : Wl K V M1 M2 f nc ns (pc + 1) lv (.int (x + y) :: st)) : Wl K V M1 M2 f nc ns pc lv (.int y :: .int x :: st) :=
  fun H locs ls hP hS hl => lv_iadd C.1 C.2.1 hd (h H locs ls hP hS hl)
theorem l_isub (C : Lx K V) {x y : Int32} (hd : decode code pc = .ok (.isub, 1)) (h : Wl K V M1 M2 f nc ns (pc + 1) lv (.int (x - y) :: st)) : Wl K V M1 M2 f nc ns pc lv (.int y :: .int x :: st) :=
  fun H locs ls hP hS hl => lv_isub C.1 C.2.1 hd (h H locs ls hP hS hl)
theorem l_iand (C : Lx K V) {x y : Int32} (hd : decode code pc = .ok (.iand, 1)) (h : Wl K V M1 M2 f nc ns (pc + 1) lv (.int (x &&& y) :: st)) : Wl K V M1 M2 f nc ns pc lv (.int y :: .int x :: st) :=
  fun H locs ls hP hS hl => lv_iand C.1 C.2.1 hd (h H locs ls hP hS hl)
theorem l_i2l (C : Lx K V) {x : Int32} (hd : decode code pc = .ok (.i2l, 1)) (h : Wl K V M1 M2 f nc ns (pc + 1) lv (.long x.toInt64 :: st)) : Wl K V M1 M2 f nc ns pc lv (.int x :: st) :=
  fun H locs ls hP hS hl => lv_i2l C.1 C.2.1 hd rfl (h H locs ls hP hS hl)
theorem l_goto (C : Lx K V) {off : Int} (tgt : Nat) (hd : decode code pc = .ok (.goto off, 3)) (ht : (pc : Int) + off = (tgt : Int)) (h : Wl K V M1 M2 f nc ns tgt lv st) : Wl K V M1 M2 f nc ns pc lv st :=
  fun H locs ls hP hS hl => lv_goto C.1 C.2.1 hd ht (h H locs ls hP hS hl)
theorem l_ifeq (C : Lx K V) {x : Int32} {off : Int} (tgt : Nat) (hd : decode code pc = .ok (.ifCond .eq off, 3)) (ht : (pc : Int) + off = (tgt : Int)) (kt : x = 0 → Wl K V M1 M2 f nc ns tgt lv st) (kf : ¬ x = 0 → Wl K V M1 M2 f nc ns (pc + 3) lv st) : Wl K V M1 M2 f nc ns pc lv (.int x :: st) :=
  fun H locs ls hP hS hl => lv_if_eq C.1 C.2.1 hd ht (fun c => kt c H locs ls hP hS hl) (fun c => kf c H locs ls hP hS hl)
theorem l_ifne (C : Lx K V) {x : Int32} {off : Int} (tgt : Nat) (hd : decode code pc = .ok (.ifCond .ne off, 3)) (ht : (pc : Int) + off = (tgt : Int)) (kf : x = 0 → Wl K V M1 M2 f nc ns (pc + 3) lv st) (kt : ¬ x = 0 → Wl K V M1 M2 f nc ns tgt lv st) : Wl K V M1 M2 f nc ns pc lv (.int x :: st) :=
  fun H locs ls hP hS hl => lv_if_ne C.1 C.2.1 hd ht (fun c => kt c H locs ls hP hS hl) (fun c => kf c H locs ls hP hS hl)
theorem l_iceq (C : Lx K V) {x y : Int32} {off : Int} (tgt : Nat) (hd : decode code pc = .ok (.if_icmp .eq off, 3)) (ht : (pc : Int) + off = (tgt : Int)) (he : x = y) (kt : Wl K V M1 M2 f nc ns tgt lv st) : Wl K V M1 M2 f nc ns pc lv (.int y :: .int x :: st) :=
  fun H locs ls hP hS hl => lv_icmp_eq C.1 C.2.1 hd ht (fun _ => kt H locs ls hP hS hl) (fun c => absurd he c)
theorem l_icgt (C : Lx K V) {x y : Int32} {off : Int} (tgt : Nat) (hd : decode code pc = .ok (.if_icmp .gt off, 3)) (ht : (pc : Int) + off = (tgt : Int)) (kt : y < x → Wl K V M1 M2 f nc ns tgt lv st) (kf : ¬ y < x → Wl K V M1 M2 f nc ns (pc + 3) lv st) : Wl K V M1 M2 f nc ns pc lv (.int y :: .int x :: st) :=
  fun H locs ls hP hS hl => lv_icmp_gt C.1 C.2.1 hd ht (fun c => kt c H locs ls hP hS hl) (fun c => kf c H locs ls hP hS hl)
theorem l_swIn (C : Lx K V) {x v : Int32} {dflt lo hi off : Int} {offs : Array Int} {len : Nat} (tgt : Nat) (hd : decode code pc = .ok (.tableswitch dflt lo hi offs, len)) (hx : x = v) (h1 : ¬ v.toInt < lo) (h2 : ¬ hi < v.toInt) (ho : offs[(v.toInt - lo).toNat]? = some off) (ht : (pc : Int) + off = (tgt : Int)) (h : Wl K V M1 M2 f nc ns tgt lv st) : Wl K V M1 M2 f nc ns pc lv (.int x :: st) :=
  fun H locs ls hP hS hl => by subst hx; exact lv_tableIn C.1 C.2.1 hd h1 h2 ho ht (h H locs ls hP hS hl)
theorem l_swOut (C : Lx K V) {x : Int32} {dflt lo hi : Int} {offs : Array Int} {len : Nat} (tgt : Nat) (hd : decode code pc = .ok (.tableswitch dflt lo hi offs, len)) (ho : x.toInt < lo ∨ hi < x.toInt) (ht : (pc : Int) + dflt = (tgt : Int)) (h : Wl K V M1 M2 f nc ns tgt lv st) : Wl K V M1 M2 f nc ns pc lv (.int x :: st) :=
  fun H locs ls hP hS hl => lv_tableOut C.1 C.2.1 hd ho ht (h H locs ls hP hS hl)
theorem lbA (C : Lx K V) : ¬ lnew K (lb V) := Nat.not_le.mpr C.2.2.2.2.2.2.2.2.2.2.1.2
theorem l_sld (C : Lx K V) {x : Int32} (hd : decode code pc = .ok (.iaload, 1)) (hx : vp_in x (lL V)) (h : Wl K V M1 M2 f nc ns (pc + 1) lv (.int (lxs V x.toNatClampNeg) :: st)) : Wl K V M1 M2 f nc ns pc lv (.int x :: .ref (lb V) :: st) :=
  fun H locs ls hP hS hl => va_sld C.1 C.2.1 C.2.2.2.2.2.2.2.2.2.2.1.1 C.2.2.2.2.2.2.2.2.2.2.1.2 (lbA C) hS hx hd (h H locs ls hP hS hl)
theorem l_slen (C : Lx K V) (hd : decode code pc = .ok (.arraylength, 1)) (h : Wl K V M1 M2 f nc ns (pc + 1) lv (.int (nI (lL V)) :: st)) : Wl K V M1 M2 f nc ns pc lv (.ref (lb V) :: st) :=
  fun H locs ls hP hS hl => va_slen C.1 C.2.1 C.2.2.2.2.2.2.2.2.2.2.1.1 C.2.2.2.2.2.2.2.2.2.2.1.2 (lbA C) hS hd (h H locs ls hP hS hl)
/-- out[0] -/
theorem l_lald (C : Lx K V) (hd : decode code pc = .ok (.laload, 1)) (h : Wl K V M1 M2 f nc ns (pc + 1) lv (.long (f 0) :: st)) : Wl K V M1 M2 f nc ns pc lv (.int 0 :: .ref (lo V) :: st) := by
  intro H locs ls hP hS hl
  have hP2 := P_right (P_right hP)
  exact va_lald C.1 C.2.1 C.2.2.2.2.2.2.2.1.2.2.1 hP2 0 0 rfl rfl (i := 0) (inb_in (by decide)) hd (h H locs ls hP hS hl)
theorem lcmp_eq (C : Lx K V) {x y : Int64} (hd : decode code pc = .ok (.lcmp, 1)) (he : x = y) (h : Wl K V M1 M2 f nc ns (pc + 1) lv (.int 0 :: st)) : Wl K V M1 M2 f nc ns pc lv (.long y :: .long x :: st) := by
  intro H locs ls hP hS hl
  subst he
  refine W.lcmp C.1 C.2.1 hd ?_
  have e : lg_cmp x x = 0 := by
    unfold lg_cmp
    rw [if_neg (by rw [gt_iff_lt, Int64.lt_iff_toInt_lt]; omega), if_pos rfl]
  rw [e]
  exact h H locs ls hP hS hl
theorem l_widen {k n : Nat} (h1 : nc ≤ k) (h2 : ns ≤ n) (h : Wl K V M1 M2 f k n pc lv st) : Wl K V M1 M2 f nc ns pc lv st := fun H locs ls hP hS hl => W.widen h1 h2 (h H locs ls hP hS hl)
theorem l_ret (C : Lx K V) (hd : decode code pc = .ok (.ireturn, 1)) (h1 : nc ≤ 601024) (h2 : ns ≤ 7293034) : Wl K V M1 M2 f nc ns pc lv [.int 1] := by
  intro H locs ls hP hS hl
  refine va_forget (fun q hq => hS.2.2 q hq) ?_
  refine W.widen (k := 601024) (n := 7293034) h1 h2 ?_
  have eR : kR K = room_1 := C.2.2.2.2.2.2.2.2.2.2.2.2.2.1
  have ea : ka K = #[Value.ref (lb V)] := C.2.2.2.2.2.2.2.2.2.2.2.2.2.2.2.1
  rw [eR, ea]
  exact lw_ret C.1 C.2.1 C.2.2.1 C.2.2.2.2.2.2.2.2.2.2.2.2.2.2.1 hd
theorem in_app1 {a b : va_W} {k : Nat} {q : Nat × va_E} (h : a[k]? = some q) : (a ++ b)[k]? = some q := by rw [List.getElem?_append_left (List.getElem?_eq_some_iff.mp h).1]; exact h
theorem in_app2 {a b : va_W} {k : Nat} {q : Nat × va_E} (h : b[k]? = some q) : (a ++ b)[a.length + k]? = some q := by rw [List.getElem?_append_right (by omega)]; simpa using h
theorem wsO_len {Y : Sx} {M : Mm} : (wsO Y M).length = Y.1.length := by simp [wsO]
theorem wsO_ex {Y : Sx} (M : Mm) {k : Nat} (h : k < Y.1.length) : ∃ e, (wsO Y M)[k]? = some (adr Y k, e) := ⟨_, wsO_at (List.getElem?_eq_getElem h)⟩
/-- addresses: new, and apart -/
theorem l_newA (C : Lx K V) {k : Nat} (h : k < (lA V).1.length) : lnew K (adr (lA V) k) := by
  obtain ⟨e, he⟩ := wsO_ex (fun _ _ => 0) h
  exact (C.2.2.2.2.2.2.2.2.1.2.2 (fun _ _ => 0) (fun _ _ => 0) (fun _ => 0)).2 k _ (in_app1 he)
theorem l_newB (C : Lx K V) {k : Nat} (h : k < (lB V).1.length) : lnew K (adr (lB V) k) := by
  obtain ⟨e, he⟩ := wsO_ex (fun _ _ => 0) h
  exact (C.2.2.2.2.2.2.2.2.1.2.2 (fun _ _ => 0) (fun _ _ => 0) (fun _ => 0)).2 _ _ (in_app2 (in_app1 he))
theorem l_newo (C : Lx K V) : lnew K (lo V) :=
  (C.2.2.2.2.2.2.2.2.1.2.2 (fun _ _ => 0) (fun _ _ => 0) (fun _ => 0)).2 _ _ (in_app2 (in_app2 (k := 0) rfl))
theorem l_AB (C : Lx K V) {i j : Nat} (h1 : i < (lA V).1.length) (h2 : j < (lB V).1.length) : adr (lA V) i ≠ adr (lB V) j := by
  intro e
  obtain ⟨e1, he1⟩ := wsO_ex (Y := lA V) (fun _ _ => 0) h1
  obtain ⟨e2, he2⟩ := wsO_ex (Y := lB V) (fun _ _ => 0) h2
  have := (C.2.2.2.2.2.2.2.2.1.2.2 (fun _ _ => 0) (fun _ _ => 0) (fun _ => 0)).1 _ _ _ _ (in_app1 he1) (in_app2 (in_app1 he2)) e
  rw [wsO_len] at this
  omega
theorem l_Ao (C : Lx K V) {i : Nat} (h1 : i < (lA V).1.length) : adr (lA V) i ≠ lo V := by
  intro e
  obtain ⟨e1, he1⟩ := wsO_ex (Y := lA V) (fun _ _ => 0) h1
  have := (C.2.2.2.2.2.2.2.2.1.2.2 (fun _ _ => 0) (fun _ _ => 0) (fun _ => 0)).1 _ _ _ _ (in_app1 he1) (in_app2 (in_app2 (k := 0) rfl)) e
  rw [wsO_len] at this
  omega
theorem l_Bo (C : Lx K V) {i : Nat} (h1 : i < (lB V).1.length) : adr (lB V) i ≠ lo V := by
  intro e
  obtain ⟨e1, he1⟩ := wsO_ex (Y := lB V) (fun _ _ => 0) h1
  have := (C.2.2.2.2.2.2.2.2.1.2.2 (fun _ _ => 0) (fun _ _ => 0) (fun _ => 0)).1 _ _ _ _ (in_app2 (in_app1 he1)) (in_app2 (in_app2 (k := 0) rfl)) e
  rw [wsO_len, wsO_len] at this
  omega
theorem l_subA (C : Lx K V) {H : Heap} {locs : List Loc} (hS : va_S (lnew K) (ks K).heap H locs) : ∀ q, AA (lA V) H.size q → lnew K q := fun q h => h.elim (fun ⟨k, h1, h2⟩ => by rw [h2]; exact l_newA C h1) (fun h => Nat.le_trans hS.1 h)
theorem l_subB (C : Lx K V) {H : Heap} {locs : List Loc} (hS : va_S (lnew K) (ks K).heap H locs) : ∀ q, AA (lB V) H.size q → lnew K q := fun q h => h.elim (fun ⟨k, h1, h2⟩ => by rw [h2]; exact l_newB C h1) (fun h => Nat.le_trans hS.1 h)
/-- the rest of the world stays over a call of a side -/
theorem l_keep {w : va_W} {D : va_G} {Y : Sx} {H H1 : Heap} (hP : va_P D vwCl w H) (hk : ∀ q : Nat, q < H.size → ¬ AA Y H.size q → H1[q]? = H[q]?) (hd : ∀ (k : Nat) (q : Nat × va_E), w[k]? = some q → ∀ j, j < Y.1.length → q.1 ≠ adr Y j) : va_P D vwCl w H1 := by
  refine hP.kept (fun k q hq => hk _ (hP k q hq).lt (fun z => ?_))
  rcases z with ⟨j, h1, h2⟩ | z
  · exact hd k q hq j h1 h2
  · have := (hP k q hq).lt
    omega
theorem l_preA (C : Lx K V) {H : Heap} {locs : List Loc} (hP : va_P (lA V).2.1 vwCl (wsO (lA V) M1) H) (hS : va_S (lnew K) (ks K).heap H locs) {U : State} (hU : U.heap = H) (hW : (ks K).WarmedH U.vm) : Pre (lA V) M1 H.size U := by
  refine ⟨by rw [hU], by rw [hU]; exact hP, va_K.moved hW.alike C.2.2.2.2.2.2.2.1.1, Nst.warm hW C.2.2.2.2.2.2.1.1, ?_, C.2.2.2.2.2.2.2.2.1.1⟩
  rw [hU]
  exact Ext.moved hW.alike (((C.2.2.2.2.2.2.2.2.2.1.1).kept (fun a h1 h2 => hS.2.1 a h1 h2)).narrow (l_subA C hS))
theorem l_preB (C : Lx K V) {H : Heap} {locs : List Loc} (hP : va_P (lB V).2.1 vwCl (wsO (lB V) M2) H) (hS : va_S (lnew K) (ks K).heap H locs) {U : State} (hU : U.heap = H) (hW : (ks K).WarmedH U.vm) : Pre (lB V) M2 H.size U := by
  refine ⟨by rw [hU], by rw [hU]; exact hP, va_K.moved hW.alike C.2.2.2.2.2.2.2.1.2.1, Nst.warm hW C.2.2.2.2.2.2.1.2, ?_, C.2.2.2.2.2.2.2.2.1.2.1⟩
  rw [hU]
  exact Ext.moved hW.alike (((C.2.2.2.2.2.2.2.2.2.1.2.1).kept (fun a h1 h2 => hS.2.1 a h1 h2)).narrow (l_subB C hS))
theorem l_end {mc ms : Nat} {Y : Sx} {stk rest : List Value} {r : Option Int32} {M1' M2' : Mm} {H : Heap} {locs : List Loc} {ls : Array Slot} {a : Array Value} {X : Mm} (hl : lv_has ls 7 lv) (hS : va_S (lnew K) (ks K).heap H locs) (hsub : ∀ q, AA Y H.size q → lnew K q)
    (hr : va_Run (kp K) (kl K) (ke K) (kR K) (ks K) (km K) (ka K) (kb K) (kme K) (kc K) H locs nc ns mc ms (F0 (km K) pc ls stk) rest (Qr Y H.size r X a) (AA Y H.size)) (hj : ∀ H1 : Heap, va_P Y.2.1 vwCl (wsO Y X) H1 → (∀ q : Nat, q < H.size → ¬ AA Y H.size q → H1[q]? = H[q]?) → va_P (lA V).2.1 vwCl (lws V M1' M2' f) H1) (h : Wl K V M1' M2' f (nc + mc) (ns + ms) (pc + 3) lv ((r.map Value.int).toList ++ rest)) :
    W (kp K) (kl K) (ke K) (kR K) (ks K) (km K) (ka K) (kb K) (kme K) (kc K) H locs nc ns (lw_Z (kb K) (ka K) (ks K)) (F0 (km K) pc ls stk) := by
  intro T hT X9
  obtain ⟨v, st₀, t, T', L, h0, X', hL, e1, e2, ⟨hv, hP1, hz, hk⟩, go⟩ := hr T hT X9
  cases hv
  rw [h0] at hz hk
  have hS1 : va_S (lnew K) (ks K).heap T'.heap (locs ++ L) := by
    refine ⟨Nat.le_trans hS.1 (by rw [e1]; exact hz), fun q h1 h2 => ?_, fun q hq => ?_⟩
    · rw [e1, hk q (Nat.lt_of_lt_of_le h1 hS.1) (fun z => h2 (hsub q z))]
      exact hS.2.1 q h1 h2
    · rcases List.mem_append.mp hq with h2 | h2
      · exact hS.2.2 q h2
      · exact hsub _ (hL q h2)
  obtain ⟨t2, a1, b1⟩ := h T'.heap (locs ++ L) ls (hj T'.heap (by rw [e1]; exact hP1) (fun q h1 h2 => by rw [e1]; exact hk q h1 h2)) hS1 hl T' rfl X'
  exact ⟨t2, go t2 a1, b1⟩
theorem l_rm {d mL : Nat} (h : Nat.ble d 10 = true) (hm : Nat.ble mL 13 = true) : (rmd d).frames + 1 ≤ room_1.frames ∧ 8 + (mL + 11) + (rmd d).locals ≤ room_1.locals := by
  have h1 : d ≤ 10 := Nat.le_of_ble_eq_true h
  have h2 : mL ≤ 13 := Nat.le_of_ble_eq_true hm
  constructor
  · show d + 1 ≤ 11
    omega
  · show 8 + (mL + 11) + 32 * d ≤ 388
    omega
theorem l_callA (C : Lx K V) {idx n mL d : Nat} {y : MethodName} {cc : ByteArray} {ret : Option FieldType} {r : Option Int32} {M1' : Mm} {stk : List Value} (hd : decode code pc = .ok (.invokevirtual idx, 3)) (hy : MY y cc mL ret n) (hi : MI y) (hlk : Cond.methodLink RL idx y ∈ gw) (hcl : y.cls = RX8) (hdd : Nat.ble d 10 = true) (hmm : Nat.ble mL 13 = true) (hnc : nc ≤ 601024) (hns : ns ≤ 7293034)
    (As : List Value) (hn : As.length = n) (hst : stk = As.reverse ++ .ref (adr (lA V) 0) :: st) (hW : (st.map fun v => v.category).sum ≤ 8) (hc : Ct (kl K) (lA V) y cc mL ret d (.ref (adr (lA V) 0) :: As) M1 r M1') (h : Wl K V M1' M2 f nc ns (pc + 3) lv ((r.map Value.int).toList ++ st)) : Wl K V M1 M2 f nc ns pc lv stk := by
  intro H locs ls hP hS hl
  have eR : kR K = room_1 := C.2.2.2.2.2.2.2.2.2.2.2.2.2.1
  have hPA := P_left hP
  have hPr := P_right hP
  have hts := C.2.2.2.2.2.1
  have hfix : CallFix (kp K) (km K) (kc K) code 7 (ks K) (ka K) gw RL := ⟨C.1, C.2.1, C.2.2.2.1, C.2.2.2.2.1, hts⟩
  have hpre : PreV (ks K) H y.cls (adr (lA V) 0) (va_Pc (.ref (adr (lA V) 0) :: As) (Pre (lA V) M1 H.size)) As := ⟨pre_blind, by rw [hcl]; exact va_recv (q := (RX8, TX8, 8)) C.2.2.2.2.2.2.2.1.1 hPA rfl (wsO_at (sA_0 C.2.2.2.2.2.2.2.2.2.2.2.1.1)), fun U hU hW => ⟨rfl, l_preA C hPA hS hU hW⟩⟩
  have cw : CallW (kR K) (ks K) (ka K) RL y.cls idx y cc mL ret (Cond.code y cc mL ret :: gw) (rmd d) 0 0 n := ⟨callB_of n hts (gIn y cc mL ret hy.1) rfl rfl rfl (hts _ hy.2.1) (hts _ hlk) hy.2.2 (by rw [eR]; exact l_rm hdd hmm), hts _ hi.1, hts _ hi.2⟩
  refine l_end (mc := 0) (ms := 0) hl hS (l_subA C hS) (va_runV (As := As) (rest := st) hfix (hc H.size) cw hpre rfl hn hl.1 hst (lv_room hW) hd ⟨Nat.le_trans hnc (by rw [eR]; exact Nat.le_refl _), Nat.le_trans hns (by rw [eR]; exact Nat.le_refl _)⟩) (fun H1 hP1 hk => hP1.app (l_keep hPr hk (fun k q hq j hj => ?_))) h
  rcases List.mem_append.mp (List.mem_of_getElem? hq) with h9 | h9
  · obtain ⟨k9, h9⟩ := List.getElem?_of_mem h9
    obtain ⟨g1, g2⟩ := wsO_get h9
    rw [g2]
    exact (l_AB C hj g1).symm
  · rw [List.mem_singleton.mp h9]
    exact (l_Ao C hj).symm
theorem l_callB (C : Lx K V) {idx n mL d : Nat} {y : MethodName} {cc : ByteArray} {ret : Option FieldType} {r : Option Int32} {M2' : Mm} {stk : List Value} (hd : decode code pc = .ok (.invokevirtual idx, 3)) (hy : MY y cc mL ret n) (hi : MI y) (hlk : Cond.methodLink RL idx y ∈ gw) (hcl : y.cls = RX9) (hdd : Nat.ble d 10 = true) (hmm : Nat.ble mL 13 = true) (hnc : nc ≤ 601024) (hns : ns ≤ 7293034)
    (As : List Value) (hn : As.length = n) (hst : stk = As.reverse ++ .ref (adr (lB V) 0) :: st) (hW : (st.map fun v => v.category).sum ≤ 8) (hc : Ct (kl K) (lB V) y cc mL ret d (.ref (adr (lB V) 0) :: As) M2 r M2') (h : Wl K V M1 M2' f nc ns (pc + 3) lv ((r.map Value.int).toList ++ st)) : Wl K V M1 M2 f nc ns pc lv stk := by
  intro H locs ls hP hS hl
  have eR : kR K = room_1 := C.2.2.2.2.2.2.2.2.2.2.2.2.2.1
  have eD : (lB V).2.1 = (lA V).2.1 := C.2.2.2.2.2.2.2.1.2.2.2
  have hPA := P_left hP
  have hPB : va_P (lB V).2.1 vwCl (wsO (lB V) M2) H := by rw [eD]; exact P_left (P_right hP)
  have hPo := P_right (P_right hP)
  have hts := C.2.2.2.2.2.1
  have hfix : CallFix (kp K) (km K) (kc K) code 7 (ks K) (ka K) gw RL := ⟨C.1, C.2.1, C.2.2.2.1, C.2.2.2.2.1, hts⟩
  have hpre : PreV (ks K) H y.cls (adr (lB V) 0) (va_Pc (.ref (adr (lB V) 0) :: As) (Pre (lB V) M2 H.size)) As := ⟨pre_blind, by rw [hcl]; exact va_recv (q := (RX9, TX9, 27)) C.2.2.2.2.2.2.2.1.2.1 hPB rfl (wsO_at (sB_0 C.2.2.2.2.2.2.2.2.2.2.2.1.2)), fun U hU hW => ⟨rfl, l_preB C hPB hS hU hW⟩⟩
  have cw : CallW (kR K) (ks K) (ka K) RL y.cls idx y cc mL ret (Cond.code y cc mL ret :: gw) (rmd d) 0 0 n := ⟨callB_of n hts (gIn y cc mL ret hy.1) rfl rfl rfl (hts _ hy.2.1) (hts _ hlk) hy.2.2 (by rw [eR]; exact l_rm hdd hmm), hts _ hi.1, hts _ hi.2⟩
  refine l_end (mc := 0) (ms := 0) hl hS (l_subB C hS) (va_runV (As := As) (rest := st) hfix (hc H.size) cw hpre rfl hn hl.1 hst (lv_room hW) hd ⟨Nat.le_trans hnc (by rw [eR]; exact Nat.le_refl _), Nat.le_trans hns (by rw [eR]; exact Nat.le_refl _)⟩) (fun H1 hP1 hk => (l_keep hPA hk (fun k q hq j hj => ?_)).app (va_P.app (by rw [← eD]; exact hP1) (l_keep hPo hk (fun k q hq j hj => ?_)))) h
  · obtain ⟨g1, g2⟩ := wsO_get hq
    rw [g2]
    exact l_AB C g1 hj
  · rw [List.mem_singleton.mp (List.mem_of_getElem? hq)]
    exact (l_Bo C hj).symm
theorem l_callH (C : Lx K V) {idx : Nat} {x1 x2 : Int32} {q : Option Int32} {st : List Value} (hd : decode code pc = .ok (.invokestatic idx, 3)) (hlk : Cond.methodLink RL idx yL_sortie ∈ gw) (hstt : Cond.static yL_sortie ∈ gw) (hnc : nc + 1 ≤ 601024) (hns : ns + 6 ≤ 7293034) (hst : st = []) (hc : pX8_sortie x1 x2 M1 = some q)
    (h : ∀ r f', (∀ v, q = some v → r = 0 ∧ f' 0 = v.toInt64) → (q = none → r = 1) → Wl K V M1 M2 f' (nc + 1) (ns + 6) (pc + 3) lv [.int r]) : Wl K V M1 M2 f nc ns pc lv (.ref (lo V) :: .int x2 :: .int x1 :: .ref (adr (lA V) 0) :: st) := by
  intro H locs ls hP hS hl
  subst hst
  have eR : kR K = room_1 := C.2.2.2.2.2.2.2.2.2.2.2.2.2.1
  have hPA := P_left hP
  have hPB := P_left (P_right hP)
  have hPo := P_right (P_right hP)
  have hts := C.2.2.2.2.2.1
  have hsubA := l_subA C hS
  have hsub : ∀ z, (AA (lA V) H.size z ∨ z = lo V) → lnew K z := fun z hz => hz.elim (hsubA z) (fun e => by rw [e]; exact l_newo C)
  have hfix : CallFix (kp K) (km K) (kc K) code 7 (ks K) (ka K) gw RL := ⟨C.1, C.2.1, C.2.2.2.1, C.2.2.2.2.1, hts⟩
  have hE := C.2.2.2.2.2.2.2.2.2.1
  have hpre : PreS (ks K) H (va_Pc [.ref (adr (lA V) 0), .int x1, .int x2, .ref (lo V)] (PreH (lA V) M1 (lC V) (lo V) f H.size)) [.ref (adr (lA V) 0), .int x1, .int x2, .ref (lo V)] := by
    refine ⟨fun a U g mk z => ?_, fun U hU hW => ⟨rfl, ⟨l_preA C hPA hS hU hW, ?_, Xw.warm hW hE.2.2.2⟩, by rw [hU]; exact hPo, va_K.moved hW.alike C.2.2.2.2.2.2.2.1.2.2.1, fun k hk => l_Ao C hk, ?_, ?_⟩⟩
    · obtain ⟨z0, ⟨⟨z1, z2, z3, z4, z5, z6⟩, z7, z8⟩, z9, z10, z11, z12, z13⟩ := z
      have hA9 : U.vm.Alike (U.calling g mk a).vm := Vm.Alike.refl U.vm
      exact ⟨z0, ⟨⟨z1, z2, va_K.moved (u := U) hA9 z3, Nst.same (u := U) (U := U.calling g mk a) rfl z4, Ext.moved hA9 z5, z6⟩, XE.moved hA9 z7, Xw.same (u := U) (U := U.calling g mk a) rfl z8⟩, z9, va_K.moved (u := U) hA9 z10, z11, XE.moved hA9 z12, Ext.moved hA9 z13⟩
    · rw [hU]
      exact XE.moved hW.alike (((hE.2.2.1).kept hS.2.1).narrow hsubA)
    · rw [hU]
      exact XE.moved hW.alike (((hE.2.2.1).kept hS.2.1).narrow hsub)
    · rw [hU]
      exact Ext.moved hW.alike (((hE.1).kept hS.2.1).narrow hsub)
  have hG : GoodIn gw (Cond.codeWith yL_sortie cL_sortie 5 (some .int) [(0, 10, 13, 13)] :: gw) := fun w hw => by
    rcases List.mem_cons.mp hw with e | e
    · rw [e]; exact ⟨scw, good_of_word (gw_good scw)⟩
    · exact ⟨e, good_of_word (gw_good e)⟩
  have cw : vx_CSW (kR K) (ks K) (ka K) RL idx yL_sortie cL_sortie 5 (some .int) [(0, 10, 13, 13)] (Cond.codeWith yL_sortie cL_sortie 5 (some .int) [(0, 10, 13, 13)] :: gw) rmH 1 6 4 := by
    refine vx_cwSW 4 hts (fun w hw => ?_) rfl rfl rfl (by decide +kernel) (by rw [eR]; exact ⟨Nat.le_of_ble_eq_true rfl, Nat.le_of_ble_eq_true rfl⟩)
    unfold va_wsS at hw
    rcases List.mem_append.mp hw with hw | hw
    · simp only [List.mem_cons, List.mem_nil_iff, or_false] at hw
      rcases hw with rfl | rfl | rfl
      · exact ⟨hlk, good_of_word (gw_good hlk)⟩
      · exact ⟨hstt, good_of_word (gw_good hstt)⟩
      · exact ⟨sil, good_of_word (gw_good sil)⟩
    · exact hG w hw
  have hrun : va_Run (kp K) (kl K) (ke K) (kR K) (ks K) (km K) (ka K) (kb K) (kme K) (kc K) H locs nc ns 1 6 (F0 (km K) pc ls [.ref (lo V), .int x2, .int x1, .ref (adr (lA V) 0)]) [] (QH (lA V) M1 (lC V) (lo V) f q H.size ([.ref (adr (lA V) 0), .int x1, .int x2, .ref (lo V)] : List Value).toArray) (fun z => AA (lA V) H.size z ∨ z = lo V) := vx_runSW (As := [.ref (adr (lA V) 0), .int x1, .int x2, .ref (lo V)]) (rest := []) hfix (tL_sortie (f := f) (cL := lC V) (o := lo V) C.2.2.2.2.2.2.2.2.2.2.2.2.1 C.2.2.2.2.2.2.2.2.2.2.2.1.1 hc H.size) cw hpre rfl rfl hl.1 rfl (lv_room (Nat.le_of_ble_eq_true rfl)) hd ⟨by rw [eR]; exact hnc, by rw [eR]; exact hns⟩
  refine va_calli (A0 := lnew K) (H0 := (ks K).heap) hrun hS (fun z _ hz => hsub z hz) hsub (fun r f' t H1 locs1 ht hvm hpost hB hz hk hS1 => ?_)
  obtain ⟨hP1, hPo1⟩ := hB
  rw [ht] at hP1 hPo1
  refine h r f' hpost.1 hpost.2 H1 locs1 ls (hP1.app (va_P.app ?_ hPo1)) hS1 hl
  refine hPB.kept (fun k y hy => hk _ ((hPB k y hy).lt) (fun z => ?_))
  obtain ⟨g1, g2⟩ := wsO_get hy
  rcases z with (⟨j, h1, h2⟩ | z) | z
  · exact l_AB C h1 g1 (by rw [← g2]; exact h2.symm)
  · have := (hPB k y hy).lt
    omega
  · exact l_Bo C g1 (by rw [← g2]; exact z)
end LROWS
