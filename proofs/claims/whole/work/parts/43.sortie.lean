theorem dX8_sortie_0 : decode cX8_sortie 0 = .ok (.aload_n 0, 1) := by decide +kernel
theorem dX8_sortie_1 : decode cX8_sortie 1 = .ok (.getfield 19, 3) := by decide +kernel
theorem dX8_sortie_4 : decode cX8_sortie 4 = .ok (.iload_n 1, 1) := by decide +kernel
theorem dX8_sortie_5 : decode cX8_sortie 5 = .ok (.invokevirtual 162, 3) := by decide +kernel
theorem dX8_sortie_8 : decode cX8_sortie 8 = .ok (.ifCond .eq 12, 3) := by decide +kernel
theorem dX8_sortie_11 : decode cX8_sortie 11 = .ok (.iload_n 2, 1) := by decide +kernel
theorem dX8_sortie_12 : decode cX8_sortie 12 = .ok (.ifCond .lt 8, 3) := by decide +kernel
theorem dX8_sortie_15 : decode cX8_sortie 15 = .ok (.iload_n 2, 1) := by decide +kernel
theorem dX8_sortie_16 : decode cX8_sortie 16 = .ok (.iconst 4, 1) := by decide +kernel
theorem dX8_sortie_17 : decode cX8_sortie 17 = .ok (.if_icmp .lt 11, 3) := by decide +kernel
theorem dX8_sortie_20 : decode cX8_sortie 20 = .ok (.new 165, 3) := by decide +kernel
theorem dX8_sortie_23 : decode cX8_sortie 23 = .ok (.dup, 1) := by decide +kernel
theorem dX8_sortie_24 : decode cX8_sortie 24 = .ok (.invokespecial 167, 3) := by decide +kernel
theorem dX8_sortie_27 : decode cX8_sortie 27 = .ok (.athrow, 1) := by decide +kernel
theorem dX8_sortie_28 : decode cX8_sortie 28 = .ok (.aload_n 0, 1) := by decide +kernel
theorem dX8_sortie_29 : decode cX8_sortie 29 = .ok (.getfield 19, 3) := by decide +kernel
theorem dX8_sortie_32 : decode cX8_sortie 32 = .ok (.iload_n 1, 1) := by decide +kernel
theorem dX8_sortie_33 : decode cX8_sortie 33 = .ok (.iload_n 2, 1) := by decide +kernel
theorem dX8_sortie_34 : decode cX8_sortie 34 = .ok (.invokevirtual 168, 3) := by decide +kernel
theorem dX8_sortie_37 : decode cX8_sortie 37 = .ok (.ireturn, 1) := by decide +kernel
theorem dL_sortie_0 : decode cL_sortie 0 = .ok (.aload_n 3, 1) := by decide +kernel
theorem dL_sortie_1 : decode cL_sortie 1 = .ok (.iconst 0, 1) := by decide +kernel
theorem dL_sortie_2 : decode cL_sortie 2 = .ok (.aload_n 0, 1) := by decide +kernel
theorem dL_sortie_3 : decode cL_sortie 3 = .ok (.iload_n 1, 1) := by decide +kernel
theorem dL_sortie_4 : decode cL_sortie 4 = .ok (.iload_n 2, 1) := by decide +kernel
theorem dL_sortie_5 : decode cL_sortie 5 = .ok (.invokevirtual 7, 3) := by decide +kernel
theorem dL_sortie_8 : decode cL_sortie 8 = .ok (.i2l, 1) := by decide +kernel
theorem dL_sortie_9 : decode cL_sortie 9 = .ok (.lastore, 1) := by decide +kernel
theorem dL_sortie_10 : decode cL_sortie 10 = .ok (.goto 7, 3) := by decide +kernel
theorem dL_sortie_13 : decode cL_sortie 13 = .ok (.astore 4, 2) := by decide +kernel
theorem dL_sortie_15 : decode cL_sortie 15 = .ok (.iconst 1, 1) := by decide +kernel
theorem dL_sortie_16 : decode cL_sortie 16 = .ok (.ireturn, 1) := by decide +kernel
theorem dL_sortie_17 : decode cL_sortie 17 = .ok (.iconst 0, 1) := by decide +kernel
theorem dL_sortie_18 : decode cL_sortie 18 = .ok (.ireturn, 1) := by decide +kernel
set_option maxRecDepth 20000 in
theorem sml_has : ML RX8 162 yX4_hasSortie := Or.inr ⟨"TruckWing", nw_mem (tb3 237 rfl) rfl⟩
set_option maxRecDepth 20000 in
theorem sml_part : ML RX8 168 yX4_part := Or.inr ⟨"TruckWing", nw_mem (tb5 15 rfl) rfl⟩
set_option maxRecDepth 20000 in
theorem sf_plan : FL RX8 19 8 1 := ⟨RX8, TX8, 8, rfl, by decide, inWX8, Or.inl (gw_mem (tb2 43 rfl) rfl)⟩
set_option maxRecDepth 20000 in
theorem sc_nse : Cond.classLink RX8 165 "java/util/NoSuchElementException" ∈ gw := gw_mem (tb4 194 rfl) rfl
set_option maxRecDepth 20000 in
theorem si_nse : Cond.initialized "java/util/NoSuchElementException" ∈ gw := gw_mem (tb1 20 rfl) rfl
set_option maxRecDepth 20000 in
theorem sc_law : Cond.classLink RL 13 "java/util/NoSuchElementException" ∈ gw := gw_mem (tb4 189 rfl) rfl
set_option maxRecDepth 20000 in
theorem smy : MY yX8_sortie cX8_sortie 3 (some .int) 2 := ⟨gw_mem (tb4 193 rfl) rfl, gw_mem (tb1 1 rfl) rfl, by decide +kernel⟩
set_option maxRecDepth 20000 in
theorem smi : MI yX8_sortie := ⟨gw_mem (tb4 191 rfl) rfl, gw_mem (tb4 192 rfl) rfl⟩
set_option maxRecDepth 20000 in
theorem sml_law : Cond.methodLink RL 7 yX8_sortie ∈ gw := gw_mem (tb4 190 rfl) rfl
set_option maxRecDepth 20000 in
theorem scw : Cond.codeWith yL_sortie cL_sortie 5 (some .int) [(0, 10, 13, 13)] ∈ gw := gw_mem (tb4 188 rfl) rfl
set_option maxRecDepth 20000 in
theorem sil : Cond.initialized RL ∈ gw := gw_mem (tb1 0 rfl) rfl
abbrev nse : String := "java/util/NoSuchElementException"
abbrev nseN : List String := ["java/lang/RuntimeException", "java/lang/Exception"]
def xwl : List Cond := [.castable nse nse, .declares ⟨"java/lang/RuntimeException", "<init>", "()V"⟩, .declares ⟨"java/lang/Exception", "<init>", "()V"⟩, .declares ⟨"java/lang/Throwable", "<init>", "()V"⟩]
theorem xw_in : ∀ w ∈ (vx_at0 RX8 167 nse nseN).filter (fun w => !goodWord w), w ∈ xwl := by decide +kernel
theorem xw_tb : ∀ w ∈ (vx_at0 RX8 167 nse nseN).filter goodWord, w ∈ lw_tbl := by decide +kernel
theorem xw_ot : ∀ w ∈ Cond.classLink RX8 165 nse :: Cond.initialized nse :: vx_at0 RX8 167 nse nseN, vx_ot w = true := by decide +kernel
/-- what a throw needs beside a side's memory -/
def XE (A : Nat → Prop) (U : State) (H : Heap) : Prop := vx_Zq Bundle.tN "UNASSIGNED_STACK" Bundle.steD A U H ∧ vx_Zq Bundle.tN "SUPPRESSED_SENTINEL" Bundle.listD A U H
theorem XE.moved {A : Nat → Prop} {u U : State} {H : Heap} (hvm : u.vm.Alike U.vm) (h : XE A u H) : XE A U H := ⟨h.1.moved hvm, h.2.moved hvm⟩
theorem XE.kept {A : Nat → Prop} {U : State} {H H1 : Heap} (h : XE A U H) (hq : ∀ a : Nat, a < H.size → ¬ A a → H1[a]? = H[a]?) : XE A U H1 := ⟨h.1.kept hq, h.2.kept hq⟩
theorem XE.narrow {A B : Nat → Prop} {U : State} {H : Heap} (h : XE A U H) (hAB : ∀ q, B q → A q) : XE B U H := ⟨h.1.narrow hAB, h.2.narrow hAB⟩
def Xw (U : State) : Prop := ∀ w ∈ xwl, va_Nw w U
theorem xwl_on : ∀ w ∈ xwl, w.onTables = true := by decide +kernel
theorem Xw.same {u U : State} (hv : u.vm = U.vm) (h : Xw u) : Xw U := fun w hw => va_Nw.same (xwl_on w hw) hv (h w hw)
theorem Xw.warm {s U : State} (hW : s.WarmedH U.vm) (h : Xw s) : Xw U := by
  intro w hw
  have h1 := h w hw
  simp only [xwl, List.mem_cons, List.mem_nil_iff, or_false] at hw
  rcases hw with rfl | rfl | rfl | rfl
  · exact va_Nw.warmC hW h1
  · exact va_Nw.warmD hW h1
  · exact va_Nw.warmD hW h1
  · exact va_Nw.warmD hW h1
def PreX (Y : Sx) (M : Mm) (sz : Nat) (U : State) : Prop := Pre Y M sz U ∧ XE (AA Y sz) U U.heap ∧ Xw U
/-- TruckWing.sortie: none: it throws -/
def pX8_sortie (x1 x2 : Int32) (M : Mm) : Option (Option Int32) :=
  if pX4_hasSortie 4 x1 M = 0 then some none else if x2 < 0 then some none else if x2 < 4 then (pX4_part 4 x1 x2 M).bind (fun v => some (some v)) else some none
def rmS : Room := { frames := 6, cells := 1, slots := 6, locals := 96 }
def QS (Y : Sx) (M : Mm) (q : Option Int32) (sz : Nat) : Array Value → State → Outcome → State → Prop := va_Qi (fun r (_ : Unit) => q = some r) (fun _ t => va_P Y.2.1 vwCl (wsO Y M) t.heap) (AA Y sz)
def XS (Y : Sx) (M : Mm) (q : Option Int32) (sz : Nat) : String → State → State → Prop := vx_X (fun (_ : Unit) => q = none) (fun E _ t => E = nse ∧ va_P Y.2.1 vwCl (wsO Y M) t.heap) (AA Y sz)
abbrev zX8_sortie : Zx := (cX8_sortie, RX8, 3, 2, some .int)
set_option maxRecDepth 100000 in
set_option maxHeartbeats 4000000 in
theorem tX8_sortie {l : Launch} {Y : Sx} {M : Mm} {x1 x2 : Int32} {q : Option Int32} (hl : l.stackTraces = false) (hY : isA Y) (h : pX8_sortie x1 x2 M = some q) (sz : Nat) : vx_Met l yX8_sortie (Cond.code yX8_sortie cX8_sortie 3 (some .int) :: gw) rmS (va_Pc [.ref (adr Y 0), .int x1, .int x2] (PreX Y M sz)) (QS Y M q sz) (XS Y M q sz) 1 6 (AA Y sz) := by
  refine vx_ofW (cc := cX8_sortie) (maxL := 3) (ret := some .int) (by decide) rfl ?_
  intro p e s m args below meth c s₁ B hml hnt hv
  obtain ⟨rfl, ⟨hsz, hP, hK, hN, hE, hap⟩, hXE, hXw⟩ := hv
  subst hsz
  have hts := atoms_spec (ws := Cond.code yX8_sortie cX8_sortie 3 (some .int) :: gw) B.pre
  have hown : s.vm.findClass RX8 = some m.cls := findClass_of_methodNamed B.named
  generalize hav : ([.ref (adr Y 0), .int x1, .int x2] : List Value) = av at *
  have C : Cx (p, l, e, rmS, s, m, av.toArray, below, meth, c) zX8_sortie Y := ⟨B.exec, B.bytes, hml, hown, fun w hw => hts w (List.mem_cons_of_mem _ hw), hN, hK, hap, hE, B.notSynchronized, ⟨Nat.le_of_ble_eq_true rfl, Nat.le_of_ble_eq_true rfl⟩, B.returns⟩
  have hlv : lv_has ((lg_sl av ++ List.replicate (3 - (lg_sl av).length) Slot.unset).toArray) 3 [(0, .ref (adr Y 0)), (1, .int x1), (2, .int x2)] := by
    have := lv_entry av (n := 3) (by rw [← hav]; exact Nat.le_of_ble_eq_true rfl)
    rw [← hav] at this ⊢
    exact this
  have hts2 : ∀ w ∈ gw, w.before av.toArray s = true := fun w hw => hts w (List.mem_cons_of_mem _ hw)
  have hat : ∀ w ∈ vx_at0 RX8 167 nse nseN, w.before av.toArray s = true := vx_hat (B := xwl) (fun w hw => hts2 w (gw_mem (xw_tb w hw) (List.mem_filter.mp hw).2)) xw_in (fun w hw => va_Nw.use (xwl_on w hw) (hXw w hw))
  generalize hKe : ((p, l, e, rmS, s, m, av.toArray, below, meth, c) : Pk) = K at C
  have thr : q = none → Wp K zX8_sortie Y (vx_MQ (kb K) (QS Y M q (ks K).heap.size) (XS Y M q (ks K).heap.size) (ka K) (ks K) 1 6 (AA Y (ks K).heap.size)) M 20 [(0, .ref (adr Y 0)), (1, .int x1), (2, .int x2)] [] := by
    intro hq
    subst hKe
    intro H locs ls hP1 hS1 hl1
    refine vx_throw0 (cls := nse) (names := nseN) (A := AA Y s.heap.size) B.exec B.bytes hl hown (by decide +kernel) (by decide +kernel) (hts2 _ sc_nse) (hts2 _ si_nse) hat xw_ot hXE.1 hXE.2 hS1 (by rw [hl1.1]; exact hml.symm) dX8_sortie_20 dX8_sortie_23 dX8_sortie_24 dX8_sortie_27 (fun x hx => (hnt x hx).elim) (Nat.le_of_ble_eq_true rfl) (Nat.le_of_ble_eq_true rfl) (Nat.le_of_ble_eq_true rfl) (Nat.le_of_ble_eq_true rfl) B.notSynchronized ?_ hS1.2.2 (Nat.le_refl _) (Nat.le_refl _)
    intro t hvm hz hk
    refine ⟨(), hq, ⟨rfl, ?_⟩, ?_⟩
    · exact hP1.kept (fun k y hy => hk _ ((hP1 k y hy).lt))
    · refine ⟨Nat.le_trans hS1.1 hz, fun q h1 h2 => ?_⟩
      rw [hk q (Nat.lt_of_lt_of_le h1 hS1.1)]
      exact hS1.2.1 q h1 h2
  have main : Wp K zX8_sortie Y (vx_MQ (kb K) (QS Y M q (ks K).heap.size) (XS Y M q (ks K).heap.size) (ka K) (ks K) 1 6 (AA Y (ks K).heap.size)) M 0 [(0, .ref (adr Y 0)), (1, .int x1), (2, .int x2)] [] := by
    unfold pX8_sortie at h
    refine w_aload_n C (pc := 0) dX8_sortie_0 0 rfl ?_
    refine w_getR C (pc := 1) dX8_sortie_1 sf_plan (sA_0 hY) rfl ?_
    refine w_iload_n C (pc := 4) dX8_sortie_4 1 rfl ?_
    refine w_cVi C (pc := 5) dX8_sortie_5 my_X4_hasSortie mi_X4_hasSortie sml_has (sA_4 hY) rfl rfl rfl [.int x1] rfl rfl (Nat.le_of_ble_eq_true rfl) (tX4_hasSortie (kPlan_4 hY) rfl) ?_
    refine w_ifeq C (pc := 8) 20 dX8_sortie_8 (by decide) (fun c => ?_) (fun c => ?_)
    · have h := it_t h c
      exact thr (Option.some.inj h).symm
    · have h := it_f h c
      refine w_iload_n C (pc := 11) dX8_sortie_11 2 rfl ?_
      refine w_iflt C (pc := 12) 20 dX8_sortie_12 (by decide) (fun c => ?_) (fun c => ?_)
      · have h := it_t h c
        exact thr (Option.some.inj h).symm
      · have h := it_f h c
        refine w_iload_n C (pc := 15) dX8_sortie_15 2 rfl ?_
        refine w_iconst C (pc := 16) dX8_sortie_16 (v := 4) (by decide) ?_
        refine w_iclt C (pc := 17) 28 dX8_sortie_17 (by decide) (fun c => ?_) (fun c => ?_)
        · have h := it_t h c
          obtain ⟨v, hv, h⟩ := ob h
          obtain rfl := Option.some.inj h
          refine w_aload_n C (pc := 28) dX8_sortie_28 0 rfl ?_
          refine w_getR C (pc := 29) dX8_sortie_29 sf_plan (sA_0 hY) rfl ?_
          refine w_iload_n C (pc := 32) dX8_sortie_32 1 rfl ?_
          refine w_iload_n C (pc := 33) dX8_sortie_33 2 rfl ?_
          refine w_cVi C (pc := 34) dX8_sortie_34 my_X4_part mi_X4_part sml_part (sA_4 hY) rfl rfl rfl [.int x1, .int x2] rfl rfl (Nat.le_of_ble_eq_true rfl) (tX4_part (kPlan_4 hY) hv) ?_
          subst hKe
          intro H locs ls hP1 hS1 hl1
          refine W.widen (k := 1) (n := 6) (by omega) (by omega) ?_
          refine vx_ret ?_
          exact W.iret (Qc := QS Y M (some v) s.heap.size) B.exec B.bytes B.returns (fun t ht _ => ⟨⟨v, (), rfl, rfl, by show va_P _ _ _ t.heap; rw [ht]; exact hP1⟩, hS1.F ht⟩) hS1.2.2 dX8_sortie_37 B.notSynchronized
        · have h := it_f h c
          exact thr (Option.some.inj h).symm
  rw [lg_entry_eq]
  subst hKe
  exact main s.heap [] _ hP va_S.rf hlv
/-- the law's own sortie(..): 0: out[0] holds the answer; 1: it threw -/
def rmH : Room := { frames := 7, cells := 1, slots := 6, locals := 128 }
def PreH (Y : Sx) (M : Mm) (cL : ClassId) (o : Nat) (f : Nat → Int64) (sz : Nat) (U : State) : Prop := PreX Y M sz U ∧ va_P Y.2.1 vwCl [(o, .inl (cL, 1, .inr (.inl f)))] U.heap ∧ va_K Y.2.1 vwCl [(cL, .long)] U ∧ (∀ k, k < Y.1.length → adr Y k ≠ o) ∧ XE (fun q => AA Y sz q ∨ q = o) U U.heap ∧ Ext Y (fun q => AA Y sz q ∨ q = o) U U.heap
def QH (Y : Sx) (M : Mm) (cL : ClassId) (o : Nat) (f : Nat → Int64) (q : Option Int32) (sz : Nat) : Array Value → State → Outcome → State → Prop :=
  va_Qi (fun r (f' : Nat → Int64) => (∀ v, q = some v → r = 0 ∧ f' 0 = v.toInt64) ∧ (q = none → r = 1)) (fun f' t => va_P Y.2.1 vwCl (wsO Y M) t.heap ∧ va_P Y.2.1 vwCl [(o, .inl (cL, 1, .inr (.inl f')))] t.heap) (fun q => AA Y sz q ∨ q = o)
theorem set_app {ws : va_W} {x y : Nat × va_E} : (ws ++ [x]).set ws.length y = ws ++ [y] := by
  rw [List.set_append_right _ _ (Nat.le_refl _)]
  simp
theorem P_left {D : va_G} {cl : List vw_C} {w1 w2 : va_W} {H : Heap} (h : va_P D cl (w1 ++ w2) H) : va_P D cl w1 H := fun k q hk => h k q (by rw [List.getElem?_append_left (List.getElem?_eq_some_iff.mp hk).1]; exact hk)
theorem P_right {D : va_G} {cl : List vw_C} {w1 w2 : va_W} {H : Heap} (h : va_P D cl (w1 ++ w2) H) : va_P D cl w2 H := fun k q hk => h (w1.length + k) q (by rw [List.getElem?_append_right (by omega)]; simpa using hk)
set_option maxRecDepth 100000 in
set_option maxHeartbeats 4000000 in
theorem tL_sortie {l : Launch} {Y : Sx} {M : Mm} {cL : ClassId} {o : Nat} {f : Nat → Int64} {x1 x2 : Int32} {q : Option Int32} (hl : l.stackTraces = false) (hY : isA Y) (h : pX8_sortie x1 x2 M = some q) (sz : Nat) : Met l yL_sortie (Cond.codeWith yL_sortie cL_sortie 5 (some .int) [(0, 10, 13, 13)] :: gw) rmH (va_Pc [.ref (adr Y 0), .int x1, .int x2, .ref o] (PreH Y M cL o f sz)) (QH Y M cL o f q sz) 1 6 (fun q => AA Y sz q ∨ q = o) := by
  have hc0 : ∀ p e s m args below meth c s₁, BodyLoose p l yL_sortie (headSpec (Cond.codeWith yL_sortie cL_sortie 5 (some .int) [(0, 10, 13, 13)] :: gw) rmH) cL_sortie 5 (some .int) e s m args below meth c s₁ → c.maxLocals = 5 → va_Pc [.ref (adr Y 0), .int x1, .int x2, .ref o] (PreH Y M cL o f sz) args s →
      W p l e (headSpec (Cond.codeWith yL_sortie cL_sortie 5 (some .int) [(0, 10, 13, 13)] :: gw) rmH).room s m args below meth c s.heap [] 0 0 (MQ below (QH Y M cL o f q sz) args s 1 6 (fun q => AA Y sz q ∨ q = o)) (entryFrame m args 5) := by
    intro p e s m args below meth c s₁ B hml hv
    obtain ⟨rfl, ⟨⟨hsz, hP, hK, hN, hE, hap⟩, hXE, hXw⟩, hPo, hKo, hdis, hXE2, hE2⟩ := hv
    subst hsz
    have hts := atoms_spec (ws := Cond.codeWith yL_sortie cL_sortie 5 (some .int) [(0, 10, 13, 13)] :: gw) B.pre
    have hts2 : ∀ w ∈ gw, w.before ([Value.ref (adr Y 0), .int x1, .int x2, .ref o] : List Value).toArray s = true := fun w hw => hts w (List.mem_cons_of_mem _ hw)
    have hown : s.vm.findClass RL = some m.cls := findClass_of_methodNamed B.named
    have htab : c.exceptionTable.toList = tableOf [(0, 10, 13, 13)] := vx_table (x := yL_sortie) B (hts _ List.mem_cons_self)
    have hx := B.exec
    have hb := B.bytes
    obtain ⟨A, hAe⟩ : ∃ A : Nat → Prop, A = fun q => AA Y s.heap.size q ∨ q = o := ⟨_, rfl⟩
    rw [← hAe]
    have hD : ∀ g, va_D A (wsO Y M ++ [(o, .inl (cL, 1, .inr (.inl g)))]) := by
      intro g
      refine va_D.app ((apt_D hap s.heap.size M).weaken (fun k q _ h => by rw [hAe]; exact Or.inl h)) ⟨fun i j p q hi hj _ => ?_, fun k q hk => ?_⟩ (fun i j p q hi hj e => ?_)
      · have h1 := (List.getElem?_eq_some_iff.mp hi).1
        have h2 := (List.getElem?_eq_some_iff.mp hj).1
        simp at h1 h2
        omega
      · have h1 := (List.getElem?_eq_some_iff.mp hk).1
        simp at h1
        subst h1
        cases hk
        rw [hAe]
        exact Or.inr rfl
      · obtain ⟨h1, h2⟩ := wsO_get hi
        have h3 := (List.getElem?_eq_some_iff.mp hj).1
        simp at h3
        subst h3
        cases hj
        exact hdis i h1 (by rw [← h2]; exact e)
    have hl0 := lv_entry ([.ref (adr Y 0), .int x1, .int x2, .ref o]) (n := 5) (Nat.le_of_ble_eq_true rfl)
    rw [lg_entry_eq]
    generalize (lg_sl ([.ref (adr Y 0), .int x1, .int x2, .ref o]) ++ List.replicate (5 - (lg_sl ([.ref (adr Y 0), .int x1, .int x2, .ref o])).length) Slot.unset).toArray = ls at hl0 ⊢
    have hl1 : lv_has ls 5 [(0, .ref (adr Y 0)), (1, .int x1), (2, .int x2), (3, .ref o)] := hl0
    refine lv_aload_n hx hb dL_sortie_0 rfl (lv_at hl1 3 rfl) ?_
    refine lv_iconst (v := 0) hx hb dL_sortie_1 (by decide) ?_
    refine lv_aload_n hx hb dL_sortie_2 rfl (lv_at hl1 0 rfl) ?_
    refine lv_iload_n hx hb dL_sortie_3 rfl (lv_at hl1 1 rfl) ?_
    refine lv_iload_n hx hb dL_sortie_4 rfl (lv_at hl1 2 rfl) ?_
    have hS0 : va_S A s.heap s.heap [] := va_S.rf
    have hsub : ∀ q, AA Y s.heap.size q → A q := fun q h => by rw [hAe]; exact Or.inl h
    have cw : CallW rmH s ([Value.ref (adr Y 0), .int x1, .int x2, .ref o] : List Value).toArray RL RX8 7 yX8_sortie cX8_sortie 3 (some .int) (Cond.code yX8_sortie cX8_sortie 3 (some .int) :: gw) rmS 1 6 2 := ⟨callB_of 2 hts2 (gIn _ _ _ _ smy.1) rfl rfl rfl (hts2 _ smy.2.1) (hts2 _ sml_law) smy.2.2 ⟨Nat.le_of_ble_eq_true rfl, Nat.le_of_ble_eq_true rfl⟩, hts2 _ smi.1, hts2 _ smi.2⟩
    have hpre : PreV s s.heap RX8 (adr Y 0) (va_Pc [.ref (adr Y 0), .int x1, .int x2] (PreX Y M s.heap.size)) [.int x1, .int x2] := by
      refine ⟨fun a U g mk z => ?_, va_recv (q := (RX8, TX8, 8)) hK hP rfl (wsO_at (sA_0 hY)), fun U hU hW => ⟨rfl, ⟨by rw [hU], by rw [hU]; exact hP, va_K.moved hW.alike hK, Nst.warm hW hN, by rw [hU]; exact Ext.moved hW.alike hE, hap⟩, by rw [hU]; exact XE.moved hW.alike hXE, Xw.warm hW hXw⟩⟩
      obtain ⟨z0, ⟨z1, z2, z3, z4, z5, z6⟩, z7, z8⟩ := z
      have hA9 : U.vm.Alike (U.calling g mk a).vm := Vm.Alike.refl U.vm
      exact ⟨z0, ⟨z1, z2, va_K.moved (u := U) hA9 z3, Nst.same (u := U) (U := U.calling g mk a) rfl z4, Ext.moved hA9 z5, z6⟩, XE.moved hA9 z7, Xw.same (u := U) (U := U.calling g mk a) rfl z8⟩
    refine vx_calli (A0 := A) (H0 := s.heap) (vx_runV (As := [.int x1, .int x2]) (rest := [.int 0, .ref o]) ⟨hx, hb, hml, hown, hts2⟩ (tX8_sortie (x1 := x1) (x2 := x2) hl hY h s.heap.size) cw hpre rfl rfl hl1.1 rfl (lv_room (Nat.le_of_ble_eq_true rfl)) dL_sortie_5 ⟨Nat.le_of_ble_eq_true rfl, Nat.le_of_ble_eq_true rfl⟩) hS0 (fun q _ h => hsub q h) hsub (fun q _ h => hsub q h) ?_ ?_
    · intro E ce q9 u t H1 locs1 ht hvm hq hBX hz hk hS1 hce hcv hcl
      obtain ⟨rfl, hP1⟩ := hBX
      rw [ht] at hP1
      have hPo1 : va_P Y.2.1 vwCl [(o, .inl (cL, 1, .inr (.inl f)))] H1 := hPo.kept (fun k y hy => hk _ ((hPo k y hy).lt) (by
        have h1 := (List.getElem?_eq_some_iff.mp hy).1
        simp at h1
        subst h1
        cases hy
        intro z
        rcases z with ⟨k, h2, h3⟩ | z
        · exact hdis k h2 h3.symm
        · have := (hPo 0 _ rfl).lt
          dsimp only at this z
          omega))
      refine vx_catch (name := nse) hown [] ⟨0, 10, 13, 13⟩ [] (by rw [htab]; rfl) (fun z hz => nomatch hz) (by decide) (by decide) (hts2 _ sc_law) (va_Nw.use rfl (hXw _ (List.mem_cons_self))) hce hcv hcl ?_
      refine lv_astore (lv' := [(4, .ref q9), (0, .ref (adr Y 0)), (1, .int x1), (2, .int x2), (3, .ref o)]) hx hb dL_sortie_13 hl1 (by decide) rfl (fun ls2 hl2 => ?_)
      refine lv_iconst (v := 1) hx hb dL_sortie_15 (by decide) ?_
      refine W.iret (Qc := QH Y M cL o f q s.heap.size) hx hb B.returns (fun t ht _ => ⟨⟨1, f, rfl, ⟨fun v hv => ?_, fun _ => rfl⟩, ⟨by show va_P _ _ _ t.heap; rw [ht]; exact hP1, by show va_P _ _ _ t.heap; rw [ht]; exact hPo1⟩⟩, by rw [← hAe]; exact hS1.F ht⟩) hS1.2.2 dL_sortie_16 B.notSynchronized
      rw [hq] at hv
      cases hv
    · intro r u t H1 locs1 ht hvm hq hB hz hk hS1
      have hP1 : va_P Y.2.1 vwCl (wsO Y M) H1 := by rw [← ht]; exact hB
      have hPo1 : va_P Y.2.1 vwCl [(o, .inl (cL, 1, .inr (.inl f)))] H1 := hPo.kept (fun k y hy => hk _ ((hPo k y hy).lt) (by
        have h1 := (List.getElem?_eq_some_iff.mp hy).1
        simp at h1
        subst h1
        cases hy
        intro z
        rcases z with ⟨k, h2, h3⟩ | z
        · exact hdis k h2 h3.symm
        · have := (hPo 0 _ rfl).lt
          dsimp only at this z
          omega))
      refine lv_i2l (v := r.toInt64) hx hb dL_sortie_8 rfl ?_
      refine va_last (D := Y.2.1) (cl := vwCl) (ws := wsO Y M ++ [(o, .inl (cL, 1, .inr (.inl f)))]) (A := A) (H0 := s.heap) hx hb hKo (hP1.app hPo1) (hD f) hS1 (wsO Y M).length 0 (cA := cL) (n := 1) (f := f) (by simp) rfl (i := 0) (inb_in (by decide)) dL_sortie_9 (fun H2 locs2 hP2 hD2 hS2 => ?_)
      rw [set_app] at hP2
      refine lv_goto (tgt := 17) hx hb dL_sortie_10 (by decide) ?_
      refine lv_iconst (v := 0) hx hb dL_sortie_17 (by decide) ?_
      refine W.iret (Qc := QH Y M cL o f q s.heap.size) hx hb B.returns (fun t ht _ => ⟨⟨0, vp_updL f 0 r.toInt64, rfl, ⟨fun v hv => ?_, fun hn => ?_⟩, ⟨by show va_P _ _ _ t.heap; rw [ht]; exact P_left hP2, by show va_P _ _ _ t.heap; rw [ht]; exact P_right hP2⟩⟩, by rw [← hAe]; exact hS2.F ht⟩) hS2.2.2 dL_sortie_18 B.notSynchronized
      · rw [hq] at hv
        cases hv
        exact ⟨rfl, rfl⟩
      · rw [hq] at hn
        cases hn
  have key : vx_Met l yL_sortie (Cond.codeWith yL_sortie cL_sortie 5 (some .int) [(0, 10, 13, 13)] :: gw) rmH (va_Pc [.ref (adr Y 0), .int x1, .int x2, .ref o] (PreH Y M cL o f sz)) (QH Y M cL o f q sz) (fun _ _ _ => False) 1 6 (fun q => AA Y sz q ∨ q = o) :=
    vx_ofWH (cc := cL_sortie) (maxL := 5) (ret := some .int) (by decide) rfl (fun p e s m args below meth c s₁ B hml hv => vx_ret (hc0 p e s m args below meth c s₁ B hml hv))
  intro p e ha hca hcl s m args below hf happ hP hK
  obtain ⟨n, o', h1, h2, h3, h4⟩ := key p e ha hca hcl s m args below hf happ hP hK
  refine ⟨n, o', h1, h2, h3, ?_⟩
  rcases h4 with h4 | ⟨q9, -, E, ce, L9, hF, -⟩
  · exact h4
  · exact hF.elim
