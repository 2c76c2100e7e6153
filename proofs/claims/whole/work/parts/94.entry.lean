set_option maxRecDepth 100000 in
set_option maxHeartbeats 4000000 in
/-- from the entry, for every script, the law comes to its end with true -/
theorem whole_start {p : Program} {e : Env} {s : State} {m : MethodId} {below : List Frame} {meth : Method} {c : Code} (l : Launch) (hflags : l.flags = flags0) {b L : Nat} {xs : Nat → Int32} (hL : L ≤ 3072) (C0 : lw_At p s m meth c b L xs) : W p l e room_1 s m #[Value.ref b] below meth c s.heap [] 0 0 (lw_Z below #[Value.ref b] s) (entryFrame m ([Value.ref b] : List Value).toArray 7) := by
  obtain ⟨hx, hb, hr, hml, hown, hts, hX, hbl, hlocks, hgv⟩ := id C0
  have hf : ∀ c ∈ FLT, c.before #[Value.ref b] s = true := flat_of_before _ hgv
  have hg : ∀ w ∈ gw, w.before #[Value.ref b] s = true := fun w hw => hts w (List.mem_filter.mp hw).1
  obtain ⟨K, hK⟩ : ∃ K : Pk, K = (p, l, e, room_1, s, m, #[Value.ref b], below, meth, c) := ⟨_, rfl⟩
  have hA : ∀ q : Nat, s.heap.size ≤ q → lnew K q := fun q h => by rw [hK]; exact h
  have hnA : ∀ a : Nat, a < s.heap.size → ¬ lnew K a := fun a h => by rw [hK]; exact Nat.not_le.mpr h
  obtain ⟨sa, hsa, e3⟩ := st_all (A := lnew K) hf hts hnA
  obtain ⟨ka', kv, hk1, hk2⟩ := sk_all (A := lnew K) hf hts hnA
  obtain ⟨cellF, f1, f2, f3, f4, f5⟩ := sf_ok hf e3
  obtain ⟨c0, i0, k0⟩ := u_known (C := RX0) (T := TX0) (N := 11) (n := 11) hg inWX0 (hg _ sw_n0)
  obtain ⟨c1, i1, k1⟩ := u_known (C := RX1) (T := TX1) (N := 2) (n := 2) hg inWX1 (hg _ sw_n1)
  obtain ⟨c2, i2, k2⟩ := u_known (C := RX2) (T := TX2) (N := 3) (n := 3) hg inWX2 (hg _ sw_n2)
  obtain ⟨c3, i3, k3⟩ := u_known (C := RX3) (T := TX3) (N := 3) (n := 3) hg inWX3 (hg _ sw_n3)
  obtain ⟨c4, i4, k4⟩ := u_known (C := RX4) (T := TX4) (N := 4) (n := 4) hg inWX4 (hg _ sw_n4)
  obtain ⟨c5, i5, k5⟩ := u_known (C := RX5) (T := TX5) (N := 18) (n := 18) hg inWX5 (hg _ sw_n5)
  obtain ⟨c6, i6, k6⟩ := u_known (C := RX6) (T := TX6) (N := 2) (n := 2) hg inWX6 (hg _ sw_n6)
  obtain ⟨c7, i7, k7⟩ := u_known (C := RX7) (T := TX7) (N := 10) (n := 10) hg inWX7 (hg _ sw_n7)
  obtain ⟨c8, i8, k8⟩ := u_known (C := RX8) (T := TX8) (N := 8) (n := 8) hg inWX8 (hg _ sw_n8)
  obtain ⟨c9, i9, k9⟩ := u_known (C := RX9) (T := TX9) (N := 27) (n := 27) hg inWX9 (hg _ sw_n9)
  obtain ⟨cI, aI, nI'⟩ := arr_ok (hg _ arc_int)
  obtain ⟨cZ, aZ, nZ⟩ := arr_ok (hg _ arc_boolean)
  obtain ⟨cB, aB, nB⟩ := arr_ok (hg _ arc_byte)
  obtain ⟨D, hD0⟩ : ∃ D : va_G, ∀ (k : Nat) (q : vw_C), vwCl[k]? = some q → u_Kn s q.1 q.2.1 q.2.2 (D.1 k) (D.2 k) := by
    refine ⟨(fun k => [c0, c1, c2, c3, c4, c5, c6, c7, c8, c9].getD k c0, fun k => [i0, i1, i2, i3, i4, i5, i6, i7, i8, i9].getD k i0), ?_⟩
    intro k q hq
    match k, hq with
    | 0, hq => cases hq; exact k0
    | 1, hq => cases hq; exact k1
    | 2, hq => cases hq; exact k2
    | 3, hq => cases hq; exact k3
    | 4, hq => cases hq; exact k4
    | 5, hq => cases hq; exact k5
    | 6, hq => cases hq; exact k6
    | 7, hq => cases hq; exact k7
    | 8, hq => cases hq; exact k8
    | 9, hq => cases hq; exact k9
    | k + 10, hq => simp [vwCl] at hq
  obtain ⟨G, hG⟩ : ∃ G : Gx, G = (D, tyf cI cZ cB, sa 3) := ⟨_, rfl⟩
  have hKK : va_K G.1 vwCl (gtys G) s := by
    subst hG
    refine ⟨hD0, ?_⟩
    intro k q hq
    match k, hq with
    | 0, hq => cases hq; exact ⟨aI, nI'⟩
    | 1, hq => cases hq; exact ⟨aZ, nZ⟩
    | 2, hq => cases hq; exact ⟨aB, nB⟩
    | k + 3, hq => simp [gtys] at hq
  have hSF : SF G (lnew K) s s.heap := by
    subst hG
    exact ⟨(hsa 3 _ rfl).1, cellF, f1, f2, f3, f4, f5, hnA _ (Array.getElem?_eq_some_iff.mp f1).1⟩
  have hNs : ∀ w ∈ nw, va_Nw w s := fun w hw => va_Nw.of (nst_on (List.mem_filter.mp hw).2) (hts w (List.mem_filter.mp hw).1)
  have hNI : NsI s := ⟨hNs, va_Nw.of rfl (hts _ sw_cast)⟩
  have hXw : Xw s := by
    intro w hw
    have on := xwl_on w hw
    simp only [xwl, List.mem_cons, List.mem_nil_iff, or_false] at hw
    rcases hw with rfl | rfl | rfl | rfl
    · exact va_Nw.of on (hts _ sw_x0)
    · exact va_Nw.of on (hts _ sw_x1)
    · exact va_Nw.of on (hts _ sw_x2)
    · exact va_Nw.of on (hts _ sw_x3)
  have hXE : XE (lnew K) s s.heap := ⟨vx_Zqof (hts _ sw_l7) (hts _ sw_i7) (hf _ fr_7') hnA, vx_Zqof (hts _ sw_l8) (hts _ sw_i8) (hf _ fr_8') hnA⟩
  have hC5 : va_Z "java/lang/String" "COMPACT_STRINGS" "Z" (.int 1) (lnew K) s s.heap := va_Zof (hts _ sw_l5) (hts _ sw_i5) (va_eqt (hf _ fc_5')) hnA
  have hC6 : va_Zq "jdk/internal/util/Preconditions" "SIOOBE_FORMATTER" "Ljava/util/function/BiFunction;" (lnew K) s s.heap := va_Zqof (hts _ sw_l6) (hts _ sw_i6) (hf _ fr_6') hnA
  have hst : l.stackTraces = false := by
    unfold Launch.stackTraces
    rw [hflags]
    decide +kernel
  have C : Cw K (code, RL, 7, room_1) G (lnew K) := by
    have hA' := hA
    have hSF' := hSF
    subst hK
    exact ⟨hx, hb, hml, hown, hg, hNI, hKK, hA', hSF', hlocks, rfl, trivial⟩
  have body : Wi K (code, RL, 7, room_1) G (lnew K) (lw_Z (kb K) (ka K) (ks K)) [] 0 0 0 [(0, .ref b)] [] := by
    refine cw_new C (pc := 0) dL_law_0 nc_L_8 rfl rfl (ws' := fun q => [(q, .inr (8, [.null, .null, .null, .null, .null, .null, .null, .null]))]) (fun q => rfl) (fun h8 => ?_)
    refine cw_dup C (pc := 3) dL_law_3 rfl ?_
    refine cw_call C (pc := 4) dL_law_4 iy_X8_init ii_X8_init rfl ml_L_15 (wr := []) (h0 := h8) (st := [.ref h8]) rfl ⟨rfl, rfl⟩ rfl rfl [] rfl rfl (Nat.le_of_ble_eq_true rfl) (nX8_init G h8) (fun w1 hw1 => ?_)
    obtain ⟨q1, q2, q3, q4, q5, q6, q7, q8, q9, q10, q11, q12, q13, q14, q15, q16, q17, q18, q19, q20, q21, q22, q23, q24, q25, q26, q27, q28, q29, q30, q31, q32, q33, q34, q35, q36, q37, q38, q39, q40, rfl⟩ := hw1
    refine cw_astore C (pc := 7) (lv' := [(1, .ref h8), (0, .ref b)]) dL_law_7 rfl rfl ?_
    rw [List.nil_append, ← wsA_0 G sa ka' kv]
    generalize hYA : ((shA, G.1, G.2.1, (fun k => ([h8, q1, q2, q3, q4, q5, q6, q7, q8, q9, q10, q11, q12, q13, q14, q15, q16, q17, q18, q19, q20, q21, q22, q23, q24, q25, q26, q27, q28, q29, q30, q31, q32, q33, q34, q35, q36, q37, q38, q39, q40]).getD k 0), sa, ka', kv) : Sx) = YA
    refine cw_new C (pc := 8) dL_law_8 nc_L_16 rfl rfl (ws' := fun q => wsO YA M0A ++ [(q, .inr (9, [.int 0, .null, .null, .null, .int 0, .int 0, .int 0, .int 0, .int 0, .null, .null, .null, .null, .null, .null, .null, .null, .null, .int 0, .null, .null, .null, .null, .null, .null, .int 0, .int 0]))]) (fun q => rfl) (fun h9 => ?_)
    refine cw_dup C (pc := 11) dL_law_11 rfl ?_
    refine cw_call C (pc := 12) dL_law_12 iy_X9_init ii_X9_init rfl ml_L_18 (wr := wsO YA M0A) (h0 := h9) (st := [.ref h9]) rfl ⟨rfl, rfl⟩ rfl rfl [] rfl rfl (Nat.le_of_ble_eq_true rfl) (nX9_init G h9) (fun w1 hw1 => ?_)
    obtain ⟨r1, r2, r3, r4, r5, r6, r7, r8, r9, r10, r11, r12, r13, r14, r15, r16, r17, r18, rfl⟩ := hw1
    refine cw_astore C (pc := 15) (lv' := [(2, .ref h9), (1, .ref h8), (0, .ref b)]) dL_law_15 rfl rfl ?_
    rw [← wsB_0 G sa ka' kv]
    generalize hYB : ((shB, G.1, G.2.1, (fun k => ([h9, r1, r2, r3, r4, r5, r6, r7, r8, r9, r10, r11, r12, r13, r14, r15, r16, r17, r18]).getD k 0), sa, ka', kv) : Sx) = YB
    refine cw_iconst C (pc := 16) dL_law_16 (v := 1) (by decide) ?_
    refine cw_newl C (pc := 17) (ws' := fun q cA => (wsO YA M0A ++ wsO YB M0B) ++ [(q, .inl (cA, 1, .inr (.inl fun _ => 0)))]) dL_law_17 rfl rfl rfl (fun q cA => rfl) (fun o cA hKL => ?_)
    refine cw_astore C (pc := 19) (lv' := [(3, .ref o), (2, .ref h9), (1, .ref h8), (0, .ref b)]) dL_law_19 rfl rfl ?_
    refine cw_iconst C (pc := 20) dL_law_20 (v := 0) (by decide) ?_
    refine cw_istore C (pc := 21) (lv' := [(4, .int 0), (3, .ref o), (2, .ref h9), (1, .ref h8), (0, .ref b)]) dL_law_21 rfl rfl ?_
    intro H locs ls hP hD hS hl
    rw [List.append_assoc] at hP hD
    obtain ⟨V, hV⟩ : ∃ V : Lz, V = (YA, YB, cA, o, b, L, xs) := ⟨_, rfl⟩
    have hA0 : adr YA 0 = h8 := by rw [← hYA]; rfl
    have hB0 : adr YB 0 = h9 := by rw [← hYB]; rfl
    have isa : isA YA := by rw [← hYA]; rfl
    have isb : isB YB := by rw [← hYB]; rfl
    have ydA : YA.2.1 = G.1 := by rw [← hYA]
    have ydB : YB.2.1 = G.1 := by rw [← hYB]
    have ytA : tyl YA = gtys G := by rw [← hYA]; rfl
    have ytB : tyl YB = gtys G := by rw [← hYB]; rfl
    have exA : Ext YA (lnew K) s s.heap := by rw [← hYA]; exact ⟨hsa, hk1, hC5, hC6⟩
    have exB : Ext YB (lnew K) s s.heap := by rw [← hYB]; exact ⟨hsa, hk1, hC5, hC6⟩
    have nsA : Nst YA s := by rw [← hYA]; exact ⟨hNs, hk2⟩
    have nsB : Nst YB s := by rw [← hYB]; exact ⟨hNs, hk2⟩
    have hDl : va_D (lnew K) (lws V M0A M0B (fun _ => 0)) := by rw [hV]; exact hD
    have hDA : va_D (lnew K) (wsO YA M0A) := by
      refine ⟨fun i j p q hi hj e => hD.1 i j p q (in_app1 hi) (in_app1 hj) e, fun k q hq => hD.2 k q (in_app1 hq)⟩
    have hDB : va_D (lnew K) (wsO YB M0B) := by
      refine ⟨fun i j p q hi hj e => ?_, fun k q hq => hD.2 _ q (in_app2 (in_app1 hq))⟩
      have := hD.1 _ _ p q (in_app2 (in_app1 hi)) (in_app2 (in_app1 hj)) e
      omega
    have LX : Lx K V := by
      have eks : ks K = s := by rw [hK]
      rw [hV]
      refine ⟨C.1, C.2.1, ?_, C.2.2.1, C.2.2.2.1, C.2.2.2.2.1, ⟨?_, ?_⟩, ⟨?_, ?_, ?_, ?_⟩, ⟨apt_of hDA, apt_of hDB, fun M1 M2 f => ?_⟩, ⟨?_, ?_, ?_, ?_⟩, ⟨?_, ?_⟩, ⟨isa, isb⟩, ?_, ?_, ?_, ?_, hL⟩
      · rw [hK]; exact hr
      · rw [eks]; exact nsA
      · rw [eks]; exact nsB
      · show va_K YA.2.1 vwCl (tyl YA) (ks K)
        rw [ydA, ytA, eks]; exact hKK
      · show va_K YB.2.1 vwCl (tyl YB) (ks K)
        rw [ydB, ytB, eks]; exact hKK
      · show va_K YA.2.1 vwCl [(cA, .long)] (ks K)
        rw [ydA]; exact hKL
      · show YB.2.1 = YA.2.1
        rw [ydA, ydB]
      · rw [← hV]; exact lws_D hDl M1 M2 f
      · rw [eks]; exact exA
      · rw [eks]; exact exB
      · rw [eks]; exact hXE
      · rw [eks]; exact hXw
      · rw [eks]; exact hX
      · rw [eks]; exact hbl
      · rw [hK]; exact hst
      · rw [hK]
      · rw [hK]; exact hlocks
      · rw [hK]
    have go := law_loop pairs_all LX (L + 7) 0 M0A M0B (fun _ => 0) (by rw [hV]; show L + 6 - 6 * 0 < L + 7; omega) (by omega) rel_0
    have go2 := go H locs ls (by rw [hV]; show va_P YA.2.1 vwCl _ H; rw [ydA]; exact hP) hS (by
      have z := lv_sub hl [4, 3, 2, 1, 0] rfl
      rw [hV]
      show lv_has ls 7 [(0, .ref b), (1, .ref (adr YA 0)), (2, .ref (adr YB 0)), (3, .ref o), (4, .int (nI (6 * 0)))]
      rw [hA0, hB0]
      exact z)
    exact go2
  have hl := lv_entry ([.ref b]) (n := 7) (Nat.le_of_ble_eq_true rfl)
  rw [lg_entry_eq]
  have fin := body s.heap [] _ (fun k q h => by simp at h) ⟨fun i j p q h => by simp at h, fun k q h => by simp at h⟩ (by rw [hK]; exact va_S.rf) hl
  rw [hK] at fin
  exact fin
