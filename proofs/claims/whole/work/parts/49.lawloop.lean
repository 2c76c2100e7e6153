/-! THE LAW'S LOOP over the pairs -/
set_option maxRecDepth 100000 in
set_option maxHeartbeats 4000000 in
theorem law_loop {Rel : Mm → Mm → Prop} (hPR : Pairs Rel) {K : Pk} {V : Lz} (C : Lx K V) : ∀ (n j : Nat) (M1 M2 : Mm) (f : Nat → Int64), lL V + 6 - 6 * j < n → 6 * j ≤ lL V → Rel M1 M2 → Wl K V M1 M2 f (61 + j) (1889 + 6 * j) 23 [(0, .ref (lb V)), (1, .ref (adr (lA V) 0)), (2, .ref (adr (lB V) 0)), (3, .ref (lo V)), (4, .int (nI (6 * j)))] [] := by
  intro n
  induction n with
  | zero => intro j M1 M2 f h; omega
  | succ n ih =>
    intro j M1 M2 f hn hj hR
    have hL : lL V ≤ 3072 := C.2.2.2.2.2.2.2.2.2.2.2.2.2.2.2.2
    refine l_iload C (pc := 23) dL_law_23 4 rfl ?_
    refine l_aload_n C (pc := 25) dL_law_25 0 rfl ?_
    refine l_slen C (pc := 26) dL_law_26 ?_
    refine l_bipush C (pc := 27) dL_law_27 (v := 6) (by decide) ?_
    refine l_isub C (pc := 29) dL_law_29 ?_
    have e6 : (nI (lL V) - 6).toInt = (lL V : Int) - 6 := by
      have := pk_sub_toInt (a := lL V) (b := 6) (by omega) (by omega)
      exact this
    have ej : (nI (6 * j)).toInt = ((6 * j : Nat) : Int) := nI_toInt (by omega)
    refine l_icgt C (pc := 30) 1050 dL_law_30 (by decide) (fun c => ?_) (fun c => ?_)
    · refine l_iconst C (pc := 1050) dL_law_1050 (v := 1) (by decide) ?_
      exact l_ret C (pc := 1051) dL_law_1051 (by omega) (by omega)
    · have hlt : 6 * j + 6 ≤ lL V := by
        rw [Int32.lt_iff_toInt_lt, e6, ej] at c
        omega
      have hin : ∀ k : Nat, k < 6 → vp_in (nI (6 * j) + nI k) (lL V) := fun k hk => by
        rw [nI_add]
        exact vp_in_nI (by omega) (by omega)
      have h0 : vp_in (nI (6 * j)) (lL V) := vp_in_nI (by omega) (by omega)
      refine l_aload_n C (pc := 33) dL_law_33 0 rfl ?_
      refine l_iload C (pc := 34) dL_law_34 4 rfl ?_
      refine l_sld C (pc := 36) dL_law_36 h0 ?_
      refine l_bipush C (pc := 37) dL_law_37 (v := 31) (by decide) ?_
      refine l_iand C (pc := 39) dL_law_39 ?_
      generalize hx : (lxs V (nI (6 * j)).toNatClampNeg) &&& 31 = x
      have E : ∀ M1 M2 f nc ns, Rel M1 M2 → nc ≤ 61 + (j + 1) → ns ≤ 1889 + 6 * (j + 1) → Wl K V M1 M2 f nc ns 1044 [(0, .ref (lb V)), (1, .ref (adr (lA V) 0)), (2, .ref (adr (lB V) 0)), (3, .ref (lo V)), (4, .int (nI (6 * j)))] [] := by
        intro M1 M2 f nc ns hR h1 h2
        refine l_widen h1 h2 ?_
        refine l_iinc C (pc := 1044) dL_law_1044 4 rfl (v := 6) (lv' := [(0, .ref (lb V)), (1, .ref (adr (lA V) 0)), (2, .ref (adr (lB V) 0)), (3, .ref (lo V)), (4, .int (nI (6 * j) + 6))]) (by decide) rfl rfl rfl ?_
        refine l_goto C (pc := 1047) 23 dL_law_1047 (by decide) ?_
        have e : nI (6 * j) + 6 = nI (6 * (j + 1)) := nI_add (6 * j) 6
        rw [e]
        exact ih (j + 1) M1 M2 f (by omega) (by omega) hR
      by_cases c0 : x = 0
      · refine l_swIn C (pc := 40) (v := 0) 164 dL_law_40 c0 (by decide) (by decide) rfl (by decide) ?_
        exact law_0 hPR C hR (by omega) (by omega) (by omega) (by omega) (hin 1 (by omega)) (hin 2 (by omega)) (hin 3 (by omega)) (hin 4 (by omega)) (hin 5 (by omega)) E
      by_cases c1 : x = 1
      · refine l_swIn C (pc := 40) (v := 1) 237 dL_law_40 c1 (by decide) (by decide) rfl (by decide) ?_
        exact law_1 hPR C hR (by omega) (by omega) (by omega) (by omega) (hin 1 (by omega)) (hin 2 (by omega)) (hin 3 (by omega)) (hin 4 (by omega)) (hin 5 (by omega)) E
      by_cases c2 : x = 2
      · refine l_swIn C (pc := 40) (v := 2) 262 dL_law_40 c2 (by decide) (by decide) rfl (by decide) ?_
        exact law_2 hPR C hR (by omega) (by omega) (by omega) (by omega) (hin 1 (by omega)) (hin 2 (by omega)) (hin 3 (by omega)) (hin 4 (by omega)) (hin 5 (by omega)) E
      by_cases c3 : x = 3
      · refine l_swIn C (pc := 40) (v := 3) 275 dL_law_40 c3 (by decide) (by decide) rfl (by decide) ?_
        exact law_3 hPR C hR (by omega) (by omega) (by omega) (by omega) (hin 1 (by omega)) (hin 2 (by omega)) (hin 3 (by omega)) (hin 4 (by omega)) (hin 5 (by omega)) E
      by_cases c4 : x = 4
      · refine l_swIn C (pc := 40) (v := 4) 288 dL_law_40 c4 (by decide) (by decide) rfl (by decide) ?_
        exact law_4 hPR C hR (by omega) (by omega) (by omega) (by omega) (hin 1 (by omega)) (hin 2 (by omega)) (hin 3 (by omega)) (hin 4 (by omega)) (hin 5 (by omega)) E
      by_cases c5 : x = 5
      · refine l_swIn C (pc := 40) (v := 5) 361 dL_law_40 c5 (by decide) (by decide) rfl (by decide) ?_
        exact law_5 hPR C hR (by omega) (by omega) (by omega) (by omega) (hin 1 (by omega)) (hin 2 (by omega)) (hin 3 (by omega)) (hin 4 (by omega)) (hin 5 (by omega)) E
      by_cases c6 : x = 6
      · refine l_swIn C (pc := 40) (v := 6) 374 dL_law_40 c6 (by decide) (by decide) rfl (by decide) ?_
        exact law_6 hPR C hR (by omega) (by omega) (by omega) (by omega) (hin 1 (by omega)) (hin 2 (by omega)) (hin 3 (by omega)) (hin 4 (by omega)) (hin 5 (by omega)) E
      by_cases c7 : x = 7
      · refine l_swIn C (pc := 40) (v := 7) 411 dL_law_40 c7 (by decide) (by decide) rfl (by decide) ?_
        exact law_7 hPR C hR (by omega) (by omega) (by omega) (by omega) (hin 1 (by omega)) (hin 2 (by omega)) (hin 3 (by omega)) (hin 4 (by omega)) (hin 5 (by omega)) E
      by_cases c8 : x = 8
      · refine l_swIn C (pc := 40) (v := 8) 436 dL_law_40 c8 (by decide) (by decide) rfl (by decide) ?_
        exact law_8 hPR C hR (by omega) (by omega) (by omega) (by omega) (hin 1 (by omega)) (hin 2 (by omega)) (hin 3 (by omega)) (hin 4 (by omega)) (hin 5 (by omega)) E
      by_cases c9 : x = 9
      · refine l_swIn C (pc := 40) (v := 9) 497 dL_law_40 c9 (by decide) (by decide) rfl (by decide) ?_
        exact law_9 hPR C hR (by omega) (by omega) (by omega) (by omega) (hin 1 (by omega)) (hin 2 (by omega)) (hin 3 (by omega)) (hin 4 (by omega)) (hin 5 (by omega)) E
      by_cases c10 : x = 10
      · refine l_swIn C (pc := 40) (v := 10) 538 dL_law_40 c10 (by decide) (by decide) rfl (by decide) ?_
        exact law_10 hPR C hR (by omega) (by omega) (by omega) (by omega) (hin 1 (by omega)) (hin 2 (by omega)) (hin 3 (by omega)) (hin 4 (by omega)) (hin 5 (by omega)) E
      by_cases c11 : x = 11
      · refine l_swIn C (pc := 40) (v := 11) 549 dL_law_40 c11 (by decide) (by decide) rfl (by decide) ?_
        exact law_11 hPR C hR (by omega) (by omega) (by omega) (by omega) (hin 1 (by omega)) (hin 2 (by omega)) (hin 3 (by omega)) (hin 4 (by omega)) (hin 5 (by omega)) E
      by_cases c12 : x = 12
      · refine l_swIn C (pc := 40) (v := 12) 574 dL_law_40 c12 (by decide) (by decide) rfl (by decide) ?_
        exact law_12 hPR C hR (by omega) (by omega) (by omega) (by omega) (hin 1 (by omega)) (hin 2 (by omega)) (hin 3 (by omega)) (hin 4 (by omega)) (hin 5 (by omega)) E
      by_cases c13 : x = 13
      · refine l_swIn C (pc := 40) (v := 13) 611 dL_law_40 c13 (by decide) (by decide) rfl (by decide) ?_
        exact law_13 hPR C hR (by omega) (by omega) (by omega) (by omega) (hin 1 (by omega)) (hin 2 (by omega)) (hin 3 (by omega)) (hin 4 (by omega)) (hin 5 (by omega)) E
      by_cases c14 : x = 14
      · refine l_swIn C (pc := 40) (v := 14) 676 dL_law_40 c14 (by decide) (by decide) rfl (by decide) ?_
        exact law_14 hPR C hR (by omega) (by omega) (by omega) (by omega) (hin 1 (by omega)) (hin 2 (by omega)) (hin 3 (by omega)) (hin 4 (by omega)) (hin 5 (by omega)) E
      by_cases c15 : x = 15
      · refine l_swIn C (pc := 40) (v := 15) 744 dL_law_40 c15 (by decide) (by decide) rfl (by decide) ?_
        exact law_15 hPR C hR (by omega) (by omega) (by omega) (by omega) (hin 1 (by omega)) (hin 2 (by omega)) (hin 3 (by omega)) (hin 4 (by omega)) (hin 5 (by omega)) E
      by_cases c16 : x = 16
      · refine l_swIn C (pc := 40) (v := 16) 757 dL_law_40 c16 (by decide) (by decide) rfl (by decide) ?_
        exact law_16 hPR C hR (by omega) (by omega) (by omega) (by omega) (hin 1 (by omega)) (hin 2 (by omega)) (hin 3 (by omega)) (hin 4 (by omega)) (hin 5 (by omega)) E
      by_cases c17 : x = 17
      · refine l_swIn C (pc := 40) (v := 17) 770 dL_law_40 c17 (by decide) (by decide) rfl (by decide) ?_
        exact law_17 hPR C hR (by omega) (by omega) (by omega) (by omega) (hin 1 (by omega)) (hin 2 (by omega)) (hin 3 (by omega)) (hin 4 (by omega)) (hin 5 (by omega)) E
      by_cases c18 : x = 18
      · refine l_swIn C (pc := 40) (v := 18) 807 dL_law_40 c18 (by decide) (by decide) rfl (by decide) ?_
        exact law_18 hPR C hR (by omega) (by omega) (by omega) (by omega) (hin 1 (by omega)) (hin 2 (by omega)) (hin 3 (by omega)) (hin 4 (by omega)) (hin 5 (by omega)) E
      by_cases c19 : x = 19
      · refine l_swIn C (pc := 40) (v := 19) 844 dL_law_40 c19 (by decide) (by decide) rfl (by decide) ?_
        exact law_19 hPR C hR (by omega) (by omega) (by omega) (by omega) (hin 1 (by omega)) (hin 2 (by omega)) (hin 3 (by omega)) (hin 4 (by omega)) (hin 5 (by omega)) E
      by_cases c20 : x = 20
      · refine l_swIn C (pc := 40) (v := 20) 881 dL_law_40 c20 (by decide) (by decide) rfl (by decide) ?_
        exact law_20 hPR C hR (by omega) (by omega) (by omega) (by omega) (hin 1 (by omega)) (hin 2 (by omega)) (hin 3 (by omega)) (hin 4 (by omega)) (hin 5 (by omega)) E
      by_cases c21 : x = 21
      · refine l_swIn C (pc := 40) (v := 21) 906 dL_law_40 c21 (by decide) (by decide) rfl (by decide) ?_
        exact law_21 hPR C hR (by omega) (by omega) (by omega) (by omega) (hin 1 (by omega)) (hin 2 (by omega)) (hin 3 (by omega)) (hin 4 (by omega)) (hin 5 (by omega)) E
      by_cases c22 : x = 22
      · refine l_swIn C (pc := 40) (v := 22) 931 dL_law_40 c22 (by decide) (by decide) rfl (by decide) ?_
        exact law_22 hPR C hR (by omega) (by omega) (by omega) (by omega) (hin 1 (by omega)) (hin 2 (by omega)) (hin 3 (by omega)) (hin 4 (by omega)) (hin 5 (by omega)) E
      by_cases c23 : x = 23
      · refine l_swIn C (pc := 40) (v := 23) 956 dL_law_40 c23 (by decide) (by decide) rfl (by decide) ?_
        exact law_23 hPR C hR (by omega) (by omega) (by omega) (by omega) (hin 1 (by omega)) (hin 2 (by omega)) (hin 3 (by omega)) (hin 4 (by omega)) (hin 5 (by omega)) E
      by_cases c24 : x = 24
      · refine l_swIn C (pc := 40) (v := 24) 969 dL_law_40 c24 (by decide) (by decide) rfl (by decide) ?_
        exact law_24 hPR C hR (by omega) (by omega) (by omega) (by omega) (hin 1 (by omega)) (hin 2 (by omega)) (hin 3 (by omega)) (hin 4 (by omega)) (hin 5 (by omega)) E
      by_cases c25 : x = 25
      · refine l_swIn C (pc := 40) (v := 25) 982 dL_law_40 c25 (by decide) (by decide) rfl (by decide) ?_
        exact law_25 hPR C hR (by omega) (by omega) (by omega) (by omega) (hin 1 (by omega)) (hin 2 (by omega)) (hin 3 (by omega)) (hin 4 (by omega)) (hin 5 (by omega)) E
      by_cases c26 : x = 26
      · refine l_swIn C (pc := 40) (v := 26) 1007 dL_law_40 c26 (by decide) (by decide) rfl (by decide) ?_
        exact law_26 hPR C hR (by omega) (by omega) (by omega) (by omega) (hin 1 (by omega)) (hin 2 (by omega)) (hin 3 (by omega)) (hin 4 (by omega)) (hin 5 (by omega)) E
      refine l_swOut C (pc := 40) 1044 dL_law_40 (by have q0 := lv_neT c0 (a := 0) rfl; have q1 := lv_neT c1 (a := 1) rfl; have q2 := lv_neT c2 (a := 2) rfl; have q3 := lv_neT c3 (a := 3) rfl; have q4 := lv_neT c4 (a := 4) rfl; have q5 := lv_neT c5 (a := 5) rfl; have q6 := lv_neT c6 (a := 6) rfl; have q7 := lv_neT c7 (a := 7) rfl; have q8 := lv_neT c8 (a := 8) rfl; have q9 := lv_neT c9 (a := 9) rfl; have q10 := lv_neT c10 (a := 10) rfl; have q11 := lv_neT c11 (a := 11) rfl; have q12 := lv_neT c12 (a := 12) rfl; have q13 := lv_neT c13 (a := 13) rfl; have q14 := lv_neT c14 (a := 14) rfl; have q15 := lv_neT c15 (a := 15) rfl; have q16 := lv_neT c16 (a := 16) rfl; have q17 := lv_neT c17 (a := 17) rfl; have q18 := lv_neT c18 (a := 18) rfl; have q19 := lv_neT c19 (a := 19) rfl; have q20 := lv_neT c20 (a := 20) rfl; have q21 := lv_neT c21 (a := 21) rfl; have q22 := lv_neT c22 (a := 22) rfl; have q23 := lv_neT c23 (a := 23) rfl; have q24 := lv_neT c24 (a := 24) rfl; have q25 := lv_neT c25 (a := 25) rfl; have q26 := lv_neT c26 (a := 26) rfl; omega) (by decide) ?_
      exact E M1 M2 f _ _ hR (by omega) (by omega)
