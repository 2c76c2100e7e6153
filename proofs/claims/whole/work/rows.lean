section
-- ===== PART A: goes FIRST, ahead of the names: the tables' words, and 'selects' of the private methods out of them =====
/-- a private method of a class that the tables say can be made, by its rows of tables_1 -/
def lw_okq (q : MethodName × Nat) : Prop := (q.1.cls ≠ "java/lang/invoke/MethodHandle" ∧ q.1.cls ≠ "java/lang/invoke/VarHandle") ∧ Cond.instantiable q.1.cls q.2 ∈ tables_1 ∧ Cond.privateMethod q.1 ∈ tables_1 ∧ Cond.instanceMethod q.1 ∈ tables_1
theorem lw_p0 : lw_okq (⟨"TruckWing$Tape", "append", "(I)V"⟩, 2) := ⟨⟨by decide +kernel, by decide +kernel⟩, List.mem_of_getElem? (i := 204) (by decide +kernel), List.mem_of_getElem? (i := 312) (by decide +kernel), List.mem_of_getElem? (i := 313) (by decide +kernel)⟩
theorem lw_p1 : lw_okq (⟨"TruckWing$Teller", "read", "(LTruckWing$Land;LTruckWing$Plan;)I"⟩, 10) := ⟨⟨by decide +kernel, by decide +kernel⟩, List.mem_of_getElem? (i := 219) (by decide +kernel), List.mem_of_getElem? (i := 324) (by decide +kernel), List.mem_of_getElem? (i := 325) (by decide +kernel)⟩
theorem lw_p2 : lw_okq (⟨"TruckWing$Land", "copyOf", "(LTruckWing$Land;)V"⟩, 3) := ⟨⟨by decide +kernel, by decide +kernel⟩, List.mem_of_getElem? (i := 31) (by decide +kernel), List.mem_of_getElem? (i := 328) (by decide +kernel), List.mem_of_getElem? (i := 329) (by decide +kernel)⟩
theorem lw_p3 : lw_okq (⟨"TruckWing$Plan", "copyOf", "(LTruckWing$Plan;)V"⟩, 4) := ⟨⟨by decide +kernel, by decide +kernel⟩, List.mem_of_getElem? (i := 61) (by decide +kernel), List.mem_of_getElem? (i := 335) (by decide +kernel), List.mem_of_getElem? (i := 336) (by decide +kernel)⟩
theorem lw_p4 : lw_okq (⟨"TruckWing$Teller", "step", "()V"⟩, 10) := ⟨⟨by decide +kernel, by decide +kernel⟩, List.mem_of_getElem? (i := 219) (by decide +kernel), List.mem_of_getElem? (i := 340) (by decide +kernel), List.mem_of_getElem? (i := 341) (by decide +kernel)⟩
theorem lw_p5 : lw_okq (⟨"TruckWing$Tape", "hasBlankAt", "(I)Z"⟩, 2) := ⟨⟨by decide +kernel, by decide +kernel⟩, List.mem_of_getElem? (i := 204) (by decide +kernel), List.mem_of_getElem? (i := 344) (by decide +kernel), List.mem_of_getElem? (i := 345) (by decide +kernel)⟩
theorem lw_p6 : lw_okq (⟨"TruckWing$Tape", "byteAt", "(I)I"⟩, 2) := ⟨⟨by decide +kernel, by decide +kernel⟩, List.mem_of_getElem? (i := 204) (by decide +kernel), List.mem_of_getElem? (i := 348) (by decide +kernel), List.mem_of_getElem? (i := 349) (by decide +kernel)⟩
theorem lw_p7 : lw_okq (⟨"TruckWing$Tape", "hasLetterAt", "(I)Z"⟩, 2) := ⟨⟨by decide +kernel, by decide +kernel⟩, List.mem_of_getElem? (i := 204) (by decide +kernel), List.mem_of_getElem? (i := 353) (by decide +kernel), List.mem_of_getElem? (i := 354) (by decide +kernel)⟩
theorem lw_p8 : lw_okq (⟨"TruckWing$Teller", "stepWord", "()V"⟩, 10) := ⟨⟨by decide +kernel, by decide +kernel⟩, List.mem_of_getElem? (i := 219) (by decide +kernel), List.mem_of_getElem? (i := 357) (by decide +kernel), List.mem_of_getElem? (i := 358) (by decide +kernel)⟩
theorem lw_p9 : lw_okq (⟨"TruckWing$Tape", "hasDigitAt", "(I)Z"⟩, 2) := ⟨⟨by decide +kernel, by decide +kernel⟩, List.mem_of_getElem? (i := 204) (by decide +kernel), List.mem_of_getElem? (i := 361) (by decide +kernel), List.mem_of_getElem? (i := 362) (by decide +kernel)⟩
theorem lw_p10 : lw_okq (⟨"TruckWing$Teller", "stepInt", "(II)V"⟩, 10) := ⟨⟨by decide +kernel, by decide +kernel⟩, List.mem_of_getElem? (i := 219) (by decide +kernel), List.mem_of_getElem? (i := 365) (by decide +kernel), List.mem_of_getElem? (i := 366) (by decide +kernel)⟩
theorem lw_p11 : lw_okq (⟨"TruckWing$Teller", "whatIsTold", "()I"⟩, 10) := ⟨⟨by decide +kernel, by decide +kernel⟩, List.mem_of_getElem? (i := 219) (by decide +kernel), List.mem_of_getElem? (i := 369) (by decide +kernel), List.mem_of_getElem? (i := 370) (by decide +kernel)⟩
theorem lw_p12 : lw_okq (⟨"TruckWing$Teller", "isWord", "(Ljava/lang/String;)Z"⟩, 10) := ⟨⟨by decide +kernel, by decide +kernel⟩, List.mem_of_getElem? (i := 219) (by decide +kernel), List.mem_of_getElem? (i := 374) (by decide +kernel), List.mem_of_getElem? (i := 375) (by decide +kernel)⟩
theorem lw_p13 : lw_okq (⟨"TruckWing$Teller", "readStatement", "(I)Z"⟩, 10) := ⟨⟨by decide +kernel, by decide +kernel⟩, List.mem_of_getElem? (i := 219) (by decide +kernel), List.mem_of_getElem? (i := 430) (by decide +kernel), List.mem_of_getElem? (i := 431) (by decide +kernel)⟩
theorem lw_p14 : lw_okq (⟨"TruckWing$Teller", "refuse", "(I)Z"⟩, 10) := ⟨⟨by decide +kernel, by decide +kernel⟩, List.mem_of_getElem? (i := 219) (by decide +kernel), List.mem_of_getElem? (i := 434) (by decide +kernel), List.mem_of_getElem? (i := 435) (by decide +kernel)⟩
theorem lw_p15 : lw_okq (⟨"TruckWing$Teller", "least", "(I)I"⟩, 10) := ⟨⟨by decide +kernel, by decide +kernel⟩, List.mem_of_getElem? (i := 219) (by decide +kernel), List.mem_of_getElem? (i := 440) (by decide +kernel), List.mem_of_getElem? (i := 441) (by decide +kernel)⟩
def lw_privs_1 : List (MethodName × Nat) := [(⟨"TruckWing$Tape", "append", "(I)V"⟩, 2), (⟨"TruckWing$Teller", "read", "(LTruckWing$Land;LTruckWing$Plan;)I"⟩, 10), (⟨"TruckWing$Land", "copyOf", "(LTruckWing$Land;)V"⟩, 3), (⟨"TruckWing$Plan", "copyOf", "(LTruckWing$Plan;)V"⟩, 4), (⟨"TruckWing$Teller", "step", "()V"⟩, 10), (⟨"TruckWing$Tape", "hasBlankAt", "(I)Z"⟩, 2), (⟨"TruckWing$Tape", "byteAt", "(I)I"⟩, 2), (⟨"TruckWing$Tape", "hasLetterAt", "(I)Z"⟩, 2), (⟨"TruckWing$Teller", "stepWord", "()V"⟩, 10), (⟨"TruckWing$Tape", "hasDigitAt", "(I)Z"⟩, 2), (⟨"TruckWing$Teller", "stepInt", "(II)V"⟩, 10), (⟨"TruckWing$Teller", "whatIsTold", "()I"⟩, 10), (⟨"TruckWing$Teller", "isWord", "(Ljava/lang/String;)Z"⟩, 10), (⟨"TruckWing$Teller", "readStatement", "(I)Z"⟩, 10), (⟨"TruckWing$Teller", "refuse", "(I)Z"⟩, 10), (⟨"TruckWing$Teller", "least", "(I)I"⟩, 10)]
theorem lw_r1 : ∀ q ∈ lw_privs_1, lw_okq q := List.forall_mem_cons.mpr ⟨lw_p0, List.forall_mem_cons.mpr ⟨lw_p1, List.forall_mem_cons.mpr ⟨lw_p2, List.forall_mem_cons.mpr ⟨lw_p3, List.forall_mem_cons.mpr ⟨lw_p4, List.forall_mem_cons.mpr ⟨lw_p5, List.forall_mem_cons.mpr ⟨lw_p6, List.forall_mem_cons.mpr ⟨lw_p7, List.forall_mem_cons.mpr ⟨lw_p8, List.forall_mem_cons.mpr ⟨lw_p9, List.forall_mem_cons.mpr ⟨lw_p10, List.forall_mem_cons.mpr ⟨lw_p11, List.forall_mem_cons.mpr ⟨lw_p12, List.forall_mem_cons.mpr ⟨lw_p13, List.forall_mem_cons.mpr ⟨lw_p14, List.forall_mem_cons.mpr ⟨lw_p15, fun _ h => absurd h List.not_mem_nil⟩⟩⟩⟩⟩⟩⟩⟩⟩⟩⟩⟩⟩⟩⟩⟩
theorem lw_p16 : lw_okq (⟨"TruckWing$Teller", "most", "(I)I"⟩, 10) := ⟨⟨by decide +kernel, by decide +kernel⟩, List.mem_of_getElem? (i := 219) (by decide +kernel), List.mem_of_getElem? (i := 446) (by decide +kernel), List.mem_of_getElem? (i := 447) (by decide +kernel)⟩
theorem lw_p17 : lw_okq (⟨"TruckWing$Teller", "apply", "(I)V"⟩, 10) := ⟨⟨by decide +kernel, by decide +kernel⟩, List.mem_of_getElem? (i := 219) (by decide +kernel), List.mem_of_getElem? (i := 454) (by decide +kernel), List.mem_of_getElem? (i := 455) (by decide +kernel)⟩
theorem lw_p18 : lw_okq (⟨"TruckWing$Teller", "applyFacts", "(I)V"⟩, 10) := ⟨⟨by decide +kernel, by decide +kernel⟩, List.mem_of_getElem? (i := 219) (by decide +kernel), List.mem_of_getElem? (i := 458) (by decide +kernel), List.mem_of_getElem? (i := 459) (by decide +kernel)⟩
theorem lw_p19 : lw_okq (⟨"TruckWing$Land", "putFact", "(III)V"⟩, 3) := ⟨⟨by decide +kernel, by decide +kernel⟩, List.mem_of_getElem? (i := 31) (by decide +kernel), List.mem_of_getElem? (i := 462) (by decide +kernel), List.mem_of_getElem? (i := 463) (by decide +kernel)⟩
theorem lw_p20 : lw_okq (⟨"TruckWing$Land", "isPlace", "(I)Z"⟩, 3) := ⟨⟨by decide +kernel, by decide +kernel⟩, List.mem_of_getElem? (i := 31) (by decide +kernel), List.mem_of_getElem? (i := 466) (by decide +kernel), List.mem_of_getElem? (i := 467) (by decide +kernel)⟩
theorem lw_p21 : lw_okq (⟨"TruckWing$Land", "addCustomer", "()V"⟩, 3) := ⟨⟨by decide +kernel, by decide +kernel⟩, List.mem_of_getElem? (i := 31) (by decide +kernel), List.mem_of_getElem? (i := 474) (by decide +kernel), List.mem_of_getElem? (i := 475) (by decide +kernel)⟩
theorem lw_p22 : lw_okq (⟨"TruckWing$Land", "putSetting", "(II)V"⟩, 3) := ⟨⟨by decide +kernel, by decide +kernel⟩, List.mem_of_getElem? (i := 31) (by decide +kernel), List.mem_of_getElem? (i := 478) (by decide +kernel), List.mem_of_getElem? (i := 479) (by decide +kernel)⟩
theorem lw_p23 : lw_okq (⟨"TruckWing$Teller", "applyRow", "()V"⟩, 10) := ⟨⟨by decide +kernel, by decide +kernel⟩, List.mem_of_getElem? (i := 219) (by decide +kernel), List.mem_of_getElem? (i := 487) (by decide +kernel), List.mem_of_getElem? (i := 488) (by decide +kernel)⟩
theorem lw_p24 : lw_okq (⟨"TruckWing$Plan", "empty", "()V"⟩, 4) := ⟨⟨by decide +kernel, by decide +kernel⟩, List.mem_of_getElem? (i := 61) (by decide +kernel), List.mem_of_getElem? (i := 491) (by decide +kernel), List.mem_of_getElem? (i := 492) (by decide +kernel)⟩
theorem lw_p25 : lw_okq (⟨"TruckWing$Plan", "addStop", "(I)Z"⟩, 4) := ⟨⟨by decide +kernel, by decide +kernel⟩, List.mem_of_getElem? (i := 61) (by decide +kernel), List.mem_of_getElem? (i := 495) (by decide +kernel), List.mem_of_getElem? (i := 496) (by decide +kernel)⟩
theorem lw_p26 : lw_okq (⟨"TruckWing$Plan", "addSortie", "(IIII)Z"⟩, 4) := ⟨⟨by decide +kernel, by decide +kernel⟩, List.mem_of_getElem? (i := 61) (by decide +kernel), List.mem_of_getElem? (i := 499) (by decide +kernel), List.mem_of_getElem? (i := 500) (by decide +kernel)⟩
theorem lw_p27 : lw_okq (⟨"TruckWing", "forgetSearches", "()V"⟩, 8) := ⟨⟨by decide +kernel, by decide +kernel⟩, List.mem_of_getElem? (i := 23) (by decide +kernel), List.mem_of_getElem? (i := 505) (by decide +kernel), List.mem_of_getElem? (i := 506) (by decide +kernel)⟩
theorem lw_p28 : lw_okq (⟨"TruckWing$Land", "setting", "(I)I"⟩, 3) := ⟨⟨by decide +kernel, by decide +kernel⟩, List.mem_of_getElem? (i := 31) (by decide +kernel), List.mem_of_getElem? (i := 531) (by decide +kernel), List.mem_of_getElem? (i := 532) (by decide +kernel)⟩
theorem lw_p29 : lw_okq (⟨"TruckWing$Land", "isCustomer", "(I)Z"⟩, 3) := ⟨⟨by decide +kernel, by decide +kernel⟩, List.mem_of_getElem? (i := 31) (by decide +kernel), List.mem_of_getElem? (i := 540) (by decide +kernel), List.mem_of_getElem? (i := 541) (by decide +kernel)⟩
theorem lw_p30 : lw_okq (⟨"TruckWing$Plan", "stops", "()I"⟩, 4) := ⟨⟨by decide +kernel, by decide +kernel⟩, List.mem_of_getElem? (i := 61) (by decide +kernel), List.mem_of_getElem? (i := 545) (by decide +kernel), List.mem_of_getElem? (i := 546) (by decide +kernel)⟩
theorem lw_p31 : lw_okq (⟨"TruckWing$Land", "fact", "(II)I"⟩, 3) := ⟨⟨by decide +kernel, by decide +kernel⟩, List.mem_of_getElem? (i := 31) (by decide +kernel), List.mem_of_getElem? (i := 576) (by decide +kernel), List.mem_of_getElem? (i := 577) (by decide +kernel)⟩
def lw_privs_2 : List (MethodName × Nat) := [(⟨"TruckWing$Teller", "most", "(I)I"⟩, 10), (⟨"TruckWing$Teller", "apply", "(I)V"⟩, 10), (⟨"TruckWing$Teller", "applyFacts", "(I)V"⟩, 10), (⟨"TruckWing$Land", "putFact", "(III)V"⟩, 3), (⟨"TruckWing$Land", "isPlace", "(I)Z"⟩, 3), (⟨"TruckWing$Land", "addCustomer", "()V"⟩, 3), (⟨"TruckWing$Land", "putSetting", "(II)V"⟩, 3), (⟨"TruckWing$Teller", "applyRow", "()V"⟩, 10), (⟨"TruckWing$Plan", "empty", "()V"⟩, 4), (⟨"TruckWing$Plan", "addStop", "(I)Z"⟩, 4), (⟨"TruckWing$Plan", "addSortie", "(IIII)Z"⟩, 4), (⟨"TruckWing", "forgetSearches", "()V"⟩, 8), (⟨"TruckWing$Land", "setting", "(I)I"⟩, 3), (⟨"TruckWing$Land", "isCustomer", "(I)Z"⟩, 3), (⟨"TruckWing$Plan", "stops", "()I"⟩, 4), (⟨"TruckWing$Land", "fact", "(II)I"⟩, 3)]
theorem lw_r2 : ∀ q ∈ lw_privs_2, lw_okq q := List.forall_mem_cons.mpr ⟨lw_p16, List.forall_mem_cons.mpr ⟨lw_p17, List.forall_mem_cons.mpr ⟨lw_p18, List.forall_mem_cons.mpr ⟨lw_p19, List.forall_mem_cons.mpr ⟨lw_p20, List.forall_mem_cons.mpr ⟨lw_p21, List.forall_mem_cons.mpr ⟨lw_p22, List.forall_mem_cons.mpr ⟨lw_p23, List.forall_mem_cons.mpr ⟨lw_p24, List.forall_mem_cons.mpr ⟨lw_p25, List.forall_mem_cons.mpr ⟨lw_p26, List.forall_mem_cons.mpr ⟨lw_p27, List.forall_mem_cons.mpr ⟨lw_p28, List.forall_mem_cons.mpr ⟨lw_p29, List.forall_mem_cons.mpr ⟨lw_p30, List.forall_mem_cons.mpr ⟨lw_p31, fun _ h => absurd h List.not_mem_nil⟩⟩⟩⟩⟩⟩⟩⟩⟩⟩⟩⟩⟩⟩⟩⟩
theorem lw_p32 : lw_okq (⟨"TruckWing$Land", "flight", "(IIII)I"⟩, 3) := ⟨⟨by decide +kernel, by decide +kernel⟩, List.mem_of_getElem? (i := 31) (by decide +kernel), List.mem_of_getElem? (i := 585) (by decide +kernel), List.mem_of_getElem? (i := 586) (by decide +kernel)⟩
theorem lw_p33 : lw_okq (⟨"TruckWing$Land", "drive", "(II)I"⟩, 3) := ⟨⟨by decide +kernel, by decide +kernel⟩, List.mem_of_getElem? (i := 31) (by decide +kernel), List.mem_of_getElem? (i := 597) (by decide +kernel), List.mem_of_getElem? (i := 598) (by decide +kernel)⟩
theorem lw_p34 : lw_okq (⟨"TruckWing$Course", "look", "()Z"⟩, 11) := ⟨⟨by decide +kernel, by decide +kernel⟩, List.mem_of_getElem? (i := 86) (by decide +kernel), List.mem_of_getElem? (i := 605) (by decide +kernel), List.mem_of_getElem? (i := 606) (by decide +kernel)⟩
theorem lw_p35 : lw_okq (⟨"TruckWing$Course", "wrongWithoutTimes", "()I"⟩, 11) := ⟨⟨by decide +kernel, by decide +kernel⟩, List.mem_of_getElem? (i := 86) (by decide +kernel), List.mem_of_getElem? (i := 609) (by decide +kernel), List.mem_of_getElem? (i := 610) (by decide +kernel)⟩
theorem lw_p36 : lw_okq (⟨"TruckWing$Course", "impossibleSortie", "()I"⟩, 11) := ⟨⟨by decide +kernel, by decide +kernel⟩, List.mem_of_getElem? (i := 86) (by decide +kernel), List.mem_of_getElem? (i := 613) (by decide +kernel), List.mem_of_getElem? (i := 614) (by decide +kernel)⟩
theorem lw_p37 : lw_okq (⟨"TruckWing$Plan", "part", "(II)I"⟩, 4) := ⟨⟨by decide +kernel, by decide +kernel⟩, List.mem_of_getElem? (i := 61) (by decide +kernel), List.mem_of_getElem? (i := 617) (by decide +kernel), List.mem_of_getElem? (i := 618) (by decide +kernel)⟩
theorem lw_p38 : lw_okq (⟨"TruckWing$Course", "servedTooOften", "()I"⟩, 11) := ⟨⟨by decide +kernel, by decide +kernel⟩, List.mem_of_getElem? (i := 86) (by decide +kernel), List.mem_of_getElem? (i := 626) (by decide +kernel), List.mem_of_getElem? (i := 627) (by decide +kernel)⟩
theorem lw_p39 : lw_okq (⟨"TruckWing$Course", "timesServed", "(I)I"⟩, 11) := ⟨⟨by decide +kernel, by decide +kernel⟩, List.mem_of_getElem? (i := 86) (by decide +kernel), List.mem_of_getElem? (i := 630) (by decide +kernel), List.mem_of_getElem? (i := 631) (by decide +kernel)⟩
theorem lw_p40 : lw_okq (⟨"TruckWing$Plan", "placeAt", "(I)I"⟩, 4) := ⟨⟨by decide +kernel, by decide +kernel⟩, List.mem_of_getElem? (i := 61) (by decide +kernel), List.mem_of_getElem? (i := 634) (by decide +kernel), List.mem_of_getElem? (i := 635) (by decide +kernel)⟩
theorem lw_p41 : lw_okq (⟨"TruckWing$Course", "servedByNobody", "()I"⟩, 11) := ⟨⟨by decide +kernel, by decide +kernel⟩, List.mem_of_getElem? (i := 86) (by decide +kernel), List.mem_of_getElem? (i := 638) (by decide +kernel), List.mem_of_getElem? (i := 639) (by decide +kernel)⟩
theorem lw_p42 : lw_okq (⟨"TruckWing$Course", "tooHeavy", "()I"⟩, 11) := ⟨⟨by decide +kernel, by decide +kernel⟩, List.mem_of_getElem? (i := 86) (by decide +kernel), List.mem_of_getElem? (i := 642) (by decide +kernel), List.mem_of_getElem? (i := 643) (by decide +kernel)⟩
theorem lw_p43 : lw_okq (⟨"TruckWing$Land", "isLight", "(I)Z"⟩, 3) := ⟨⟨by decide +kernel, by decide +kernel⟩, List.mem_of_getElem? (i := 31) (by decide +kernel), List.mem_of_getElem? (i := 646) (by decide +kernel), List.mem_of_getElem? (i := 647) (by decide +kernel)⟩
theorem lw_p44 : lw_okq (⟨"TruckWing$Course", "overlapping", "()I"⟩, 11) := ⟨⟨by decide +kernel, by decide +kernel⟩, List.mem_of_getElem? (i := 86) (by decide +kernel), List.mem_of_getElem? (i := 650) (by decide +kernel), List.mem_of_getElem? (i := 651) (by decide +kernel)⟩
theorem lw_p45 : lw_okq (⟨"TruckWing$Course", "drivePlan", "()V"⟩, 11) := ⟨⟨by decide +kernel, by decide +kernel⟩, List.mem_of_getElem? (i := 86) (by decide +kernel), List.mem_of_getElem? (i := 654) (by decide +kernel), List.mem_of_getElem? (i := 655) (by decide +kernel)⟩
theorem lw_p46 : lw_okq (⟨"TruckWing$Diary", "empty", "()V"⟩, 2) := ⟨⟨by decide +kernel, by decide +kernel⟩, List.mem_of_getElem? (i := 92) (by decide +kernel), List.mem_of_getElem? (i := 658) (by decide +kernel), List.mem_of_getElem? (i := 659) (by decide +kernel)⟩
theorem lw_p47 : lw_okq (⟨"TruckWing$Diary", "note", "(IIII)V"⟩, 2) := ⟨⟨by decide +kernel, by decide +kernel⟩, List.mem_of_getElem? (i := 92) (by decide +kernel), List.mem_of_getElem? (i := 663) (by decide +kernel), List.mem_of_getElem? (i := 664) (by decide +kernel)⟩
def lw_privs_3 : List (MethodName × Nat) := [(⟨"TruckWing$Land", "flight", "(IIII)I"⟩, 3), (⟨"TruckWing$Land", "drive", "(II)I"⟩, 3), (⟨"TruckWing$Course", "look", "()Z"⟩, 11), (⟨"TruckWing$Course", "wrongWithoutTimes", "()I"⟩, 11), (⟨"TruckWing$Course", "impossibleSortie", "()I"⟩, 11), (⟨"TruckWing$Plan", "part", "(II)I"⟩, 4), (⟨"TruckWing$Course", "servedTooOften", "()I"⟩, 11), (⟨"TruckWing$Course", "timesServed", "(I)I"⟩, 11), (⟨"TruckWing$Plan", "placeAt", "(I)I"⟩, 4), (⟨"TruckWing$Course", "servedByNobody", "()I"⟩, 11), (⟨"TruckWing$Course", "tooHeavy", "()I"⟩, 11), (⟨"TruckWing$Land", "isLight", "(I)Z"⟩, 3), (⟨"TruckWing$Course", "overlapping", "()I"⟩, 11), (⟨"TruckWing$Course", "drivePlan", "()V"⟩, 11), (⟨"TruckWing$Diary", "empty", "()V"⟩, 2), (⟨"TruckWing$Diary", "note", "(IIII)V"⟩, 2)]
theorem lw_r3 : ∀ q ∈ lw_privs_3, lw_okq q := List.forall_mem_cons.mpr ⟨lw_p32, List.forall_mem_cons.mpr ⟨lw_p33, List.forall_mem_cons.mpr ⟨lw_p34, List.forall_mem_cons.mpr ⟨lw_p35, List.forall_mem_cons.mpr ⟨lw_p36, List.forall_mem_cons.mpr ⟨lw_p37, List.forall_mem_cons.mpr ⟨lw_p38, List.forall_mem_cons.mpr ⟨lw_p39, List.forall_mem_cons.mpr ⟨lw_p40, List.forall_mem_cons.mpr ⟨lw_p41, List.forall_mem_cons.mpr ⟨lw_p42, List.forall_mem_cons.mpr ⟨lw_p43, List.forall_mem_cons.mpr ⟨lw_p44, List.forall_mem_cons.mpr ⟨lw_p45, List.forall_mem_cons.mpr ⟨lw_p46, List.forall_mem_cons.mpr ⟨lw_p47, fun _ h => absurd h List.not_mem_nil⟩⟩⟩⟩⟩⟩⟩⟩⟩⟩⟩⟩⟩⟩⟩⟩
theorem lw_p48 : lw_okq (⟨"TruckWing$Course", "catchAll", "(II)I"⟩, 11) := ⟨⟨by decide +kernel, by decide +kernel⟩, List.mem_of_getElem? (i := 86) (by decide +kernel), List.mem_of_getElem? (i := 668) (by decide +kernel), List.mem_of_getElem? (i := 669) (by decide +kernel)⟩
theorem lw_p49 : lw_okq (⟨"TruckWing$Course", "nextToCatch", "(I)I"⟩, 11) := ⟨⟨by decide +kernel, by decide +kernel⟩, List.mem_of_getElem? (i := 86) (by decide +kernel), List.mem_of_getElem? (i := 672) (by decide +kernel), List.mem_of_getElem? (i := 673) (by decide +kernel)⟩
theorem lw_p50 : lw_okq (⟨"TruckWing$Course", "isAhead", "(II)Z"⟩, 11) := ⟨⟨by decide +kernel, by decide +kernel⟩, List.mem_of_getElem? (i := 86) (by decide +kernel), List.mem_of_getElem? (i := 676) (by decide +kernel), List.mem_of_getElem? (i := 677) (by decide +kernel)⟩
theorem lw_p51 : lw_okq (⟨"TruckWing$Course", "launchAll", "(II)I"⟩, 11) := ⟨⟨by decide +kernel, by decide +kernel⟩, List.mem_of_getElem? (i := 86) (by decide +kernel), List.mem_of_getElem? (i := 681) (by decide +kernel), List.mem_of_getElem? (i := 682) (by decide +kernel)⟩
theorem lw_p52 : lw_okq (⟨"TruckWing$Course", "launch", "(II)V"⟩, 11) := ⟨⟨by decide +kernel, by decide +kernel⟩, List.mem_of_getElem? (i := 86) (by decide +kernel), List.mem_of_getElem? (i := 685) (by decide +kernel), List.mem_of_getElem? (i := 686) (by decide +kernel)⟩
theorem lw_p53 : lw_okq (⟨"TruckWing$Course", "tooLongInAir", "()I"⟩, 11) := ⟨⟨by decide +kernel, by decide +kernel⟩, List.mem_of_getElem? (i := 86) (by decide +kernel), List.mem_of_getElem? (i := 690) (by decide +kernel), List.mem_of_getElem? (i := 691) (by decide +kernel)⟩
theorem lw_p54 : lw_okq (⟨"TruckWing$Course", "air", "(I)I"⟩, 11) := ⟨⟨by decide +kernel, by decide +kernel⟩, List.mem_of_getElem? (i := 86) (by decide +kernel), List.mem_of_getElem? (i := 694) (by decide +kernel), List.mem_of_getElem? (i := 695) (by decide +kernel)⟩
theorem lw_p55 : lw_okq (⟨"TruckWing$Course", "lastReady", "()I"⟩, 11) := ⟨⟨by decide +kernel, by decide +kernel⟩, List.mem_of_getElem? (i := 86) (by decide +kernel), List.mem_of_getElem? (i := 702) (by decide +kernel), List.mem_of_getElem? (i := 703) (by decide +kernel)⟩
theorem lw_p56 : lw_okq (⟨"TruckWing$Course", "ofStop", "(II)I"⟩, 11) := ⟨⟨by decide +kernel, by decide +kernel⟩, List.mem_of_getElem? (i := 86) (by decide +kernel), List.mem_of_getElem? (i := 710) (by decide +kernel), List.mem_of_getElem? (i := 711) (by decide +kernel)⟩
theorem lw_p57 : lw_okq (⟨"TruckWing$Plan", "hasSortie", "(I)Z"⟩, 4) := ⟨⟨by decide +kernel, by decide +kernel⟩, List.mem_of_getElem? (i := 61) (by decide +kernel), List.mem_of_getElem? (i := 718) (by decide +kernel), List.mem_of_getElem? (i := 719) (by decide +kernel)⟩
theorem lw_p58 : lw_okq (⟨"TruckWing$Course", "ofSortie", "(II)I"⟩, 11) := ⟨⟨by decide +kernel, by decide +kernel⟩, List.mem_of_getElem? (i := 86) (by decide +kernel), List.mem_of_getElem? (i := 722) (by decide +kernel), List.mem_of_getElem? (i := 723) (by decide +kernel)⟩
theorem lw_p59 : lw_okq (⟨"TruckWing$Diary", "part", "(II)I"⟩, 2) := ⟨⟨by decide +kernel, by decide +kernel⟩, List.mem_of_getElem? (i := 92) (by decide +kernel), List.mem_of_getElem? (i := 730) (by decide +kernel), List.mem_of_getElem? (i := 731) (by decide +kernel)⟩
theorem lw_p60 : lw_okq (⟨"TruckWing$Course", "total", "(I)I"⟩, 11) := ⟨⟨by decide +kernel, by decide +kernel⟩, List.mem_of_getElem? (i := 86) (by decide +kernel), List.mem_of_getElem? (i := 738) (by decide +kernel), List.mem_of_getElem? (i := 739) (by decide +kernel)⟩
theorem lw_p61 : lw_okq (⟨"TruckWing$Course", "drivenTo", "(I)I"⟩, 11) := ⟨⟨by decide +kernel, by decide +kernel⟩, List.mem_of_getElem? (i := 86) (by decide +kernel), List.mem_of_getElem? (i := 742) (by decide +kernel), List.mem_of_getElem? (i := 743) (by decide +kernel)⟩
theorem lw_p62 : lw_okq (⟨"TruckWing$Course", "flownBy", "(I)I"⟩, 11) := ⟨⟨by decide +kernel, by decide +kernel⟩, List.mem_of_getElem? (i := 86) (by decide +kernel), List.mem_of_getElem? (i := 746) (by decide +kernel), List.mem_of_getElem? (i := 747) (by decide +kernel)⟩
theorem lw_p63 : lw_okq (⟨"TruckWing$Table", "readOrder", "(I)Z"⟩, 18) := ⟨⟨by decide +kernel, by decide +kernel⟩, List.mem_of_getElem? (i := 142) (by decide +kernel), List.mem_of_getElem? (i := 754) (by decide +kernel), List.mem_of_getElem? (i := 755) (by decide +kernel)⟩
def lw_privs_4 : List (MethodName × Nat) := [(⟨"TruckWing$Course", "catchAll", "(II)I"⟩, 11), (⟨"TruckWing$Course", "nextToCatch", "(I)I"⟩, 11), (⟨"TruckWing$Course", "isAhead", "(II)Z"⟩, 11), (⟨"TruckWing$Course", "launchAll", "(II)I"⟩, 11), (⟨"TruckWing$Course", "launch", "(II)V"⟩, 11), (⟨"TruckWing$Course", "tooLongInAir", "()I"⟩, 11), (⟨"TruckWing$Course", "air", "(I)I"⟩, 11), (⟨"TruckWing$Course", "lastReady", "()I"⟩, 11), (⟨"TruckWing$Course", "ofStop", "(II)I"⟩, 11), (⟨"TruckWing$Plan", "hasSortie", "(I)Z"⟩, 4), (⟨"TruckWing$Course", "ofSortie", "(II)I"⟩, 11), (⟨"TruckWing$Diary", "part", "(II)I"⟩, 2), (⟨"TruckWing$Course", "total", "(I)I"⟩, 11), (⟨"TruckWing$Course", "drivenTo", "(I)I"⟩, 11), (⟨"TruckWing$Course", "flownBy", "(I)I"⟩, 11), (⟨"TruckWing$Table", "readOrder", "(I)Z"⟩, 18)]
theorem lw_r4 : ∀ q ∈ lw_privs_4, lw_okq q := List.forall_mem_cons.mpr ⟨lw_p48, List.forall_mem_cons.mpr ⟨lw_p49, List.forall_mem_cons.mpr ⟨lw_p50, List.forall_mem_cons.mpr ⟨lw_p51, List.forall_mem_cons.mpr ⟨lw_p52, List.forall_mem_cons.mpr ⟨lw_p53, List.forall_mem_cons.mpr ⟨lw_p54, List.forall_mem_cons.mpr ⟨lw_p55, List.forall_mem_cons.mpr ⟨lw_p56, List.forall_mem_cons.mpr ⟨lw_p57, List.forall_mem_cons.mpr ⟨lw_p58, List.forall_mem_cons.mpr ⟨lw_p59, List.forall_mem_cons.mpr ⟨lw_p60, List.forall_mem_cons.mpr ⟨lw_p61, List.forall_mem_cons.mpr ⟨lw_p62, List.forall_mem_cons.mpr ⟨lw_p63, fun _ h => absurd h List.not_mem_nil⟩⟩⟩⟩⟩⟩⟩⟩⟩⟩⟩⟩⟩⟩⟩⟩
theorem lw_p64 : lw_okq (⟨"TruckWing", "fillTable", "()V"⟩, 8) := ⟨⟨by decide +kernel, by decide +kernel⟩, List.mem_of_getElem? (i := 23) (by decide +kernel), List.mem_of_getElem? (i := 759) (by decide +kernel), List.mem_of_getElem? (i := 760) (by decide +kernel)⟩
theorem lw_p65 : lw_okq (⟨"TruckWing$Table", "prepare", "(III)V"⟩, 18) := ⟨⟨by decide +kernel, by decide +kernel⟩, List.mem_of_getElem? (i := 142) (by decide +kernel), List.mem_of_getElem? (i := 763) (by decide +kernel), List.mem_of_getElem? (i := 764) (by decide +kernel)⟩
theorem lw_p66 : lw_okq (⟨"TruckWing$Table", "fill", "(I)V"⟩, 18) := ⟨⟨by decide +kernel, by decide +kernel⟩, List.mem_of_getElem? (i := 142) (by decide +kernel), List.mem_of_getElem? (i := 772) (by decide +kernel), List.mem_of_getElem? (i := 773) (by decide +kernel)⟩
theorem lw_p67 : lw_okq (⟨"TruckWing$Table", "beginWithVan", "(I)V"⟩, 18) := ⟨⟨by decide +kernel, by decide +kernel⟩, List.mem_of_getElem? (i := 142) (by decide +kernel), List.mem_of_getElem? (i := 777) (by decide +kernel), List.mem_of_getElem? (i := 778) (by decide +kernel)⟩
theorem lw_p68 : lw_okq (⟨"TruckWing$Table", "leg", "(II)I"⟩, 18) := ⟨⟨by decide +kernel, by decide +kernel⟩, List.mem_of_getElem? (i := 142) (by decide +kernel), List.mem_of_getElem? (i := 781) (by decide +kernel), List.mem_of_getElem? (i := 782) (by decide +kernel)⟩
theorem lw_p69 : lw_okq (⟨"TruckWing$Table", "soonest", "(II)I"⟩, 18) := ⟨⟨by decide +kernel, by decide +kernel⟩, List.mem_of_getElem? (i := 142) (by decide +kernel), List.mem_of_getElem? (i := 785) (by decide +kernel), List.mem_of_getElem? (i := 786) (by decide +kernel)⟩
theorem lw_p70 : lw_okq (⟨"TruckWing$Table", "offerBlocks", "(II)V"⟩, 18) := ⟨⟨by decide +kernel, by decide +kernel⟩, List.mem_of_getElem? (i := 142) (by decide +kernel), List.mem_of_getElem? (i := 789) (by decide +kernel), List.mem_of_getElem? (i := 790) (by decide +kernel)⟩
theorem lw_p71 : lw_okq (⟨"TruckWing$Table", "offerOne", "(III)V"⟩, 18) := ⟨⟨by decide +kernel, by decide +kernel⟩, List.mem_of_getElem? (i := 142) (by decide +kernel), List.mem_of_getElem? (i := 793) (by decide +kernel), List.mem_of_getElem? (i := 794) (by decide +kernel)⟩
theorem lw_p72 : lw_okq (⟨"TruckWing$Table", "spared", "(II)I"⟩, 18) := ⟨⟨by decide +kernel, by decide +kernel⟩, List.mem_of_getElem? (i := 142) (by decide +kernel), List.mem_of_getElem? (i := 797) (by decide +kernel), List.mem_of_getElem? (i := 798) (by decide +kernel)⟩
theorem lw_p73 : lw_okq (⟨"TruckWing$Table", "trip", "(III)I"⟩, 18) := ⟨⟨by decide +kernel, by decide +kernel⟩, List.mem_of_getElem? (i := 142) (by decide +kernel), List.mem_of_getElem? (i := 801) (by decide +kernel), List.mem_of_getElem? (i := 802) (by decide +kernel)⟩
theorem lw_p74 : lw_okq (⟨"TruckWing$Table", "lasts", "(III)Z"⟩, 18) := ⟨⟨by decide +kernel, by decide +kernel⟩, List.mem_of_getElem? (i := 142) (by decide +kernel), List.mem_of_getElem? (i := 805) (by decide +kernel), List.mem_of_getElem? (i := 806) (by decide +kernel)⟩
theorem lw_p75 : lw_okq (⟨"TruckWing$Table", "offer", "(IIII)V"⟩, 18) := ⟨⟨by decide +kernel, by decide +kernel⟩, List.mem_of_getElem? (i := 142) (by decide +kernel), List.mem_of_getElem? (i := 812) (by decide +kernel), List.mem_of_getElem? (i := 813) (by decide +kernel)⟩
theorem lw_p76 : lw_okq (⟨"TruckWing$Table", "offerTwo", "(IIII)V"⟩, 18) := ⟨⟨by decide +kernel, by decide +kernel⟩, List.mem_of_getElem? (i := 142) (by decide +kernel), List.mem_of_getElem? (i := 822) (by decide +kernel), List.mem_of_getElem? (i := 823) (by decide +kernel)⟩
theorem lw_p77 : lw_okq (⟨"TruckWing$Table", "lastEnd", "()I"⟩, 18) := ⟨⟨by decide +kernel, by decide +kernel⟩, List.mem_of_getElem? (i := 142) (by decide +kernel), List.mem_of_getElem? (i := 826) (by decide +kernel), List.mem_of_getElem? (i := 827) (by decide +kernel)⟩
theorem lw_p78 : lw_okq (⟨"TruckWing$Table", "writePlan", "(LTruckWing$Plan;)V"⟩, 18) := ⟨⟨by decide +kernel, by decide +kernel⟩, List.mem_of_getElem? (i := 142) (by decide +kernel), List.mem_of_getElem? (i := 834) (by decide +kernel), List.mem_of_getElem? (i := 835) (by decide +kernel)⟩
theorem lw_p79 : lw_okq (⟨"TruckWing$Table", "linkBlocks", "()V"⟩, 18) := ⟨⟨by decide +kernel, by decide +kernel⟩, List.mem_of_getElem? (i := 142) (by decide +kernel), List.mem_of_getElem? (i := 838) (by decide +kernel), List.mem_of_getElem? (i := 839) (by decide +kernel)⟩
def lw_privs_5 : List (MethodName × Nat) := [(⟨"TruckWing", "fillTable", "()V"⟩, 8), (⟨"TruckWing$Table", "prepare", "(III)V"⟩, 18), (⟨"TruckWing$Table", "fill", "(I)V"⟩, 18), (⟨"TruckWing$Table", "beginWithVan", "(I)V"⟩, 18), (⟨"TruckWing$Table", "leg", "(II)I"⟩, 18), (⟨"TruckWing$Table", "soonest", "(II)I"⟩, 18), (⟨"TruckWing$Table", "offerBlocks", "(II)V"⟩, 18), (⟨"TruckWing$Table", "offerOne", "(III)V"⟩, 18), (⟨"TruckWing$Table", "spared", "(II)I"⟩, 18), (⟨"TruckWing$Table", "trip", "(III)I"⟩, 18), (⟨"TruckWing$Table", "lasts", "(III)Z"⟩, 18), (⟨"TruckWing$Table", "offer", "(IIII)V"⟩, 18), (⟨"TruckWing$Table", "offerTwo", "(IIII)V"⟩, 18), (⟨"TruckWing$Table", "lastEnd", "()I"⟩, 18), (⟨"TruckWing$Table", "writePlan", "(LTruckWing$Plan;)V"⟩, 18), (⟨"TruckWing$Table", "linkBlocks", "()V"⟩, 18)]
theorem lw_r5 : ∀ q ∈ lw_privs_5, lw_okq q := List.forall_mem_cons.mpr ⟨lw_p64, List.forall_mem_cons.mpr ⟨lw_p65, List.forall_mem_cons.mpr ⟨lw_p66, List.forall_mem_cons.mpr ⟨lw_p67, List.forall_mem_cons.mpr ⟨lw_p68, List.forall_mem_cons.mpr ⟨lw_p69, List.forall_mem_cons.mpr ⟨lw_p70, List.forall_mem_cons.mpr ⟨lw_p71, List.forall_mem_cons.mpr ⟨lw_p72, List.forall_mem_cons.mpr ⟨lw_p73, List.forall_mem_cons.mpr ⟨lw_p74, List.forall_mem_cons.mpr ⟨lw_p75, List.forall_mem_cons.mpr ⟨lw_p76, List.forall_mem_cons.mpr ⟨lw_p77, List.forall_mem_cons.mpr ⟨lw_p78, List.forall_mem_cons.mpr ⟨lw_p79, fun _ h => absurd h List.not_mem_nil⟩⟩⟩⟩⟩⟩⟩⟩⟩⟩⟩⟩⟩⟩⟩⟩
theorem lw_p80 : lw_okq (⟨"TruckWing$Table", "writeBlock", "(LTruckWing$Plan;II)V"⟩, 18) := ⟨⟨by decide +kernel, by decide +kernel⟩, List.mem_of_getElem? (i := 142) (by decide +kernel), List.mem_of_getElem? (i := 843) (by decide +kernel), List.mem_of_getElem? (i := 844) (by decide +kernel)⟩
theorem lw_p81 : lw_okq (⟨"TruckWing$Table", "isFlown", "(III)Z"⟩, 18) := ⟨⟨by decide +kernel, by decide +kernel⟩, List.mem_of_getElem? (i := 142) (by decide +kernel), List.mem_of_getElem? (i := 847) (by decide +kernel), List.mem_of_getElem? (i := 848) (by decide +kernel)⟩
theorem lw_p82 : lw_okq (⟨"TruckWing", "searchBest", "()V"⟩, 8) := ⟨⟨by decide +kernel, by decide +kernel⟩, List.mem_of_getElem? (i := 23) (by decide +kernel), List.mem_of_getElem? (i := 857) (by decide +kernel), List.mem_of_getElem? (i := 858) (by decide +kernel)⟩
theorem lw_p83 : lw_okq (⟨"TruckWing$Table", "search", "(LTruckWing$Found;)V"⟩, 18) := ⟨⟨by decide +kernel, by decide +kernel⟩, List.mem_of_getElem? (i := 142) (by decide +kernel), List.mem_of_getElem? (i := 861) (by decide +kernel), List.mem_of_getElem? (i := 862) (by decide +kernel)⟩
theorem lw_p84 : lw_okq (⟨"TruckWing$Table", "orderNumber", "()I"⟩, 18) := ⟨⟨by decide +kernel, by decide +kernel⟩, List.mem_of_getElem? (i := 142) (by decide +kernel), List.mem_of_getElem? (i := 867) (by decide +kernel), List.mem_of_getElem? (i := 868) (by decide +kernel)⟩
theorem lw_p85 : lw_okq (⟨"TruckWing$Found", "keep", "(II)V"⟩, 3) := ⟨⟨by decide +kernel, by decide +kernel⟩, List.mem_of_getElem? (i := 263) (by decide +kernel), List.mem_of_getElem? (i := 871) (by decide +kernel), List.mem_of_getElem? (i := 872) (by decide +kernel)⟩
theorem lw_p86 : lw_okq (⟨"TruckWing$Table", "nextOrder", "()I"⟩, 18) := ⟨⟨by decide +kernel, by decide +kernel⟩, List.mem_of_getElem? (i := 142) (by decide +kernel), List.mem_of_getElem? (i := 875) (by decide +kernel), List.mem_of_getElem? (i := 876) (by decide +kernel)⟩
theorem lw_p87 : lw_okq (⟨"TruckWing$Table", "swap", "(II)V"⟩, 18) := ⟨⟨by decide +kernel, by decide +kernel⟩, List.mem_of_getElem? (i := 142) (by decide +kernel), List.mem_of_getElem? (i := 879) (by decide +kernel), List.mem_of_getElem? (i := 880) (by decide +kernel)⟩
theorem lw_p88 : lw_okq (⟨"TruckWing", "searchAlone", "()V"⟩, 8) := ⟨⟨by decide +kernel, by decide +kernel⟩, List.mem_of_getElem? (i := 23) (by decide +kernel), List.mem_of_getElem? (i := 891) (by decide +kernel), List.mem_of_getElem? (i := 892) (by decide +kernel)⟩
theorem lw_p89 : lw_okq (⟨"TruckWing", "bestWind", "()I"⟩, 8) := ⟨⟨by decide +kernel, by decide +kernel⟩, List.mem_of_getElem? (i := 23) (by decide +kernel), List.mem_of_getElem? (i := 899) (by decide +kernel), List.mem_of_getElem? (i := 900) (by decide +kernel)⟩
theorem lw_p90 : lw_okq (⟨"TruckWing", "endByWind", "(I)I"⟩, 8) := ⟨⟨by decide +kernel, by decide +kernel⟩, List.mem_of_getElem? (i := 23) (by decide +kernel), List.mem_of_getElem? (i := 903) (by decide +kernel), List.mem_of_getElem? (i := 904) (by decide +kernel)⟩
theorem lw_p91 : lw_okq (⟨"java/lang/Throwable", "fillInStackTrace", "(I)Ljava/lang/Throwable;"⟩, 6) := ⟨⟨by decide +kernel, by decide +kernel⟩, List.mem_of_getElem? (i := 951) (by decide +kernel), List.mem_of_getElem? (i := 949) (by decide +kernel), List.mem_of_getElem? (i := 950) (by decide +kernel)⟩
theorem lw_p92 : lw_okq (⟨"TruckWingModel", "customers", "()I"⟩, 27) := ⟨⟨by decide +kernel, by decide +kernel⟩, List.mem_of_getElem? (i := 977) (by decide +kernel), List.mem_of_getElem? (i := 1079) (by decide +kernel), List.mem_of_getElem? (i := 1080) (by decide +kernel)⟩
theorem lw_p93 : lw_okq (⟨"TruckWingModel", "more", "(IIIII)V"⟩, 27) := ⟨⟨by decide +kernel, by decide +kernel⟩, List.mem_of_getElem? (i := 977) (by decide +kernel), List.mem_of_getElem? (i := 1083) (by decide +kernel), List.mem_of_getElem? (i := 1084) (by decide +kernel)⟩
theorem lw_p94 : lw_okq (⟨"TruckWingModel", "clears", "()V"⟩, 27) := ⟨⟨by decide +kernel, by decide +kernel⟩, List.mem_of_getElem? (i := 977) (by decide +kernel), List.mem_of_getElem? (i := 1091) (by decide +kernel), List.mem_of_getElem? (i := 1092) (by decide +kernel)⟩
theorem lw_p95 : lw_okq (⟨"TruckWingModel", "of", "(I)I"⟩, 27) := ⟨⟨by decide +kernel, by decide +kernel⟩, List.mem_of_getElem? (i := 977) (by decide +kernel), List.mem_of_getElem? (i := 1102) (by decide +kernel), List.mem_of_getElem? (i := 1103) (by decide +kernel)⟩
def lw_privs_6 : List (MethodName × Nat) := [(⟨"TruckWing$Table", "writeBlock", "(LTruckWing$Plan;II)V"⟩, 18), (⟨"TruckWing$Table", "isFlown", "(III)Z"⟩, 18), (⟨"TruckWing", "searchBest", "()V"⟩, 8), (⟨"TruckWing$Table", "search", "(LTruckWing$Found;)V"⟩, 18), (⟨"TruckWing$Table", "orderNumber", "()I"⟩, 18), (⟨"TruckWing$Found", "keep", "(II)V"⟩, 3), (⟨"TruckWing$Table", "nextOrder", "()I"⟩, 18), (⟨"TruckWing$Table", "swap", "(II)V"⟩, 18), (⟨"TruckWing", "searchAlone", "()V"⟩, 8), (⟨"TruckWing", "bestWind", "()I"⟩, 8), (⟨"TruckWing", "endByWind", "(I)I"⟩, 8), (⟨"java/lang/Throwable", "fillInStackTrace", "(I)Ljava/lang/Throwable;"⟩, 6), (⟨"TruckWingModel", "customers", "()I"⟩, 27), (⟨"TruckWingModel", "more", "(IIIII)V"⟩, 27), (⟨"TruckWingModel", "clears", "()V"⟩, 27), (⟨"TruckWingModel", "of", "(I)I"⟩, 27)]
theorem lw_r6 : ∀ q ∈ lw_privs_6, lw_okq q := List.forall_mem_cons.mpr ⟨lw_p80, List.forall_mem_cons.mpr ⟨lw_p81, List.forall_mem_cons.mpr ⟨lw_p82, List.forall_mem_cons.mpr ⟨lw_p83, List.forall_mem_cons.mpr ⟨lw_p84, List.forall_mem_cons.mpr ⟨lw_p85, List.forall_mem_cons.mpr ⟨lw_p86, List.forall_mem_cons.mpr ⟨lw_p87, List.forall_mem_cons.mpr ⟨lw_p88, List.forall_mem_cons.mpr ⟨lw_p89, List.forall_mem_cons.mpr ⟨lw_p90, List.forall_mem_cons.mpr ⟨lw_p91, List.forall_mem_cons.mpr ⟨lw_p92, List.forall_mem_cons.mpr ⟨lw_p93, List.forall_mem_cons.mpr ⟨lw_p94, List.forall_mem_cons.mpr ⟨lw_p95, fun _ h => absurd h List.not_mem_nil⟩⟩⟩⟩⟩⟩⟩⟩⟩⟩⟩⟩⟩⟩⟩⟩
theorem lw_p96 : lw_okq (⟨"TruckWingModel", "isCustomer", "(I)Z"⟩, 27) := ⟨⟨by decide +kernel, by decide +kernel⟩, List.mem_of_getElem? (i := 977) (by decide +kernel), List.mem_of_getElem? (i := 1110) (by decide +kernel), List.mem_of_getElem? (i := 1111) (by decide +kernel)⟩
theorem lw_p97 : lw_okq (⟨"TruckWingModel", "stops", "()I"⟩, 27) := ⟨⟨by decide +kernel, by decide +kernel⟩, List.mem_of_getElem? (i := 977) (by decide +kernel), List.mem_of_getElem? (i := 1114) (by decide +kernel), List.mem_of_getElem? (i := 1115) (by decide +kernel)⟩
theorem lw_p98 : lw_okq (⟨"TruckWingModel", "stopsAt", "(I)V"⟩, 27) := ⟨⟨by decide +kernel, by decide +kernel⟩, List.mem_of_getElem? (i := 977) (by decide +kernel), List.mem_of_getElem? (i := 1118) (by decide +kernel), List.mem_of_getElem? (i := 1119) (by decide +kernel)⟩
theorem lw_p99 : lw_okq (⟨"TruckWingModel", "maySend", "(IIII)Z"⟩, 27) := ⟨⟨by decide +kernel, by decide +kernel⟩, List.mem_of_getElem? (i := 977) (by decide +kernel), List.mem_of_getElem? (i := 1126) (by decide +kernel), List.mem_of_getElem? (i := 1127) (by decide +kernel)⟩
theorem lw_p100 : lw_okq (⟨"TruckWingModel", "sorties", "()I"⟩, 27) := ⟨⟨by decide +kernel, by decide +kernel⟩, List.mem_of_getElem? (i := 977) (by decide +kernel), List.mem_of_getElem? (i := 1130) (by decide +kernel), List.mem_of_getElem? (i := 1131) (by decide +kernel)⟩
theorem lw_p101 : lw_okq (⟨"TruckWingModel", "sends", "(IIII)V"⟩, 27) := ⟨⟨by decide +kernel, by decide +kernel⟩, List.mem_of_getElem? (i := 977) (by decide +kernel), List.mem_of_getElem? (i := 1134) (by decide +kernel), List.mem_of_getElem? (i := 1135) (by decide +kernel)⟩
theorem lw_p102 : lw_okq (⟨"TruckWingModel", "isPlace", "(I)Z"⟩, 27) := ⟨⟨by decide +kernel, by decide +kernel⟩, List.mem_of_getElem? (i := 977) (by decide +kernel), List.mem_of_getElem? (i := 1154) (by decide +kernel), List.mem_of_getElem? (i := 1155) (by decide +kernel)⟩
theorem lw_p103 : lw_okq (⟨"TruckWingModel", "placeOf", "(II)I"⟩, 27) := ⟨⟨by decide +kernel, by decide +kernel⟩, List.mem_of_getElem? (i := 977) (by decide +kernel), List.mem_of_getElem? (i := 1158) (by decide +kernel), List.mem_of_getElem? (i := 1159) (by decide +kernel)⟩
theorem lw_p104 : lw_okq (⟨"TruckWingModel", "flight", "(II)I"⟩, 27) := ⟨⟨by decide +kernel, by decide +kernel⟩, List.mem_of_getElem? (i := 977) (by decide +kernel), List.mem_of_getElem? (i := 1166) (by decide +kernel), List.mem_of_getElem? (i := 1167) (by decide +kernel)⟩
theorem lw_p105 : lw_okq (⟨"TruckWingModel", "drive", "(II)I"⟩, 27) := ⟨⟨by decide +kernel, by decide +kernel⟩, List.mem_of_getElem? (i := 977) (by decide +kernel), List.mem_of_getElem? (i := 1173) (by decide +kernel), List.mem_of_getElem? (i := 1174) (by decide +kernel)⟩
theorem lw_p106 : lw_okq (⟨"TruckWingModel", "sortieOf", "(II)I"⟩, 27) := ⟨⟨by decide +kernel, by decide +kernel⟩, List.mem_of_getElem? (i := 977) (by decide +kernel), List.mem_of_getElem? (i := 1181) (by decide +kernel), List.mem_of_getElem? (i := 1182) (by decide +kernel)⟩
theorem lw_p107 : lw_okq (⟨"TruckWingModel", "put", "(I)V"⟩, 27) := ⟨⟨by decide +kernel, by decide +kernel⟩, List.mem_of_getElem? (i := 977) (by decide +kernel), List.mem_of_getElem? (i := 1189) (by decide +kernel), List.mem_of_getElem? (i := 1190) (by decide +kernel)⟩
theorem lw_p108 : lw_okq (⟨"TruckWingModel", "here", "()I"⟩, 27) := ⟨⟨by decide +kernel, by decide +kernel⟩, List.mem_of_getElem? (i := 977) (by decide +kernel), List.mem_of_getElem? (i := 1201) (by decide +kernel), List.mem_of_getElem? (i := 1202) (by decide +kernel)⟩
theorem lw_p109 : lw_okq (⟨"TruckWingModel", "statement", "()V"⟩, 27) := ⟨⟨by decide +kernel, by decide +kernel⟩, List.mem_of_getElem? (i := 977) (by decide +kernel), List.mem_of_getElem? (i := 1205) (by decide +kernel), List.mem_of_getElem? (i := 1206) (by decide +kernel)⟩
theorem lw_p110 : lw_okq (⟨"TruckWingModel", "word", "()I"⟩, 27) := ⟨⟨by decide +kernel, by decide +kernel⟩, List.mem_of_getElem? (i := 977) (by decide +kernel), List.mem_of_getElem? (i := 1209) (by decide +kernel), List.mem_of_getElem? (i := 1210) (by decide +kernel)⟩
theorem lw_p111 : lw_okq (⟨"TruckWingModel", "numberOf", "(I)I"⟩, 27) := ⟨⟨by decide +kernel, by decide +kernel⟩, List.mem_of_getElem? (i := 977) (by decide +kernel), List.mem_of_getElem? (i := 1216) (by decide +kernel), List.mem_of_getElem? (i := 1217) (by decide +kernel)⟩
def lw_privs_7 : List (MethodName × Nat) := [(⟨"TruckWingModel", "isCustomer", "(I)Z"⟩, 27), (⟨"TruckWingModel", "stops", "()I"⟩, 27), (⟨"TruckWingModel", "stopsAt", "(I)V"⟩, 27), (⟨"TruckWingModel", "maySend", "(IIII)Z"⟩, 27), (⟨"TruckWingModel", "sorties", "()I"⟩, 27), (⟨"TruckWingModel", "sends", "(IIII)V"⟩, 27), (⟨"TruckWingModel", "isPlace", "(I)Z"⟩, 27), (⟨"TruckWingModel", "placeOf", "(II)I"⟩, 27), (⟨"TruckWingModel", "flight", "(II)I"⟩, 27), (⟨"TruckWingModel", "drive", "(II)I"⟩, 27), (⟨"TruckWingModel", "sortieOf", "(II)I"⟩, 27), (⟨"TruckWingModel", "put", "(I)V"⟩, 27), (⟨"TruckWingModel", "here", "()I"⟩, 27), (⟨"TruckWingModel", "statement", "()V"⟩, 27), (⟨"TruckWingModel", "word", "()I"⟩, 27), (⟨"TruckWingModel", "numberOf", "(I)I"⟩, 27)]
theorem lw_r7 : ∀ q ∈ lw_privs_7, lw_okq q := List.forall_mem_cons.mpr ⟨lw_p96, List.forall_mem_cons.mpr ⟨lw_p97, List.forall_mem_cons.mpr ⟨lw_p98, List.forall_mem_cons.mpr ⟨lw_p99, List.forall_mem_cons.mpr ⟨lw_p100, List.forall_mem_cons.mpr ⟨lw_p101, List.forall_mem_cons.mpr ⟨lw_p102, List.forall_mem_cons.mpr ⟨lw_p103, List.forall_mem_cons.mpr ⟨lw_p104, List.forall_mem_cons.mpr ⟨lw_p105, List.forall_mem_cons.mpr ⟨lw_p106, List.forall_mem_cons.mpr ⟨lw_p107, List.forall_mem_cons.mpr ⟨lw_p108, List.forall_mem_cons.mpr ⟨lw_p109, List.forall_mem_cons.mpr ⟨lw_p110, List.forall_mem_cons.mpr ⟨lw_p111, fun _ h => absurd h List.not_mem_nil⟩⟩⟩⟩⟩⟩⟩⟩⟩⟩⟩⟩⟩⟩⟩⟩
theorem lw_p112 : lw_okq (⟨"TruckWingModel", "number", "()I"⟩, 27) := ⟨⟨by decide +kernel, by decide +kernel⟩, List.mem_of_getElem? (i := 977) (by decide +kernel), List.mem_of_getElem? (i := 1220) (by decide +kernel), List.mem_of_getElem? (i := 1221) (by decide +kernel)⟩
theorem lw_p113 : lw_okq (⟨"TruckWingModel", "isDigitAt", "(I)Z"⟩, 27) := ⟨⟨by decide +kernel, by decide +kernel⟩, List.mem_of_getElem? (i := 977) (by decide +kernel), List.mem_of_getElem? (i := 1224) (by decide +kernel), List.mem_of_getElem? (i := 1225) (by decide +kernel)⟩
theorem lw_p114 : lw_okq (⟨"TruckWingModel", "fails", "(II)V"⟩, 27) := ⟨⟨by decide +kernel, by decide +kernel⟩, List.mem_of_getElem? (i := 977) (by decide +kernel), List.mem_of_getElem? (i := 1228) (by decide +kernel), List.mem_of_getElem? (i := 1229) (by decide +kernel)⟩
theorem lw_p115 : lw_okq (⟨"TruckWingModel", "numberIn", "(II)I"⟩, 27) := ⟨⟨by decide +kernel, by decide +kernel⟩, List.mem_of_getElem? (i := 977) (by decide +kernel), List.mem_of_getElem? (i := 1232) (by decide +kernel), List.mem_of_getElem? (i := 1233) (by decide +kernel)⟩
theorem lw_p116 : lw_okq (⟨"TruckWingModel", "rowGoesOn", "()V"⟩, 27) := ⟨⟨by decide +kernel, by decide +kernel⟩, List.mem_of_getElem? (i := 977) (by decide +kernel), List.mem_of_getElem? (i := 1236) (by decide +kernel), List.mem_of_getElem? (i := 1237) (by decide +kernel)⟩
theorem lw_p117 : lw_okq (⟨"TruckWingModel", "wrongPlan", "()I"⟩, 27) := ⟨⟨by decide +kernel, by decide +kernel⟩, List.mem_of_getElem? (i := 977) (by decide +kernel), List.mem_of_getElem? (i := 1248) (by decide +kernel), List.mem_of_getElem? (i := 1249) (by decide +kernel)⟩
theorem lw_p118 : lw_okq (⟨"TruckWingModel", "servedBy", "(I)I"⟩, 27) := ⟨⟨by decide +kernel, by decide +kernel⟩, List.mem_of_getElem? (i := 977) (by decide +kernel), List.mem_of_getElem? (i := 1252) (by decide +kernel), List.mem_of_getElem? (i := 1253) (by decide +kernel)⟩
theorem lw_p119 : lw_okq (⟨"TruckWingModel", "stopAt", "(I)I"⟩, 27) := ⟨⟨by decide +kernel, by decide +kernel⟩, List.mem_of_getElem? (i := 977) (by decide +kernel), List.mem_of_getElem? (i := 1256) (by decide +kernel), List.mem_of_getElem? (i := 1257) (by decide +kernel)⟩
theorem lw_p120 : lw_okq (⟨"TruckWingModel", "isLight", "(I)Z"⟩, 27) := ⟨⟨by decide +kernel, by decide +kernel⟩, List.mem_of_getElem? (i := 977) (by decide +kernel), List.mem_of_getElem? (i := 1260) (by decide +kernel), List.mem_of_getElem? (i := 1261) (by decide +kernel)⟩
theorem lw_p121 : lw_okq (⟨"TruckWingModel", "crosses", "(I)Z"⟩, 27) := ⟨⟨by decide +kernel, by decide +kernel⟩, List.mem_of_getElem? (i := 977) (by decide +kernel), List.mem_of_getElem? (i := 1264) (by decide +kernel), List.mem_of_getElem? (i := 1265) (by decide +kernel)⟩
theorem lw_p122 : lw_okq (⟨"TruckWingModel", "goes", "()Z"⟩, 27) := ⟨⟨by decide +kernel, by decide +kernel⟩, List.mem_of_getElem? (i := 977) (by decide +kernel), List.mem_of_getElem? (i := 1268) (by decide +kernel), List.mem_of_getElem? (i := 1269) (by decide +kernel)⟩
theorem lw_p123 : lw_okq (⟨"TruckWingModel", "happens", "(IIII)V"⟩, 27) := ⟨⟨by decide +kernel, by decide +kernel⟩, List.mem_of_getElem? (i := 977) (by decide +kernel), List.mem_of_getElem? (i := 1272) (by decide +kernel), List.mem_of_getElem? (i := 1273) (by decide +kernel)⟩
theorem lw_p124 : lw_okq (⟨"TruckWingModel", "service", "(I)I"⟩, 27) := ⟨⟨by decide +kernel, by decide +kernel⟩, List.mem_of_getElem? (i := 977) (by decide +kernel), List.mem_of_getElem? (i := 1276) (by decide +kernel), List.mem_of_getElem? (i := 1277) (by decide +kernel)⟩
theorem lw_p125 : lw_okq (⟨"TruckWingModel", "nextCaught", "(I)I"⟩, 27) := ⟨⟨by decide +kernel, by decide +kernel⟩, List.mem_of_getElem? (i := 977) (by decide +kernel), List.mem_of_getElem? (i := 1280) (by decide +kernel), List.mem_of_getElem? (i := 1281) (by decide +kernel)⟩
theorem lw_p126 : lw_okq (⟨"TruckWingModel", "launches", "(II)I"⟩, 27) := ⟨⟨by decide +kernel, by decide +kernel⟩, List.mem_of_getElem? (i := 977) (by decide +kernel), List.mem_of_getElem? (i := 1284) (by decide +kernel), List.mem_of_getElem? (i := 1285) (by decide +kernel)⟩
theorem lw_p127 : lw_okq (⟨"TruckWingModel", "sorts", "()V"⟩, 27) := ⟨⟨by decide +kernel, by decide +kernel⟩, List.mem_of_getElem? (i := 977) (by decide +kernel), List.mem_of_getElem? (i := 1288) (by decide +kernel), List.mem_of_getElem? (i := 1289) (by decide +kernel)⟩
def lw_privs_8 : List (MethodName × Nat) := [(⟨"TruckWingModel", "number", "()I"⟩, 27), (⟨"TruckWingModel", "isDigitAt", "(I)Z"⟩, 27), (⟨"TruckWingModel", "fails", "(II)V"⟩, 27), (⟨"TruckWingModel", "numberIn", "(II)I"⟩, 27), (⟨"TruckWingModel", "rowGoesOn", "()V"⟩, 27), (⟨"TruckWingModel", "wrongPlan", "()I"⟩, 27), (⟨"TruckWingModel", "servedBy", "(I)I"⟩, 27), (⟨"TruckWingModel", "stopAt", "(I)I"⟩, 27), (⟨"TruckWingModel", "isLight", "(I)Z"⟩, 27), (⟨"TruckWingModel", "crosses", "(I)Z"⟩, 27), (⟨"TruckWingModel", "goes", "()Z"⟩, 27), (⟨"TruckWingModel", "happens", "(IIII)V"⟩, 27), (⟨"TruckWingModel", "service", "(I)I"⟩, 27), (⟨"TruckWingModel", "nextCaught", "(I)I"⟩, 27), (⟨"TruckWingModel", "launches", "(II)I"⟩, 27), (⟨"TruckWingModel", "sorts", "()V"⟩, 27)]
theorem lw_r8 : ∀ q ∈ lw_privs_8, lw_okq q := List.forall_mem_cons.mpr ⟨lw_p112, List.forall_mem_cons.mpr ⟨lw_p113, List.forall_mem_cons.mpr ⟨lw_p114, List.forall_mem_cons.mpr ⟨lw_p115, List.forall_mem_cons.mpr ⟨lw_p116, List.forall_mem_cons.mpr ⟨lw_p117, List.forall_mem_cons.mpr ⟨lw_p118, List.forall_mem_cons.mpr ⟨lw_p119, List.forall_mem_cons.mpr ⟨lw_p120, List.forall_mem_cons.mpr ⟨lw_p121, List.forall_mem_cons.mpr ⟨lw_p122, List.forall_mem_cons.mpr ⟨lw_p123, List.forall_mem_cons.mpr ⟨lw_p124, List.forall_mem_cons.mpr ⟨lw_p125, List.forall_mem_cons.mpr ⟨lw_p126, List.forall_mem_cons.mpr ⟨lw_p127, fun _ h => absurd h List.not_mem_nil⟩⟩⟩⟩⟩⟩⟩⟩⟩⟩⟩⟩⟩⟩⟩⟩
theorem lw_p128 : lw_okq (⟨"TruckWingModel", "isAhead", "(II)Z"⟩, 27) := ⟨⟨by decide +kernel, by decide +kernel⟩, List.mem_of_getElem? (i := 977) (by decide +kernel), List.mem_of_getElem? (i := 1292) (by decide +kernel), List.mem_of_getElem? (i := 1293) (by decide +kernel)⟩
theorem lw_p129 : lw_okq (⟨"TruckWingModel", "airOf", "(I)I"⟩, 27) := ⟨⟨by decide +kernel, by decide +kernel⟩, List.mem_of_getElem? (i := 977) (by decide +kernel), List.mem_of_getElem? (i := 1296) (by decide +kernel), List.mem_of_getElem? (i := 1297) (by decide +kernel)⟩
theorem lw_p130 : lw_okq (⟨"TruckWingModel", "lays", "(I)Z"⟩, 27) := ⟨⟨by decide +kernel, by decide +kernel⟩, List.mem_of_getElem? (i := 977) (by decide +kernel), List.mem_of_getElem? (i := 1324) (by decide +kernel), List.mem_of_getElem? (i := 1325) (by decide +kernel)⟩
theorem lw_p131 : lw_okq (⟨"TruckWingModel", "splits", "(I)I"⟩, 27) := ⟨⟨by decide +kernel, by decide +kernel⟩, List.mem_of_getElem? (i := 977) (by decide +kernel), List.mem_of_getElem? (i := 1328) (by decide +kernel), List.mem_of_getElem? (i := 1329) (by decide +kernel)⟩
theorem lw_p132 : lw_okq (⟨"TruckWingModel", "isLightSet", "(II)Z"⟩, 27) := ⟨⟨by decide +kernel, by decide +kernel⟩, List.mem_of_getElem? (i := 977) (by decide +kernel), List.mem_of_getElem? (i := 1335) (by decide +kernel), List.mem_of_getElem? (i := 1336) (by decide +kernel)⟩
theorem lw_p133 : lw_okq (⟨"TruckWingModel", "lasts", "(III)I"⟩, 27) := ⟨⟨by decide +kernel, by decide +kernel⟩, List.mem_of_getElem? (i := 977) (by decide +kernel), List.mem_of_getElem? (i := 1339) (by decide +kernel), List.mem_of_getElem? (i := 1340) (by decide +kernel)⟩
theorem lw_p134 : lw_okq (⟨"TruckWingModel", "seeks", "(I)V"⟩, 27) := ⟨⟨by decide +kernel, by decide +kernel⟩, List.mem_of_getElem? (i := 977) (by decide +kernel), List.mem_of_getElem? (i := 1351) (by decide +kernel), List.mem_of_getElem? (i := 1352) (by decide +kernel)⟩
theorem lw_p135 : lw_okq (⟨"TruckWingModel", "told", "()I"⟩, 27) := ⟨⟨by decide +kernel, by decide +kernel⟩, List.mem_of_getElem? (i := 977) (by decide +kernel), List.mem_of_getElem? (i := 1355) (by decide +kernel), List.mem_of_getElem? (i := 1356) (by decide +kernel)⟩
theorem lw_p136 : lw_okq (⟨"TruckWingModel", "goesOn", "()Z"⟩, 27) := ⟨⟨by decide +kernel, by decide +kernel⟩, List.mem_of_getElem? (i := 977) (by decide +kernel), List.mem_of_getElem? (i := 1359) (by decide +kernel), List.mem_of_getElem? (i := 1360) (by decide +kernel)⟩
theorem lw_p137 : lw_okq (⟨"TruckWingModel", "swaps", "(II)V"⟩, 27) := ⟨⟨by decide +kernel, by decide +kernel⟩, List.mem_of_getElem? (i := 977) (by decide +kernel), List.mem_of_getElem? (i := 1363) (by decide +kernel), List.mem_of_getElem? (i := 1364) (by decide +kernel)⟩
theorem lw_p138 : lw_okq (⟨"TruckWingModel", "splitBy", "(I)I"⟩, 27) := ⟨⟨by decide +kernel, by decide +kernel⟩, List.mem_of_getElem? (i := 977) (by decide +kernel), List.mem_of_getElem? (i := 1379) (by decide +kernel), List.mem_of_getElem? (i := 1380) (by decide +kernel)⟩
def lw_privs_9 : List (MethodName × Nat) := [(⟨"TruckWingModel", "isAhead", "(II)Z"⟩, 27), (⟨"TruckWingModel", "airOf", "(I)I"⟩, 27), (⟨"TruckWingModel", "lays", "(I)Z"⟩, 27), (⟨"TruckWingModel", "splits", "(I)I"⟩, 27), (⟨"TruckWingModel", "isLightSet", "(II)Z"⟩, 27), (⟨"TruckWingModel", "lasts", "(III)I"⟩, 27), (⟨"TruckWingModel", "seeks", "(I)V"⟩, 27), (⟨"TruckWingModel", "told", "()I"⟩, 27), (⟨"TruckWingModel", "goesOn", "()Z"⟩, 27), (⟨"TruckWingModel", "swaps", "(II)V"⟩, 27), (⟨"TruckWingModel", "splitBy", "(I)I"⟩, 27)]
theorem lw_r9 : ∀ q ∈ lw_privs_9, lw_okq q := List.forall_mem_cons.mpr ⟨lw_p128, List.forall_mem_cons.mpr ⟨lw_p129, List.forall_mem_cons.mpr ⟨lw_p130, List.forall_mem_cons.mpr ⟨lw_p131, List.forall_mem_cons.mpr ⟨lw_p132, List.forall_mem_cons.mpr ⟨lw_p133, List.forall_mem_cons.mpr ⟨lw_p134, List.forall_mem_cons.mpr ⟨lw_p135, List.forall_mem_cons.mpr ⟨lw_p136, List.forall_mem_cons.mpr ⟨lw_p137, List.forall_mem_cons.mpr ⟨lw_p138, fun _ h => absurd h List.not_mem_nil⟩⟩⟩⟩⟩⟩⟩⟩⟩⟩⟩
def lw_privs : List (MethodName × Nat) := lw_privs_1 ++ (lw_privs_2 ++ (lw_privs_3 ++ (lw_privs_4 ++ (lw_privs_5 ++ (lw_privs_6 ++ (lw_privs_7 ++ (lw_privs_8 ++ (lw_privs_9))))))))
def lw_tbl : List Cond := k2_sels lw_privs ++ tables_1
theorem lw_privs_ok : ∀ q ∈ lw_privs, lw_okq q := by
  show ∀ q ∈ lw_privs_1 ++ (lw_privs_2 ++ (lw_privs_3 ++ (lw_privs_4 ++ (lw_privs_5 ++ (lw_privs_6 ++ (lw_privs_7 ++ (lw_privs_8 ++ (lw_privs_9)))))))), lw_okq q
  exact List.forall_mem_append.mpr ⟨lw_r1, List.forall_mem_append.mpr ⟨lw_r2, List.forall_mem_append.mpr ⟨lw_r3, List.forall_mem_append.mpr ⟨lw_r4, List.forall_mem_append.mpr ⟨lw_r5, List.forall_mem_append.mpr ⟨lw_r6, List.forall_mem_append.mpr ⟨lw_r7, List.forall_mem_append.mpr ⟨lw_r8, lw_r9⟩⟩⟩⟩⟩⟩⟩⟩
-- ===== end of PART A; then your names; then what follows =====
end
section
def RX0 : String := "TruckWing$Course"
def TX0 : u_T := fun k => match k with
  | 0 => ("TruckWing$Course", "land", "LTruckWing$Land;", true)
  | 1 => ("TruckWing$Course", "plan", "LTruckWing$Plan;", true)
  | 2 => ("TruckWing$Course", "diary", "LTruckWing$Diary;", true)
  | 3 => ("TruckWing$Course", "verdict", "I", false)
  | 4 => ("TruckWing$Course", "comes", "[I", true)
  | 5 => ("TruckWing$Course", "ready", "[I", true)
  | 6 => ("TruckWing$Course", "leaves", "[I", true)
  | 7 => ("TruckWing$Course", "waits", "[I", true)
  | 8 => ("TruckWing$Course", "left", "[I", true)
  | 9 => ("TruckWing$Course", "back", "[I", true)
  | _ => ("TruckWing$Course", "caught", "[I", true)
def tyX0 : Nat → FieldType := fun k => match k with
  | 0 => .object "TruckWing$Land"
  | 1 => .object "TruckWing$Plan"
  | 2 => .object "TruckWing$Diary"
  | 3 => .int
  | 4 => .array .int
  | 5 => .array .int
  | 6 => .array .int
  | 7 => .array .int
  | 8 => .array .int
  | 9 => .array .int
  | _ => .array .int
abbrev wsX00 : List Cond := u_ws RX0 TX0 11
theorem nmX0 : ∀ a, a < 11 → ∀ b, b < 11 → a ≠ b → (TX0 a).2.1 ≠ (TX0 b).2.1 := by decide +kernel
theorem tyX0_ok : ∀ k, k < 11 → parseFieldDescriptor (TX0 k).2.2.1 = some (tyX0 k) := by decide +kernel
abbrev cX0_init : ByteArray := prog_2_method_1_code
def yX0_init : MethodName := ⟨RX0, "<init>", "(LTruckWing$Land;LTruckWing$Plan;)V"⟩
abbrev cX0_look : ByteArray := prog_2_method_2_code
def yX0_look : MethodName := ⟨RX0, "look", "()Z"⟩
abbrev cX0_told : ByteArray := prog_2_method_3_code
def yX0_told : MethodName := ⟨RX0, "told", "(II)I"⟩
abbrev cX0_wrongWithoutTimes : ByteArray := prog_2_method_4_code
def yX0_wrongWithoutTimes : MethodName := ⟨RX0, "wrongWithoutTimes", "()I"⟩
abbrev cX0_impossibleSortie : ByteArray := prog_2_method_5_code
def yX0_impossibleSortie : MethodName := ⟨RX0, "impossibleSortie", "()I"⟩
abbrev cX0_timesServed : ByteArray := prog_2_method_6_code
def yX0_timesServed : MethodName := ⟨RX0, "timesServed", "(I)I"⟩
abbrev cX0_servedTooOften : ByteArray := prog_2_method_7_code
def yX0_servedTooOften : MethodName := ⟨RX0, "servedTooOften", "()I"⟩
abbrev cX0_servedByNobody : ByteArray := prog_2_method_8_code
def yX0_servedByNobody : MethodName := ⟨RX0, "servedByNobody", "()I"⟩
abbrev cX0_tooHeavy : ByteArray := prog_2_method_9_code
def yX0_tooHeavy : MethodName := ⟨RX0, "tooHeavy", "()I"⟩
abbrev cX0_overlapping : ByteArray := prog_2_method_10_code
def yX0_overlapping : MethodName := ⟨RX0, "overlapping", "()I"⟩
abbrev cX0_tooLongInAir : ByteArray := prog_2_method_11_code
def yX0_tooLongInAir : MethodName := ⟨RX0, "tooLongInAir", "()I"⟩
abbrev cX0_air : ByteArray := prog_2_method_12_code
def yX0_air : MethodName := ⟨RX0, "air", "(I)I"⟩
abbrev cX0_drivePlan : ByteArray := prog_2_method_13_code
def yX0_drivePlan : MethodName := ⟨RX0, "drivePlan", "()V"⟩
abbrev cX0_catchAll : ByteArray := prog_2_method_14_code
def yX0_catchAll : MethodName := ⟨RX0, "catchAll", "(II)I"⟩
abbrev cX0_nextToCatch : ByteArray := prog_2_method_15_code
def yX0_nextToCatch : MethodName := ⟨RX0, "nextToCatch", "(I)I"⟩
abbrev cX0_isAhead : ByteArray := prog_2_method_16_code
def yX0_isAhead : MethodName := ⟨RX0, "isAhead", "(II)Z"⟩
abbrev cX0_launchAll : ByteArray := prog_2_method_17_code
def yX0_launchAll : MethodName := ⟨RX0, "launchAll", "(II)I"⟩
abbrev cX0_launch : ByteArray := prog_2_method_18_code
def yX0_launch : MethodName := ⟨RX0, "launch", "(II)V"⟩
abbrev cX0_lastReady : ByteArray := prog_2_method_19_code
def yX0_lastReady : MethodName := ⟨RX0, "lastReady", "()I"⟩
abbrev cX0_ofStop : ByteArray := prog_2_method_20_code
def yX0_ofStop : MethodName := ⟨RX0, "ofStop", "(II)I"⟩
abbrev cX0_ofSortie : ByteArray := prog_2_method_21_code
def yX0_ofSortie : MethodName := ⟨RX0, "ofSortie", "(II)I"⟩
abbrev cX0_total : ByteArray := prog_2_method_22_code
def yX0_total : MethodName := ⟨RX0, "total", "(I)I"⟩
abbrev cX0_drivenTo : ByteArray := prog_2_method_23_code
def yX0_drivenTo : MethodName := ⟨RX0, "drivenTo", "(I)I"⟩
abbrev cX0_flownBy : ByteArray := prog_2_method_24_code
def yX0_flownBy : MethodName := ⟨RX0, "flownBy", "(I)I"⟩
def RX1 : String := "TruckWing$Diary"
def TX1 : u_T := fun k => match k with
  | 0 => ("TruckWing$Diary", "size", "I", false)
  | _ => ("TruckWing$Diary", "keys", "[I", true)
def tyX1 : Nat → FieldType := fun k => match k with
  | 0 => .int
  | _ => .array .int
abbrev wsX10 : List Cond := u_ws RX1 TX1 2
theorem nmX1 : ∀ a, a < 2 → ∀ b, b < 2 → a ≠ b → (TX1 a).2.1 ≠ (TX1 b).2.1 := by decide +kernel
theorem tyX1_ok : ∀ k, k < 2 → parseFieldDescriptor (TX1 k).2.2.1 = some (tyX1 k) := by decide +kernel
abbrev cX1_init : ByteArray := prog_3_method_1_code
def yX1_init : MethodName := ⟨RX1, "<init>", "()V"⟩
abbrev cX1_empty : ByteArray := prog_3_method_2_code
def yX1_empty : MethodName := ⟨RX1, "empty", "()V"⟩
abbrev cX1_note : ByteArray := prog_3_method_3_code
def yX1_note : MethodName := ⟨RX1, "note", "(IIII)V"⟩
abbrev cX1_part : ByteArray := prog_3_method_4_code
def yX1_part : MethodName := ⟨RX1, "part", "(II)I"⟩
def RX2 : String := "TruckWing$Found"
def TX2 : u_T := fun k => match k with
  | 0 => ("TruckWing$Found", "known", "Z", false)
  | 1 => ("TruckWing$Found", "end", "I", false)
  | _ => ("TruckWing$Found", "order", "I", false)
def tyX2 : Nat → FieldType := fun k => match k with
  | 0 => .boolean
  | 1 => .int
  | _ => .int
abbrev wsX20 : List Cond := u_ws RX2 TX2 3
theorem nmX2 : ∀ a, a < 3 → ∀ b, b < 3 → a ≠ b → (TX2 a).2.1 ≠ (TX2 b).2.1 := by decide +kernel
theorem tyX2_ok : ∀ k, k < 3 → parseFieldDescriptor (TX2 k).2.2.1 = some (tyX2 k) := by decide +kernel
abbrev cX2_init : ByteArray := prog_4_method_1_code
def yX2_init : MethodName := ⟨RX2, "<init>", "()V"⟩
abbrev cX2_keep : ByteArray := prog_4_method_2_code
def yX2_keep : MethodName := ⟨RX2, "keep", "(II)V"⟩
def RX3 : String := "TruckWing$Land"
def TX3 : u_T := fun k => match k with
  | 0 => ("TruckWing$Land", "customers", "I", false)
  | 1 => ("TruckWing$Land", "facts", "[I", true)
  | _ => ("TruckWing$Land", "settings", "[I", true)
def tyX3 : Nat → FieldType := fun k => match k with
  | 0 => .int
  | 1 => .array .int
  | _ => .array .int
abbrev wsX30 : List Cond := u_ws RX3 TX3 3
theorem nmX3 : ∀ a, a < 3 → ∀ b, b < 3 → a ≠ b → (TX3 a).2.1 ≠ (TX3 b).2.1 := by decide +kernel
theorem tyX3_ok : ∀ k, k < 3 → parseFieldDescriptor (TX3 k).2.2.1 = some (tyX3 k) := by decide +kernel
abbrev cX3_init : ByteArray := prog_5_method_1_code
def yX3_init : MethodName := ⟨RX3, "<init>", "()V"⟩
abbrev cX3_mayBeFact : ByteArray := prog_5_method_2_code
def yX3_mayBeFact : MethodName := ⟨RX3, "mayBeFact", "(II)Z"⟩
abbrev cX3_mayBeSetting : ByteArray := prog_5_method_3_code
def yX3_mayBeSetting : MethodName := ⟨RX3, "mayBeSetting", "(II)Z"⟩
abbrev cX3_copyOf : ByteArray := prog_5_method_4_code
def yX3_copyOf : MethodName := ⟨RX3, "copyOf", "(LTruckWing$Land;)V"⟩
abbrev cX3_isPlace : ByteArray := prog_5_method_5_code
def yX3_isPlace : MethodName := ⟨RX3, "isPlace", "(I)Z"⟩
abbrev cX3_isCustomer : ByteArray := prog_5_method_6_code
def yX3_isCustomer : MethodName := ⟨RX3, "isCustomer", "(I)Z"⟩
abbrev cX3_fact : ByteArray := prog_5_method_7_code
def yX3_fact : MethodName := ⟨RX3, "fact", "(II)I"⟩
abbrev cX3_setting : ByteArray := prog_5_method_8_code
def yX3_setting : MethodName := ⟨RX3, "setting", "(I)I"⟩
abbrev cX3_putFact : ByteArray := prog_5_method_9_code
def yX3_putFact : MethodName := ⟨RX3, "putFact", "(III)V"⟩
abbrev cX3_putSetting : ByteArray := prog_5_method_10_code
def yX3_putSetting : MethodName := ⟨RX3, "putSetting", "(II)V"⟩
abbrev cX3_addCustomer : ByteArray := prog_5_method_11_code
def yX3_addCustomer : MethodName := ⟨RX3, "addCustomer", "()V"⟩
abbrev cX3_isLight : ByteArray := prog_5_method_12_code
def yX3_isLight : MethodName := ⟨RX3, "isLight", "(I)Z"⟩
abbrev cX3_drive : ByteArray := prog_5_method_13_code
def yX3_drive : MethodName := ⟨RX3, "drive", "(II)I"⟩
abbrev cX3_flight : ByteArray := prog_5_method_14_code
def yX3_flight : MethodName := ⟨RX3, "flight", "(IIII)I"⟩
def RX4 : String := "TruckWing$Plan"
def TX4 : u_T := fun k => match k with
  | 0 => ("TruckWing$Plan", "rowSize", "I", false)
  | 1 => ("TruckWing$Plan", "sorties", "I", false)
  | 2 => ("TruckWing$Plan", "row", "[I", true)
  | _ => ("TruckWing$Plan", "parts", "[I", true)
def tyX4 : Nat → FieldType := fun k => match k with
  | 0 => .int
  | 1 => .int
  | 2 => .array .int
  | _ => .array .int
abbrev wsX40 : List Cond := u_ws RX4 TX4 4
theorem nmX4 : ∀ a, a < 4 → ∀ b, b < 4 → a ≠ b → (TX4 a).2.1 ≠ (TX4 b).2.1 := by decide +kernel
theorem tyX4_ok : ∀ k, k < 4 → parseFieldDescriptor (TX4 k).2.2.1 = some (tyX4 k) := by decide +kernel
abbrev cX4_init : ByteArray := prog_6_method_1_code
def yX4_init : MethodName := ⟨RX4, "<init>", "()V"⟩
abbrev cX4_mayBeFlyer : ByteArray := prog_6_method_2_code
def yX4_mayBeFlyer : MethodName := ⟨RX4, "mayBeFlyer", "(I)Z"⟩
abbrev cX4_mayBeIndex : ByteArray := prog_6_method_3_code
def yX4_mayBeIndex : MethodName := ⟨RX4, "mayBeIndex", "(I)Z"⟩
abbrev cX4_copyOf : ByteArray := prog_6_method_4_code
def yX4_copyOf : MethodName := ⟨RX4, "copyOf", "(LTruckWing$Plan;)V"⟩
abbrev cX4_empty : ByteArray := prog_6_method_5_code
def yX4_empty : MethodName := ⟨RX4, "empty", "()V"⟩
abbrev cX4_stops : ByteArray := prog_6_method_6_code
def yX4_stops : MethodName := ⟨RX4, "stops", "()I"⟩
abbrev cX4_placeAt : ByteArray := prog_6_method_7_code
def yX4_placeAt : MethodName := ⟨RX4, "placeAt", "(I)I"⟩
abbrev cX4_addStop : ByteArray := prog_6_method_8_code
def yX4_addStop : MethodName := ⟨RX4, "addStop", "(I)Z"⟩
abbrev cX4_addSortie : ByteArray := prog_6_method_9_code
def yX4_addSortie : MethodName := ⟨RX4, "addSortie", "(IIII)Z"⟩
abbrev cX4_hasSortie : ByteArray := prog_6_method_10_code
def yX4_hasSortie : MethodName := ⟨RX4, "hasSortie", "(I)Z"⟩
abbrev cX4_part : ByteArray := prog_6_method_11_code
def yX4_part : MethodName := ⟨RX4, "part", "(II)I"⟩
def RX5 : String := "TruckWing$Table"
def TX5 : u_T := fun k => match k with
  | 0 => ("TruckWing$Table", "land", "LTruckWing$Land;", true)
  | 1 => ("TruckWing$Table", "flyers", "I", false)
  | 2 => ("TruckWing$Table", "launch", "I", false)
  | 3 => ("TruckWing$Table", "catching", "I", false)
  | 4 => ("TruckWing$Table", "battery", "I", false)
  | 5 => ("TruckWing$Table", "hovers", "Z", false)
  | 6 => ("TruckWing$Table", "last", "I", false)
  | 7 => ("TruckWing$Table", "legs", "[I", true)
  | 8 => ("TruckWing$Table", "flights", "[I", true)
  | 9 => ("TruckWing$Table", "drops", "[I", true)
  | 10 => ("TruckWing$Table", "light", "[Z", true)
  | 11 => ("TruckWing$Table", "order", "[I", true)
  | 12 => ("TruckWing$Table", "served", "[I", true)
  | 13 => ("TruckWing$Table", "ready", "[I", true)
  | 14 => ("TruckWing$Table", "sorties", "[I", true)
  | 15 => ("TruckWing$Table", "begins", "[I", true)
  | 16 => ("TruckWing$Table", "sets", "[I", true)
  | _ => ("TruckWing$Table", "nexts", "[I", true)
def tyX5 : Nat → FieldType := fun k => match k with
  | 0 => .object "TruckWing$Land"
  | 1 => .int
  | 2 => .int
  | 3 => .int
  | 4 => .int
  | 5 => .boolean
  | 6 => .int
  | 7 => .array .int
  | 8 => .array .int
  | 9 => .array .int
  | 10 => .array .boolean
  | 11 => .array .int
  | 12 => .array .int
  | 13 => .array .int
  | 14 => .array .int
  | 15 => .array .int
  | 16 => .array .int
  | _ => .array .int
abbrev wsX50 : List Cond := u_ws RX5 TX5 18
theorem nmX5 : ∀ a, a < 18 → ∀ b, b < 18 → a ≠ b → (TX5 a).2.1 ≠ (TX5 b).2.1 := by decide +kernel
theorem tyX5_ok : ∀ k, k < 18 → parseFieldDescriptor (TX5 k).2.2.1 = some (tyX5 k) := by decide +kernel
abbrev cX5_init : ByteArray := prog_7_method_1_code
def yX5_init : MethodName := ⟨RX5, "<init>", "(LTruckWing$Land;)V"⟩
abbrev cX5_readOrder : ByteArray := prog_7_method_2_code
def yX5_readOrder : MethodName := ⟨RX5, "readOrder", "(I)Z"⟩
abbrev cX5_orderNumber : ByteArray := prog_7_method_3_code
def yX5_orderNumber : MethodName := ⟨RX5, "orderNumber", "()I"⟩
abbrev cX5_prepare : ByteArray := prog_7_method_4_code
def yX5_prepare : MethodName := ⟨RX5, "prepare", "(III)V"⟩
abbrev cX5_lastEnd : ByteArray := prog_7_method_5_code
def yX5_lastEnd : MethodName := ⟨RX5, "lastEnd", "()I"⟩
abbrev cX5_fill : ByteArray := prog_7_method_6_code
def yX5_fill : MethodName := ⟨RX5, "fill", "(I)V"⟩
abbrev cX5_beginWithVan : ByteArray := prog_7_method_7_code
def yX5_beginWithVan : MethodName := ⟨RX5, "beginWithVan", "(I)V"⟩
abbrev cX5_soonest : ByteArray := prog_7_method_8_code
def yX5_soonest : MethodName := ⟨RX5, "soonest", "(II)I"⟩
abbrev cX5_offerBlocks : ByteArray := prog_7_method_9_code
def yX5_offerBlocks : MethodName := ⟨RX5, "offerBlocks", "(II)V"⟩
abbrev cX5_offerOne : ByteArray := prog_7_method_10_code
def yX5_offerOne : MethodName := ⟨RX5, "offerOne", "(III)V"⟩
abbrev cX5_offerTwo : ByteArray := prog_7_method_11_code
def yX5_offerTwo : MethodName := ⟨RX5, "offerTwo", "(IIII)V"⟩
abbrev cX5_bit : ByteArray := prog_7_method_12_code
def yX5_bit : MethodName := ⟨RX5, "bit", "(II)I"⟩
abbrev cX5_offer : ByteArray := prog_7_method_13_code
def yX5_offer : MethodName := ⟨RX5, "offer", "(IIII)V"⟩
abbrev cX5_lasts : ByteArray := prog_7_method_14_code
def yX5_lasts : MethodName := ⟨RX5, "lasts", "(III)Z"⟩
abbrev cX5_spared : ByteArray := prog_7_method_15_code
def yX5_spared : MethodName := ⟨RX5, "spared", "(II)I"⟩
abbrev cX5_leg : ByteArray := prog_7_method_16_code
def yX5_leg : MethodName := ⟨RX5, "leg", "(II)I"⟩
abbrev cX5_trip : ByteArray := prog_7_method_17_code
def yX5_trip : MethodName := ⟨RX5, "trip", "(III)I"⟩
abbrev cX5_search : ByteArray := prog_7_method_18_code
def yX5_search : MethodName := ⟨RX5, "search", "(LTruckWing$Found;)V"⟩
abbrev cX5_nextOrder : ByteArray := prog_7_method_19_code
def yX5_nextOrder : MethodName := ⟨RX5, "nextOrder", "()I"⟩
abbrev cX5_swap : ByteArray := prog_7_method_20_code
def yX5_swap : MethodName := ⟨RX5, "swap", "(II)V"⟩
abbrev cX5_writePlan : ByteArray := prog_7_method_21_code
def yX5_writePlan : MethodName := ⟨RX5, "writePlan", "(LTruckWing$Plan;)V"⟩
abbrev cX5_linkBlocks : ByteArray := prog_7_method_22_code
def yX5_linkBlocks : MethodName := ⟨RX5, "linkBlocks", "()V"⟩
abbrev cX5_writeBlock : ByteArray := prog_7_method_23_code
def yX5_writeBlock : MethodName := ⟨RX5, "writeBlock", "(LTruckWing$Plan;II)V"⟩
abbrev cX5_isFlown : ByteArray := prog_7_method_24_code
def yX5_isFlown : MethodName := ⟨RX5, "isFlown", "(III)Z"⟩
def RX6 : String := "TruckWing$Tape"
def TX6 : u_T := fun k => match k with
  | 0 => ("TruckWing$Tape", "length", "I", false)
  | _ => ("TruckWing$Tape", "bytes", "[I", true)
def tyX6 : Nat → FieldType := fun k => match k with
  | 0 => .int
  | _ => .array .int
abbrev wsX60 : List Cond := u_ws RX6 TX6 2
theorem nmX6 : ∀ a, a < 2 → ∀ b, b < 2 → a ≠ b → (TX6 a).2.1 ≠ (TX6 b).2.1 := by decide +kernel
theorem tyX6_ok : ∀ k, k < 2 → parseFieldDescriptor (TX6 k).2.2.1 = some (tyX6 k) := by decide +kernel
abbrev cX6_init : ByteArray := prog_8_method_1_code
def yX6_init : MethodName := ⟨RX6, "<init>", "()V"⟩
abbrev cX6_append : ByteArray := prog_8_method_2_code
def yX6_append : MethodName := ⟨RX6, "append", "(I)V"⟩
abbrev cX6_byteAt : ByteArray := prog_8_method_3_code
def yX6_byteAt : MethodName := ⟨RX6, "byteAt", "(I)I"⟩
abbrev cX6_hasDigitAt : ByteArray := prog_8_method_4_code
def yX6_hasDigitAt : MethodName := ⟨RX6, "hasDigitAt", "(I)Z"⟩
abbrev cX6_hasLetterAt : ByteArray := prog_8_method_5_code
def yX6_hasLetterAt : MethodName := ⟨RX6, "hasLetterAt", "(I)Z"⟩
abbrev cX6_hasBlankAt : ByteArray := prog_8_method_6_code
def yX6_hasBlankAt : MethodName := ⟨RX6, "hasBlankAt", "(I)Z"⟩
def RX7 : String := "TruckWing$Teller"
def TX7 : u_T := fun k => match k with
  | 0 => ("TruckWing$Teller", "tape", "LTruckWing$Tape;", true)
  | 1 => ("TruckWing$Teller", "land", "LTruckWing$Land;", true)
  | 2 => ("TruckWing$Teller", "plan", "LTruckWing$Plan;", true)
  | 3 => ("TruckWing$Teller", "numbers", "[I", true)
  | 4 => ("TruckWing$Teller", "given", "I", false)
  | 5 => ("TruckWing$Teller", "fault", "I", false)
  | 6 => ("TruckWing$Teller", "token", "I", false)
  | 7 => ("TruckWing$Teller", "start", "I", false)
  | 8 => ("TruckWing$Teller", "behind", "I", false)
  | _ => ("TruckWing$Teller", "value", "I", false)
def tyX7 : Nat → FieldType := fun k => match k with
  | 0 => .object "TruckWing$Tape"
  | 1 => .object "TruckWing$Land"
  | 2 => .object "TruckWing$Plan"
  | 3 => .array .int
  | 4 => .int
  | 5 => .int
  | 6 => .int
  | 7 => .int
  | 8 => .int
  | _ => .int
abbrev wsX70 : List Cond := u_ws RX7 TX7 10
theorem nmX7 : ∀ a, a < 10 → ∀ b, b < 10 → a ≠ b → (TX7 a).2.1 ≠ (TX7 b).2.1 := by decide +kernel
theorem tyX7_ok : ∀ k, k < 10 → parseFieldDescriptor (TX7 k).2.2.1 = some (tyX7 k) := by decide +kernel
abbrev cX7_init : ByteArray := prog_9_method_1_code
def yX7_init : MethodName := ⟨RX7, "<init>", "(LTruckWing$Tape;)V"⟩
abbrev cX7_read : ByteArray := prog_9_method_2_code
def yX7_read : MethodName := ⟨RX7, "read", "(LTruckWing$Land;LTruckWing$Plan;)I"⟩
abbrev cX7_whatIsTold : ByteArray := prog_9_method_3_code
def yX7_whatIsTold : MethodName := ⟨RX7, "whatIsTold", "()I"⟩
abbrev cX7_readStatement : ByteArray := prog_9_method_4_code
def yX7_readStatement : MethodName := ⟨RX7, "readStatement", "(I)Z"⟩
abbrev cX7_least : ByteArray := prog_9_method_5_code
def yX7_least : MethodName := ⟨RX7, "least", "(I)I"⟩
abbrev cX7_most : ByteArray := prog_9_method_6_code
def yX7_most : MethodName := ⟨RX7, "most", "(I)I"⟩
abbrev cX7_apply : ByteArray := prog_9_method_7_code
def yX7_apply : MethodName := ⟨RX7, "apply", "(I)V"⟩
abbrev cX7_applyFacts : ByteArray := prog_9_method_8_code
def yX7_applyFacts : MethodName := ⟨RX7, "applyFacts", "(I)V"⟩
abbrev cX7_applyRow : ByteArray := prog_9_method_9_code
def yX7_applyRow : MethodName := ⟨RX7, "applyRow", "()V"⟩
abbrev cX7_refuse : ByteArray := prog_9_method_10_code
def yX7_refuse : MethodName := ⟨RX7, "refuse", "(I)Z"⟩
abbrev cX7_step : ByteArray := prog_9_method_11_code
def yX7_step : MethodName := ⟨RX7, "step", "()V"⟩
abbrev cX7_stepWord : ByteArray := prog_9_method_12_code
def yX7_stepWord : MethodName := ⟨RX7, "stepWord", "()V"⟩
abbrev cX7_stepInt : ByteArray := prog_9_method_13_code
def yX7_stepInt : MethodName := ⟨RX7, "stepInt", "(II)V"⟩
abbrev cX7_isWord : ByteArray := prog_9_method_14_code
def yX7_isWord : MethodName := ⟨RX7, "isWord", "(Ljava/lang/String;)Z"⟩
def RX8 : String := "TruckWing"
def TX8 : u_T := fun k => match k with
  | 0 => ("TruckWing", "land", "LTruckWing$Land;", true)
  | 1 => ("TruckWing", "plan", "LTruckWing$Plan;", true)
  | 2 => ("TruckWing", "course", "LTruckWing$Course;", true)
  | 3 => ("TruckWing", "table", "LTruckWing$Table;", true)
  | 4 => ("TruckWing", "tape", "LTruckWing$Tape;", true)
  | 5 => ("TruckWing", "teller", "LTruckWing$Teller;", true)
  | 6 => ("TruckWing", "bestFound", "LTruckWing$Found;", true)
  | _ => ("TruckWing", "aloneFound", "LTruckWing$Found;", true)
def tyX8 : Nat → FieldType := fun k => match k with
  | 0 => .object "TruckWing$Land"
  | 1 => .object "TruckWing$Plan"
  | 2 => .object "TruckWing$Course"
  | 3 => .object "TruckWing$Table"
  | 4 => .object "TruckWing$Tape"
  | 5 => .object "TruckWing$Teller"
  | 6 => .object "TruckWing$Found"
  | _ => .object "TruckWing$Found"
abbrev wsX80 : List Cond := u_ws RX8 TX8 8
theorem nmX8 : ∀ a, a < 8 → ∀ b, b < 8 → a ≠ b → (TX8 a).2.1 ≠ (TX8 b).2.1 := by decide +kernel
theorem tyX8_ok : ∀ k, k < 8 → parseFieldDescriptor (TX8 k).2.2.1 = some (tyX8 k) := by decide +kernel
abbrev cX8_init : ByteArray := prog_1_method_1_code
def yX8_init : MethodName := ⟨RX8, "<init>", "()V"⟩
abbrev cX8_feed : ByteArray := prog_1_method_2_code
def yX8_feed : MethodName := ⟨RX8, "feed", "(IIIII)I"⟩
abbrev cX8_end : ByteArray := prog_1_method_3_code
def yX8_end : MethodName := ⟨RX8, "end", "(I)Z"⟩
abbrev cX8_tell : ByteArray := prog_1_method_4_code
def yX8_tell : MethodName := ⟨RX8, "tell", "()I"⟩
abbrev cX8_fault : ByteArray := prog_1_method_5_code
def yX8_fault : MethodName := ⟨RX8, "fault", "()I"⟩
abbrev cX8_customer : ByteArray := prog_1_method_6_code
def yX8_customer : MethodName := ⟨RX8, "customer", "(IIIII)I"⟩
abbrev cX8_drop : ByteArray := prog_1_method_7_code
def yX8_drop : MethodName := ⟨RX8, "drop", "()I"⟩
abbrev cX8_set : ByteArray := prog_1_method_8_code
def yX8_set : MethodName := ⟨RX8, "set", "(II)Z"⟩
abbrev cX8_go : ByteArray := prog_1_method_9_code
def yX8_go : MethodName := ⟨RX8, "go", "(I)I"⟩
abbrev cX8_fly : ByteArray := prog_1_method_10_code
def yX8_fly : MethodName := ⟨RX8, "fly", "(IIII)I"⟩
abbrev cX8_undo : ByteArray := prog_1_method_11_code
def yX8_undo : MethodName := ⟨RX8, "undo", "(Z)I"⟩
abbrev cX8_clear : ByteArray := prog_1_method_12_code
def yX8_clear : MethodName := ⟨RX8, "clear", "()V"⟩
abbrev cX8_count : ByteArray := prog_1_method_13_code
def yX8_count : MethodName := ⟨RX8, "count", "(I)I"⟩
abbrev cX8_place : ByteArray := prog_1_method_14_code
def yX8_place : MethodName := ⟨RX8, "place", "(II)I"⟩
abbrev cX8_way : ByteArray := prog_1_method_15_code
def yX8_way : MethodName := ⟨RX8, "way", "(IIZ)I"⟩
abbrev cX8_sortie : ByteArray := prog_1_method_16_code
def yX8_sortie : MethodName := ⟨RX8, "sortie", "(II)I"⟩
abbrev cX8_wrong : ByteArray := prog_1_method_17_code
def yX8_wrong : MethodName := ⟨RX8, "wrong", "()I"⟩
abbrev cX8_ends : ByteArray := prog_1_method_18_code
def yX8_ends : MethodName := ⟨RX8, "ends", "()I"⟩
abbrev cX8_stop : ByteArray := prog_1_method_19_code
def yX8_stop : MethodName := ⟨RX8, "stop", "(II)I"⟩
abbrev cX8_flown : ByteArray := prog_1_method_20_code
def yX8_flown : MethodName := ⟨RX8, "flown", "(II)I"⟩
abbrev cX8_event : ByteArray := prog_1_method_21_code
def yX8_event : MethodName := ⟨RX8, "event", "(II)I"⟩
abbrev cX8_sum : ByteArray := prog_1_method_22_code
def yX8_sum : MethodName := ⟨RX8, "sum", "(I)I"⟩
abbrev cX8_split : ByteArray := prog_1_method_23_code
def yX8_split : MethodName := ⟨RX8, "split", "(I)I"⟩
abbrev cX8_take : ByteArray := prog_1_method_24_code
def yX8_take : MethodName := ⟨RX8, "take", "(I)I"⟩
abbrev cX8_best : ByteArray := prog_1_method_25_code
def yX8_best : MethodName := ⟨RX8, "best", "()I"⟩
abbrev cX8_bestOrder : ByteArray := prog_1_method_26_code
def yX8_bestOrder : MethodName := ⟨RX8, "bestOrder", "()I"⟩
abbrev cX8_alone : ByteArray := prog_1_method_27_code
def yX8_alone : MethodName := ⟨RX8, "alone", "(I)I"⟩
abbrev cX8_wind : ByteArray := prog_1_method_28_code
def yX8_wind : MethodName := ⟨RX8, "wind", "(II)I"⟩
abbrev cX8_bestWind : ByteArray := prog_1_method_29_code
def yX8_bestWind : MethodName := ⟨RX8, "bestWind", "()I"⟩
abbrev cX8_endByWind : ByteArray := prog_1_method_30_code
def yX8_endByWind : MethodName := ⟨RX8, "endByWind", "(I)I"⟩
abbrev cX8_fillTable : ByteArray := prog_1_method_31_code
def yX8_fillTable : MethodName := ⟨RX8, "fillTable", "()V"⟩
abbrev cX8_searchBest : ByteArray := prog_1_method_32_code
def yX8_searchBest : MethodName := ⟨RX8, "searchBest", "()V"⟩
abbrev cX8_searchAlone : ByteArray := prog_1_method_33_code
def yX8_searchAlone : MethodName := ⟨RX8, "searchAlone", "()V"⟩
abbrev cX8_forgetSearches : ByteArray := prog_1_method_34_code
def yX8_forgetSearches : MethodName := ⟨RX8, "forgetSearches", "()V"⟩
def RX9 : String := "TruckWingModel"
def TX9 : u_T := fun k => match k with
  | 0 => ("TruckWingModel", "thrown", "I", false)
  | 1 => ("TruckWingModel", "now", "[I", true)
  | 2 => ("TruckWingModel", "kept", "[I", true)
  | 3 => ("TruckWingModel", "tape", "[B", true)
  | 4 => ("TruckWingModel", "taped", "I", false)
  | 5 => ("TruckWingModel", "fault", "I", false)
  | 6 => ("TruckWingModel", "length", "I", false)
  | 7 => ("TruckWingModel", "at", "I", false)
  | 8 => ("TruckWingModel", "from", "I", false)
  | 9 => ("TruckWingModel", "comes", "[I", true)
  | 10 => ("TruckWingModel", "ready", "[I", true)
  | 11 => ("TruckWingModel", "leaves", "[I", true)
  | 12 => ("TruckWingModel", "waits", "[I", true)
  | 13 => ("TruckWingModel", "left", "[I", true)
  | 14 => ("TruckWingModel", "came", "[I", true)
  | 15 => ("TruckWingModel", "caught", "[I", true)
  | 16 => ("TruckWingModel", "isCaught", "[Z", true)
  | 17 => ("TruckWingModel", "event", "[I", true)
  | 18 => ("TruckWingModel", "events", "I", false)
  | 19 => ("TruckWingModel", "order", "[I", true)
  | 20 => ("TruckWingModel", "found", "[I", true)
  | 21 => ("TruckWingModel", "fewest", "[I", true)
  | 22 => ("TruckWingModel", "begins", "[I", true)
  | 23 => ("TruckWingModel", "flies", "[I", true)
  | 24 => ("TruckWingModel", "isEnd", "[Z", true)
  | 25 => ("TruckWingModel", "bestEnd", "I", false)
  | _ => ("TruckWingModel", "bestTold", "I", false)
def tyX9 : Nat → FieldType := fun k => match k with
  | 0 => .int
  | 1 => .array .int
  | 2 => .array .int
  | 3 => .array .byte
  | 4 => .int
  | 5 => .int
  | 6 => .int
  | 7 => .int
  | 8 => .int
  | 9 => .array .int
  | 10 => .array .int
  | 11 => .array .int
  | 12 => .array .int
  | 13 => .array .int
  | 14 => .array .int
  | 15 => .array .int
  | 16 => .array .boolean
  | 17 => .array .int
  | 18 => .int
  | 19 => .array .int
  | 20 => .array .int
  | 21 => .array .int
  | 22 => .array .int
  | 23 => .array .int
  | 24 => .array .boolean
  | 25 => .int
  | _ => .int
abbrev wsX90 : List Cond := u_ws RX9 TX9 27
theorem nmX9 : ∀ a, a < 27 → ∀ b, b < 27 → a ≠ b → (TX9 a).2.1 ≠ (TX9 b).2.1 := by decide +kernel
theorem tyX9_ok : ∀ k, k < 27 → parseFieldDescriptor (TX9 k).2.2.1 = some (tyX9 k) := by decide +kernel
abbrev cX9_init : ByteArray := prog_11_method_1_code
def yX9_init : MethodName := ⟨RX9, "<init>", "()V"⟩
abbrev cX9_thrown : ByteArray := prog_11_method_2_code
def yX9_thrown : MethodName := ⟨RX9, "thrown", "()I"⟩
abbrev cX9_isIn : ByteArray := prog_11_method_3_code
def yX9_isIn : MethodName := ⟨RX9, "isIn", "(III)Z"⟩
abbrev cX9_size : ByteArray := prog_11_method_4_code
def yX9_size : MethodName := ⟨RX9, "size", "(I)I"⟩
abbrev cX9_of : ByteArray := prog_11_method_5_code
def yX9_of : MethodName := ⟨RX9, "of", "(I)I"⟩
abbrev cX9_customers : ByteArray := prog_11_method_6_code
def yX9_customers : MethodName := ⟨RX9, "customers", "()I"⟩
abbrev cX9_placeOf : ByteArray := prog_11_method_7_code
def yX9_placeOf : MethodName := ⟨RX9, "placeOf", "(II)I"⟩
abbrev cX9_stops : ByteArray := prog_11_method_8_code
def yX9_stops : MethodName := ⟨RX9, "stops", "()I"⟩
abbrev cX9_sorties : ByteArray := prog_11_method_9_code
def yX9_sorties : MethodName := ⟨RX9, "sorties", "()I"⟩
abbrev cX9_stopAt : ByteArray := prog_11_method_10_code
def yX9_stopAt : MethodName := ⟨RX9, "stopAt", "(I)I"⟩
abbrev cX9_sortieOf : ByteArray := prog_11_method_11_code
def yX9_sortieOf : MethodName := ⟨RX9, "sortieOf", "(II)I"⟩
abbrev cX9_isCustomer : ByteArray := prog_11_method_12_code
def yX9_isCustomer : MethodName := ⟨RX9, "isCustomer", "(I)Z"⟩
abbrev cX9_isPlace : ByteArray := prog_11_method_13_code
def yX9_isPlace : MethodName := ⟨RX9, "isPlace", "(I)Z"⟩
abbrev cX9_drive : ByteArray := prog_11_method_14_code
def yX9_drive : MethodName := ⟨RX9, "drive", "(II)I"⟩
abbrev cX9_flight : ByteArray := prog_11_method_15_code
def yX9_flight : MethodName := ⟨RX9, "flight", "(II)I"⟩
abbrev cX9_isLight : ByteArray := prog_11_method_16_code
def yX9_isLight : MethodName := ⟨RX9, "isLight", "(I)Z"⟩
abbrev cX9_service : ByteArray := prog_11_method_17_code
def yX9_service : MethodName := ⟨RX9, "service", "(I)I"⟩
abbrev cX9_mayBe : ByteArray := prog_11_method_18_code
def yX9_mayBe : MethodName := ⟨RX9, "mayBe", "(II)Z"⟩
abbrev cX9_maySet : ByteArray := prog_11_method_19_code
def yX9_maySet : MethodName := ⟨RX9, "maySet", "(II)Z"⟩
abbrev cX9_more : ByteArray := prog_11_method_20_code
def yX9_more : MethodName := ⟨RX9, "more", "(IIIII)V"⟩
abbrev cX9_clears : ByteArray := prog_11_method_21_code
def yX9_clears : MethodName := ⟨RX9, "clears", "()V"⟩
abbrev cX9_stopsAt : ByteArray := prog_11_method_22_code
def yX9_stopsAt : MethodName := ⟨RX9, "stopsAt", "(I)V"⟩
abbrev cX9_sends : ByteArray := prog_11_method_23_code
def yX9_sends : MethodName := ⟨RX9, "sends", "(IIII)V"⟩
abbrev cX9_customer : ByteArray := prog_11_method_24_code
def yX9_customer : MethodName := ⟨RX9, "customer", "(IIIII)I"⟩
abbrev cX9_drop : ByteArray := prog_11_method_25_code
def yX9_drop : MethodName := ⟨RX9, "drop", "()I"⟩
abbrev cX9_set : ByteArray := prog_11_method_26_code
def yX9_set : MethodName := ⟨RX9, "set", "(II)Z"⟩
abbrev cX9_go : ByteArray := prog_11_method_27_code
def yX9_go : MethodName := ⟨RX9, "go", "(I)I"⟩
abbrev cX9_maySend : ByteArray := prog_11_method_28_code
def yX9_maySend : MethodName := ⟨RX9, "maySend", "(IIII)Z"⟩
abbrev cX9_fly : ByteArray := prog_11_method_29_code
def yX9_fly : MethodName := ⟨RX9, "fly", "(IIII)I"⟩
abbrev cX9_undo : ByteArray := prog_11_method_30_code
def yX9_undo : MethodName := ⟨RX9, "undo", "(Z)I"⟩
abbrev cX9_clear : ByteArray := prog_11_method_31_code
def yX9_clear : MethodName := ⟨RX9, "clear", "()V"⟩
abbrev cX9_count : ByteArray := prog_11_method_32_code
def yX9_count : MethodName := ⟨RX9, "count", "(I)I"⟩
abbrev cX9_place : ByteArray := prog_11_method_33_code
def yX9_place : MethodName := ⟨RX9, "place", "(II)I"⟩
abbrev cX9_way : ByteArray := prog_11_method_34_code
def yX9_way : MethodName := ⟨RX9, "way", "(IIZ)I"⟩
abbrev cX9_sortie : ByteArray := prog_11_method_35_code
def yX9_sortie : MethodName := ⟨RX9, "sortie", "(II)I"⟩
abbrev cX9_put : ByteArray := prog_11_method_36_code
def yX9_put : MethodName := ⟨RX9, "put", "(I)V"⟩
abbrev cX9_feed : ByteArray := prog_11_method_37_code
def yX9_feed : MethodName := ⟨RX9, "feed", "(IIIII)I"⟩
abbrev cX9_end : ByteArray := prog_11_method_38_code
def yX9_end : MethodName := ⟨RX9, "end", "(I)Z"⟩
abbrev cX9_here : ByteArray := prog_11_method_39_code
def yX9_here : MethodName := ⟨RX9, "here", "()I"⟩
abbrev cX9_fails : ByteArray := prog_11_method_40_code
def yX9_fails : MethodName := ⟨RX9, "fails", "(II)V"⟩
abbrev cX9_isDigitAt : ByteArray := prog_11_method_41_code
def yX9_isDigitAt : MethodName := ⟨RX9, "isDigitAt", "(I)Z"⟩
abbrev cX9_number : ByteArray := prog_11_method_42_code
def yX9_number : MethodName := ⟨RX9, "number", "()I"⟩
abbrev cX9_numberOf : ByteArray := prog_11_method_43_code
def yX9_numberOf : MethodName := ⟨RX9, "numberOf", "(I)I"⟩
abbrev cX9_numberIn : ByteArray := prog_11_method_44_code
def yX9_numberIn : MethodName := ⟨RX9, "numberIn", "(II)I"⟩
abbrev cX9_word : ByteArray := prog_11_method_45_code
def yX9_word : MethodName := ⟨RX9, "word", "()I"⟩
abbrev cX9_letters : ByteArray := prog_11_method_46_code
def yX9_letters : MethodName := ⟨RX9, "letters", "(III)I"⟩
abbrev cX9_statement : ByteArray := prog_11_method_47_code
def yX9_statement : MethodName := ⟨RX9, "statement", "()V"⟩
abbrev cX9_rowGoesOn : ByteArray := prog_11_method_48_code
def yX9_rowGoesOn : MethodName := ⟨RX9, "rowGoesOn", "()V"⟩
abbrev cX9_tell : ByteArray := prog_11_method_49_code
def yX9_tell : MethodName := ⟨RX9, "tell", "()I"⟩
abbrev cX9_fault : ByteArray := prog_11_method_50_code
def yX9_fault : MethodName := ⟨RX9, "fault", "()I"⟩
abbrev cX9_servedBy : ByteArray := prog_11_method_51_code
def yX9_servedBy : MethodName := ⟨RX9, "servedBy", "(I)I"⟩
abbrev cX9_crosses : ByteArray := prog_11_method_52_code
def yX9_crosses : MethodName := ⟨RX9, "crosses", "(I)Z"⟩
abbrev cX9_wrongPlan : ByteArray := prog_11_method_53_code
def yX9_wrongPlan : MethodName := ⟨RX9, "wrongPlan", "()I"⟩
abbrev cX9_happens : ByteArray := prog_11_method_54_code
def yX9_happens : MethodName := ⟨RX9, "happens", "(IIII)V"⟩
abbrev cX9_nextCaught : ByteArray := prog_11_method_55_code
def yX9_nextCaught : MethodName := ⟨RX9, "nextCaught", "(I)I"⟩
abbrev cX9_launches : ByteArray := prog_11_method_56_code
def yX9_launches : MethodName := ⟨RX9, "launches", "(II)I"⟩
abbrev cX9_goes : ByteArray := prog_11_method_57_code
def yX9_goes : MethodName := ⟨RX9, "goes", "()Z"⟩
abbrev cX9_isAhead : ByteArray := prog_11_method_58_code
def yX9_isAhead : MethodName := ⟨RX9, "isAhead", "(II)Z"⟩
abbrev cX9_sorts : ByteArray := prog_11_method_59_code
def yX9_sorts : MethodName := ⟨RX9, "sorts", "()V"⟩
abbrev cX9_airOf : ByteArray := prog_11_method_60_code
def yX9_airOf : MethodName := ⟨RX9, "airOf", "(I)I"⟩
abbrev cX9_wrong : ByteArray := prog_11_method_61_code
def yX9_wrong : MethodName := ⟨RX9, "wrong", "()I"⟩
abbrev cX9_ends : ByteArray := prog_11_method_62_code
def yX9_ends : MethodName := ⟨RX9, "ends", "()I"⟩
abbrev cX9_stop : ByteArray := prog_11_method_63_code
def yX9_stop : MethodName := ⟨RX9, "stop", "(II)I"⟩
abbrev cX9_flown : ByteArray := prog_11_method_64_code
def yX9_flown : MethodName := ⟨RX9, "flown", "(II)I"⟩
abbrev cX9_event : ByteArray := prog_11_method_65_code
def yX9_event : MethodName := ⟨RX9, "event", "(II)I"⟩
abbrev cX9_sum : ByteArray := prog_11_method_66_code
def yX9_sum : MethodName := ⟨RX9, "sum", "(I)I"⟩
abbrev cX9_lays : ByteArray := prog_11_method_67_code
def yX9_lays : MethodName := ⟨RX9, "lays", "(I)Z"⟩
abbrev cX9_bits : ByteArray := prog_11_method_68_code
def yX9_bits : MethodName := ⟨RX9, "bits", "(I)I"⟩
abbrev cX9_isLightSet : ByteArray := prog_11_method_69_code
def yX9_isLightSet : MethodName := ⟨RX9, "isLightSet", "(II)Z"⟩
abbrev cX9_lasts : ByteArray := prog_11_method_70_code
def yX9_lasts : MethodName := ⟨RX9, "lasts", "(III)I"⟩
abbrev cX9_splits : ByteArray := prog_11_method_71_code
def yX9_splits : MethodName := ⟨RX9, "splits", "(I)I"⟩
abbrev cX9_split : ByteArray := prog_11_method_72_code
def yX9_split : MethodName := ⟨RX9, "split", "(I)I"⟩
abbrev cX9_take : ByteArray := prog_11_method_73_code
def yX9_take : MethodName := ⟨RX9, "take", "(I)I"⟩
abbrev cX9_goesOn : ByteArray := prog_11_method_74_code
def yX9_goesOn : MethodName := ⟨RX9, "goesOn", "()Z"⟩
abbrev cX9_swaps : ByteArray := prog_11_method_75_code
def yX9_swaps : MethodName := ⟨RX9, "swaps", "(II)V"⟩
abbrev cX9_told : ByteArray := prog_11_method_76_code
def yX9_told : MethodName := ⟨RX9, "told", "()I"⟩
abbrev cX9_seeks : ByteArray := prog_11_method_77_code
def yX9_seeks : MethodName := ⟨RX9, "seeks", "(I)V"⟩
abbrev cX9_best : ByteArray := prog_11_method_78_code
def yX9_best : MethodName := ⟨RX9, "best", "()I"⟩
abbrev cX9_bestOrder : ByteArray := prog_11_method_79_code
def yX9_bestOrder : MethodName := ⟨RX9, "bestOrder", "()I"⟩
abbrev cX9_alone : ByteArray := prog_11_method_80_code
def yX9_alone : MethodName := ⟨RX9, "alone", "(I)I"⟩
abbrev cX9_splitBy : ByteArray := prog_11_method_81_code
def yX9_splitBy : MethodName := ⟨RX9, "splitBy", "(I)I"⟩
abbrev cX9_wind : ByteArray := prog_11_method_82_code
def yX9_wind : MethodName := ⟨RX9, "wind", "(II)I"⟩
def RJx145de : String := "java/io/Serializable"
def TJx145de : u_T := fun k => match k with
  | _ => ("", "", "", false)
def tyJx145de : Nat → FieldType := fun k => match k with
  | _ => .int
abbrev wsJx145de0 : List Cond := u_ws RJx145de TJx145de 0
theorem nmJx145de : ∀ a, a < 0 → ∀ b, b < 0 → a ≠ b → (TJx145de a).2.1 ≠ (TJx145de b).2.1 := by decide +kernel
theorem tyJx145de_ok : ∀ k, k < 0 → parseFieldDescriptor (TJx145de k).2.2.1 = some (tyJx145de k) := by decide +kernel
def RJx9f9b0 : String := "java/lang/CharSequence"
def TJx9f9b0 : u_T := fun k => match k with
  | _ => ("", "", "", false)
def tyJx9f9b0 : Nat → FieldType := fun k => match k with
  | _ => .int
abbrev wsJx9f9b00 : List Cond := u_ws RJx9f9b0 TJx9f9b0 0
theorem nmJx9f9b0 : ∀ a, a < 0 → ∀ b, b < 0 → a ≠ b → (TJx9f9b0 a).2.1 ≠ (TJx9f9b0 b).2.1 := by decide +kernel
theorem tyJx9f9b0_ok : ∀ k, k < 0 → parseFieldDescriptor (TJx9f9b0 k).2.2.1 = some (tyJx9f9b0 k) := by decide +kernel
def RJx8e188 : String := "java/lang/Cloneable"
def TJx8e188 : u_T := fun k => match k with
  | _ => ("", "", "", false)
def tyJx8e188 : Nat → FieldType := fun k => match k with
  | _ => .int
abbrev wsJx8e1880 : List Cond := u_ws RJx8e188 TJx8e188 0
theorem nmJx8e188 : ∀ a, a < 0 → ∀ b, b < 0 → a ≠ b → (TJx8e188 a).2.1 ≠ (TJx8e188 b).2.1 := by decide +kernel
theorem tyJx8e188_ok : ∀ k, k < 0 → parseFieldDescriptor (TJx8e188 k).2.2.1 = some (tyJx8e188 k) := by decide +kernel
def RJxb160c : String := "java/lang/Comparable"
def TJxb160c : u_T := fun k => match k with
  | _ => ("", "", "", false)
def tyJxb160c : Nat → FieldType := fun k => match k with
  | _ => .int
abbrev wsJxb160c0 : List Cond := u_ws RJxb160c TJxb160c 0
theorem nmJxb160c : ∀ a, a < 0 → ∀ b, b < 0 → a ≠ b → (TJxb160c a).2.1 ≠ (TJxb160c b).2.1 := by decide +kernel
theorem tyJxb160c_ok : ∀ k, k < 0 → parseFieldDescriptor (TJxb160c k).2.2.1 = some (tyJxb160c k) := by decide +kernel
def RJ6 : String := "java/lang/Integer"
def TJ6 : u_T := fun k => match k with
  | _ => ("", "", "", false)
def tyJ6 : Nat → FieldType := fun k => match k with
  | _ => .int
abbrev wsJ60 : List Cond := u_ws RJ6 TJ6 0
theorem nmJ6 : ∀ a, a < 0 → ∀ b, b < 0 → a ≠ b → (TJ6 a).2.1 ≠ (TJ6 b).2.1 := by decide +kernel
theorem tyJ6_ok : ∀ k, k < 0 → parseFieldDescriptor (TJ6 k).2.2.1 = some (tyJ6 k) := by decide +kernel
abbrev cJ6_bitCount_0f7a4 : ByteArray := prog_17_method_49_code
def yJ6_bitCount_0f7a4 : MethodName := ⟨RJ6, "bitCount", "(I)I"⟩
def RJ9 : String := "java/lang/Math"
def TJ9 : u_T := fun k => match k with
  | _ => ("", "", "", false)
def tyJ9 : Nat → FieldType := fun k => match k with
  | _ => .int
abbrev wsJ90 : List Cond := u_ws RJ9 TJ9 0
theorem nmJ9 : ∀ a, a < 0 → ∀ b, b < 0 → a ≠ b → (TJ9 a).2.1 ≠ (TJ9 b).2.1 := by decide +kernel
theorem tyJ9_ok : ∀ k, k < 0 → parseFieldDescriptor (TJ9 k).2.2.1 = some (tyJ9 k) := by decide +kernel
abbrev cJ9_abs_0f7a4 : ByteArray := prog_18_method_59_code
def yJ9_abs_0f7a4 : MethodName := ⟨RJ9, "abs", "(I)I"⟩
abbrev cJ9_max_7cf53 : ByteArray := prog_18_method_65_code
def yJ9_max_7cf53 : MethodName := ⟨RJ9, "max", "(II)I"⟩
def RJ0 : String := "java/lang/String"
def TJ0 : u_T := fun k => match k with
  | _ => ("", "", "", false)
def tyJ0 : Nat → FieldType := fun k => match k with
  | _ => .int
abbrev wsJ00 : List Cond := u_ws RJ0 TJ0 0
theorem nmJ0 : ∀ a, a < 0 → ∀ b, b < 0 → a ≠ b → (TJ0 a).2.1 ≠ (TJ0 b).2.1 := by decide +kernel
theorem tyJ0_ok : ∀ k, k < 0 → parseFieldDescriptor (TJ0 k).2.2.1 = some (tyJ0 k) := by decide +kernel
abbrev cJ0_length_8abf5 : ByteArray := prog_20_method_54_code
def yJ0_length_8abf5 : MethodName := ⟨RJ0, "length", "()I"⟩
abbrev cJ0_charAt_5068e : ByteArray := prog_20_method_56_code
def yJ0_charAt_5068e : MethodName := ⟨RJ0, "charAt", "(I)C"⟩
abbrev cJ0_coder_7d493 : ByteArray := prog_20_method_152_code
def yJ0_coder_7d493 : MethodName := ⟨RJ0, "coder", "()B"⟩
abbrev cJ0_isLatin1_aae02 : ByteArray := prog_20_method_154_code
def yJ0_isLatin1_aae02 : MethodName := ⟨RJ0, "isLatin1", "()Z"⟩
abbrev cJ0_checkIndex_df160 : ByteArray := prog_20_method_155_code
def yJ0_checkIndex_df160 : MethodName := ⟨RJ0, "checkIndex", "(II)V"⟩
def RJ1 : String := "java/lang/StringLatin1"
def TJ1 : u_T := fun k => match k with
  | _ => ("", "", "", false)
def tyJ1 : Nat → FieldType := fun k => match k with
  | _ => .int
abbrev wsJ10 : List Cond := u_ws RJ1 TJ1 0
theorem nmJ1 : ∀ a, a < 0 → ∀ b, b < 0 → a ≠ b → (TJ1 a).2.1 ≠ (TJ1 b).2.1 := by decide +kernel
theorem tyJ1_ok : ∀ k, k < 0 → parseFieldDescriptor (TJ1 k).2.2.1 = some (tyJ1 k) := by decide +kernel
abbrev cJ1_charAt_3b067 : ByteArray := prog_21_method_2_code
def yJ1_charAt_3b067 : MethodName := ⟨RJ1, "charAt", "([BI)C"⟩
def RJ2 : String := "java/lang/StringUTF16"
def TJ2 : u_T := fun k => match k with
  | _ => ("", "", "", false)
def tyJ2 : Nat → FieldType := fun k => match k with
  | _ => .int
abbrev wsJ20 : List Cond := u_ws RJ2 TJ2 0
theorem nmJ2 : ∀ a, a < 0 → ∀ b, b < 0 → a ≠ b → (TJ2 a).2.1 ≠ (TJ2 b).2.1 := by decide +kernel
theorem tyJ2_ok : ∀ k, k < 0 → parseFieldDescriptor (TJ2 k).2.2.1 = some (tyJ2 k) := by decide +kernel
abbrev cJ2_getChar_3b067 : ByteArray := prog_22_method_5_code
def yJ2_getChar_3b067 : MethodName := ⟨RJ2, "getChar", "([BI)C"⟩
abbrev cJ2_length_9d52b : ByteArray := prog_22_method_6_code
def yJ2_length_9d52b : MethodName := ⟨RJ2, "length", "([B)I"⟩
abbrev cJ2_charAt_3b067 : ByteArray := prog_22_method_83_code
def yJ2_charAt_3b067 : MethodName := ⟨RJ2, "charAt", "([BI)C"⟩
abbrev cJ2_checkIndex_2214a : ByteArray := prog_22_method_91_code
def yJ2_checkIndex_2214a : MethodName := ⟨RJ2, "checkIndex", "(I[B)V"⟩
def RJ10 : String := "java/lang/System"
def TJ10 : u_T := fun k => match k with
  | _ => ("", "", "", false)
def tyJ10 : Nat → FieldType := fun k => match k with
  | _ => .int
abbrev wsJ100 : List Cond := u_ws RJ10 TJ10 0
theorem nmJ10 : ∀ a, a < 0 → ∀ b, b < 0 → a ≠ b → (TJ10 a).2.1 ≠ (TJ10 b).2.1 := by decide +kernel
theorem tyJ10_ok : ∀ k, k < 0 → parseFieldDescriptor (TJ10 k).2.2.1 = some (tyJ10 k) := by decide +kernel
def RJxfd54e : String := "java/lang/constant/Constable"
def TJxfd54e : u_T := fun k => match k with
  | _ => ("", "", "", false)
def tyJxfd54e : Nat → FieldType := fun k => match k with
  | _ => .int
abbrev wsJxfd54e0 : List Cond := u_ws RJxfd54e TJxfd54e 0
theorem nmJxfd54e : ∀ a, a < 0 → ∀ b, b < 0 → a ≠ b → (TJxfd54e a).2.1 ≠ (TJxfd54e b).2.1 := by decide +kernel
theorem tyJxfd54e_ok : ∀ k, k < 0 → parseFieldDescriptor (TJxfd54e k).2.2.1 = some (tyJxfd54e k) := by decide +kernel
def RJx3cf43 : String := "java/lang/constant/ConstantDesc"
def TJx3cf43 : u_T := fun k => match k with
  | _ => ("", "", "", false)
def tyJx3cf43 : Nat → FieldType := fun k => match k with
  | _ => .int
abbrev wsJx3cf430 : List Cond := u_ws RJx3cf43 TJx3cf43 0
theorem nmJx3cf43 : ∀ a, a < 0 → ∀ b, b < 0 → a ≠ b → (TJx3cf43 a).2.1 ≠ (TJx3cf43 b).2.1 := by decide +kernel
theorem tyJx3cf43_ok : ∀ k, k < 0 → parseFieldDescriptor (TJx3cf43 k).2.2.1 = some (tyJx3cf43 k) := by decide +kernel
def RJ3 : String := "jdk/internal/util/Preconditions"
def TJ3 : u_T := fun k => match k with
  | _ => ("", "", "", false)
def tyJ3 : Nat → FieldType := fun k => match k with
  | _ => .int
abbrev wsJ30 : List Cond := u_ws RJ3 TJ3 0
theorem nmJ3 : ∀ a, a < 0 → ∀ b, b < 0 → a ≠ b → (TJ3 a).2.1 ≠ (TJ3 b).2.1 := by decide +kernel
theorem tyJ3_ok : ∀ k, k < 0 → parseFieldDescriptor (TJ3 k).2.2.1 = some (tyJ3 k) := by decide +kernel
abbrev cJ3_checkIndex_8e157 : ByteArray := prog_28_method_11_code
def yJ3_checkIndex_8e157 : MethodName := ⟨RJ3, "checkIndex", "(IILjava/util/function/BiFunction;)I"⟩
def RL : String := "TruckWingLaw"
abbrev cL_sortie : ByteArray := method_3_code
def yL_sortie : MethodName := ⟨RL, "sortie", "(LTruckWing;II[J)I"⟩
abbrev cL_law : ByteArray := code
def yL_law : MethodName := ⟨RL, "law", "([I)Z"⟩
abbrev vwCl : List vw_C := [(RX0, TX0, 11), (RX1, TX1, 2), (RX2, TX2, 3), (RX3, TX3, 3), (RX4, TX4, 4), (RX5, TX5, 18), (RX6, TX6, 2), (RX7, TX7, 10), (RX8, TX8, 8), (RX9, TX9, 27)]
end
section
/-! THE BASE: a side's cells (class's or reference's) never change their shape once made: what changes are ints alone. A memory M : cell -> slot -> int. Wp: the machine at a program counter, over any heap that holds M. -/
theorem goodIn_r {big : List Cond} (ws : List Cond) (ps : List Nat) (hp : ws = ps.filterMap (fun i => big[i]?)) (h : ws.all goodWord = true) : GoodIn big ws := by
  intro w hw
  have h1 := List.all_eq_true.mp h w hw
  rw [hp] at hw
  obtain ⟨i, -, hi⟩ := List.mem_filterMap.mp hw
  have hm : w ∈ big := by first | exact List.mem_of_getElem? hi | exact List.getElem?_mem hi
  exact ⟨hm, good_of_word h1⟩
/-- the good words of the tables, and the nest mates' links -/
def gw : List Cond := lw_tbl.filter goodWord
def isNst (w : Cond) : Bool := match w with | .fieldLinkNest .. => true | .methodLinkNest .. => true | _ => false
def nw : List Cond := lw_tbl.filter isNst
theorem gw_mem {w : Cond} (h : w ∈ lw_tbl) (hg : goodWord w = true) : w ∈ gw := List.mem_filter.mpr ⟨h, hg⟩
theorem gw_good {w : Cond} (h : w ∈ gw) : goodWord w = true := (List.mem_filter.mp h).2
theorem tb_mem {w : Cond} (i : Nat) (h : tables_1[i]? = some w) : w ∈ lw_tbl := List.mem_append_right _ (List.mem_of_getElem? h)
theorem sl_mem {w : Cond} (i : Nat) (h : (k2_sels lw_privs)[i]? = some w) : w ∈ lw_tbl := List.mem_append_left _ (List.mem_of_getElem? h)
theorem nw_mem {w : Cond} (h : w ∈ lw_tbl) (hg : isNst w = true) : w ∈ nw := List.mem_filter.mpr ⟨h, hg⟩
abbrev Mm : Type := Nat → Nat → Int32
/-- a cell's shape: an array (type, length) or an object (class, its fields: another cell, or an int) -/
abbrev Sd : Type := (FieldType × Nat) ⊕ (Nat × List (Option Nat))
abbrev Pk : Type := Program × Launch × Env × Room × State × MethodId × Array Value × List Frame × Method × Code
/-- a side: shapes, class numbers, array classes, addresses, addresses of the static arrays, of the texts and of their bytes -/
abbrev Sx : Type := List Sd × va_G × (FieldType → ClassId) × (Nat → Nat) × (Nat → Nat) × (Nat → Nat) × (Nat → Nat)
abbrev Zx : Type := ByteArray × String × Nat × Nat × Option FieldType
abbrev kp (K : Pk) : Program := K.1
abbrev kl (K : Pk) : Launch := K.2.1
abbrev ke (K : Pk) : Env := K.2.2.1
abbrev kR (K : Pk) : Room := K.2.2.2.1
abbrev ks (K : Pk) : State := K.2.2.2.2.1
abbrev km (K : Pk) : MethodId := K.2.2.2.2.2.1
abbrev ka (K : Pk) : Array Value := K.2.2.2.2.2.2.1
abbrev kb (K : Pk) : List Frame := K.2.2.2.2.2.2.2.1
abbrev kme (K : Pk) : Method := K.2.2.2.2.2.2.2.2.1
abbrev kc (K : Pk) : Code := K.2.2.2.2.2.2.2.2.2
def cty (Y : Sx) (ty : FieldType) : ClassId := Y.2.2.1 ty
def adr (Y : Sx) (k : Nat) : Nat := Y.2.2.2.1 k
def sta (Y : Sx) (k : Nat) : Nat := Y.2.2.2.2.1 k
def ska (Y : Sx) (k : Nat) : Nat := Y.2.2.2.2.2.1 k
def skv (Y : Sx) (k : Nat) : Nat := Y.2.2.2.2.2.2 k
def rmd (d : Nat) : Room := { frames := d, cells := 0, slots := 0, locals := 32 * d }
def fvl (Y : Sx) (M : Mm) (k : Nat) (fs : List (Option Nat)) : List Value := fs.mapIdx (fun i o => match o with | some j => Value.ref (adr Y j) | none => Value.int (M k i))
def cel (Y : Sx) (M : Mm) (k : Nat) (d : Sd) : va_E := match d with | .inl a => .inl (cty Y a.1, a.2, .inl (M k)) | .inr o => .inr (o.1, fvl Y M k o.2)
def wsO (Y : Sx) (M : Mm) : va_W := Y.1.mapIdx (fun k d => (adr Y k, cel Y M k d))
def mset (M : Mm) (k i : Nat) (v : Int32) : Mm := fun a => if a = k then upd (M k) i v else M a
/-- a whole row is put -/
def mrow (M : Mm) (k : Nat) (f : Nat → Int32) : Mm := fun a => if a = k then f else M a
theorem mset_eq (M : Mm) (k i : Nat) (v : Int32) : mset M k i v = mrow M k (upd (M k) i v) := rfl
theorem wsO_at {Y : Sx} {M : Mm} {k : Nat} {d : Sd} (h : Y.1[k]? = some d) : (wsO Y M)[k]? = some (adr Y k, cel Y M k d) := by simp [wsO, List.getElem?_mapIdx, h]
theorem wsO_get {Y : Sx} {M : Mm} {k : Nat} {q : Nat × va_E} (h : (wsO Y M)[k]? = some q) : k < Y.1.length ∧ q.1 = adr Y k := by
  simp only [wsO, List.getElem?_mapIdx] at h
  cases hd : Y.1[k]? with
  | none => rw [hd] at h; cases h
  | some d => rw [hd] at h; cases h; exact ⟨(List.getElem?_eq_some_iff.mp hd).1, rfl⟩
theorem cel_ne {Y : Sx} {M : Mm} {k j : Nat} {f : Nat → Int32} (h : j ≠ k) (d : Sd) : cel Y (mrow M k f) j d = cel Y M j d := by
  have e : mrow M k f j = M j := by simp [mrow, h]
  cases d with
  | inl a => simp [cel, e]
  | inr o => simp [cel, fvl, e]
theorem wsO_row {Y : Sx} {M : Mm} {k : Nat} {d : Sd} {f : Nat → Int32} (h : Y.1[k]? = some d) : (wsO Y M).set k (adr Y k, cel Y (mrow M k f) k d) = wsO Y (mrow M k f) := by
  apply List.ext_getElem?
  intro j
  by_cases hj : j = k
  · subst hj
    rw [List.getElem?_set_self (List.getElem?_eq_some_iff.mp (wsO_at (M := M) h)).1, wsO_at h]
  · rw [List.getElem?_set_ne (Ne.symm hj)]
    simp only [wsO, List.getElem?_mapIdx]
    cases Y.1[j]? with
    | none => rfl
    | some d2 => simp [cel_ne hj]
theorem wsO_arr {Y : Sx} {M : Mm} {k n : Nat} {ty : FieldType} {f : Nat → Int32} (h : Y.1[k]? = some (.inl (ty, n))) : (wsO Y M).set k (adr Y k, .inl (cty Y ty, n, .inl f)) = wsO Y (mrow M k f) := by
  rw [← wsO_row h]
  simp [cel, mrow]
theorem wsO_fld {Y : Sx} {M : Mm} {k ci i : Nat} {fs : List (Option Nat)} {v : Int32} (h : Y.1[k]? = some (.inr (ci, fs))) (hi : fs[i]? = some none) : (wsO Y M).set k (adr Y k, .inr (ci, (fvl Y M k fs).set i (.int v))) = wsO Y (mset M k i v) := by
  rw [mset_eq, ← wsO_row h]
  congr 3
  show _ = (ci, fvl Y (mrow M k (upd (M k) i v)) k fs)
  congr 1
  apply List.ext_getElem?
  intro j
  have hl : i < (fvl Y M k fs).length := by simp [fvl]; exact (List.getElem?_eq_some_iff.mp hi).1
  by_cases hj : j = i
  · subst hj
    rw [List.getElem?_set_self hl]
    simp [fvl, List.getElem?_mapIdx, hi, mrow, upd]
  · rw [List.getElem?_set_ne (Ne.symm hj)]
    simp only [fvl, List.getElem?_mapIdx]
    cases fs[j]? with
    | none => rfl
    | some o => cases o <;> simp [mrow, upd, hj]
/-- the cells that a side's methods may change -/
def AA (Y : Sx) (sz : Nat) : Nat → Prop := fun q => (∃ k, k < Y.1.length ∧ q = adr Y k) ∨ sz ≤ q
def apt (Y : Sx) : Prop := ∀ i j, i < Y.1.length → j < Y.1.length → adr Y i = adr Y j → i = j
theorem apt_D {Y : Sx} (h : apt Y) (sz : Nat) (M : Mm) : va_D (AA Y sz) (wsO Y M) := by
  refine ⟨fun i j p q hi hj e => ?_, fun k q hk => ?_⟩
  · obtain ⟨h1, e1⟩ := wsO_get hi
    obtain ⟨h2, e2⟩ := wsO_get hj
    exact h i j h1 h2 (by rw [← e1, ← e2]; exact e)
  · obtain ⟨h1, e1⟩ := wsO_get hk
    exact Or.inl ⟨k, h1, e1⟩
def tyl (Y : Sx) : List (ClassId × FieldType) := [(cty Y .int, .int), (cty Y .boolean, .boolean), (cty Y .byte, .byte)]
/-- static arrays, texts -/
def stT : List (String × String × Nat × List Int32) := [("TruckWing", "FACT_MOST", 5, [50, 50, 30, 30, 99]), ("TruckWing", "SETTING_LEAST", 10, [1, 1, -3, -3, 0, 1, 0, 0, 0, 0]), ("TruckWing", "SETTING_MOST", 10, [9, 9, 3, 3, 99, 999, 9, 9, 2, 1]), ("TruckWing", "SETTING_FIRST", 10, [3, 2, 0, 0, 50, 100, 1, 1, 1, 1]), ("TruckWing$Teller", "INTS", 5, [2, 5, 2, 8, 4])]
def skT : List (Nat × String) := [(65, "depot"), (71, "to"), (73, "set"), (75, "row"), (77, "fly")]
def skL : List Nat := [5, 2, 3, 3, 3]
def skB : List (List Int32) := [[100, 101, 112, 111, 116], [116, 111], [115, 101, 116], [114, 111, 119], [102, 108, 121]]
def Ext (Y : Sx) (A : Nat → Prop) (U : State) (H : Heap) : Prop :=
  (∀ (i : Nat) (q : String × String × Nat × List Int32), stT[i]? = some q → va_Z q.1 q.2.1 "[I" (.ref (sta Y i)) A U H ∧ va_T .int (sta Y i) q.2.2.1 (fun j => .int (q.2.2.2.getD j 0)) A U H) ∧
  vk_S 5 skL skB (ska Y) (skv Y) A U H ∧ va_Z "java/lang/String" "COMPACT_STRINGS" "Z" (.int 1) A U H
theorem Ext.moved {Y : Sx} {A : Nat → Prop} {u U : State} {H : Heap} (hvm : u.vm.Alike U.vm) (h : Ext Y A u H) : Ext Y A U H :=
  ⟨fun i q hq => ⟨(h.1 i q hq).1.moved hvm, (h.1 i q hq).2.moved hvm⟩, h.2.1.moved hvm, h.2.2.moved hvm⟩
theorem Ext.kept {Y : Sx} {A : Nat → Prop} {U : State} {H H1 : Heap} (h : Ext Y A U H) (hq : ∀ a : Nat, a < H.size → ¬ A a → H1[a]? = H[a]?) : Ext Y A U H1 :=
  ⟨fun i q hi => ⟨(h.1 i q hi).1.kept hq, (h.1 i q hi).2.kept hq⟩, h.2.1.kept hq, h.2.2.kept hq⟩
theorem Ext.narrow {Y : Sx} {A B : Nat → Prop} {U : State} {H : Heap} (h : Ext Y A U H) (hAB : ∀ q, B q → A q) : Ext Y B U H :=
  ⟨fun i q hi => ⟨(h.1 i q hi).1.narrow hAB, (h.1 i q hi).2.narrow hAB⟩, h.2.1.narrow hAB, h.2.2.narrow hAB⟩
/-- what speaks of the tables alone -/
def Nst (Y : Sx) (U : State) : Prop := (∀ w ∈ nw, va_Nw w U) ∧ ∀ (i : Nat) (q : Nat × String), skT[i]? = some q → vk_R "TruckWing$Teller" q.1 q.2 (ska Y i) U
theorem nst_on {w : Cond} (h : isNst w = true) : w.onTables = true := by
  cases w <;> simp [isNst] at h <;> rfl
theorem Nst.same {Y : Sx} {u U : State} (hv : u.vm = U.vm) (h : Nst Y u) : Nst Y U :=
  ⟨fun w hw => va_Nw.same (nst_on (List.mem_filter.mp hw).2) hv (h.1 w hw), fun i q hq => vk_R.same hv.symm (h.2 i q hq)⟩
theorem Nst.warm {Y : Sx} {s U : State} (hW : s.WarmedH U.vm) (h : Nst Y s) : Nst Y U := by
  refine ⟨fun w hw => ?_, fun i q hq => vk_R.warm hW (h.2 i q hq)⟩
  have h1 := h.1 w hw
  have h2 := (List.mem_filter.mp hw).2
  cases w <;> simp [isNst] at h2
  · exact va_Nw.warmM hW h1
  · exact va_Nw.warmF hW h1
def Pre (Y : Sx) (M : Mm) (sz : Nat) (U : State) : Prop := U.heap.size = sz ∧ va_P Y.2.1 vwCl (wsO Y M) U.heap ∧ va_K Y.2.1 vwCl (tyl Y) U ∧ Nst Y U ∧ Ext Y (AA Y sz) U U.heap ∧ apt Y
def Qr (Y : Sx) (sz : Nat) (r : Option Int32) (M' : Mm) : Array Value → State → Outcome → State → Prop := fun _ st oc t => oc = .returned (r.map Value.int) ∧ va_P Y.2.1 vwCl (wsO Y M') t.heap ∧ va_F (AA Y sz) st t
/-- a method's contract: with these arguments and this memory it answers r, and the memory is M' then -/
def Ct (l : Launch) (Y : Sx) (y : MethodName) (cc : ByteArray) (mL : Nat) (ret : Option FieldType) (d : Nat) (av : List Value) (M : Mm) (r : Option Int32) (M' : Mm) : Prop :=
  ∀ sz : Nat, Met l y (Cond.code y cc mL ret :: gw) (rmd d) (va_Pc av (Pre Y M sz)) (Qr Y sz r M') 0 0 (AA Y sz)
def Cx (K : Pk) (Z : Zx) (Y : Sx) : Prop :=
  (kp K).tables.exec = Jvm.exec ∧ (kc K).code = Z.1 ∧ (kc K).maxLocals = Z.2.2.1 ∧ (ks K).vm.findClass Z.2.1 = some (km K).cls ∧ (∀ w ∈ gw, w.before (ka K) (ks K) = true) ∧ Nst Y (ks K) ∧ va_K Y.2.1 vwCl (tyl Y) (ks K) ∧ apt Y ∧ Ext Y (AA Y (ks K).heap.size) (ks K) (ks K).heap ∧ (kme K).locks = false ∧ kR K = rmd Z.2.2.2.1 ∧ (kme K).sig.returnType = Z.2.2.2.2
def Wp (K : Pk) (Z : Zx) (Y : Sx) (Q : State → Prop) (M : Mm) (pc : Nat) (lv : List (Nat × Value)) (st : List Value) : Prop :=
  ∀ (H : Heap) (locs : List Loc) (ls : Array Slot), va_P Y.2.1 vwCl (wsO Y M) H → va_S (AA Y (ks K).heap.size) (ks K).heap H locs → lv_has ls Z.2.2.1 lv →
    W (kp K) (kl K) (ke K) (kR K) (ks K) (km K) (ka K) (kb K) (kme K) (kc K) H locs 0 0 Q (F0 (km K) pc ls st)
section ROWS
variable {K : Pk} {Z : Zx} {Y : Sx} {Q : State → Prop} {M : Mm} {pc : Nat} {lv : List (Nat × Value)} {st : List Value}
theorem w_iconst (C : Cx K Z Y) {n : Int} (hd : decode Z.1 pc = .ok (.iconst n, 1)) {v : Int32} (hv : Int32.ofInt n = v) (h : Wp K Z Y Q M (pc + 1) lv (.int v :: st)) : Wp K Z Y Q M pc lv st :=
  fun H locs ls hP hS hl => lv_iconst C.1 C.2.1 hd hv (h H locs ls hP hS hl)
theorem w_bipush (C : Cx K Z Y) {n : Int} (hd : decode Z.1 pc = .ok (.bipush n, 2)) {v : Int32} (hv : (Int8.ofInt n).toInt32 = v) (h : Wp K Z Y Q M (pc + 2) lv (.int v :: st)) : Wp K Z Y Q M pc lv st :=
  fun H locs ls hP hS hl => lv_bipush C.1 C.2.1 hd hv (h H locs ls hP hS hl)
theorem w_sipush (C : Cx K Z Y) {n : Int} (hd : decode Z.1 pc = .ok (.sipush n, 3)) {v : Int32} (hv : (Int16.ofInt n).toInt32 = v) (h : Wp K Z Y Q M (pc + 3) lv (.int v :: st)) : Wp K Z Y Q M pc lv st :=
  fun H locs ls hP hS hl => lv_sipush C.1 C.2.1 hd hv (h H locs ls hP hS hl)
theorem w_iload_n (C : Cx K Z Y) {k : Fin 4} (hd : decode Z.1 pc = .ok (.iload_n k, 1)) (j : Nat) {x : Int32} (hj : lv[j]? = some ((k : Nat), .int x)) (h : Wp K Z Y Q M (pc + 1) lv (.int x :: st)) : Wp K Z Y Q M pc lv st :=
  fun H locs ls hP hS hl => lv_iload_n C.1 C.2.1 hd rfl (lv_at hl j hj) (h H locs ls hP hS hl)
theorem w_iload (C : Cx K Z Y) {i : Nat} (hd : decode Z.1 pc = .ok (.iload i, 2)) (j : Nat) {x : Int32} (hj : lv[j]? = some (i, .int x)) (h : Wp K Z Y Q M (pc + 2) lv (.int x :: st)) : Wp K Z Y Q M pc lv st :=
  fun H locs ls hP hS hl => lv_iload C.1 C.2.1 hd (lv_at hl j hj) (h H locs ls hP hS hl)
theorem w_aload_n (C : Cx K Z Y) {k : Fin 4} (hd : decode Z.1 pc = .ok (.aload_n k, 1)) (j : Nat) {x : Nat} (hj : lv[j]? = some ((k : Nat), .ref x)) (h : Wp K Z Y Q M (pc + 1) lv (.ref x :: st)) : Wp K Z Y Q M pc lv st :=
  fun H locs ls hP hS hl => lv_aload_n C.1 C.2.1 hd rfl (lv_at hl j hj) (h H locs ls hP hS hl)
theorem w_aload (C : Cx K Z Y) {i : Nat} (hd : decode Z.1 pc = .ok (.aload i, 2)) (j : Nat) {x : Nat} (hj : lv[j]? = some (i, .ref x)) (h : Wp K Z Y Q M (pc + 2) lv (.ref x :: st)) : Wp K Z Y Q M pc lv st :=
  fun H locs ls hP hS hl => lv_aload C.1 C.2.1 hd (lv_at hl j hj) (h H locs ls hP hS hl)
/-- the locals, one put: in the order of their numbers (ints and references alone) -/
def lput (i : Nat) (v : Value) : List (Nat × Value) → List (Nat × Value)
  | [] => [(i, v)]
  | q :: l => if i < q.1 then (i, v) :: q :: l else if i = q.1 then (i, v) :: l else q :: lput i v l
def lok : List (Nat × Value) → Bool
  | [] => true
  | q :: l => (q.2.category == 1) && lok l
theorem lput_mem {i : Nat} {v : Value} : ∀ {l : List (Nat × Value)} {q : Nat × Value}, l.Pairwise (fun a b => a.1 < b.1) → q ∈ lput i v l → q = (i, v) ∨ (q ∈ l ∧ q.1 ≠ i)
  | [], q, _, h => by simp [lput] at h; exact Or.inl h
  | a :: l, q, hp, h => by
    rw [List.pairwise_cons] at hp
    unfold lput at h
    split at h
    · rename_i h1
      rcases List.mem_cons.mp h with h | h
      · exact Or.inl h
      · refine Or.inr ⟨h, ?_⟩
        rcases List.mem_cons.mp h with h2 | h2
        · rw [h2]; omega
        · have := hp.1 q h2; omega
    · split at h
      · rename_i h1 h2
        rcases List.mem_cons.mp h with h | h
        · exact Or.inl h
        · refine Or.inr ⟨List.mem_cons_of_mem _ h, ?_⟩
          have := hp.1 q h; omega
      · rename_i h1 h2
        rcases List.mem_cons.mp h with h | h
        · exact Or.inr ⟨by rw [h]; exact List.mem_cons_self, by rw [h]; omega⟩
        · rcases lput_mem hp.2 h with h | h
          · exact Or.inl h
          · exact Or.inr ⟨List.mem_cons_of_mem _ h.1, h.2⟩
/-- sorted, and no value of two words -/
def lvok : List (Nat × Value) → Bool
  | [] => true
  | q :: l => (q.2.category == 1) && (l.all fun r => Nat.blt q.1 r.1) && lvok l
theorem lvok_p : ∀ {l : List (Nat × Value)}, lvok l = true → l.Pairwise (fun a b => a.1 < b.1) ∧ ∀ q ∈ l, q.2.category = 1
  | [], _ => ⟨List.Pairwise.nil, fun q h => by cases h⟩
  | a :: l, h => by
    simp only [lvok, Bool.and_eq_true, beq_iff_eq, List.all_eq_true] at h
    obtain ⟨⟨h1, h2⟩, h3⟩ := h
    obtain ⟨r1, r2⟩ := lvok_p h3
    refine ⟨List.pairwise_cons.mpr ⟨fun b hb => Nat.le_of_ble_eq_true (h2 b hb), r1⟩, fun q hq => ?_⟩
    rcases List.mem_cons.mp hq with e | e
    · rw [e]; exact h1
    · exact r2 q e
theorem lput_has {ls : Array Slot} {nL i : Nat} {v : Value} {l : List (Nat × Value)} (ho : lvok l = true) (h : lv_has ls nL ((i, v) :: l.filter (fun q => !(q.1 == i) && !(q.1 + 1 == i && q.2.category == 2)))) : lv_has ls nL (lput i v l) := by
  obtain ⟨h1, h2, h3⟩ := h
  obtain ⟨p1, p2⟩ := lvok_p ho
  refine ⟨h1, h2, fun q hq => ?_⟩
  rcases lput_mem p1 hq with e | ⟨e1, e2⟩
  · exact h3 q (by rw [e]; exact List.mem_cons_self)
  · refine h3 q (List.mem_cons_of_mem _ (List.mem_filter.mpr ⟨e1, ?_⟩))
    have := p2 q e1
    simp [e2, this]
theorem w_istore_n (C : Cx K Z Y) {k : Fin 4} (hd : decode Z.1 pc = .ok (.istore_n k, 1)) {x : Int32} {lv' : List (Nat × Value)} (hn : Nat.blt k Z.2.2.1 = true) (ho : lvok lv = true) (hl' : lput k (.int x) lv = lv') (h : Wp K Z Y Q M (pc + 1) lv' st) : Wp K Z Y Q M pc lv (.int x :: st) :=
  fun H locs ls hP hS hl => lv_istore_n C.1 C.2.1 hd rfl hl (Nat.le_of_ble_eq_true hn) rfl (fun ls' hl2 => h H locs ls' hP hS (by rw [← hl']; exact lput_has ho hl2))
theorem w_istore (C : Cx K Z Y) {k : Nat} (hd : decode Z.1 pc = .ok (.istore k, 2)) {x : Int32} {lv' : List (Nat × Value)} (hn : Nat.blt k Z.2.2.1 = true) (ho : lvok lv = true) (hl' : lput k (.int x) lv = lv') (h : Wp K Z Y Q M (pc + 2) lv' st) : Wp K Z Y Q M pc lv (.int x :: st) :=
  fun H locs ls hP hS hl => lv_istore C.1 C.2.1 hd hl (Nat.le_of_ble_eq_true hn) rfl (fun ls' hl2 => h H locs ls' hP hS (by rw [← hl']; exact lput_has ho hl2))
theorem w_iinc (C : Cx K Z Y) {k : Nat} {n : Int} (hd : decode Z.1 pc = .ok (.iinc k n, 3)) (j : Nat) {x v : Int32} {lv' : List (Nat × Value)} (hj : lv[j]? = some (k, .int x)) (hv : Int32.ofInt n = v) (hn : Nat.blt k Z.2.2.1 = true) (ho : lvok lv = true) (hl' : lput k (.int (x + v)) lv = lv') (h : Wp K Z Y Q M (pc + 3) lv' st) : Wp K Z Y Q M pc lv st :=
  fun H locs ls hP hS hl => lv_iinc C.1 C.2.1 hd hl hj (by rw [hv]) (Nat.le_of_ble_eq_true hn) rfl (fun ls' hl2 => h H locs ls' hP hS (by rw [← hl']; exact lput_has ho hl2))
/-- fewer locals are known -/
theorem w_lv {lv' : List (Nat × Value)} (ks' : List Nat) (hl' : lv_pick lv ks' = lv') (h : Wp K Z Y Q M pc lv' st) : Wp K Z Y Q M pc lv st :=
  fun H locs ls hP hS hl => h H locs ls hP hS (lv_sub hl ks' hl')
theorem w_iadd (C : Cx K Z Y) {x y : Int32} (hd : decode Z.1 pc = .ok (.iadd, 1)) (h : Wp K Z Y Q M (pc + 1) lv (.int (x + y) :: st)) : Wp K Z Y Q M pc lv (.int y :: .int x :: st) :=
  fun H locs ls hP hS hl => lv_iadd C.1 C.2.1 hd (h H locs ls hP hS hl)
theorem w_isub (C : Cx K Z Y) {x y : Int32} (hd : decode Z.1 pc = .ok (.isub, 1)) (h : Wp K Z Y Q M (pc + 1) lv (.int (x - y) :: st)) : Wp K Z Y Q M pc lv (.int y :: .int x :: st) :=
  fun H locs ls hP hS hl => lv_isub C.1 C.2.1 hd (h H locs ls hP hS hl)
theorem w_imul (C : Cx K Z Y) {x y : Int32} (hd : decode Z.1 pc = .ok (.imul, 1)) (h : Wp K Z Y Q M (pc + 1) lv (.int (x * y) :: st)) : Wp K Z Y Q M pc lv (.int y :: .int x :: st) :=
  fun H locs ls hP hS hl => lv_imul C.1 C.2.1 hd (h H locs ls hP hS hl)
theorem w_iand (C : Cx K Z Y) {x y : Int32} (hd : decode Z.1 pc = .ok (.iand, 1)) (h : Wp K Z Y Q M (pc + 1) lv (.int (x &&& y) :: st)) : Wp K Z Y Q M pc lv (.int y :: .int x :: st) :=
  fun H locs ls hP hS hl => lv_iand C.1 C.2.1 hd (h H locs ls hP hS hl)
theorem w_ior (C : Cx K Z Y) {x y : Int32} (hd : decode Z.1 pc = .ok (.ior, 1)) (h : Wp K Z Y Q M (pc + 1) lv (.int (x ||| y) :: st)) : Wp K Z Y Q M pc lv (.int y :: .int x :: st) :=
  fun H locs ls hP hS hl => lv_ior C.1 C.2.1 hd (h H locs ls hP hS hl)
theorem w_ishl (C : Cx K Z Y) {x y : Int32} (hd : decode Z.1 pc = .ok (.ishl, 1)) (h : Wp K Z Y Q M (pc + 1) lv (.int (x <<< (y &&& 31)) :: st)) : Wp K Z Y Q M pc lv (.int y :: .int x :: st) :=
  fun H locs ls hP hS hl => lv_ishl C.1 C.2.1 hd (h H locs ls hP hS hl)
theorem w_ishr (C : Cx K Z Y) {x y : Int32} (hd : decode Z.1 pc = .ok (.ishr, 1)) (h : Wp K Z Y Q M (pc + 1) lv (.int (x >>> (y &&& 31)) :: st)) : Wp K Z Y Q M pc lv (.int y :: .int x :: st) :=
  fun H locs ls hP hS hl => lv_ishr C.1 C.2.1 hd (h H locs ls hP hS hl)
/-- x >>> y -/
def ush (x y : Int32) : Int32 := (x.toUInt32 >>> (y.toUInt32 &&& Int32.toUInt32 31)).toInt32
theorem w_iushr (C : Cx K Z Y) {x y : Int32} (hd : decode Z.1 pc = .ok (.iushr, 1)) (h : Wp K Z Y Q M (pc + 1) lv (.int (ush x y) :: st)) : Wp K Z Y Q M pc lv (.int y :: .int x :: st) :=
  fun H locs ls hP hS hl => lv_iushr C.1 C.2.1 hd rfl (h H locs ls hP hS hl)
theorem w_ineg (C : Cx K Z Y) {x : Int32} (hd : decode Z.1 pc = .ok (.ineg, 1)) (h : Wp K Z Y Q M (pc + 1) lv (.int (-x) :: st)) : Wp K Z Y Q M pc lv (.int x :: st) :=
  fun H locs ls hP hS hl => lv_ineg C.1 C.2.1 hd (h H locs ls hP hS hl)
/-- x % y -/
def rmi (x y : Int32) : Int32 := x - x / y * y
theorem w_idiv (C : Cx K Z Y) {x y : Int32} (hd : decode Z.1 pc = .ok (.idiv, 1)) (hne : ¬ y = 0) (h : Wp K Z Y Q M (pc + 1) lv (.int (x / y) :: st)) : Wp K Z Y Q M pc lv (.int y :: .int x :: st) :=
  fun H locs ls hP hS hl => lv_idiv C.1 C.2.1 hd hne (h H locs ls hP hS hl)
theorem w_irem (C : Cx K Z Y) {x y : Int32} (hd : decode Z.1 pc = .ok (.irem, 1)) (hne : ¬ y = 0) (h : Wp K Z Y Q M (pc + 1) lv (.int (rmi x y) :: st)) : Wp K Z Y Q M pc lv (.int y :: .int x :: st) :=
  fun H locs ls hP hS hl => lv_irem C.1 C.2.1 hd hne (h H locs ls hP hS hl)
theorem w_i2b (C : Cx K Z Y) {x : Int32} (hd : decode Z.1 pc = .ok (.i2b, 1)) (h : Wp K Z Y Q M (pc + 1) lv (.int x.toInt8.toInt32 :: st)) : Wp K Z Y Q M pc lv (.int x :: st) :=
  fun H locs ls hP hS hl => lv_i2b C.1 C.2.1 hd rfl (h H locs ls hP hS hl)
theorem w_dup (C : Cx K Z Y) {v : Value} (hd : decode Z.1 pc = .ok (.dup, 1)) (hv : v.category = 1) (h : Wp K Z Y Q M (pc + 1) lv (v :: v :: st)) : Wp K Z Y Q M pc lv (v :: st) :=
  fun H locs ls hP hS hl => lv_dup C.1 C.2.1 hd hv (h H locs ls hP hS hl)
theorem w_pop (C : Cx K Z Y) {v : Value} (hd : decode Z.1 pc = .ok (.pop, 1)) (hv : v.category = 1) (h : Wp K Z Y Q M (pc + 1) lv st) : Wp K Z Y Q M pc lv (v :: st) :=
  fun H locs ls hP hS hl => lv_pop C.1 C.2.1 hd hv (h H locs ls hP hS hl)
theorem w_dup2 (C : Cx K Z Y) {v w : Value} (hd : decode Z.1 pc = .ok (.dup2, 1)) (hv : v.category = 1) (hw : w.category = 1) (h : Wp K Z Y Q M (pc + 1) lv (v :: w :: v :: w :: st)) : Wp K Z Y Q M pc lv (v :: w :: st) :=
  fun H locs ls hP hS hl => lv_dup2_11 C.1 C.2.1 hd hv hw (h H locs ls hP hS hl)
theorem w_goto (C : Cx K Z Y) {off : Int} (tgt : Nat) (hd : decode Z.1 pc = .ok (.goto off, 3)) (ht : (pc : Int) + off = (tgt : Int)) (h : Wp K Z Y Q M tgt lv st) : Wp K Z Y Q M pc lv st :=
  fun H locs ls hP hS hl => lv_goto C.1 C.2.1 hd ht (h H locs ls hP hS hl)
theorem w_ifeq (C : Cx K Z Y) {x : Int32} {off : Int} (tgt : Nat) (hd : decode Z.1 pc = .ok (.ifCond .eq off, 3)) (ht : (pc : Int) + off = (tgt : Int)) (kt : x = 0 → Wp K Z Y Q M tgt lv st) (kf : ¬ x = 0 → Wp K Z Y Q M (pc + 3) lv st) : Wp K Z Y Q M pc lv (.int x :: st) :=
  fun H locs ls hP hS hl => lv_if_eq C.1 C.2.1 hd ht (fun c => kt c H locs ls hP hS hl) (fun c => kf c H locs ls hP hS hl)
theorem w_ifne (C : Cx K Z Y) {x : Int32} {off : Int} (tgt : Nat) (hd : decode Z.1 pc = .ok (.ifCond .ne off, 3)) (ht : (pc : Int) + off = (tgt : Int)) (kf : x = 0 → Wp K Z Y Q M (pc + 3) lv st) (kt : ¬ x = 0 → Wp K Z Y Q M tgt lv st) : Wp K Z Y Q M pc lv (.int x :: st) :=
  fun H locs ls hP hS hl => lv_if_ne C.1 C.2.1 hd ht (fun c => kt c H locs ls hP hS hl) (fun c => kf c H locs ls hP hS hl)
theorem w_iflt (C : Cx K Z Y) {x : Int32} {off : Int} (tgt : Nat) (hd : decode Z.1 pc = .ok (.ifCond .lt off, 3)) (ht : (pc : Int) + off = (tgt : Int)) (kt : x < 0 → Wp K Z Y Q M tgt lv st) (kf : ¬ x < 0 → Wp K Z Y Q M (pc + 3) lv st) : Wp K Z Y Q M pc lv (.int x :: st) :=
  fun H locs ls hP hS hl => lv_if_lt C.1 C.2.1 hd ht (fun c => kt c H locs ls hP hS hl) (fun c => kf c H locs ls hP hS hl)
theorem w_ifge (C : Cx K Z Y) {x : Int32} {off : Int} (tgt : Nat) (hd : decode Z.1 pc = .ok (.ifCond .ge off, 3)) (ht : (pc : Int) + off = (tgt : Int)) (kt : 0 ≤ x → Wp K Z Y Q M tgt lv st) (kf : ¬ 0 ≤ x → Wp K Z Y Q M (pc + 3) lv st) : Wp K Z Y Q M pc lv (.int x :: st) :=
  fun H locs ls hP hS hl => lv_if_ge C.1 C.2.1 hd ht (fun c => kt c H locs ls hP hS hl) (fun c => kf c H locs ls hP hS hl)
theorem w_ifgt (C : Cx K Z Y) {x : Int32} {off : Int} (tgt : Nat) (hd : decode Z.1 pc = .ok (.ifCond .gt off, 3)) (ht : (pc : Int) + off = (tgt : Int)) (kt : 0 < x → Wp K Z Y Q M tgt lv st) (kf : ¬ 0 < x → Wp K Z Y Q M (pc + 3) lv st) : Wp K Z Y Q M pc lv (.int x :: st) :=
  fun H locs ls hP hS hl => lv_if_gt C.1 C.2.1 hd ht (fun c => kt c H locs ls hP hS hl) (fun c => kf c H locs ls hP hS hl)
theorem w_ifle (C : Cx K Z Y) {x : Int32} {off : Int} (tgt : Nat) (hd : decode Z.1 pc = .ok (.ifCond .le off, 3)) (ht : (pc : Int) + off = (tgt : Int)) (kt : x ≤ 0 → Wp K Z Y Q M tgt lv st) (kf : ¬ x ≤ 0 → Wp K Z Y Q M (pc + 3) lv st) : Wp K Z Y Q M pc lv (.int x :: st) :=
  fun H locs ls hP hS hl => lv_if_le C.1 C.2.1 hd ht (fun c => kt c H locs ls hP hS hl) (fun c => kf c H locs ls hP hS hl)
theorem w_iceq (C : Cx K Z Y) {x y : Int32} {off : Int} (tgt : Nat) (hd : decode Z.1 pc = .ok (.if_icmp .eq off, 3)) (ht : (pc : Int) + off = (tgt : Int)) (kt : x = y → Wp K Z Y Q M tgt lv st) (kf : ¬ x = y → Wp K Z Y Q M (pc + 3) lv st) : Wp K Z Y Q M pc lv (.int y :: .int x :: st) :=
  fun H locs ls hP hS hl => lv_icmp_eq C.1 C.2.1 hd ht (fun c => kt c H locs ls hP hS hl) (fun c => kf c H locs ls hP hS hl)
theorem w_icne (C : Cx K Z Y) {x y : Int32} {off : Int} (tgt : Nat) (hd : decode Z.1 pc = .ok (.if_icmp .ne off, 3)) (ht : (pc : Int) + off = (tgt : Int)) (kf : x = y → Wp K Z Y Q M (pc + 3) lv st) (kt : ¬ x = y → Wp K Z Y Q M tgt lv st) : Wp K Z Y Q M pc lv (.int y :: .int x :: st) :=
  fun H locs ls hP hS hl => lv_icmp_ne C.1 C.2.1 hd ht (fun c => kt c H locs ls hP hS hl) (fun c => kf c H locs ls hP hS hl)
theorem w_iclt (C : Cx K Z Y) {x y : Int32} {off : Int} (tgt : Nat) (hd : decode Z.1 pc = .ok (.if_icmp .lt off, 3)) (ht : (pc : Int) + off = (tgt : Int)) (kt : x < y → Wp K Z Y Q M tgt lv st) (kf : ¬ x < y → Wp K Z Y Q M (pc + 3) lv st) : Wp K Z Y Q M pc lv (.int y :: .int x :: st) :=
  fun H locs ls hP hS hl => lv_icmp_lt C.1 C.2.1 hd ht (fun c => kt c H locs ls hP hS hl) (fun c => kf c H locs ls hP hS hl)
theorem w_icge (C : Cx K Z Y) {x y : Int32} {off : Int} (tgt : Nat) (hd : decode Z.1 pc = .ok (.if_icmp .ge off, 3)) (ht : (pc : Int) + off = (tgt : Int)) (kt : y ≤ x → Wp K Z Y Q M tgt lv st) (kf : ¬ y ≤ x → Wp K Z Y Q M (pc + 3) lv st) : Wp K Z Y Q M pc lv (.int y :: .int x :: st) :=
  fun H locs ls hP hS hl => lv_icmp_ge C.1 C.2.1 hd ht (fun c => kt c H locs ls hP hS hl) (fun c => kf c H locs ls hP hS hl)
theorem w_icgt (C : Cx K Z Y) {x y : Int32} {off : Int} (tgt : Nat) (hd : decode Z.1 pc = .ok (.if_icmp .gt off, 3)) (ht : (pc : Int) + off = (tgt : Int)) (kt : y < x → Wp K Z Y Q M tgt lv st) (kf : ¬ y < x → Wp K Z Y Q M (pc + 3) lv st) : Wp K Z Y Q M pc lv (.int y :: .int x :: st) :=
  fun H locs ls hP hS hl => lv_icmp_gt C.1 C.2.1 hd ht (fun c => kt c H locs ls hP hS hl) (fun c => kf c H locs ls hP hS hl)
theorem w_icle (C : Cx K Z Y) {x y : Int32} {off : Int} (tgt : Nat) (hd : decode Z.1 pc = .ok (.if_icmp .le off, 3)) (ht : (pc : Int) + off = (tgt : Int)) (kt : x ≤ y → Wp K Z Y Q M tgt lv st) (kf : ¬ x ≤ y → Wp K Z Y Q M (pc + 3) lv st) : Wp K Z Y Q M pc lv (.int y :: .int x :: st) :=
  fun H locs ls hP hS hl => lv_icmp_le C.1 C.2.1 hd ht (fun c => kt c H locs ls hP hS hl) (fun c => kf c H locs ls hP hS hl)
/-- tableswitch from lo on: the number's own road -/
theorem w_swIn (C : Cx K Z Y) {x v : Int32} {dflt lo hi off : Int} {offs : Array Int} {len : Nat} (tgt : Nat) (hd : decode Z.1 pc = .ok (.tableswitch dflt lo hi offs, len)) (hx : x = v) (h1 : ¬ v.toInt < lo) (h2 : ¬ hi < v.toInt) (ho : offs[(v.toInt - lo).toNat]? = some off) (ht : (pc : Int) + off = (tgt : Int)) (h : Wp K Z Y Q M tgt lv st) : Wp K Z Y Q M pc lv (.int x :: st) :=
  fun H locs ls hP hS hl => by subst hx; exact lv_tableIn C.1 C.2.1 hd h1 h2 ho ht (h H locs ls hP hS hl)
theorem w_swOut (C : Cx K Z Y) {x : Int32} {dflt lo hi : Int} {offs : Array Int} {len : Nat} (tgt : Nat) (hd : decode Z.1 pc = .ok (.tableswitch dflt lo hi offs, len)) (ho : x.toInt < lo ∨ hi < x.toInt) (ht : (pc : Int) + dflt = (tgt : Int)) (h : Wp K Z Y Q M tgt lv st) : Wp K Z Y Q M pc lv (.int x :: st) :=
  fun H locs ls hP hS hl => lv_tableOut C.1 C.2.1 hd ho ht (h H locs ls hP hS hl)
/-- links of a field: its class's number, its slot -/
def FL (own : String) (idx ci i : Nat) : Prop := ∃ (Cn : String) (T : u_T) (N : Nat), vwCl[ci]? = some (Cn, T, N) ∧ i < N ∧ (∀ w ∈ u_ws Cn T N, w ∈ gw) ∧ (Cond.fieldLink own idx (T i).1 (T i).2.1 (T i).2.2.1 ∈ gw ∨ ∃ host, Cond.fieldLinkNest own idx (T i).1 (T i).2.1 (T i).2.2.1 host ∈ nw)
def FP (own : String) (idx ci i : Nat) (ty : FieldType) : Prop := ∃ (Cn : String) (T : u_T) (N : Nat) (ty0 : Nat → FieldType), vwCl[ci]? = some (Cn, T, N) ∧ i < N ∧ (∀ w ∈ u_ws Cn T N, w ∈ gw) ∧ (Cond.fieldLink own idx (T i).1 (T i).2.1 (T i).2.2.1 ∈ gw ∨ ∃ host, Cond.fieldLinkNest own idx (T i).1 (T i).2.1 (T i).2.2.1 host ∈ nw) ∧
  (∀ k, k < N → parseFieldDescriptor (T k).2.2.1 = some (ty0 k)) ∧ (∀ a, a < N → ∀ b, b < N → a ≠ b → (T a).2.1 ≠ (T b).2.1) ∧ (T i).2.2.2 = false ∧ parseFieldDescriptor (T i).2.2.1 = some ty
theorem w_get (C : Cx K Z Y) {idx ci i k : Nat} {fs : List (Option Nat)} (hd : decode Z.1 pc = .ok (.getfield idx, 3)) (hF : FL Z.2.1 idx ci i) (hk : Y.1[k]? = some (.inr (ci, fs))) {v : Value} (hv : (fvl Y M k fs)[i]? = some v) (h : Wp K Z Y Q M (pc + 3) lv (v :: st)) : Wp K Z Y Q M pc lv (.ref (adr Y k) :: st) := by
  intro H locs ls hP hS hl
  obtain ⟨Cn, T, N, hc, hi, hin, hlk⟩ := hF
  rcases hlk with hlk | ⟨host, hlk⟩
  · exact va_get (C := Cn) (T := T) (N := N) C.1 C.2.1 C.2.2.2.2.1 hin C.2.2.2.1 C.2.2.2.2.2.2.1 hP k (wsO_at hk) hc i hi (C.2.2.2.2.1 _ hlk) (fun _ h9 => h9) hv hd (h H locs ls hP hS hl)
  · exact va_getN (C := Cn) (T := T) (N := N) C.1 C.2.1 C.2.2.2.2.1 hin C.2.2.2.1 C.2.2.2.2.2.2.1 hP k (wsO_at hk) hc i hi (va_Nw.use rfl (C.2.2.2.2.2.1.1 _ hlk)) (fun _ h9 => h9) hv hd (h H locs ls hP hS hl)
theorem w_getI (C : Cx K Z Y) {idx ci i k : Nat} {fs : List (Option Nat)} (hd : decode Z.1 pc = .ok (.getfield idx, 3)) (hF : FL Z.2.1 idx ci i) (hk : Y.1[k]? = some (.inr (ci, fs))) (hv : fs[i]? = some none) (h : Wp K Z Y Q M (pc + 3) lv (.int (M k i) :: st)) : Wp K Z Y Q M pc lv (.ref (adr Y k) :: st) :=
  w_get C hd hF hk (by simp [fvl, List.getElem?_mapIdx, hv]) h
theorem w_getR (C : Cx K Z Y) {idx ci i k j : Nat} {fs : List (Option Nat)} (hd : decode Z.1 pc = .ok (.getfield idx, 3)) (hF : FL Z.2.1 idx ci i) (hk : Y.1[k]? = some (.inr (ci, fs))) (hv : fs[i]? = some (some j)) (h : Wp K Z Y Q M (pc + 3) lv (.ref (adr Y j) :: st)) : Wp K Z Y Q M pc lv (.ref (adr Y k) :: st) :=
  w_get C hd hF hk (by simp [fvl, List.getElem?_mapIdx, hv]) h
theorem fvl_len {k : Nat} {fs : List (Option Nat)} : (fvl Y M k fs).length = fs.length := by simp [fvl]
theorem w_put (C : Cx K Z Y) {idx ci i k : Nat} {fs : List (Option Nat)} {ty : FieldType} {x : Int32} (hd : decode Z.1 pc = .ok (.putfield idx, 3)) (hF : FP Z.2.1 idx ci i ty) (hk : Y.1[k]? = some (.inr (ci, fs))) (hv : fs[i]? = some none) (hn : narrow ty (.int x) = .int x) (hfit : fits ty (.int x) = true) (h : Wp K Z Y Q (mset M k i x) (pc + 3) lv st) : Wp K Z Y Q M pc lv (.int x :: .ref (adr Y k) :: st) := by
  intro H locs ls hP hS hl
  obtain ⟨Cn, T, N, ty0, hc, hi, hin, hlk, h1, h2, h3, h4⟩ := hF
  have hD := apt_D C.2.2.2.2.2.2.2.1 (ks K).heap.size M
  have hlen : i < (fvl Y M k fs).length := by rw [fvl_len]; exact (List.getElem?_eq_some_iff.mp hv).1
  rcases hlk with hlk | ⟨host, hlk⟩
  · refine va_put (C := Cn) (T := T) (N := N) C.1 C.2.1 C.2.2.2.2.1 hin ty0 h1 h2 C.2.2.2.1 C.2.2.2.2.2.2.1 hP hD hS k (wsO_at hk) hc i hi (C.2.2.2.2.1 _ hlk) (fun _ h9 => h9) h3 h4 hn hfit hlen hd (fun H1 locs1 hP1 _ hS1 => ?_)
    rw [wsO_fld hk hv] at hP1
    exact h H1 locs1 ls hP1 hS1 hl
  · refine va_putN (C := Cn) (T := T) (N := N) C.1 C.2.1 C.2.2.2.2.1 hin ty0 h1 h2 C.2.2.2.1 C.2.2.2.2.2.2.1 hP hD hS k (wsO_at hk) hc i hi (va_Nw.use rfl (C.2.2.2.2.2.1.1 _ hlk)) (fun _ h9 => h9) h3 h4 hn hfit hlen hd (fun H1 locs1 hP1 _ hS1 => ?_)
    rw [wsO_fld hk hv] at hP1
    exact h H1 locs1 ls hP1 hS1 hl
theorem w_putI (C : Cx K Z Y) {idx ci i k : Nat} {fs : List (Option Nat)} {x : Int32} (hd : decode Z.1 pc = .ok (.putfield idx, 3)) (hF : FP Z.2.1 idx ci i .int) (hk : Y.1[k]? = some (.inr (ci, fs))) (hv : fs[i]? = some none) (h : Wp K Z Y Q (mset M k i x) (pc + 3) lv st) : Wp K Z Y Q M pc lv (.int x :: .ref (adr Y k) :: st) := w_put C hd hF hk hv rfl rfl h
/-- an index in its row -/
def inb (x : Int32) (n : Nat) : Bool := decide (¬ (x < 0 ∨ n ≤ x.toNatClampNeg))
def ald (M : Mm) (k n : Nat) (x : Int32) : Option Int32 := if inb x n = true then some (M k x.toNatClampNeg) else none
def ast (M : Mm) (k n : Nat) (x v : Int32) : Option Mm := if inb x n = true then some (mset M k x.toNatClampNeg v) else none
def sld (l : List Int32) (x : Int32) : Option Int32 := if inb x l.length = true then some (l.getD x.toNatClampNeg 0) else none
theorem inb_in {x : Int32} {n : Nat} (h : inb x n = true) : vp_in x n := of_decide_eq_true (p := ¬ (x < 0 ∨ n ≤ x.toNatClampNeg)) h
theorem ald_some {k n : Nat} {x v : Int32} (h : ald M k n x = some v) : vp_in x n ∧ M k x.toNatClampNeg = v := by
  unfold ald at h
  split at h
  · rename_i hi; exact ⟨inb_in hi, Option.some.inj h⟩
  · cases h
theorem ast_some {k n : Nat} {x v : Int32} {M' : Mm} (h : ast M k n x v = some M') : vp_in x n ∧ mset M k x.toNatClampNeg v = M' := by
  unfold ast at h
  split at h
  · rename_i hi; exact ⟨inb_in hi, Option.some.inj h⟩
  · cases h
theorem sld_some {l : List Int32} {x v : Int32} (h : sld l x = some v) : vp_in x l.length ∧ l.getD x.toNatClampNeg 0 = v := by
  unfold sld at h
  split at h
  · rename_i hi; exact ⟨inb_in hi, Option.some.inj h⟩
  · cases h
theorem w_iald (C : Cx K Z Y) {k n : Nat} {x v : Int32} (hd : decode Z.1 pc = .ok (.iaload, 1)) (hk : Y.1[k]? = some (.inl (.int, n))) (he : ald M k n x = some v) (h : Wp K Z Y Q M (pc + 1) lv (.int v :: st)) : Wp K Z Y Q M pc lv (.int x :: .ref (adr Y k) :: st) := by
  intro H locs ls hP hS hl
  obtain ⟨hi, rfl⟩ := ald_some he
  exact va_iald C.1 C.2.1 C.2.2.2.2.2.2.1 hP k 0 (wsO_at hk) rfl hi hd (h H locs ls hP hS hl)
theorem w_zald (C : Cx K Z Y) {k n : Nat} {x v : Int32} (hd : decode Z.1 pc = .ok (.baload, 1)) (hk : Y.1[k]? = some (.inl (.boolean, n))) (he : ald M k n x = some v) (h : Wp K Z Y Q M (pc + 1) lv (.int v :: st)) : Wp K Z Y Q M pc lv (.int x :: .ref (adr Y k) :: st) := by
  intro H locs ls hP hS hl
  obtain ⟨hi, rfl⟩ := ald_some he
  exact va_zald C.1 C.2.1 C.2.2.2.2.2.2.1 hP k 1 (wsO_at hk) rfl hi hd (h H locs ls hP hS hl)
theorem w_bald (C : Cx K Z Y) {k n : Nat} {x v : Int32} (hd : decode Z.1 pc = .ok (.baload, 1)) (hk : Y.1[k]? = some (.inl (.byte, n))) (he : ald M k n x = some v) (h : Wp K Z Y Q M (pc + 1) lv (.int v :: st)) : Wp K Z Y Q M pc lv (.int x :: .ref (adr Y k) :: st) := by
  intro H locs ls hP hS hl
  obtain ⟨hi, rfl⟩ := ald_some he
  exact va_bald C.1 C.2.1 C.2.2.2.2.2.2.1 hP k 2 (wsO_at hk) rfl hi hd (h H locs ls hP hS hl)
theorem w_iast (C : Cx K Z Y) {k n : Nat} {x v : Int32} {M' : Mm} (hd : decode Z.1 pc = .ok (.iastore, 1)) (hk : Y.1[k]? = some (.inl (.int, n))) (he : ast M k n x v = some M') (h : Wp K Z Y Q M' (pc + 1) lv st) : Wp K Z Y Q M pc lv (.int v :: .int x :: .ref (adr Y k) :: st) := by
  intro H locs ls hP hS hl
  obtain ⟨hi, rfl⟩ := ast_some he
  refine va_iast C.1 C.2.1 C.2.2.2.2.2.2.1 hP (apt_D C.2.2.2.2.2.2.2.1 (ks K).heap.size M) hS k 0 (wsO_at hk) rfl hi hd (fun H1 locs1 hP1 _ hS1 => ?_)
  rw [wsO_arr hk, ← mset_eq] at hP1
  exact h H1 locs1 ls hP1 hS1 hl
theorem w_zast (C : Cx K Z Y) {k n : Nat} {x v : Int32} {M' : Mm} (hd : decode Z.1 pc = .ok (.bastore, 1)) (hk : Y.1[k]? = some (.inl (.boolean, n))) (he : ast M k n x (vp_nar .boolean v) = some M') (h : Wp K Z Y Q M' (pc + 1) lv st) : Wp K Z Y Q M pc lv (.int v :: .int x :: .ref (adr Y k) :: st) := by
  intro H locs ls hP hS hl
  obtain ⟨hi, rfl⟩ := ast_some he
  refine va_zast C.1 C.2.1 C.2.2.2.2.2.2.1 hP (apt_D C.2.2.2.2.2.2.2.1 (ks K).heap.size M) hS k 1 (wsO_at hk) rfl hi hd (fun H1 locs1 hP1 _ hS1 => ?_)
  rw [wsO_arr hk, ← mset_eq] at hP1
  exact h H1 locs1 ls hP1 hS1 hl
theorem w_bast (C : Cx K Z Y) {k n : Nat} {x v : Int32} {M' : Mm} (hd : decode Z.1 pc = .ok (.bastore, 1)) (hk : Y.1[k]? = some (.inl (.byte, n))) (he : ast M k n x (vp_nar .byte v) = some M') (h : Wp K Z Y Q M' (pc + 1) lv st) : Wp K Z Y Q M pc lv (.int v :: .int x :: .ref (adr Y k) :: st) := by
  intro H locs ls hP hS hl
  obtain ⟨hi, rfl⟩ := ast_some he
  refine va_bast C.1 C.2.1 C.2.2.2.2.2.2.1 hP (apt_D C.2.2.2.2.2.2.2.1 (ks K).heap.size M) hS k 2 (wsO_at hk) rfl hi hd (fun H1 locs1 hP1 _ hS1 => ?_)
  rw [wsO_arr hk, ← mset_eq] at hP1
  exact h H1 locs1 ls hP1 hS1 hl
theorem w_alenI (C : Cx K Z Y) {k n : Nat} {v : Int32} (hd : decode Z.1 pc = .ok (.arraylength, 1)) (hk : Y.1[k]? = some (.inl (.int, n))) (hv : Int32.ofNat n = v) (h : Wp K Z Y Q M (pc + 1) lv (.int v :: st)) : Wp K Z Y Q M pc lv (.ref (adr Y k) :: st) :=
  fun H locs ls hP hS hl => va_alen C.1 C.2.1 C.2.2.2.2.2.2.1 hP k 0 (wsO_at hk) rfl hv hd (h H locs ls hP hS hl)
/-- a static array -/
def SL (own : String) (idx i : Nat) : Prop := ∃ (Cn fn : String) (n : Nat) (l : List Int32), stT[i]? = some (Cn, fn, n, l) ∧ (Cond.fieldLink own idx Cn fn "[I" ∈ gw ∨ ∃ host, Cond.fieldLinkNest own idx Cn fn "[I" host ∈ nw)
theorem w_gets (C : Cx K Z Y) {idx i : Nat} (hd : decode Z.1 pc = .ok (.getstatic idx, 3)) (hF : SL Z.2.1 idx i) (h : Wp K Z Y Q M (pc + 3) lv (.ref (sta Y i) :: st)) : Wp K Z Y Q M pc lv st := by
  intro H locs ls hP hS hl
  obtain ⟨Cn, fn, n, l, hi, hlk⟩ := hF
  have hE := (C.2.2.2.2.2.2.2.2.1.1 i _ hi).1
  rcases hlk with hlk | ⟨host, hlk⟩
  · exact va_gets C.1 C.2.1 hE hS C.2.2.2.1 (C.2.2.2.2.1 _ hlk) (fun _ h9 => h9) hd (h H locs ls hP hS hl)
  · exact va_getsN C.1 C.2.1 hE hS C.2.2.2.1 (va_Nw.use rfl (C.2.2.2.2.2.1.1 _ hlk)) (fun _ h9 => h9) hd (h H locs ls hP hS hl)
theorem w_sald (C : Cx K Z Y) {i n : Nat} {Cn fn : String} {l : List Int32} {x v : Int32} (hd : decode Z.1 pc = .ok (.iaload, 1)) (hi : stT[i]? = some (Cn, fn, n, l)) (hn : l.length = n) (he : sld l x = some v) (h : Wp K Z Y Q M (pc + 1) lv (.int v :: st)) : Wp K Z Y Q M pc lv (.int x :: .ref (sta Y i) :: st) := by
  intro H locs ls hP hS hl
  obtain ⟨hx, rfl⟩ := sld_some he
  have hE := (C.2.2.2.2.2.2.2.2.1.1 i _ hi).2
  exact va_ti C.1 C.2.1 hE hS (by rw [← hn]; exact hx) rfl hd (h H locs ls hP hS hl)
end ROWS
end
section
/-! CALLS AND RETURNS of a side's methods, by contract Ct; loops -/
def Qm (K : Pk) (Y : Sx) (r : Option Int32) (M' : Mm) : State → Prop := MQ (kb K) (Qr Y (ks K).heap.size r M') (ka K) (ks K) 0 0 (AA Y (ks K).heap.size)
/-- what the tables say of a method -/
def MY (y : MethodName) (cc : ByteArray) (mL : Nat) (ret : Option FieldType) (n : Nat) : Prop := Cond.code y cc mL ret ∈ gw ∧ Cond.initialized y.cls ∈ gw ∧ (y.cls ≠ "java/lang/invoke/MethodHandle" ∧ y.cls ≠ "java/lang/invoke/VarHandle" ∧ (parseMethodDescriptor y.desc).map (fun d => d.parameters.length) = some n)
def MI (y : MethodName) : Prop := Cond.instanceMethod y ∈ gw ∧ Cond.selects y.cls y y ∈ gw
def ML (own : String) (idx : Nat) (y : MethodName) : Prop := Cond.methodLink own idx y ∈ gw ∨ ∃ host, Cond.methodLinkNest own idx y host ∈ nw
theorem gIn (y : MethodName) (cc : ByteArray) (mL : Nat) (ret : Option FieldType) (h : Cond.code y cc mL ret ∈ gw) : GoodIn gw (Cond.code y cc mL ret :: gw) := fun w hw => by
  rcases List.mem_cons.mp hw with e | e
  · rw [e]; exact ⟨h, good_of_word (gw_good h)⟩
  · exact ⟨e, good_of_word (gw_good e)⟩
theorem AA_mono {Y : Sx} {s1 s2 : Nat} (h : s1 ≤ s2) : ∀ q, AA Y s2 q → AA Y s1 q := fun q hq => hq.elim Or.inl (fun h2 => Or.inr (Nat.le_trans h h2))
section CALLS
variable {K : Pk} {Z : Zx} {Y : Sx} {Q : State → Prop} {M : Mm} {pc : Nat} {lv : List (Nat × Value)} {st : List Value}
theorem pre_blind {av : List Value} {sz : Nat} : FrameBlind (va_Pc av (Pre Y M sz)) := fun a U g mk q => by
  obtain ⟨q0, q1, q2, q3, q4, q5, q6⟩ := q
  have hA : U.vm.Alike (U.calling g mk a).vm := Vm.Alike.refl U.vm
  exact ⟨q0, q1, q2, va_K.moved (u := U) hA q3, Nst.same (u := U) (U := U.calling g mk a) rfl q4, Ext.moved hA q5, q6⟩
theorem pre_of (C : Cx K Z Y) {H : Heap} {locs : List Loc} (hP : va_P Y.2.1 vwCl (wsO Y M) H) (hS : va_S (AA Y (ks K).heap.size) (ks K).heap H locs) {U : State} (hU : U.heap = H) (hW : (ks K).WarmedH U.vm) : Pre Y M H.size U := by
  refine ⟨by rw [hU], by rw [hU]; exact hP, va_K.moved hW.alike C.2.2.2.2.2.2.1, Nst.warm hW C.2.2.2.2.2.1, ?_, C.2.2.2.2.2.2.2.1⟩
  rw [hU]
  exact Ext.moved hW.alike (((C.2.2.2.2.2.2.2.2.1).kept (fun a h1 h2 => hS.2.1 a h1 h2)).narrow (AA_mono hS.1))
/-- behind a call -/
theorem call_end {idx : Nat} {stk rest : List Value} {r : Option Int32} {M' : Mm} {H : Heap} {locs : List Loc} {ls : Array Slot} {a : Array Value} (hl : lv_has ls Z.2.2.1 lv) (hS : va_S (AA Y (ks K).heap.size) (ks K).heap H locs)
    (hr : va_Run (kp K) (kl K) (ke K) (kR K) (ks K) (km K) (ka K) (kb K) (kme K) (kc K) H locs 0 0 0 0 (F0 (km K) pc ls stk) rest (Qr Y H.size r M' a) (AA Y H.size)) (h : Wp K Z Y Q M' (pc + 3) lv ((r.map Value.int).toList ++ rest)) :
    W (kp K) (kl K) (ke K) (kR K) (ks K) (km K) (ka K) (kb K) (kme K) (kc K) H locs 0 0 Q (F0 (km K) pc ls stk) := by
  intro T hT X
  obtain ⟨v, st₀, t, T', L, h0, X', hL, e1, e2, ⟨hv, hP1, hz, hk⟩, go⟩ := hr T hT X
  cases hv
  rw [h0] at hz hk
  have hS1 : va_S (AA Y (ks K).heap.size) (ks K).heap T'.heap (locs ++ L) := by
    refine ⟨Nat.le_trans hS.1 (by rw [e1]; exact hz), fun q h1 h2 => ?_, fun q hq => ?_⟩
    · rw [e1, hk q (Nat.lt_of_lt_of_le h1 hS.1) (fun z => h2 (AA_mono hS.1 q z))]
      exact hS.2.1 q h1 h2
    · rcases List.mem_append.mp hq with h2 | h2
      · exact hS.2.2 q h2
      · exact AA_mono hS.1 _ (hL q h2)
  obtain ⟨t2, a1, b1⟩ := h T'.heap (locs ++ L) ls (by rw [e1]; exact hP1) hS1 hl T' rfl X'
  exact ⟨t2, go t2 a1, b1⟩
theorem rm_le {d d' mL : Nat} (h : Nat.blt d' d = true) (hm : Nat.ble mL 13 = true) : (rmd d').frames + 1 ≤ (rmd d).frames ∧ 8 + (mL + 11) + (rmd d').locals ≤ (rmd d).locals := by
  have h1 : d' < d := Nat.le_of_ble_eq_true h
  have h2 : mL ≤ 13 := Nat.le_of_ble_eq_true hm
  refine ⟨h1, ?_⟩
  show 8 + (mL + 11) + 32 * d' ≤ 32 * d
  omega
theorem w_callV (C : Cx K Z Y) {idx ci k n mL d : Nat} {y : MethodName} {cc : ByteArray} {ret : Option FieldType} {fs : List (Option Nat)} {T : u_T} {N : Nat} {r : Option Int32} {M' : Mm} {stk : List Value} (hd : decode Z.1 pc = .ok (.invokevirtual idx, 3)) (hy : MY y cc mL ret n) (hi : MI y) (hlk : ML Z.2.1 idx y) (hk : Y.1[k]? = some (.inr (ci, fs))) (hci : vwCl[ci]? = some (y.cls, T, N)) (hdd : Nat.blt d Z.2.2.2.1 = true) (hmm : Nat.ble mL 13 = true)
    (As : List Value) (hn : As.length = n) (hst : stk = As.reverse ++ .ref (adr Y k) :: st) (hW : (st.map fun v => v.category).sum ≤ 8) (hc : Ct (kl K) Y y cc mL ret d (.ref (adr Y k) :: As) M r M') (h : Wp K Z Y Q M' (pc + 3) lv ((r.map Value.int).toList ++ st)) : Wp K Z Y Q M pc lv stk := by
  intro H locs ls hP hS hl
  have hR : (kR K) = rmd Z.2.2.2.1 := C.2.2.2.2.2.2.2.2.2.2.1
  have hfix : CallFix (kp K) (km K) (kc K) Z.1 Z.2.2.1 (ks K) (ka K) gw Z.2.1 := ⟨C.1, C.2.1, C.2.2.1, C.2.2.2.1, C.2.2.2.2.1⟩
  have hpre : PreV (ks K) H y.cls (adr Y k) (va_Pc (.ref (adr Y k) :: As) (Pre Y M H.size)) As := ⟨pre_blind, va_recv C.2.2.2.2.2.2.1 hP hci (wsO_at hk), fun U hU hW => ⟨rfl, pre_of C hP hS hU hW⟩⟩
  have hw : (Cond.instanceMethod y).before (ka K) (ks K) = true ∧ (Cond.selects y.cls y y).before (ka K) (ks K) = true := ⟨C.2.2.2.2.1 _ hi.1, C.2.2.2.2.1 _ hi.2⟩
  rcases hlk with hlk | ⟨host, hlk⟩
  · have cw : CallW (kR K) (ks K) (ka K) Z.2.1 y.cls idx y cc mL ret (Cond.code y cc mL ret :: gw) (rmd d) 0 0 n := ⟨callB_of n C.2.2.2.2.1 (gIn y cc mL ret hy.1) rfl rfl rfl (C.2.2.2.2.1 _ hy.2.1) (C.2.2.2.2.1 _ hlk) hy.2.2 (by rw [hR]; exact rm_le hdd hmm), hw.1, hw.2⟩
    exact call_end (idx := idx) hl hS (va_runV (As := As) (rest := st) hfix (hc H.size) cw hpre rfl hn hl.1 hst (lv_room hW) hd ⟨Nat.zero_le _, Nat.zero_le _⟩) h
  · have cw : va_CN (kR K) (ks K) (ka K) Z.2.1 idx y host cc mL ret (Cond.code y cc mL ret :: gw) (rmd d) 0 0 n := va_cnB n C.2.2.2.2.1 (gIn y cc mL ret hy.1) rfl rfl rfl (C.2.2.2.2.2.1.1 _ hlk) (C.2.2.2.2.1 _ hy.2.1) hy.2.2 (by rw [hR]; exact rm_le hdd hmm)
    exact call_end (idx := idx) hl hS (va_runVN (As := As) (rest := st) hfix (hc H.size) ⟨cw, hw.1, hw.2⟩ hpre rfl hn hl.1 hst (lv_room hW) hd ⟨Nat.zero_le _, Nat.zero_le _⟩) h
theorem w_callS (C : Cx K Z Y) {idx n mL d : Nat} {y : MethodName} {cc : ByteArray} {ret : Option FieldType} {r : Option Int32} {M' : Mm} {stk : List Value} (hd : decode Z.1 pc = .ok (.invokestatic idx, 3)) (hy : MY y cc mL ret n) (hi : Cond.static y ∈ gw) (hlk : ML Z.2.1 idx y) (hdd : Nat.blt d Z.2.2.2.1 = true) (hmm : Nat.ble mL 13 = true)
    (As : List Value) (hn : As.length = n) (hst : stk = As.reverse ++ st) (hW : (st.map fun v => v.category).sum ≤ 8) (hc : Ct (kl K) Y y cc mL ret d As M r M') (h : Wp K Z Y Q M' (pc + 3) lv ((r.map Value.int).toList ++ st)) : Wp K Z Y Q M pc lv stk := by
  intro H locs ls hP hS hl
  have hR : (kR K) = rmd Z.2.2.2.1 := C.2.2.2.2.2.2.2.2.2.2.1
  have hfix : CallFix (kp K) (km K) (kc K) Z.1 Z.2.2.1 (ks K) (ka K) gw Z.2.1 := ⟨C.1, C.2.1, C.2.2.1, C.2.2.2.1, C.2.2.2.2.1⟩
  have hpre : PreS (ks K) H (va_Pc As (Pre Y M H.size)) As := ⟨pre_blind, fun U hU hW => ⟨rfl, pre_of C hP hS hU hW⟩⟩
  have hw : (Cond.static y).before (ka K) (ks K) = true := C.2.2.2.2.1 _ hi
  rcases hlk with hlk | ⟨host, hlk⟩
  · have cw : CallB (kR K) (ks K) (ka K) Z.2.1 idx y cc mL ret (Cond.code y cc mL ret :: gw) (rmd d) 0 0 n ∧ (Cond.static y).before (ka K) (ks K) = true := ⟨callB_of n C.2.2.2.2.1 (gIn y cc mL ret hy.1) rfl rfl rfl (C.2.2.2.2.1 _ hy.2.1) (C.2.2.2.2.1 _ hlk) hy.2.2 (by rw [hR]; exact rm_le hdd hmm), hw⟩
    exact call_end (idx := idx) hl hS (va_runS (As := As) (rest := st) hfix (hc H.size) cw hpre rfl hn hl.1 hst (lv_room hW) hd ⟨Nat.zero_le _, Nat.zero_le _⟩) h
  · have cw : va_CN (kR K) (ks K) (ka K) Z.2.1 idx y host cc mL ret (Cond.code y cc mL ret :: gw) (rmd d) 0 0 n := va_cnB n C.2.2.2.2.1 (gIn y cc mL ret hy.1) rfl rfl rfl (C.2.2.2.2.2.1.1 _ hlk) (C.2.2.2.2.1 _ hy.2.1) hy.2.2 (by rw [hR]; exact rm_le hdd hmm)
    exact call_end (idx := idx) hl hS (va_runSN (As := As) (rest := st) hfix (hc H.size) ⟨cw, hw, trivial⟩ hpre rfl hn hl.1 hst (lv_room hW) hd ⟨Nat.zero_le _, Nat.zero_le _⟩) h
/-- Math.max, Math.abs -/
def mmax (x y : Int32) : Int32 := if x < y then y else x
def mabs (x : Int32) : Int32 := if 0 ≤ x then x else 0 - x
def MX (own : String) (idx : Nat) : Prop := Cond.methodLink own idx Lib.Math.max.name ∈ gw ∧ Cond.static Lib.Math.max.name ∈ gw ∧ Cond.initialized "java/lang/Math" ∈ gw ∧ Cond.code Lib.Math.max.name Lib.Math.max.code 2 (some .int) ∈ gw
def MA (own : String) (idx : Nat) : Prop := Cond.methodLink own idx Lib.Math.abs.name ∈ gw ∧ Cond.static Lib.Math.abs.name ∈ gw ∧ Cond.initialized "java/lang/Math" ∈ gw ∧ Cond.code Lib.Math.abs.name Lib.Math.abs.code 1 (some .int) ∈ gw
theorem w_max (C : Cx K Z Y) {idx : Nat} {x y : Int32} (hd : decode Z.1 pc = .ok (.invokestatic idx, 3)) (hm : MX Z.2.1 idx) (hdd : Nat.blt 0 Z.2.2.2.1 = true) (hW : (st.map fun v => v.category).sum ≤ 8) (h : Wp K Z Y Q M (pc + 3) lv (.int (mmax x y) :: st)) : Wp K Z Y Q M pc lv (.int y :: .int x :: st) := by
  intro H locs ls hP hS hl
  have hR : (kR K) = rmd Z.2.2.2.1 := C.2.2.2.2.2.2.2.2.2.2.1
  have h0 : 0 < Z.2.2.2.1 := Nat.le_of_ble_eq_true hdd
  refine va_mmax C.1 C.2.1 (by rw [hl.1]; exact C.2.2.1) C.2.2.2.1 (C.2.2.2.2.1 _ hm.1) (C.2.2.2.2.1 _ hm.2.1) (C.2.2.2.2.1 _ hm.2.2.1) (C.2.2.2.2.1 _ hm.2.2.2) ?_ ?_ (Nat.zero_le _) (Nat.zero_le _) hd (h H locs ls hP hS hl)
  · rw [hR]; exact h0
  · rw [hR]
    show _ + 13 ≤ 32 * _
    omega
theorem w_abs (C : Cx K Z Y) {idx : Nat} {x : Int32} (hd : decode Z.1 pc = .ok (.invokestatic idx, 3)) (hm : MA Z.2.1 idx) (hdd : Nat.blt 0 Z.2.2.2.1 = true) (hW : (st.map fun v => v.category).sum ≤ 8) (h : Wp K Z Y Q M (pc + 3) lv (.int (mabs x) :: st)) : Wp K Z Y Q M pc lv (.int x :: st) := by
  intro H locs ls hP hS hl
  have hR : (kR K) = rmd Z.2.2.2.1 := C.2.2.2.2.2.2.2.2.2.2.1
  have h0 : 0 < Z.2.2.2.1 := Nat.le_of_ble_eq_true hdd
  refine va_mabs C.1 C.2.1 (by rw [hl.1]; exact C.2.2.1) C.2.2.2.1 (C.2.2.2.2.1 _ hm.1) (C.2.2.2.2.1 _ hm.2.1) (C.2.2.2.2.1 _ hm.2.2.1) (C.2.2.2.2.1 _ hm.2.2.2) ?_ ?_ (Nat.zero_le _) (Nat.zero_le _) hd (h H locs ls hP hS hl)
  · rw [hR]; exact h0
  · rw [hR]
    show _ + 13 ≤ 32 * _
    omega
/-- System.arraycopy(a, 0, b, 0, n) over whole int rows of n -/
def MC (own : String) (idx : Nat) : Prop := Cond.methodLink own idx arraycopyName ∈ gw ∧ Cond.native arraycopyName ∈ gw ∧ Cond.static arraycopyName ∈ gw ∧ Cond.initialized "java/lang/System" ∈ gw
theorem w_copy (C : Cx K Z Y) {idx k0 k1 n : Nat} {v : Int32} (hd : decode Z.1 pc = .ok (.invokestatic idx, 3)) (hm : MC Z.2.1 idx) (hdd : Nat.blt 0 Z.2.2.2.1 = true) (hW : (st.map fun v => v.category).sum ≤ 8) (h0 : Y.1[k0]? = some (.inl (.int, n))) (h1 : Y.1[k1]? = some (.inl (.int, n))) (hv : v = nI n) (hnn : Nat.blt n 1000 = true) (h : Wp K Z Y Q (mrow M k1 (va_cpy (M k0) (M k1) 0 0 n)) (pc + 3) lv st) : Wp K Z Y Q M pc lv (.int v :: .int 0 :: .ref (adr Y k1) :: .int 0 :: .ref (adr Y k0) :: st) := by
  intro H locs ls hP hS hl
  have hR : (kR K) = rmd Z.2.2.2.1 := C.2.2.2.2.2.2.2.2.2.2.1
  have hz : 0 < Z.2.2.2.1 := Nat.le_of_ble_eq_true hdd
  have hn : n < 2 ^ 31 := Nat.lt_trans (Nat.le_of_ble_eq_true hnn) (by decide)
  have ec : (nI n).toNatClampNeg = n := nI_clamp hn
  subst hv
  refine va_copyi (D := Y.2.1) (cl := vwCl) (ty := .int) C.1 C.2.1 (by rw [hl.1]; exact C.2.2.1) C.2.2.2.1 (C.2.2.2.2.1 _ hm.1) (C.2.2.2.2.1 _ hm.2.1) (C.2.2.2.2.1 _ hm.2.2.1) (C.2.2.2.2.1 _ hm.2.2.2) C.2.2.2.2.2.2.1 hP (apt_D C.2.2.2.2.2.2.2.1 (ks K).heap.size M) hS k0 k1 0 0 (wsO_at h0) (wsO_at h1) rfl rfl rfl (by decide) (by decide) (nI_pos hn) (by rw [ec]; show (0 : Int32).toNatClampNeg + n ≤ n; rw [sb_cl0]; omega) (by rw [ec]; show (0 : Int32).toNatClampNeg + n ≤ n; rw [sb_cl0]; omega) (fun i _ => rfl) ?_ ?_ hd (fun H1 locs1 hP1 _ hS1 => ?_)
  · rw [hR]; exact hz
  · rw [hR]
    have : nativeFrameWords "java/lang/System" "arraycopy" 5 + 11 ≤ 24 := by decide +kernel
    show _ + (_ + 11) ≤ 32 * _
    omega
  · rw [ec, sb_cl0, wsO_arr h1] at hP1
    exact h H1 locs1 ls hP1 hS1 hl
/-- returns -/
theorem w_iret (C : Cx K Z Y) {v : Int32} {q : Int32 × Mm} (hd : decode Z.1 pc = .ok (.ireturn, 1)) (hr : Z.2.2.2.2 = some .int) (h : some (v, M) = some q) : Wp K Z Y (Qm K Y (some q.1) q.2) M pc lv [.int v] := by
  intro H locs ls hP hS hl
  obtain rfl := Option.some.inj h
  exact W.iret (Qc := Qr Y (ks K).heap.size (some v) M) C.1 C.2.1 (by rw [C.2.2.2.2.2.2.2.2.2.2.2]; exact hr) (fun t ht _ => ⟨rfl, by rw [ht]; exact hP, hS.F ht⟩) hS.2.2 hd C.2.2.2.2.2.2.2.2.2.1
theorem w_zret (C : Cx K Z Y) {v : Int32} {q : Int32 × Mm} (hd : decode Z.1 pc = .ok (.ireturn, 1)) (hr : Z.2.2.2.2 = some .boolean) (hz : v &&& 1 = v) (h : some (v, M) = some q) : Wp K Z Y (Qm K Y (some q.1) q.2) M pc lv [.int v] := by
  intro H locs ls hP hS hl
  obtain rfl := Option.some.inj h
  exact W.zret (Qc := Qr Y (ks K).heap.size (some v) M) C.1 C.2.1 (by rw [C.2.2.2.2.2.2.2.2.2.2.2]; exact hr) (by show Value.int (v &&& 1) = _; rw [hz]) (fun t ht _ => ⟨rfl, by rw [ht]; exact hP, hS.F ht⟩) hS.2.2 hd C.2.2.2.2.2.2.2.2.2.1
theorem w_iretR (C : Cx K Z Y) {v q : Int32} (hd : decode Z.1 pc = .ok (.ireturn, 1)) (hr : Z.2.2.2.2 = some .int) (h : some v = some q) : Wp K Z Y (Qm K Y (some q) M) M pc lv [.int v] := w_iret (q := (q, M)) C hd hr (by rw [Option.some.inj h])
theorem w_zretR (C : Cx K Z Y) {v q : Int32} (hd : decode Z.1 pc = .ok (.ireturn, 1)) (hr : Z.2.2.2.2 = some .boolean) (hz : v &&& 1 = v) (h : some v = some q) : Wp K Z Y (Qm K Y (some q) M) M pc lv [.int v] := w_zret (q := (q, M)) C hd hr hz (by rw [Option.some.inj h])
theorem w_vret (C : Cx K Z Y) {q : Mm} (hd : decode Z.1 pc = .ok (.return_, 1)) (hr : Z.2.2.2.2 = none) (h : some M = some q) : Wp K Z Y (Qm K Y none q) M pc lv [] := by
  intro H locs ls hP hS hl
  obtain rfl := Option.some.inj h
  exact W.vret (Qc := Qr Y (ks K).heap.size none M) C.1 C.2.1 (by rw [C.2.2.2.2.2.2.2.2.2.2.2]; exact hr) (fun t ht _ => ⟨rfl, by rw [ht]; exact hP, hS.F ht⟩) hS.2.2 hd C.2.2.2.2.2.2.2.2.2.1
end CALLS
theorem Ct.of {l : Launch} {Y : Sx} {y : MethodName} {cc : ByteArray} {mL d : Nat} {ret : Option FieldType} {av : List Value} {lv : List (Nat × Value)} {M M' : Mm} {r : Option Int32} (hy : plainName y.cls = true) (hlen : Nat.ble (lg_sl av).length mL = true) (hlv : lv_args 0 av = lv) (body : ∀ K : Pk, kl K = l → Cx K (cc, y.cls, mL, d, ret) Y → Wp K (cc, y.cls, mL, d, ret) Y (Qm K Y r M') M 0 lv []) : Ct l Y y cc mL ret d av M r M' := by
  intro sz
  refine Met.ofW (cc := cc) (maxL := mL) (ret := ret) hy rfl ?_
  intro p e s m args below meth c s₁ B hml hv
  obtain ⟨rfl, hsz, hP, hK, hN, hE, hap⟩ := hv
  subst hsz
  have hts := atoms_spec (ws := Cond.code y cc mL ret :: gw) B.pre
  have hown : s.vm.findClass y.cls = some m.cls := findClass_of_methodNamed B.named
  have C : Cx (p, l, e, rmd d, s, m, av.toArray, below, meth, c) (cc, y.cls, mL, d, ret) Y := ⟨B.exec, B.bytes, hml, hown, fun w hw => hts w (List.mem_cons_of_mem _ hw), hN, hK, hap, hE, B.notSynchronized, rfl, B.returns⟩
  have hl := lv_entry av (n := mL) (Nat.le_of_ble_eq_true hlen)
  rw [lg_entry_eq]
  rw [hlv] at hl
  exact body (p, l, e, rmd d, s, m, av.toArray, below, meth, c) rfl C s.heap [] _ hP va_S.rf hl
/-- a loop: from head to head (inl), or out (inr) -/
def itr {σ ρ : Type} (step : σ → Option (σ ⊕ ρ)) : Nat → σ → Option ρ
  | 0, _ => none
  | n + 1, s => match step s with
    | none => none
    | some (.inl s') => itr step n s'
    | some (.inr r) => some r
theorem itr_W {σ ρ : Type} {step : σ → Option (σ ⊕ ρ)} (P : σ → Prop) (R : ρ → Prop) (hb : ∀ s r, step s = some r → (∀ s', r = .inl s' → P s') → (∀ x, r = .inr x → R x) → P s) : ∀ (n : Nat) (s : σ) (x : ρ), itr step n s = some x → R x → P s
  | 0, s, x, h, _ => by cases h
  | n + 1, s, x, h, hR => by
    rw [itr] at h
    cases hs : step s with
    | none => rw [hs] at h; cases h
    | some q =>
      rw [hs] at h
      cases q with
      | inl s' => exact hb s _ hs (fun s2 e => by cases e; exact itr_W P R hb n s' x h hR) (fun y e => by cases e)
      | inr r => exact hb s _ hs (fun s2 e => by cases e) (fun y e => by cases e; cases h; exact hR)
theorem ob {α β : Type} {o : Option α} {f : α → Option β} {q : β} (h : o.bind f = some q) : ∃ a, o = some a ∧ f a = some q := Option.bind_eq_some_iff.mp h
def bnd {α β : Type} (e : α) (f : α → β) : β := f e
theorem it_t {α : Type} {c : Prop} [Decidable c] {x y z : α} (h : (if c then x else y) = z) (hc : c) : x = z := by rw [if_pos hc] at h; exact h
theorem it_f {α : Type} {c : Prop} [Decidable c] {x y z : α} (h : (if c then x else y) = z) (hc : ¬ c) : y = z := by rw [if_neg hc] at h; exact h
theorem w_bnd {K : Pk} {Z : Zx} {Y : Sx} {Q : State → Prop} {M : Mm} {pc : Nat} {lv : List (Nat × Value)} {st : List Value} {α : Type} {e : Int32} {f : Int32 → Option α} {q : α} (h : bnd e f = some q) (kk : ∀ x, f x = some q → Wp K Z Y Q M pc lv (.int x :: st)) : Wp K Z Y Q M pc lv (.int e :: st) := kk e h
/-- a boolean that was computed -/
def zb (v : Int32) : Option Int32 := if v &&& 1 = v then some v else none
theorem zb_some {v r : Int32} (h : zb v = some r) : v &&& 1 = v ∧ v = r := by
  unfold zb at h
  split at h
  · rename_i hi; exact ⟨hi, Option.some.inj h⟩
  · cases h
theorem bn {α β : Type} {e : α} {f : α → β} {q : β} (h : bnd e f = q) : ∃ x, e = x ∧ f x = q := ⟨e, rfl, h⟩
end
