section
-- ===== PART A: goes FIRST, ahead of the names: the tables' words, and 'selects' of the private methods out of them =====
/-- a private method of a class that the tables say can be made, by its rows of tables_1 -/
def lw_okq (q : MethodName × Nat) : Prop := (q.1.cls ≠ "java/lang/invoke/MethodHandle" ∧ q.1.cls ≠ "java/lang/invoke/VarHandle") ∧ Cond.instantiable q.1.cls q.2 ∈ tables_1 ∧ Cond.privateMethod q.1 ∈ tables_1 ∧ Cond.instanceMethod q.1 ∈ tables_1
theorem lw_p0 : lw_okq (⟨"TruckWing$Tape", "append", "(I)V"⟩, 2) := ⟨⟨by decide +kernel, by decide +kernel⟩, List.mem_of_getElem? (i := 204) (by decide +kernel), List.mem_of_getElem? (i := 312) (by decide +kernel), List.mem_of_getElem? (i := 313) (by decide +kernel)⟩
theorem lw_p1 : lw_okq (⟨"TruckWing$Teller", "read", "(LTruckWing$Land;LTruckWing$Plan;)I"⟩, 10) := ⟨⟨by decide +kernel, by decide +kernel⟩, List.mem_of_getElem? (i := 219) (by decide +kernel), List.mem_of_getElem? (i := 324) (by decide +kernel), List.mem_of_getElem? (i := 325) (by decide +kernel)⟩
theorem lw_p2 : lw_okq (⟨"TruckWing$Land", "copyOf", "(LTruckWing$Land;)V"⟩, 3) := ⟨⟨by decide +kernel, by decide +kernel⟩, List.mem_of_getElem? (i := 31) (by decide +kernel), List.mem_of_getElem? (i := 328) (by decide +kernel), List.mem_of_getElem? (i := 329) (by decide +kernel)⟩
theorem lw_p3 : lw_okq (⟨"TruckWing$Plan", "copyOf", "(LTruckWing$Plan;)V"⟩, 4) := ⟨⟨by decide +kernel, by decide +kernel⟩, List.mem_of_getElem? (i := 61) (by decide +kernel), List.mem_of_getElem? (i := 335) (by decide +kernel), List.mem_of_getElem? (i := 336) (by decide +kernel)⟩
theorem lw_p4 : lw_okq (⟨"TruckWing$Teller", "step", "()V"⟩, 10) := ⟨⟨by decide +kernel, by decide +kernel⟩, List.mem_of_getElem? (i := 219) (by decide +kernel), List.mem_of_getElem? (i := 340) (by decide +kernel), List.mem_of_getElem? (i := 341) (by decide +kernel)⟩
theorem lw_p5 : lw_okq (⟨"TruckWing$Tape", "hasBlankAt", "(I)Z"⟩, 2) := ⟨⟨by decide +kernel, by decide +kernel⟩, List.mem_of_getElem? (i := 204) (by decide +kernel), List.mem_of_getElem? (i := 344) (by decide +kernel), List.mem_of_getElem? (i := 345) (by decide +kernel)⟩
theorem lw_p6 : lw_okq (⟨"TruckWing$Tape", "byteAt", "(I)I"⟩, 2) := ⟨⟨by decide +kernel, by decide +kernel⟩, List.mem_of_getElem? (i := 204) (by decide +kernel), List.mem_of_getElem? (i := 348) (by decide +kernel), List.mem_of_getElem? (i := 349) (by decide +kernel)⟩
theorem lw_p7 : lw_okq (⟨"TruckWing$Tape", "hasLetterAt", "(I)Z"⟩, 2) := ⟨⟨by decide +kernel, by decide +kernel⟩, List.mem_of_getElem? (i := 204) (by decide +kernel), List.mem_of_getElem? (i := 353) (by decide +kernel), List.mem_of_getElem? (i := 354) (by decide +kernel)⟩
theorem lw_p8 : lw_okq (⟨"TruckWing$Teller", "stepWord", "()V"⟩, 10) := ⟨⟨by decide +kernel, by decide +kernel⟩, List.mem_of_getElem? (i := 219) (by decide +kernel), List.mem_of_getElem? (i := 357) (by decide +kernel), List.mem_of_getElem? (i := 358) (by decide +kernel)⟩
theorem lw_p9 : lw_okq (⟨"TruckWing$Tape", "hasDigitAt", "(I)Z"⟩, 2) := ⟨⟨by decide +kernel, by decide +kernel⟩, List.mem_of_getElem? (i := 204) (by decide +kernel), List.mem_of_getElem? (i := 361) (by decide +kernel), List.mem_of_getElem? (i := 362) (by decide +kernel)⟩
theorem lw_p10 : lw_okq (⟨"TruckWing$Teller", "stepInt", "(II)V"⟩, 10) := ⟨⟨by decide +kernel, by decide +kernel⟩, List.mem_of_getElem? (i := 219) (by decide +kernel), List.mem_of_getElem? (i := 365) (by decide +kernel), List.mem_of_getElem? (i := 366) (by decide +kernel)⟩
theorem lw_p11 : lw_okq (⟨"TruckWing$Teller", "whatIsTold", "()I"⟩, 10) := ⟨⟨by decide +kernel, by decide +kernel⟩, List.mem_of_getElem? (i := 219) (by decide +kernel), List.mem_of_getElem? (i := 369) (by decide +kernel), List.mem_of_getElem? (i := 370) (by decide +kernel)⟩
theorem lw_p12 : lw_okq (⟨"TruckWing$Teller", "isWord", "(Ljava/lang/String;)Z"⟩, 10) := ⟨⟨by decide +kernel, by decide +kernel⟩, List.mem_of_getElem? (i := 219) (by decide +kernel), List.mem_of_getElem? (i := 374) (by decide +kernel), List.mem_of_getElem? (i := 375) (by decide +kernel)⟩
theorem lw_p13 : lw_okq (⟨"TruckWing$Teller", "readStatement", "(I)Z"⟩, 10) := ⟨⟨by decide +kernel, by decide +kernel⟩, List.mem_of_getElem? (i := 219) (by decide +kernel), List.mem_of_getElem? (i := 430) (by decide +kernel), List.mem_of_getElem? (i := 431) (by decide +kernel)⟩
theorem lw_p14 : lw_okq (⟨"TruckWing$Teller", "refuse", "(I)Z"⟩, 10) := ⟨⟨by decide +kernel, by decide +kernel⟩, List.mem_of_getElem? (i := 219) (by decide +kernel), List.mem_of_getElem? (i := 434) (by decide +kernel), List.mem_of_getElem? (i := 435) (by decide +kernel)⟩
theorem lw_p15 : lw_okq (⟨"TruckWing$Teller", "least", "(I)I"⟩, 10) := ⟨⟨by decide +kernel, by decide +kernel⟩, List.mem_of_getElem? (i := 219) (by decide +kernel), List.mem_of_getElem? (i := 440) (by decide +kernel), List.mem_of_getElem? (i := 441) (by decide +kernel)⟩
def lw_privs_1 : List (MethodName × Nat) := [(⟨"TruckWing$Tape", "append", "(I)V"⟩, 2), (⟨"TruckWing$Teller", "read", "(LTruckWing$Land;LTruckWing$Plan;)I"⟩, 10), (⟨"TruckWing$Land", "copyOf", "(LTruckWing$Land;)V"⟩, 3), (⟨"TruckWing$Plan", "copyOf", "(LTruckWing$Plan;)V"⟩, 4), (⟨"TruckWing$Teller", "step", "()V"⟩, 10), (⟨"TruckWing$Tape", "hasBlankAt", "(I)Z"⟩, 2), (⟨"TruckWing$Tape", "byteAt", "(I)I"⟩, 2), (⟨"TruckWing$Tape", "hasLetterAt", "(I)Z"⟩, 2), (⟨"TruckWing$Teller", "stepWord", "()V"⟩, 10), (⟨"TruckWing$Tape", "hasDigitAt", "(I)Z"⟩, 2), (⟨"TruckWing$Teller", "stepInt", "(II)V"⟩, 10), (⟨"TruckWing$Teller", "whatIsTold", "()I"⟩, 10), (⟨"TruckWing$Teller", "isWord", "(Ljava/lang/String;)Z"⟩, 10), (⟨"TruckWing$Teller", "readStatement", "(I)Z"⟩, 10), (⟨"TruckWing$Teller", "refuse", "(I)Z"⟩, 10), (⟨"TruckWing$Teller", "least", "(I)I"⟩, 10)]
theorem lw_r1 : ∀ q ∈ lw_privs_1, lw_okq q := List.forall_mem_cons.mpr ⟨lw_p0, List.forall_mem_cons.mpr ⟨lw_p1, List.forall_mem_cons.mpr ⟨lw_p2, List.forall_mem_cons.mpr ⟨lw_p3, List.forall_mem_cons.mpr ⟨lw_p4, List.forall_mem_cons.mpr ⟨lw_p5, List.forall_mem_cons.mpr ⟨lw_p6, List.forall_mem_cons.mpr ⟨lw_p7, List.forall_mem_cons.mpr ⟨lw_p8, List.forall_mem_cons.mpr ⟨lw_p9, List.forall_mem_cons.mpr ⟨lw_p10, List.forall_mem_cons.mpr ⟨lw_p11, List.forall_mem_cons.mpr ⟨lw_p12, List.forall_mem_cons.mpr ⟨lw_p13, List.forall_mem_cons.mpr ⟨lw_p14, List.forall_mem_cons.mpr ⟨lw_p15, fun _ h => absurd h List.not_mem_nil⟩⟩⟩⟩⟩⟩⟩⟩⟩⟩⟩⟩⟩⟩⟩⟩
theorem lw_p16 : lw_okq (⟨"TruckWing$Teller", "most", "(I)I"⟩, 10) := ⟨⟨by decide +kernel, by decide +kernel⟩, List.mem_of_getElem? (i := 219) (by decide +kernel), List.mem_of_getElem? (i := 446) (by decide +kernel), List.mem_of_getElem? (i := 447) (by decide +kernel)⟩
theorem lw_p17 : lw_okq (⟨"TruckWing$Teller", "apply", "(I)V"⟩, 10) := ⟨⟨by decide +kernel, by decide +kernel⟩, List.mem_of_getElem? (i := 219) (by decide +kernel), List.mem_of_getElem? (i := 454) (by decide +kernel), List.mem_of_getElem? (i := 455) (by decide +kernel)⟩
theorem lw_p18 : lw_okq (⟨"TruckWing$Teller", "applyFacts", "(I)V"⟩, 10) := ⟨⟨by decide +kernel, by decide +kernel⟩, List.mem_of_getElem? (i := 219) (by decide +kernel), List.mem_of_getElem? (i := 458) (by decide +kernel), List.mem_of_getElem? (i := 459) (by decide +kernel)⟩
theorem lw_p19 : lw_okq (⟨"TruckWing$Land", "putFact", "(III)V"⟩, 3) := ⟨⟨by decide +kernel, by decide +kernel⟩, List.mem_of_getElem? (i := 31) (by decide +kernel), List.mem_of_getElem? (i := 462) (by decide +kernel), List.mem_of_getElem? (i := 463) (by decide +kernel)⟩
theorem lw_p20 : lw_okq (⟨"TruckWing$Land", "isPlace", "(I)Z"⟩, 3) := ⟨⟨by decide +kernel, by decide +kernel⟩, List.mem_of_getElem? (i := 31) (by decide +kernel), List.mem_of_getElem? (i := 466) (by decide +kernel), List.mem_of_getElem? (i := 467) (by decide +kernel)⟩
theorem lw_p21 : lw_okq (⟨"TruckWing$Land", "addCustomer", "()V"⟩, 3) := ⟨⟨by decide +kernel, by decide +kernel⟩, List.mem_of_getElem? (i := 31) (by decide +kernel), List.mem_of_getElem? (i := 474) (by decide +kernel), List.mem_of_getElem? (i := 475) (by decide +kernel)⟩
theorem lw_p22 : lw_okq (⟨"TruckWing$Land", "putSetting", "(II)V"⟩, 3) := ⟨⟨by decide +kernel, by decide +kernel⟩, List.mem_of_getElem? (i := 31) (by decide +kernel), List.mem_of_getElem? (i := 478) (by decide +kernel), List.mem_of_getElem? (i := 479) (by decide +kernel)⟩
theorem lw_p23 : lw_okq (⟨"TruckWing$Teller", "applyRow", "()V"⟩, 10) := ⟨⟨by decide +kernel, by decide +kernel⟩, List.mem_of_getElem? (i := 219) (by decide +kernel), List.mem_of_getElem? (i := 487) (by decide +kernel), List.mem_of_getElem? (i := 488) (by decide +kernel)⟩
theorem lw_p24 : lw_okq (⟨"TruckWing$Plan", "empty", "()V"⟩, 4) := ⟨⟨by decide +kernel, by decide +kernel⟩, List.mem_of_getElem? (i := 61) (by decide +kernel), List.mem_of_getElem? (i := 491) (by decide +kernel), List.mem_of_getElem? (i := 492) (by decide +kernel)⟩
theorem lw_p25 : lw_okq (⟨"TruckWing$Plan", "addStop", "(I)Z"⟩, 4) := ⟨⟨by decide +kernel, by decide +kernel⟩, List.mem_of_getElem? (i := 61) (by decide +kernel), List.mem_of_getElem? (i := 495) (by decide +kernel), List.mem_of_getElem? (i := 496) (by decide +kernel)⟩
theorem lw_p26 : lw_okq (⟨"TruckWing$Plan", "addSortie", "(IIII)Z"⟩, 4) := ⟨⟨by decide +kernel, by decide +kernel⟩, List.mem_of_getElem? (i := 61) (by decide +kernel), List.mem_of_getElem? (i := 499) (by decide +kernel), List.mem_of_getElem? (i := 500) (by decide +kernel)⟩
theorem lw_p27 : lw_okq (⟨"TruckWing", "forgetSearches", "()V"⟩, 8) := ⟨⟨by decide +kernel, by decide +kernel⟩, List.mem_of_getElem? (i := 23) (by decide +kernel), List.mem_of_getElem? (i := 505) (by decide +kernel), List.mem_of_getElem? (i := 506) (by decide +kernel)⟩
theorem lw_p28 : lw_okq (⟨"TruckWing$Land", "setting", "(I)I"⟩, 3) := ⟨⟨by decide +kernel, by decide +kernel⟩, List.mem_of_getElem? (i := 31) (by decide +kernel), List.mem_of_getElem? (i := 531) (by decide +kernel), List.mem_of_getElem? (i := 532) (by decide +kernel)⟩
theorem lw_p29 : lw_okq (⟨"TruckWing$Land", "isCustomer", "(I)Z"⟩, 3) := ⟨⟨by decide +kernel, by decide +kernel⟩, List.mem_of_getElem? (i := 31) (by decide +kernel), List.mem_of_getElem? (i := 540) (by decide +kernel), List.mem_of_getElem? (i := 541) (by decide +kernel)⟩
theorem lw_p30 : lw_okq (⟨"TruckWing$Plan", "stops", "()I"⟩, 4) := ⟨⟨by decide +kernel, by decide +kernel⟩, List.mem_of_getElem? (i := 61) (by decide +kernel), List.mem_of_getElem? (i := 545) (by decide +kernel), List.mem_of_getElem? (i := 546) (by decide +kernel)⟩
theorem lw_p31 : lw_okq (⟨"TruckWing$Land", "fact", "(II)I"⟩, 3) := ⟨⟨by decide +kernel, by decide +kernel⟩, List.mem_of_getElem? (i := 31) (by decide +kernel), List.mem_of_getElem? (i := 576) (by decide +kernel), List.mem_of_getElem? (i := 577) (by decide +kernel)⟩
def lw_privs_2 : List (MethodName × Nat) := [(⟨"TruckWing$Teller", "most", "(I)I"⟩, 10), (⟨"TruckWing$Teller", "apply", "(I)V"⟩, 10), (⟨"TruckWing$Teller", "applyFacts", "(I)V"⟩, 10), (⟨"TruckWing$Land", "putFact", "(III)V"⟩, 3), (⟨"TruckWing$Land", "isPlace", "(I)Z"⟩, 3), (⟨"TruckWing$Land", "addCustomer", "()V"⟩, 3), (⟨"TruckWing$Land", "putSetting", "(II)V"⟩, 3), (⟨"TruckWing$Teller", "applyRow", "()V"⟩, 10), (⟨"TruckWing$Plan", "empty", "()V"⟩, 4), (⟨"TruckWing$Plan", "addStop", "(I)Z"⟩, 4), (⟨"TruckWing$Plan", "addSortie", "(IIII)Z"⟩, 4), (⟨"TruckWing", "forgetSearches", "()V"⟩, 8), (⟨"TruckWing$Land", "setting", "(I)I"⟩, 3), (⟨"TruckWing$Land", "isCustomer", "(I)Z"⟩, 3), (⟨"TruckWing$Plan", "stops", "()I"⟩, 4), (⟨"TruckWing$Land", "fact", "(II)I"⟩, 3)]
theorem lw_r2 : ∀ q ∈ lw_privs_2, lw_okq q := List.forall_mem_cons.mpr ⟨lw_p16, List.forall_mem_cons.mpr ⟨lw_p17, List.forall_mem_cons.mpr ⟨lw_p18, List.forall_mem_cons.mpr ⟨lw_p19, List.forall_mem_cons.mpr ⟨lw_p20, List.forall_mem_cons.mpr ⟨lw_p21, List.forall_mem_cons.mpr ⟨lw_p22, List.forall_mem_cons.mpr ⟨lw_p23, List.forall_mem_cons.mpr ⟨lw_p24, List.forall_mem_cons.mpr ⟨lw_p25, List.forall_mem_cons.mpr ⟨lw_p26, List.forall_mem_cons.mpr ⟨lw_p27, List.forall_mem_cons.mpr ⟨lw_p28, List.forall_mem_cons.mpr ⟨lw_p29, List.forall_mem_cons.mpr ⟨lw_p30, List.forall_mem_cons.mpr ⟨lw_p31, fun _ h => absurd h List.not_mem_nil⟩⟩⟩⟩⟩⟩⟩⟩⟩⟩⟩⟩⟩⟩⟩⟩
theorem lw_p32 : lw_okq (⟨"TruckWing$Land", "flight", "(IIII)I"⟩, 3) := ⟨⟨by decide +kernel, by decide +kernel⟩, List.mem_of_getElem? (i := 31) (by decide +kernel), List.mem_of_getElem? (i := 585) (by decide +kernel), List.mem_of_getElem? (i := 586) (by decide +kernel)⟩
theorem lw_p33 : lw_okq (⟨"TruckWing$Land", "drive", "(II)I"⟩, 3) := ⟨⟨by decide +kernel, by decide +kernel⟩, List.mem_of_getElem? (i := 31) (by decide +kernel), List.mem_of_getElem? (i := 597) (by decide +kernel), List.mem_of_getElem? (i := 598) (by decide +kernel)⟩
theorem lw_p34 : lw_okq (⟨"TruckWing$Course", "look", "()Z"⟩, 11) := ⟨⟨by decide +kernel, by decide +kernel⟩, List.mem_of_getElem? (i := 86) (by decide +kernel), List.mem_of_getElem? (i := 605) (by decide +kernel), List.mem_of_getElem? (i := 606) (by decide +kernel)⟩
theorem lw_p35 : lw_okq (⟨"TruckWing$Course", "wrongWithoutTimes", "()I"⟩, 11) := ⟨⟨by decide +kernel, by decide +kernel⟩, List.mem_of_getElem? (i := 86) (by decide +kernel), List.mem_of_getElem? (i := 609) (by decide +kernel), List.mem_of_getElem? (i := 610) (by decide +kernel)⟩
theorem lw_p36 : lw_okq (⟨"TruckWing$Course", "impossibleSortie", "()I"⟩, 11) := ⟨⟨by decide +kernel, by decide +kernel⟩, List.mem_of_getElem? (i := 86) (by decide +kernel), List.mem_of_getElem? (i := 613) (by decide +kernel), List.mem_of_getElem? (i := 614) (by decide +kernel)⟩
theorem lw_p37 : lw_okq (⟨"TruckWing$Plan", "part", "(II)I"⟩, 4) := ⟨⟨by decide +kernel, by decide +kernel⟩, List.mem_of_getElem? (i := 61) (by decide +kernel), List.mem_of_getElem? (i := 617) (by decide +kernel), List.mem_of_getElem? (i := 618) (by decide +kernel)⟩
theorem lw_p38 : lw_okq (⟨"TruckWing$Course", "servedTooOften", "()I"⟩, 11) := ⟨⟨by decide +kernel, by decide +kernel⟩, List.mem_of_getElem? (i := 86) (by decide +kernel), List.mem_of_getElem? (i := 626) (by decide +kernel), List.mem_of_getElem? (i := 627) (by decide +kernel)⟩
theorem lw_p39 : lw_okq (⟨"TruckWing$Course", "timesServed", "(I)I"⟩, 11) := ⟨⟨by decide +kernel, by decide +kernel⟩, List.mem_of_getElem? (i := 86) (by decide +kernel), List.mem_of_getElem? (i := 630) (by decide +kernel), List.mem_of_getElem? (i := 631) (by decide +kernel)⟩
theorem lw_p40 : lw_okq (⟨"TruckWing$Plan", "placeAt", "(I)I"⟩, 4) := ⟨⟨by decide +kernel, by decide +kernel⟩, List.mem_of_getElem? (i := 61) (by decide +kernel), List.mem_of_getElem? (i := 634) (by decide +kernel), List.mem_of_getElem? (i := 635) (by decide +kernel)⟩
theorem lw_p41 : lw_okq (⟨"TruckWing$Course", "servedByNobody", "()I"⟩, 11) := ⟨⟨by decide +kernel, by decide +kernel⟩, List.mem_of_getElem? (i := 86) (by decide +kernel), List.mem_of_getElem? (i := 638) (by decide +kernel), List.mem_of_getElem? (i := 639) (by decide +kernel)⟩
theorem lw_p42 : lw_okq (⟨"TruckWing$Course", "tooHeavy", "()I"⟩, 11) := ⟨⟨by decide +kernel, by decide +kernel⟩, List.mem_of_getElem? (i := 86) (by decide +kernel), List.mem_of_getElem? (i := 642) (by decide +kernel), List.mem_of_getElem? (i := 643) (by decide +kernel)⟩
theorem lw_p43 : lw_okq (⟨"TruckWing$Land", "isLight", "(I)Z"⟩, 3) := ⟨⟨by decide +kernel, by decide +kernel⟩, List.mem_of_getElem? (i := 31) (by decide +kernel), List.mem_of_getElem? (i := 646) (by decide +kernel), List.mem_of_getElem? (i := 647) (by decide +kernel)⟩
theorem lw_p44 : lw_okq (⟨"TruckWing$Course", "overlapping", "()I"⟩, 11) := ⟨⟨by decide +kernel, by decide +kernel⟩, List.mem_of_getElem? (i := 86) (by decide +kernel), List.mem_of_getElem? (i := 650) (by decide +kernel), List.mem_of_getElem? (i := 651) (by decide +kernel)⟩
theorem lw_p45 : lw_okq (⟨"TruckWing$Course", "drivePlan", "()V"⟩, 11) := ⟨⟨by decide +kernel, by decide +kernel⟩, List.mem_of_getElem? (i := 86) (by decide +kernel), List.mem_of_getElem? (i := 654) (by decide +kernel), List.mem_of_getElem? (i := 655) (by decide +kernel)⟩
theorem lw_p46 : lw_okq (⟨"TruckWing$Diary", "empty", "()V"⟩, 2) := ⟨⟨by decide +kernel, by decide +kernel⟩, List.mem_of_getElem? (i := 92) (by decide +kernel), List.mem_of_getElem? (i := 658) (by decide +kernel), List.mem_of_getElem? (i := 659) (by decide +kernel)⟩
theorem lw_p47 : lw_okq (⟨"TruckWing$Diary", "note", "(IIII)V"⟩, 2) := ⟨⟨by decide +kernel, by decide +kernel⟩, List.mem_of_getElem? (i := 92) (by decide +kernel), List.mem_of_getElem? (i := 663) (by decide +kernel), List.mem_of_getElem? (i := 664) (by decide +kernel)⟩
def lw_privs_3 : List (MethodName × Nat) := [(⟨"TruckWing$Land", "flight", "(IIII)I"⟩, 3), (⟨"TruckWing$Land", "drive", "(II)I"⟩, 3), (⟨"TruckWing$Course", "look", "()Z"⟩, 11), (⟨"TruckWing$Course", "wrongWithoutTimes", "()I"⟩, 11), (⟨"TruckWing$Course", "impossibleSortie", "()I"⟩, 11), (⟨"TruckWing$Plan", "part", "(II)I"⟩, 4), (⟨"TruckWing$Course", "servedTooOften", "()I"⟩, 11), (⟨"TruckWing$Course", "timesServed", "(I)I"⟩, 11), (⟨"TruckWing$Plan", "placeAt", "(I)I"⟩, 4), (⟨"TruckWing$Course", "servedByNobody", "()I"⟩, 11), (⟨"TruckWing$Course", "tooHeavy", "()I"⟩, 11), (⟨"TruckWing$Land", "isLight", "(I)Z"⟩, 3), (⟨"TruckWing$Course", "overlapping", "()I"⟩, 11), (⟨"TruckWing$Course", "drivePlan", "()V"⟩, 11), (⟨"TruckWing$Diary", "empty", "()V"⟩, 2), (⟨"TruckWing$Diary", "note", "(IIII)V"⟩, 2)]
theorem lw_r3 : ∀ q ∈ lw_privs_3, lw_okq q := List.forall_mem_cons.mpr ⟨lw_p32, List.forall_mem_cons.mpr ⟨lw_p33, List.forall_mem_cons.mpr ⟨lw_p34, List.forall_mem_cons.mpr ⟨lw_p35, List.forall_mem_cons.mpr ⟨lw_p36, List.forall_mem_cons.mpr ⟨lw_p37, List.forall_mem_cons.mpr ⟨lw_p38, List.forall_mem_cons.mpr ⟨lw_p39, List.forall_mem_cons.mpr ⟨lw_p40, List.forall_mem_cons.mpr ⟨lw_p41, List.forall_mem_cons.mpr ⟨lw_p42, List.forall_mem_cons.mpr ⟨lw_p43, List.forall_mem_cons.mpr ⟨lw_p44, List.forall_mem_cons.mpr ⟨lw_p45, List.forall_mem_cons.mpr ⟨lw_p46, List.forall_mem_cons.mpr ⟨lw_p47, fun _ h => absurd h List.not_mem_nil⟩⟩⟩⟩⟩⟩⟩⟩⟩⟩⟩⟩⟩⟩⟩⟩
theorem lw_p48 : lw_okq (⟨"TruckWing$Course", "catchAll", "(II)I"⟩, 11) := ⟨⟨by decide +kernel, by decide +kernel⟩, List.mem_of_getElem? (i := 86) (by decide +kernel), List.mem_of_getElem? (i := 668) (by decide +kernel), List.mem_of_getElem? (i := 669) (by decide +kernel)⟩
theorem lw_p49 : lw_okq (⟨"TruckWing$Course", "nextToCatch", "(I)I"⟩, 11) := ⟨⟨by decide +kernel, by decide +kernel⟩, List.mem_of_getElem? (i := 86) (by decide +kernel), List.mem_of_getElem? (i := 672) (by decide +kernel), List.mem_of_getElem? (i := 673) (by decide +kernel)⟩
theorem lw_p50 : lw_okq (⟨"TruckWing$Course", "isAhead", "(II)Z"⟩, 11) := ⟨⟨by decide +kernel, by decide +kernel⟩, List.mem_of_getElem? (i := 86) (by decide +kernel), List.mem_of_getElem? (i := 676) (by decide +kernel), List.mem_of_getElem? (i := 677) (by decide +kernel)⟩
theorem lw_p51 : lw_okq (⟨"TruckWing$Course", "launchAll", "(II)I"⟩, 11) := ⟨⟨by decide +kernel, by decide +kernel⟩, List.mem_of_getElem? (i := 86) (by decide +kernel), List.mem_of_getElem? (i := 681) (by decide +kernel), List.mem_of_getElem? (i := 682) (by decide +kernel)⟩
theorem lw_p52 : lw_okq (⟨"TruckWing$Course", "launch", "(II)V"⟩, 11) := ⟨⟨by decide +kernel, by decide +kernel⟩, List.mem_of_getElem? (i := 86) (by decide +kernel), List.mem_of_getElem? (i := 685) (by decide +kernel), List.mem_of_getElem? (i := 686) (by decide +kernel)⟩
theorem lw_p53 : lw_okq (⟨"TruckWing$Course", "tooLongInAir", "()I"⟩, 11) := ⟨⟨by decide +kernel, by decide +kernel⟩, List.mem_of_getElem? (i := 86) (by decide +kernel), List.mem_of_getElem? (i := 690) (by decide +kernel), List.mem_of_getElem? (i := 691) (by decide +kernel)⟩
theorem lw_p54 : lw_okq (⟨"TruckWing$Course", "air", "(I)I"⟩, 11) := ⟨⟨by decide +kernel, by decide +kernel⟩, List.mem_of_getElem? (i := 86) (by decide +kernel), List.mem_of_getElem? (i := 694) (by decide +kernel), List.mem_of_getElem? (i := 695) (by decide +kernel)⟩
theorem lw_p55 : lw_okq (⟨"TruckWing$Course", "lastReady", "()I"⟩, 11) := ⟨⟨by decide +kernel, by decide +kernel⟩, List.mem_of_getElem? (i := 86) (by decide +kernel), List.mem_of_getElem? (i := 702) (by decide +kernel), List.mem_of_getElem? (i := 703) (by decide +kernel)⟩
theorem lw_p56 : lw_okq (⟨"TruckWing$Course", "ofStop", "(II)I"⟩, 11) := ⟨⟨by decide +kernel, by decide +kernel⟩, List.mem_of_getElem? (i := 86) (by decide +kernel), List.mem_of_getElem? (i := 710) (by decide +kernel), List.mem_of_getElem? (i := 711) (by decide +kernel)⟩
theorem lw_p57 : lw_okq (⟨"TruckWing$Plan", "hasSortie", "(I)Z"⟩, 4) := ⟨⟨by decide +kernel, by decide +kernel⟩, List.mem_of_getElem? (i := 61) (by decide +kernel), List.mem_of_getElem? (i := 718) (by decide +kernel), List.mem_of_getElem? (i := 719) (by decide +kernel)⟩
theorem lw_p58 : lw_okq (⟨"TruckWing$Course", "ofSortie", "(II)I"⟩, 11) := ⟨⟨by decide +kernel, by decide +kernel⟩, List.mem_of_getElem? (i := 86) (by decide +kernel), List.mem_of_getElem? (i := 722) (by decide +kernel), List.mem_of_getElem? (i := 723) (by decide +kernel)⟩
theorem lw_p59 : lw_okq (⟨"TruckWing$Diary", "part", "(II)I"⟩, 2) := ⟨⟨by decide +kernel, by decide +kernel⟩, List.mem_of_getElem? (i := 92) (by decide +kernel), List.mem_of_getElem? (i := 730) (by decide +kernel), List.mem_of_getElem? (i := 731) (by decide +kernel)⟩
theorem lw_p60 : lw_okq (⟨"TruckWing$Course", "total", "(I)I"⟩, 11) := ⟨⟨by decide +kernel, by decide +kernel⟩, List.mem_of_getElem? (i := 86) (by decide +kernel), List.mem_of_getElem? (i := 738) (by decide +kernel), List.mem_of_getElem? (i := 739) (by decide +kernel)⟩
theorem lw_p61 : lw_okq (⟨"TruckWing$Course", "drivenTo", "(I)I"⟩, 11) := ⟨⟨by decide +kernel, by decide +kernel⟩, List.mem_of_getElem? (i := 86) (by decide +kernel), List.mem_of_getElem? (i := 742) (by decide +kernel), List.mem_of_getElem? (i := 743) (by decide +kernel)⟩
theorem lw_p62 : lw_okq (⟨"TruckWing$Course", "flownBy", "(I)I"⟩, 11) := ⟨⟨by decide +kernel, by decide +kernel⟩, List.mem_of_getElem? (i := 86) (by decide +kernel), List.mem_of_getElem? (i := 746) (by decide +kernel), List.mem_of_getElem? (i := 747) (by decide +kernel)⟩
theorem lw_p63 : lw_okq (⟨"TruckWing$Table", "readOrder", "(I)Z"⟩, 18) := ⟨⟨by decide +kernel, by decide +kernel⟩, List.mem_of_getElem? (i := 142) (by decide +kernel), List.mem_of_getElem? (i := 754) (by decide +kernel), List.mem_of_getElem? (i := 755) (by decide +kernel)⟩
def lw_privs_4 : List (MethodName × Nat) := [(⟨"TruckWing$Course", "catchAll", "(II)I"⟩, 11), (⟨"TruckWing$Course", "nextToCatch", "(I)I"⟩, 11), (⟨"TruckWing$Course", "isAhead", "(II)Z"⟩, 11), (⟨"TruckWing$Course", "launchAll", "(II)I"⟩, 11), (⟨"TruckWing$Course", "launch", "(II)V"⟩, 11), (⟨"TruckWing$Course", "tooLongInAir", "()I"⟩, 11), (⟨"TruckWing$Course", "air", "(I)I"⟩, 11), (⟨"TruckWing$Course", "lastReady", "()I"⟩, 11), (⟨"TruckWing$Course", "ofStop", "(II)I"⟩, 11), (⟨"TruckWing$Plan", "hasSortie", "(I)Z"⟩, 4), (⟨"TruckWing$Course", "ofSortie", "(II)I"⟩, 11), (⟨"TruckWing$Diary", "part", "(II)I"⟩, 2), (⟨"TruckWing$Course", "total", "(I)I"⟩, 11), (⟨"TruckWing$Course", "drivenTo", "(I)I"⟩, 11), (⟨"TruckWing$Course", "flownBy", "(I)I"⟩, 11), (⟨"TruckWing$Table", "readOrder", "(I)Z"⟩, 18)]
theorem lw_r4 : ∀ q ∈ lw_privs_4, lw_okq q := List.forall_mem_cons.mpr ⟨lw_p48, List.forall_mem_cons.mpr ⟨lw_p49, List.forall_mem_cons.mpr ⟨lw_p50, List.forall_mem_cons.mpr ⟨lw_p51, List.forall_mem_cons.mpr ⟨lw_p52, List.forall_mem_cons.mpr ⟨lw_p53, List.forall_mem_cons.mpr ⟨lw_p54, List.forall_mem_cons.mpr ⟨lw_p55, List.forall_mem_cons.mpr ⟨lw_p56, List.forall_mem_cons.mpr ⟨lw_p57, List.forall_mem_cons.mpr ⟨lw_p58, List.forall_mem_cons.mpr ⟨lw_p59, List.forall_mem_cons.mpr ⟨lw_p60, List.forall_mem_cons.mpr ⟨lw_p61, List.forall_mem_cons.mpr ⟨lw_p62, List.forall_mem_cons.mpr ⟨lw_p63, fun _ h => absurd h List.not_mem_nil⟩⟩⟩⟩⟩⟩⟩⟩⟩⟩⟩⟩⟩⟩⟩⟩
theorem lw_p64 : lw_okq (⟨"TruckWing", "fillTable", "()V"⟩, 8) := ⟨⟨by decide +kernel, by decide +kernel⟩, List.mem_of_getElem? (i := 23) (by decide +kernel), List.mem_of_getElem? (i := 759) (by decide +kernel), List.mem_of_getElem? (i := 760) (by decide +kernel)⟩
theorem lw_p65 : lw_okq (⟨"TruckWing$Table", "prepare", "(III)V"⟩, 18) := ⟨⟨by decide +kernel, by decide +kernel⟩, List.mem_of_getElem? (i := 142) (by decide +kernel), List.mem_of_getElem? (i := 763) (by decide +kernel), List.mem_of_getElem? (i := 764) (by decide +kernel)⟩
theorem lw_p66 : lw_okq (⟨"TruckWing$Table", "fill", "(I)V"⟩, 18) := ⟨⟨by decide +kernel, by decide +kernel⟩, List.mem_of_getElem? (i := 142) (by decide +kernel), List.mem_of_getElem? (i := 772) (by decide +kernel), List.mem_of_getElem? (i := 773) (by decide +kernel)⟩
theorem lw_p67 : lw_okq (⟨"TruckWing$Table", "beginWithVan", "(I)V"⟩, 18) := ⟨⟨by decide +kernel, by decide +kernel⟩, List.mem_of_getElem? (i := 142) (by decide +kernel), List.mem_of_getElem? (i := 777) (by decide +kernel), List.mem_of_getElem? (i := 778) (by decide +kernel)⟩
theorem lw_p68 : lw_okq (⟨"TruckWing$Table", "leg", "(II)I"⟩, 18) := ⟨⟨by decide +kernel, by decide +kernel⟩, List.mem_of_getElem? (i := 142) (by decide +kernel), List.mem_of_getElem? (i := 781) (by decide +kernel), List.mem_of_getElem? (i := 782) (by decide +kernel)⟩
theorem lw_p69 : lw_okq (⟨"TruckWing$Table", "soonest", "(II)I"⟩, 18) := ⟨⟨by decide +kernel, by decide +kernel⟩, List.mem_of_getElem? (i := 142) (by decide +kernel), List.mem_of_getElem? (i := 785) (by decide +kernel), List.mem_of_getElem? (i := 786) (by decide +kernel)⟩
theorem lw_p70 : lw_okq (⟨"TruckWing$Table", "offerBlocks", "(II)V"⟩, 18) := ⟨⟨by decide +kernel, by decide +kernel⟩, List.mem_of_getElem? (i := 142) (by decide +kernel), List.mem_of_getElem? (i := 789) (by decide +kernel), List.mem_of_getElem? (i := 790) (by decide +kernel)⟩
theorem lw_p71 : lw_okq (⟨"TruckWing$Table", "offerOne", "(III)V"⟩, 18) := ⟨⟨by decide +kernel, by decide +kernel⟩, List.mem_of_getElem? (i := 142) (by decide +kernel), List.mem_of_getElem? (i := 793) (by decide +kernel), List.mem_of_getElem? (i := 794) (by decide +kernel)⟩
theorem lw_p72 : lw_okq (⟨"TruckWing$Table", "spared", "(II)I"⟩, 18) := ⟨⟨by decide +kernel, by decide +kernel⟩, List.mem_of_getElem? (i := 142) (by decide +kernel), List.mem_of_getElem? (i := 797) (by decide +kernel), List.mem_of_getElem? (i := 798) (by decide +kernel)⟩
theorem lw_p73 : lw_okq (⟨"TruckWing$Table", "trip", "(III)I"⟩, 18) := ⟨⟨by decide +kernel, by decide +kernel⟩, List.mem_of_getElem? (i := 142) (by decide +kernel), List.mem_of_getElem? (i := 801) (by decide +kernel), List.mem_of_getElem? (i := 802) (by decide +kernel)⟩
theorem lw_p74 : lw_okq (⟨"TruckWing$Table", "lasts", "(III)Z"⟩, 18) := ⟨⟨by decide +kernel, by decide +kernel⟩, List.mem_of_getElem? (i := 142) (by decide +kernel), List.mem_of_getElem? (i := 805) (by decide +kernel), List.mem_of_getElem? (i := 806) (by decide +kernel)⟩
theorem lw_p75 : lw_okq (⟨"TruckWing$Table", "offer", "(IIII)V"⟩, 18) := ⟨⟨by decide +kernel, by decide +kernel⟩, List.mem_of_getElem? (i := 142) (by decide +kernel), List.mem_of_getElem? (i := 812) (by decide +kernel), List.mem_of_getElem? (i := 813) (by decide +kernel)⟩
theorem lw_p76 : lw_okq (⟨"TruckWing$Table", "offerTwo", "(IIII)V"⟩, 18) := ⟨⟨by decide +kernel, by decide +kernel⟩, List.mem_of_getElem? (i := 142) (by decide +kernel), List.mem_of_getElem? (i := 822) (by decide +kernel), List.mem_of_getElem? (i := 823) (by decide +kernel)⟩
theorem lw_p77 : lw_okq (⟨"TruckWing$Table", "lastEnd", "()I"⟩, 18) := ⟨⟨by decide +kernel, by decide +kernel⟩, List.mem_of_getElem? (i := 142) (by decide +kernel), List.mem_of_getElem? (i := 826) (by decide +kernel), List.mem_of_getElem? (i := 827) (by decide +kernel)⟩
theorem lw_p78 : lw_okq (⟨"TruckWing$Table", "writePlan", "(LTruckWing$Plan;)V"⟩, 18) := ⟨⟨by decide +kernel, by decide +kernel⟩, List.mem_of_getElem? (i := 142) (by decide +kernel), List.mem_of_getElem? (i := 834) (by decide +kernel), List.mem_of_getElem? (i := 835) (by decide +kernel)⟩
theorem lw_p79 : lw_okq (⟨"TruckWing$Table", "linkBlocks", "()V"⟩, 18) := ⟨⟨by decide +kernel, by decide +kernel⟩, List.mem_of_getElem? (i := 142) (by decide +kernel), List.mem_of_getElem? (i := 838) (by decide +kernel), List.mem_of_getElem? (i := 839) (by decide +kernel)⟩
def lw_privs_5 : List (MethodName × Nat) := [(⟨"TruckWing", "fillTable", "()V"⟩, 8), (⟨"TruckWing$Table", "prepare", "(III)V"⟩, 18), (⟨"TruckWing$Table", "fill", "(I)V"⟩, 18), (⟨"TruckWing$Table", "beginWithVan", "(I)V"⟩, 18), (⟨"TruckWing$Table", "leg", "(II)I"⟩, 18), (⟨"TruckWing$Table", "soonest", "(II)I"⟩, 18), (⟨"TruckWing$Table", "offerBlocks", "(II)V"⟩, 18), (⟨"TruckWing$Table", "offerOne", "(III)V"⟩, 18), (⟨"TruckWing$Table", "spared", "(II)I"⟩, 18), (⟨"TruckWing$Table", "trip", "(III)I"⟩, 18), (⟨"TruckWing$Table", "lasts", "(III)Z"⟩, 18), (⟨"TruckWing$Table", "offer", "(IIII)V"⟩, 18), (⟨"TruckWing$Table", "offerTwo", "(IIII)V"⟩, 18), (⟨"TruckWing$Table", "lastEnd", "()I"⟩, 18), (⟨"TruckWing$Table", "writePlan", "(LTruckWing$Plan;)V"⟩, 18), (⟨"TruckWing$Table", "linkBlocks", "()V"⟩, 18)]
theorem lw_r5 : ∀ q ∈ lw_privs_5, lw_okq q := List.forall_mem_cons.mpr ⟨lw_p64, List.forall_mem_cons.mpr ⟨lw_p65, List.forall_mem_cons.mpr ⟨lw_p66, List.forall_mem_cons.mpr ⟨lw_p67, List.forall_mem_cons.mpr ⟨lw_p68, List.forall_mem_cons.mpr ⟨lw_p69, List.forall_mem_cons.mpr ⟨lw_p70, List.forall_mem_cons.mpr ⟨lw_p71, List.forall_mem_cons.mpr ⟨lw_p72, List.forall_mem_cons.mpr ⟨lw_p73, List.forall_mem_cons.mpr ⟨lw_p74, List.forall_mem_cons.mpr ⟨lw_p75, List.forall_mem_cons.mpr ⟨lw_p76, List.forall_mem_cons.mpr ⟨lw_p77, List.forall_mem_cons.mpr ⟨lw_p78, List.forall_mem_cons.mpr ⟨lw_p79, fun _ h => absurd h List.not_mem_nil⟩⟩⟩⟩⟩⟩⟩⟩⟩⟩⟩⟩⟩⟩⟩⟩
theorem lw_p80 : lw_okq (⟨"TruckWing$Table", "writeBlock", "(LTruckWing$Plan;II)V"⟩, 18) := ⟨⟨by decide +kernel, by decide +kernel⟩, List.mem_of_getElem? (i := 142) (by decide +kernel), List.mem_of_getElem? (i := 843) (by decide +kernel), List.mem_of_getElem? (i := 844) (by decide +kernel)⟩
theorem lw_p81 : lw_okq (⟨"TruckWing$Table", "isFlown", "(III)Z"⟩, 18) := ⟨⟨by decide +kernel, by decide +kernel⟩, List.mem_of_getElem? (i := 142) (by decide +kernel), List.mem_of_getElem? (i := 847) (by decide +kernel), List.mem_of_getElem? (i := 848) (by decide +kernel)⟩
theorem lw_p82 : lw_okq (⟨"TruckWing", "searchBest", "()V"⟩, 8) := ⟨⟨by decide +kernel, by decide +kernel⟩, List.mem_of_getElem? (i := 23) (by decide +kernel), List.mem_of_getElem? (i := 857) (by decide +kernel), List.mem_of_getElem? (i := 858) (by decide +kernel)⟩
theorem lw_p83 : lw_okq (⟨"TruckWing$Table", "search", "(LTruckWing$Found;)V"⟩, 18) := ⟨⟨by decide +kernel, by decide +kernel⟩, List.mem_of_getElem? (i := 142) (by decide +kernel), List.mem_of_getElem? (i := 861) (by decide +kernel), List.mem_of_getElem? (i := 862) (by decide +kernel)⟩
theorem lw_p84 : lw_okq (⟨"TruckWing$Table", "orderNumber", "()I"⟩, 18) := ⟨⟨by decide +kernel, by decide +kernel⟩, List.mem_of_getElem? (i := 142) (by decide +kernel), List.mem_of_getElem? (i := 867) (by decide +kernel), List.mem_of_getElem? (i := 868) (by decide +kernel)⟩
theorem lw_p85 : lw_okq (⟨"TruckWing$Found", "keep", "(II)V"⟩, 3) := ⟨⟨by decide +kernel, by decide +kernel⟩, List.mem_of_getElem? (i := 263) (by decide +kernel), List.mem_of_getElem? (i := 871) (by decide +kernel), List.mem_of_getElem? (i := 872) (by decide +kernel)⟩
theorem lw_p86 : lw_okq (⟨"TruckWing$Table", "nextOrder", "()I"⟩, 18) := ⟨⟨by decide +kernel, by decide +kernel⟩, List.mem_of_getElem? (i := 142) (by decide +kernel), List.mem_of_getElem? (i := 875) (by decide +kernel), List.mem_of_getElem? (i := 876) (by decide +kernel)⟩
theorem lw_p87 : lw_okq (⟨"TruckWing$Table", "swap", "(II)V"⟩, 18) := ⟨⟨by decide +kernel, by decide +kernel⟩, List.mem_of_getElem? (i := 142) (by decide +kernel), List.mem_of_getElem? (i := 879) (by decide +kernel), List.mem_of_getElem? (i := 880) (by decide +kernel)⟩
theorem lw_p88 : lw_okq (⟨"TruckWing", "searchAlone", "()V"⟩, 8) := ⟨⟨by decide +kernel, by decide +kernel⟩, List.mem_of_getElem? (i := 23) (by decide +kernel), List.mem_of_getElem? (i := 891) (by decide +kernel), List.mem_of_getElem? (i := 892) (by decide +kernel)⟩
theorem lw_p89 : lw_okq (⟨"TruckWing", "bestWind", "()I"⟩, 8) := ⟨⟨by decide +kernel, by decide +kernel⟩, List.mem_of_getElem? (i := 23) (by decide +kernel), List.mem_of_getElem? (i := 899) (by decide +kernel), List.mem_of_getElem? (i := 900) (by decide +kernel)⟩
theorem lw_p90 : lw_okq (⟨"TruckWing", "endByWind", "(I)I"⟩, 8) := ⟨⟨by decide +kernel, by decide +kernel⟩, List.mem_of_getElem? (i := 23) (by decide +kernel), List.mem_of_getElem? (i := 903) (by decide +kernel), List.mem_of_getElem? (i := 904) (by decide +kernel)⟩
theorem lw_p91 : lw_okq (⟨"java/lang/Throwable", "fillInStackTrace", "(I)Ljava/lang/Throwable;"⟩, 6) := ⟨⟨by decide +kernel, by decide +kernel⟩, List.mem_of_getElem? (i := 951) (by decide +kernel), List.mem_of_getElem? (i := 949) (by decide +kernel), List.mem_of_getElem? (i := 950) (by decide +kernel)⟩
theorem lw_p92 : lw_okq (⟨"TruckWingModel", "customers", "()I"⟩, 27) := ⟨⟨by decide +kernel, by decide +kernel⟩, List.mem_of_getElem? (i := 977) (by decide +kernel), List.mem_of_getElem? (i := 1079) (by decide +kernel), List.mem_of_getElem? (i := 1080) (by decide +kernel)⟩
theorem lw_p93 : lw_okq (⟨"TruckWingModel", "more", "(IIIII)V"⟩, 27) := ⟨⟨by decide +kernel, by decide +kernel⟩, List.mem_of_getElem? (i := 977) (by decide +kernel), List.mem_of_getElem? (i := 1083) (by decide +kernel), List.mem_of_getElem? (i := 1084) (by decide +kernel)⟩
theorem lw_p94 : lw_okq (⟨"TruckWingModel", "clears", "()V"⟩, 27) := ⟨⟨by decide +kernel, by decide +kernel⟩, List.mem_of_getElem? (i := 977) (by decide +kernel), List.mem_of_getElem? (i := 1091) (by decide +kernel), List.mem_of_getElem? (i := 1092) (by decide +kernel)⟩
theorem lw_p95 : lw_okq (⟨"TruckWingModel", "of", "(I)I"⟩, 27) := ⟨⟨by decide +kernel, by decide +kernel⟩, List.mem_of_getElem? (i := 977) (by decide +kernel), List.mem_of_getElem? (i := 1102) (by decide +kernel), List.mem_of_getElem? (i := 1103) (by decide +kernel)⟩
def lw_privs_6 : List (MethodName × Nat) := [(⟨"TruckWing$Table", "writeBlock", "(LTruckWing$Plan;II)V"⟩, 18), (⟨"TruckWing$Table", "isFlown", "(III)Z"⟩, 18), (⟨"TruckWing", "searchBest", "()V"⟩, 8), (⟨"TruckWing$Table", "search", "(LTruckWing$Found;)V"⟩, 18), (⟨"TruckWing$Table", "orderNumber", "()I"⟩, 18), (⟨"TruckWing$Found", "keep", "(II)V"⟩, 3), (⟨"TruckWing$Table", "nextOrder", "()I"⟩, 18), (⟨"TruckWing$Table", "swap", "(II)V"⟩, 18), (⟨"TruckWing", "searchAlone", "()V"⟩, 8), (⟨"TruckWing", "bestWind", "()I"⟩, 8), (⟨"TruckWing", "endByWind", "(I)I"⟩, 8), (⟨"java/lang/Throwable", "fillInStackTrace", "(I)Ljava/lang/Throwable;"⟩, 6), (⟨"TruckWingModel", "customers", "()I"⟩, 27), (⟨"TruckWingModel", "more", "(IIIII)V"⟩, 27), (⟨"TruckWingModel", "clears", "()V"⟩, 27), (⟨"TruckWingModel", "of", "(I)I"⟩, 27)]
theorem lw_r6 : ∀ q ∈ lw_privs_6, lw_okq q := List.forall_mem_cons.mpr ⟨lw_p80, List.forall_mem_cons.mpr ⟨lw_p81, List.forall_mem_cons.mpr ⟨lw_p82, List.forall_mem_cons.mpr ⟨lw_p83, List.forall_mem_cons.mpr ⟨lw_p84, List.forall_mem_cons.mpr ⟨lw_p85, List.forall_mem_cons.mpr ⟨lw_p86, List.forall_mem_cons.mpr ⟨lw_p87, List.forall_mem_cons.mpr ⟨lw_p88, List.forall_mem_cons.mpr ⟨lw_p89, List.forall_mem_cons.mpr ⟨lw_p90, List.forall_mem_cons.mpr ⟨lw_p91, List.forall_mem_cons.mpr ⟨lw_p92, List.forall_mem_cons.mpr ⟨lw_p93, List.forall_mem_cons.mpr ⟨lw_p94, List.forall_mem_cons.mpr ⟨lw_p95, fun _ h => absurd h List.not_mem_nil⟩⟩⟩⟩⟩⟩⟩⟩⟩⟩⟩⟩⟩⟩⟩⟩
theorem lw_p96 : lw_okq (⟨"TruckWingModel", "isCustomer", "(I)Z"⟩, 27) := ⟨⟨by decide +kernel, by decide +kernel⟩, List.mem_of_getElem? (i := 977) (by decide +kernel), List.mem_of_getElem? (i := 1110) (by decide +kernel), List.mem_of_getElem? (i := 1111) (by decide +kernel)⟩
theorem lw_p97 : lw_okq (⟨"TruckWingModel", "stops", "()I"⟩, 27) := ⟨⟨by decide +kernel, by decide +kernel⟩, List.mem_of_getElem? (i := 977) (by decide +kernel), List.mem_of_getElem? (i := 1114) (by decide +kernel), List.mem_of_getElem? (i := 1115) (by decide +kernel)⟩
theorem lw_p98 : lw_okq (⟨"TruckWingModel", "stopsAt", "(I)V"⟩, 27) := ⟨⟨by decide +kernel, by decide +kernel⟩, List.mem_of_getElem? (i := 977) (by decide +kernel), List.mem_of_getElem? (i := 1118) (by decide +kernel), List.mem_of_getElem? (i := 1119) (by decide +kernel)⟩
theorem lw_p99 : lw_okq (⟨"TruckWingModel", "maySend", "(IIII)Z"⟩, 27) := ⟨⟨by decide +kernel, by decide +kernel⟩, List.mem_of_getElem? (i := 977) (by decide +kernel), List.mem_of_getElem? (i := 1126) (by decide +kernel), List.mem_of_getElem? (i := 1127) (by decide +kernel)⟩
theorem lw_p100 : lw_okq (⟨"TruckWingModel", "sorties", "()I"⟩, 27) := ⟨⟨by decide +kernel, by decide +kernel⟩, List.mem_of_getElem? (i := 977) (by decide +kernel), List.mem_of_getElem? (i := 1130) (by decide +kernel), List.mem_of_getElem? (i := 1131) (by decide +kernel)⟩
theorem lw_p101 : lw_okq (⟨"TruckWingModel", "sends", "(IIII)V"⟩, 27) := ⟨⟨by decide +kernel, by decide +kernel⟩, List.mem_of_getElem? (i := 977) (by decide +kernel), List.mem_of_getElem? (i := 1134) (by decide +kernel), List.mem_of_getElem? (i := 1135) (by decide +kernel)⟩
theorem lw_p102 : lw_okq (⟨"TruckWingModel", "isPlace", "(I)Z"⟩, 27) := ⟨⟨by decide +kernel, by decide +kernel⟩, List.mem_of_getElem? (i := 977) (by decide +kernel), List.mem_of_getElem? (i := 1154) (by decide +kernel), List.mem_of_getElem? (i := 1155) (by decide +kernel)⟩
theorem lw_p103 : lw_okq (⟨"TruckWingModel", "placeOf", "(II)I"⟩, 27) := ⟨⟨by decide +kernel, by decide +kernel⟩, List.mem_of_getElem? (i := 977) (by decide +kernel), List.mem_of_getElem? (i := 1158) (by decide +kernel), List.mem_of_getElem? (i := 1159) (by decide +kernel)⟩
theorem lw_p104 : lw_okq (⟨"TruckWingModel", "flight", "(II)I"⟩, 27) := ⟨⟨by decide +kernel, by decide +kernel⟩, List.mem_of_getElem? (i := 977) (by decide +kernel), List.mem_of_getElem? (i := 1166) (by decide +kernel), List.mem_of_getElem? (i := 1167) (by decide +kernel)⟩
theorem lw_p105 : lw_okq (⟨"TruckWingModel", "drive", "(II)I"⟩, 27) := ⟨⟨by decide +kernel, by decide +kernel⟩, List.mem_of_getElem? (i := 977) (by decide +kernel), List.mem_of_getElem? (i := 1173) (by decide +kernel), List.mem_of_getElem? (i := 1174) (by decide +kernel)⟩
theorem lw_p106 : lw_okq (⟨"TruckWingModel", "sortieOf", "(II)I"⟩, 27) := ⟨⟨by decide +kernel, by decide +kernel⟩, List.mem_of_getElem? (i := 977) (by decide +kernel), List.mem_of_getElem? (i := 1181) (by decide +kernel), List.mem_of_getElem? (i := 1182) (by decide +kernel)⟩
theorem lw_p107 : lw_okq (⟨"TruckWingModel", "put", "(I)V"⟩, 27) := ⟨⟨by decide +kernel, by decide +kernel⟩, List.mem_of_getElem? (i := 977) (by decide +kernel), List.mem_of_getElem? (i := 1189) (by decide +kernel), List.mem_of_getElem? (i := 1190) (by decide +kernel)⟩
theorem lw_p108 : lw_okq (⟨"TruckWingModel", "here", "()I"⟩, 27) := ⟨⟨by decide +kernel, by decide +kernel⟩, List.mem_of_getElem? (i := 977) (by decide +kernel), List.mem_of_getElem? (i := 1201) (by decide +kernel), List.mem_of_getElem? (i := 1202) (by decide +kernel)⟩
theorem lw_p109 : lw_okq (⟨"TruckWingModel", "statement", "()V"⟩, 27) := ⟨⟨by decide +kernel, by decide +kernel⟩, List.mem_of_getElem? (i := 977) (by decide +kernel), List.mem_of_getElem? (i := 1205) (by decide +kernel), List.mem_of_getElem? (i := 1206) (by decide +kernel)⟩
theorem lw_p110 : lw_okq (⟨"TruckWingModel", "word", "()I"⟩, 27) := ⟨⟨by decide +kernel, by decide +kernel⟩, List.mem_of_getElem? (i := 977) (by decide +kernel), List.mem_of_getElem? (i := 1209) (by decide +kernel), List.mem_of_getElem? (i := 1210) (by decide +kernel)⟩
theorem lw_p111 : lw_okq (⟨"TruckWingModel", "numberOf", "(I)I"⟩, 27) := ⟨⟨by decide +kernel, by decide +kernel⟩, List.mem_of_getElem? (i := 977) (by decide +kernel), List.mem_of_getElem? (i := 1216) (by decide +kernel), List.mem_of_getElem? (i := 1217) (by decide +kernel)⟩
def lw_privs_7 : List (MethodName × Nat) := [(⟨"TruckWingModel", "isCustomer", "(I)Z"⟩, 27), (⟨"TruckWingModel", "stops", "()I"⟩, 27), (⟨"TruckWingModel", "stopsAt", "(I)V"⟩, 27), (⟨"TruckWingModel", "maySend", "(IIII)Z"⟩, 27), (⟨"TruckWingModel", "sorties", "()I"⟩, 27), (⟨"TruckWingModel", "sends", "(IIII)V"⟩, 27), (⟨"TruckWingModel", "isPlace", "(I)Z"⟩, 27), (⟨"TruckWingModel", "placeOf", "(II)I"⟩, 27), (⟨"TruckWingModel", "flight", "(II)I"⟩, 27), (⟨"TruckWingModel", "drive", "(II)I"⟩, 27), (⟨"TruckWingModel", "sortieOf", "(II)I"⟩, 27), (⟨"TruckWingModel", "put", "(I)V"⟩, 27), (⟨"TruckWingModel", "here", "()I"⟩, 27), (⟨"TruckWingModel", "statement", "()V"⟩, 27), (⟨"TruckWingModel", "word", "()I"⟩, 27), (⟨"TruckWingModel", "numberOf", "(I)I"⟩, 27)]
theorem lw_r7 : ∀ q ∈ lw_privs_7, lw_okq q := List.forall_mem_cons.mpr ⟨lw_p96, List.forall_mem_cons.mpr ⟨lw_p97, List.forall_mem_cons.mpr ⟨lw_p98, List.forall_mem_cons.mpr ⟨lw_p99, List.forall_mem_cons.mpr ⟨lw_p100, List.forall_mem_cons.mpr ⟨lw_p101, List.forall_mem_cons.mpr ⟨lw_p102, List.forall_mem_cons.mpr ⟨lw_p103, List.forall_mem_cons.mpr ⟨lw_p104, List.forall_mem_cons.mpr ⟨lw_p105, List.forall_mem_cons.mpr ⟨lw_p106, List.forall_mem_cons.mpr ⟨lw_p107, List.forall_mem_cons.mpr ⟨lw_p108, List.forall_mem_cons.mpr ⟨lw_p109, List.forall_mem_cons.mpr ⟨lw_p110, List.forall_mem_cons.mpr ⟨lw_p111, fun _ h => absurd h List.not_mem_nil⟩⟩⟩⟩⟩⟩⟩⟩⟩⟩⟩⟩⟩⟩⟩⟩
theorem lw_p112 : lw_okq (⟨"TruckWingModel", "number", "()I"⟩, 27) := ⟨⟨by decide +kernel, by decide +kernel⟩, List.mem_of_getElem? (i := 977) (by decide +kernel), List.mem_of_getElem? (i := 1220) (by decide +kernel), List.mem_of_getElem? (i := 1221) (by decide +kernel)⟩
theorem lw_p113 : lw_okq (⟨"TruckWingModel", "isDigitAt", "(I)Z"⟩, 27) := ⟨⟨by decide +kernel, by decide +kernel⟩, List.mem_of_getElem? (i := 977) (by decide +kernel), List.mem_of_getElem? (i := 1224) (by decide +kernel), List.mem_of_getElem? (i := 1225) (by decide +kernel)⟩
theorem lw_p114 : lw_okq (⟨"TruckWingModel", "fails", "(II)V"⟩, 27) := ⟨⟨by decide +kernel, by decide +kernel⟩, List.mem_of_getElem? (i := 977) (by decide +kernel), List.mem_of_getElem? (i := 1228) (by decide +kernel), List.mem_of_getElem? (i := 1229) (by decide +kernel)⟩
theorem lw_p115 : lw_okq (⟨"TruckWingModel", "numberIn", "(II)I"⟩, 27) := ⟨⟨by decide +kernel, by decide +kernel⟩, List.mem_of_getElem? (i := 977) (by decide +kernel), List.mem_of_getElem? (i := 1232) (by decide +kernel), List.mem_of_getElem? (i := 1233) (by decide +kernel)⟩
theorem lw_p116 : lw_okq (⟨"TruckWingModel", "rowGoesOn", "()V"⟩, 27) := ⟨⟨by decide +kernel, by decide +kernel⟩, List.mem_of_getElem? (i := 977) (by decide +kernel), List.mem_of_getElem? (i := 1236) (by decide +kernel), List.mem_of_getElem? (i := 1237) (by decide +kernel)⟩
theorem lw_p117 : lw_okq (⟨"TruckWingModel", "wrongPlan", "()I"⟩, 27) := ⟨⟨by decide +kernel, by decide +kernel⟩, List.mem_of_getElem? (i := 977) (by decide +kernel), List.mem_of_getElem? (i := 1248) (by decide +kernel), List.mem_of_getElem? (i := 1249) (by decide +kernel)⟩
theorem lw_p118 : lw_okq (⟨"TruckWingModel", "servedBy", "(I)I"⟩, 27) := ⟨⟨by decide +kernel, by decide +kernel⟩, List.mem_of_getElem? (i := 977) (by decide +kernel), List.mem_of_getElem? (i := 1252) (by decide +kernel), List.mem_of_getElem? (i := 1253) (by decide +kernel)⟩
theorem lw_p119 : lw_okq (⟨"TruckWingModel", "stopAt", "(I)I"⟩, 27) := ⟨⟨by decide +kernel, by decide +kernel⟩, List.mem_of_getElem? (i := 977) (by decide +kernel), List.mem_of_getElem? (i := 1256) (by decide +kernel), List.mem_of_getElem? (i := 1257) (by decide +kernel)⟩
theorem lw_p120 : lw_okq (⟨"TruckWingModel", "isLight", "(I)Z"⟩, 27) := ⟨⟨by decide +kernel, by decide +kernel⟩, List.mem_of_getElem? (i := 977) (by decide +kernel), List.mem_of_getElem? (i := 1260) (by decide +kernel), List.mem_of_getElem? (i := 1261) (by decide +kernel)⟩
theorem lw_p121 : lw_okq (⟨"TruckWingModel", "crosses", "(I)Z"⟩, 27) := ⟨⟨by decide +kernel, by decide +kernel⟩, List.mem_of_getElem? (i := 977) (by decide +kernel), List.mem_of_getElem? (i := 1264) (by decide +kernel), List.mem_of_getElem? (i := 1265) (by decide +kernel)⟩
theorem lw_p122 : lw_okq (⟨"TruckWingModel", "goes", "()Z"⟩, 27) := ⟨⟨by decide +kernel, by decide +kernel⟩, List.mem_of_getElem? (i := 977) (by decide +kernel), List.mem_of_getElem? (i := 1268) (by decide +kernel), List.mem_of_getElem? (i := 1269) (by decide +kernel)⟩
theorem lw_p123 : lw_okq (⟨"TruckWingModel", "happens", "(IIII)V"⟩, 27) := ⟨⟨by decide +kernel, by decide +kernel⟩, List.mem_of_getElem? (i := 977) (by decide +kernel), List.mem_of_getElem? (i := 1272) (by decide +kernel), List.mem_of_getElem? (i := 1273) (by decide +kernel)⟩
theorem lw_p124 : lw_okq (⟨"TruckWingModel", "service", "(I)I"⟩, 27) := ⟨⟨by decide +kernel, by decide +kernel⟩, List.mem_of_getElem? (i := 977) (by decide +kernel), List.mem_of_getElem? (i := 1276) (by decide +kernel), List.mem_of_getElem? (i := 1277) (by decide +kernel)⟩
theorem lw_p125 : lw_okq (⟨"TruckWingModel", "nextCaught", "(I)I"⟩, 27) := ⟨⟨by decide +kernel, by decide +kernel⟩, List.mem_of_getElem? (i := 977) (by decide +kernel), List.mem_of_getElem? (i := 1280) (by decide +kernel), List.mem_of_getElem? (i := 1281) (by decide +kernel)⟩
theorem lw_p126 : lw_okq (⟨"TruckWingModel", "launches", "(II)I"⟩, 27) := ⟨⟨by decide +kernel, by decide +kernel⟩, List.mem_of_getElem? (i := 977) (by decide +kernel), List.mem_of_getElem? (i := 1284) (by decide +kernel), List.mem_of_getElem? (i := 1285) (by decide +kernel)⟩
theorem lw_p127 : lw_okq (⟨"TruckWingModel", "sorts", "()V"⟩, 27) := ⟨⟨by decide +kernel, by decide +kernel⟩, List.mem_of_getElem? (i := 977) (by decide +kernel), List.mem_of_getElem? (i := 1288) (by decide +kernel), List.mem_of_getElem? (i := 1289) (by decide +kernel)⟩
def lw_privs_8 : List (MethodName × Nat) := [(⟨"TruckWingModel", "number", "()I"⟩, 27), (⟨"TruckWingModel", "isDigitAt", "(I)Z"⟩, 27), (⟨"TruckWingModel", "fails", "(II)V"⟩, 27), (⟨"TruckWingModel", "numberIn", "(II)I"⟩, 27), (⟨"TruckWingModel", "rowGoesOn", "()V"⟩, 27), (⟨"TruckWingModel", "wrongPlan", "()I"⟩, 27), (⟨"TruckWingModel", "servedBy", "(I)I"⟩, 27), (⟨"TruckWingModel", "stopAt", "(I)I"⟩, 27), (⟨"TruckWingModel", "isLight", "(I)Z"⟩, 27), (⟨"TruckWingModel", "crosses", "(I)Z"⟩, 27), (⟨"TruckWingModel", "goes", "()Z"⟩, 27), (⟨"TruckWingModel", "happens", "(IIII)V"⟩, 27), (⟨"TruckWingModel", "service", "(I)I"⟩, 27), (⟨"TruckWingModel", "nextCaught", "(I)I"⟩, 27), (⟨"TruckWingModel", "launches", "(II)I"⟩, 27), (⟨"TruckWingModel", "sorts", "()V"⟩, 27)]
theorem lw_r8 : ∀ q ∈ lw_privs_8, lw_okq q := List.forall_mem_cons.mpr ⟨lw_p112, List.forall_mem_cons.mpr ⟨lw_p113, List.forall_mem_cons.mpr ⟨lw_p114, List.forall_mem_cons.mpr ⟨lw_p115, List.forall_mem_cons.mpr ⟨lw_p116, List.forall_mem_cons.mpr ⟨lw_p117, List.forall_mem_cons.mpr ⟨lw_p118, List.forall_mem_cons.mpr ⟨lw_p119, List.forall_mem_cons.mpr ⟨lw_p120, List.forall_mem_cons.mpr ⟨lw_p121, List.forall_mem_cons.mpr ⟨lw_p122, List.forall_mem_cons.mpr ⟨lw_p123, List.forall_mem_cons.mpr ⟨lw_p124, List.forall_mem_cons.mpr ⟨lw_p125, List.forall_mem_cons.mpr ⟨lw_p126, List.forall_mem_cons.mpr ⟨lw_p127, fun _ h => absurd h List.not_mem_nil⟩⟩⟩⟩⟩⟩⟩⟩⟩⟩⟩⟩⟩⟩⟩⟩
theorem lw_p128 : lw_okq (⟨"TruckWingModel", "isAhead", "(II)Z"⟩, 27) := ⟨⟨by decide +kernel, by decide +kernel⟩, List.mem_of_getElem? (i := 977) (by decide +kernel), List.mem_of_getElem? (i := 1292) (by decide +kernel), List.mem_of_getElem? (i := 1293) (by decide +kernel)⟩
theorem lw_p129 : lw_okq (⟨"TruckWingModel", "airOf", "(I)I"⟩, 27) := ⟨⟨by decide +kernel, by decide +kernel⟩, List.mem_of_getElem? (i := 977) (by decide +kernel), List.mem_of_getElem? (i := 1296) (by decide +kernel), List.mem_of_getElem? (i := 1297) (by decide +kernel)⟩
theorem lw_p130 : lw_okq (⟨"TruckWingModel", "lays", "(I)Z"⟩, 27) := ⟨⟨by decide +kernel, by decide +kernel⟩, List.mem_of_getElem? (i := 977) (by decide +kernel), List.mem_of_getElem? (i := 1324) (by decide +kernel), List.mem_of_getElem? (i := 1325) (by decide +kernel)⟩
theorem lw_p131 : lw_okq (⟨"TruckWingModel", "splits", "(I)I"⟩, 27) := ⟨⟨by decide +kernel, by decide +kernel⟩, List.mem_of_getElem? (i := 977) (by decide +kernel), List.mem_of_getElem? (i := 1328) (by decide +kernel), List.mem_of_getElem? (i := 1329) (by decide +kernel)⟩
theorem lw_p132 : lw_okq (⟨"TruckWingModel", "isLightSet", "(II)Z"⟩, 27) := ⟨⟨by decide +kernel, by decide +kernel⟩, List.mem_of_getElem? (i := 977) (by decide +kernel), List.mem_of_getElem? (i := 1335) (by decide +kernel), List.mem_of_getElem? (i := 1336) (by decide +kernel)⟩
theorem lw_p133 : lw_okq (⟨"TruckWingModel", "lasts", "(III)I"⟩, 27) := ⟨⟨by decide +kernel, by decide +kernel⟩, List.mem_of_getElem? (i := 977) (by decide +kernel), List.mem_of_getElem? (i := 1339) (by decide +kernel), List.mem_of_getElem? (i := 1340) (by decide +kernel)⟩
theorem lw_p134 : lw_okq (⟨"TruckWingModel", "seeks", "(I)V"⟩, 27) := ⟨⟨by decide +kernel, by decide +kernel⟩, List.mem_of_getElem? (i := 977) (by decide +kernel), List.mem_of_getElem? (i := 1351) (by decide +kernel), List.mem_of_getElem? (i := 1352) (by decide +kernel)⟩
theorem lw_p135 : lw_okq (⟨"TruckWingModel", "told", "()I"⟩, 27) := ⟨⟨by decide +kernel, by decide +kernel⟩, List.mem_of_getElem? (i := 977) (by decide +kernel), List.mem_of_getElem? (i := 1355) (by decide +kernel), List.mem_of_getElem? (i := 1356) (by decide +kernel)⟩
theorem lw_p136 : lw_okq (⟨"TruckWingModel", "goesOn", "()Z"⟩, 27) := ⟨⟨by decide +kernel, by decide +kernel⟩, List.mem_of_getElem? (i := 977) (by decide +kernel), List.mem_of_getElem? (i := 1359) (by decide +kernel), List.mem_of_getElem? (i := 1360) (by decide +kernel)⟩
theorem lw_p137 : lw_okq (⟨"TruckWingModel", "swaps", "(II)V"⟩, 27) := ⟨⟨by decide +kernel, by decide +kernel⟩, List.mem_of_getElem? (i := 977) (by decide +kernel), List.mem_of_getElem? (i := 1363) (by decide +kernel), List.mem_of_getElem? (i := 1364) (by decide +kernel)⟩
theorem lw_p138 : lw_okq (⟨"TruckWingModel", "splitBy", "(I)I"⟩, 27) := ⟨⟨by decide +kernel, by decide +kernel⟩, List.mem_of_getElem? (i := 977) (by decide +kernel), List.mem_of_getElem? (i := 1379) (by decide +kernel), List.mem_of_getElem? (i := 1380) (by decide +kernel)⟩
def lw_privs_9 : List (MethodName × Nat) := [(⟨"TruckWingModel", "isAhead", "(II)Z"⟩, 27), (⟨"TruckWingModel", "airOf", "(I)I"⟩, 27), (⟨"TruckWingModel", "lays", "(I)Z"⟩, 27), (⟨"TruckWingModel", "splits", "(I)I"⟩, 27), (⟨"TruckWingModel", "isLightSet", "(II)Z"⟩, 27), (⟨"TruckWingModel", "lasts", "(III)I"⟩, 27), (⟨"TruckWingModel", "seeks", "(I)V"⟩, 27), (⟨"TruckWingModel", "told", "()I"⟩, 27), (⟨"TruckWingModel", "goesOn", "()Z"⟩, 27), (⟨"TruckWingModel", "swaps", "(II)V"⟩, 27), (⟨"TruckWingModel", "splitBy", "(I)I"⟩, 27)]
theorem lw_r9 : ∀ q ∈ lw_privs_9, lw_okq q := List.forall_mem_cons.mpr ⟨lw_p128, List.forall_mem_cons.mpr ⟨lw_p129, List.forall_mem_cons.mpr ⟨lw_p130, List.forall_mem_cons.mpr ⟨lw_p131, List.forall_mem_cons.mpr ⟨lw_p132, List.forall_mem_cons.mpr ⟨lw_p133, List.forall_mem_cons.mpr ⟨lw_p134, List.forall_mem_cons.mpr ⟨lw_p135, List.forall_mem_cons.mpr ⟨lw_p136, List.forall_mem_cons.mpr ⟨lw_p137, List.forall_mem_cons.mpr ⟨lw_p138, fun _ h => absurd h List.not_mem_nil⟩⟩⟩⟩⟩⟩⟩⟩⟩⟩⟩
def lw_privs : List (MethodName × Nat) := lw_privs_1 ++ (lw_privs_2 ++ (lw_privs_3 ++ (lw_privs_4 ++ (lw_privs_5 ++ (lw_privs_6 ++ (lw_privs_7 ++ (lw_privs_8 ++ (lw_privs_9))))))))
def lw_tbl : List Cond := k2_sels lw_privs ++ tables_1
theorem lw_privs_ok : ∀ q ∈ lw_privs, lw_okq q := by
  show ∀ q ∈ lw_privs_1 ++ (lw_privs_2 ++ (lw_privs_3 ++ (lw_privs_4 ++ (lw_privs_5 ++ (lw_privs_6 ++ (lw_privs_7 ++ (lw_privs_8 ++ (lw_privs_9)))))))), lw_okq q
  exact List.forall_mem_append.mpr ⟨lw_r1, List.forall_mem_append.mpr ⟨lw_r2, List.forall_mem_append.mpr ⟨lw_r3, List.forall_mem_append.mpr ⟨lw_r4, List.forall_mem_append.mpr ⟨lw_r5, List.forall_mem_append.mpr ⟨lw_r6, List.forall_mem_append.mpr ⟨lw_r7, List.forall_mem_append.mpr ⟨lw_r8, lw_r9⟩⟩⟩⟩⟩⟩⟩⟩
-- ===== end of PART A; then your names; then what follows =====
end
section
def RX0 : String := "TruckWing$Course"
def TX0 : u_T := fun k => match k with
  | 0 => ("TruckWing$Course", "land", "LTruckWing$Land;", true)
  | 1 => ("TruckWing$Course", "plan", "LTruckWing$Plan;", true)
  | 2 => ("TruckWing$Course", "diary", "LTruckWing$Diary;", true)
  | 3 => ("TruckWing$Course", "verdict", "I", false)
  | 4 => ("TruckWing$Course", "comes", "[I", true)
  | 5 => ("TruckWing$Course", "ready", "[I", true)
  | 6 => ("TruckWing$Course", "leaves", "[I", true)
  | 7 => ("TruckWing$Course", "waits", "[I", true)
  | 8 => ("TruckWing$Course", "left", "[I", true)
  | 9 => ("TruckWing$Course", "back", "[I", true)
  | _ => ("TruckWing$Course", "caught", "[I", true)
def tyX0 : Nat → FieldType := fun k => match k with
  | 0 => .object "TruckWing$Land"
  | 1 => .object "TruckWing$Plan"
  | 2 => .object "TruckWing$Diary"
  | 3 => .int
  | 4 => .array .int
  | 5 => .array .int
  | 6 => .array .int
  | 7 => .array .int
  | 8 => .array .int
  | 9 => .array .int
  | _ => .array .int
abbrev wsX00 : List Cond := u_ws RX0 TX0 11
theorem nmX0 : ∀ a, a < 11 → ∀ b, b < 11 → a ≠ b → (TX0 a).2.1 ≠ (TX0 b).2.1 := by decide +kernel
theorem tyX0_ok : ∀ k, k < 11 → parseFieldDescriptor (TX0 k).2.2.1 = some (tyX0 k) := by decide +kernel
abbrev cX0_init : ByteArray := prog_2_method_1_code
def yX0_init : MethodName := ⟨RX0, "<init>", "(LTruckWing$Land;LTruckWing$Plan;)V"⟩
abbrev cX0_look : ByteArray := prog_2_method_2_code
def yX0_look : MethodName := ⟨RX0, "look", "()Z"⟩
abbrev cX0_told : ByteArray := prog_2_method_3_code
def yX0_told : MethodName := ⟨RX0, "told", "(II)I"⟩
abbrev cX0_wrongWithoutTimes : ByteArray := prog_2_method_4_code
def yX0_wrongWithoutTimes : MethodName := ⟨RX0, "wrongWithoutTimes", "()I"⟩
abbrev cX0_impossibleSortie : ByteArray := prog_2_method_5_code
def yX0_impossibleSortie : MethodName := ⟨RX0, "impossibleSortie", "()I"⟩
abbrev cX0_timesServed : ByteArray := prog_2_method_6_code
def yX0_timesServed : MethodName := ⟨RX0, "timesServed", "(I)I"⟩
abbrev cX0_servedTooOften : ByteArray := prog_2_method_7_code
def yX0_servedTooOften : MethodName := ⟨RX0, "servedTooOften", "()I"⟩
abbrev cX0_servedByNobody : ByteArray := prog_2_method_8_code
def yX0_servedByNobody : MethodName := ⟨RX0, "servedByNobody", "()I"⟩
abbrev cX0_tooHeavy : ByteArray := prog_2_method_9_code
def yX0_tooHeavy : MethodName := ⟨RX0, "tooHeavy", "()I"⟩
abbrev cX0_overlapping : ByteArray := prog_2_method_10_code
def yX0_overlapping : MethodName := ⟨RX0, "overlapping", "()I"⟩
abbrev cX0_tooLongInAir : ByteArray := prog_2_method_11_code
def yX0_tooLongInAir : MethodName := ⟨RX0, "tooLongInAir", "()I"⟩
abbrev cX0_air : ByteArray := prog_2_method_12_code
def yX0_air : MethodName := ⟨RX0, "air", "(I)I"⟩
abbrev cX0_drivePlan : ByteArray := prog_2_method_13_code
def yX0_drivePlan : MethodName := ⟨RX0, "drivePlan", "()V"⟩
abbrev cX0_catchAll : ByteArray := prog_2_method_14_code
def yX0_catchAll : MethodName := ⟨RX0, "catchAll", "(II)I"⟩
abbrev cX0_nextToCatch : ByteArray := prog_2_method_15_code
def yX0_nextToCatch : MethodName := ⟨RX0, "nextToCatch", "(I)I"⟩
abbrev cX0_isAhead : ByteArray := prog_2_method_16_code
def yX0_isAhead : MethodName := ⟨RX0, "isAhead", "(II)Z"⟩
abbrev cX0_launchAll : ByteArray := prog_2_method_17_code
def yX0_launchAll : MethodName := ⟨RX0, "launchAll", "(II)I"⟩
abbrev cX0_launch : ByteArray := prog_2_method_18_code
def yX0_launch : MethodName := ⟨RX0, "launch", "(II)V"⟩
abbrev cX0_lastReady : ByteArray := prog_2_method_19_code
def yX0_lastReady : MethodName := ⟨RX0, "lastReady", "()I"⟩
abbrev cX0_ofStop : ByteArray := prog_2_method_20_code
def yX0_ofStop : MethodName := ⟨RX0, "ofStop", "(II)I"⟩
abbrev cX0_ofSortie : ByteArray := prog_2_method_21_code
def yX0_ofSortie : MethodName := ⟨RX0, "ofSortie", "(II)I"⟩
abbrev cX0_total : ByteArray := prog_2_method_22_code
def yX0_total : MethodName := ⟨RX0, "total", "(I)I"⟩
abbrev cX0_drivenTo : ByteArray := prog_2_method_23_code
def yX0_drivenTo : MethodName := ⟨RX0, "drivenTo", "(I)I"⟩
abbrev cX0_flownBy : ByteArray := prog_2_method_24_code
def yX0_flownBy : MethodName := ⟨RX0, "flownBy", "(I)I"⟩
def RX1 : String := "TruckWing$Diary"
def TX1 : u_T := fun k => match k with
  | 0 => ("TruckWing$Diary", "size", "I", false)
  | _ => ("TruckWing$Diary", "keys", "[I", true)
def tyX1 : Nat → FieldType := fun k => match k with
  | 0 => .int
  | _ => .array .int
abbrev wsX10 : List Cond := u_ws RX1 TX1 2
theorem nmX1 : ∀ a, a < 2 → ∀ b, b < 2 → a ≠ b → (TX1 a).2.1 ≠ (TX1 b).2.1 := by decide +kernel
theorem tyX1_ok : ∀ k, k < 2 → parseFieldDescriptor (TX1 k).2.2.1 = some (tyX1 k) := by decide +kernel
abbrev cX1_init : ByteArray := prog_3_method_1_code
def yX1_init : MethodName := ⟨RX1, "<init>", "()V"⟩
abbrev cX1_empty : ByteArray := prog_3_method_2_code
def yX1_empty : MethodName := ⟨RX1, "empty", "()V"⟩
abbrev cX1_note : ByteArray := prog_3_method_3_code
def yX1_note : MethodName := ⟨RX1, "note", "(IIII)V"⟩
abbrev cX1_part : ByteArray := prog_3_method_4_code
def yX1_part : MethodName := ⟨RX1, "part", "(II)I"⟩
def RX2 : String := "TruckWing$Found"
def TX2 : u_T := fun k => match k with
  | 0 => ("TruckWing$Found", "known", "Z", false)
  | 1 => ("TruckWing$Found", "end", "I", false)
  | _ => ("TruckWing$Found", "order", "I", false)
def tyX2 : Nat → FieldType := fun k => match k with
  | 0 => .boolean
  | 1 => .int
  | _ => .int
abbrev wsX20 : List Cond := u_ws RX2 TX2 3
theorem nmX2 : ∀ a, a < 3 → ∀ b, b < 3 → a ≠ b → (TX2 a).2.1 ≠ (TX2 b).2.1 := by decide +kernel
theorem tyX2_ok : ∀ k, k < 3 → parseFieldDescriptor (TX2 k).2.2.1 = some (tyX2 k) := by decide +kernel
abbrev cX2_init : ByteArray := prog_4_method_1_code
def yX2_init : MethodName := ⟨RX2, "<init>", "()V"⟩
abbrev cX2_keep : ByteArray := prog_4_method_2_code
def yX2_keep : MethodName := ⟨RX2, "keep", "(II)V"⟩
def RX3 : String := "TruckWing$Land"
def TX3 : u_T := fun k => match k with
  | 0 => ("TruckWing$Land", "customers", "I", false)
  | 1 => ("TruckWing$Land", "facts", "[I", true)
  | _ => ("TruckWing$Land", "settings", "[I", true)
def tyX3 : Nat → FieldType := fun k => match k with
  | 0 => .int
  | 1 => .array .int
  | _ => .array .int
abbrev wsX30 : List Cond := u_ws RX3 TX3 3
theorem nmX3 : ∀ a, a < 3 → ∀ b, b < 3 → a ≠ b → (TX3 a).2.1 ≠ (TX3 b).2.1 := by decide +kernel
theorem tyX3_ok : ∀ k, k < 3 → parseFieldDescriptor (TX3 k).2.2.1 = some (tyX3 k) := by decide +kernel
abbrev cX3_init : ByteArray := prog_5_method_1_code
def yX3_init : MethodName := ⟨RX3, "<init>", "()V"⟩
abbrev cX3_mayBeFact : ByteArray := prog_5_method_2_code
def yX3_mayBeFact : MethodName := ⟨RX3, "mayBeFact", "(II)Z"⟩
abbrev cX3_mayBeSetting : ByteArray := prog_5_method_3_code
def yX3_mayBeSetting : MethodName := ⟨RX3, "mayBeSetting", "(II)Z"⟩
abbrev cX3_copyOf : ByteArray := prog_5_method_4_code
def yX3_copyOf : MethodName := ⟨RX3, "copyOf", "(LTruckWing$Land;)V"⟩
abbrev cX3_isPlace : ByteArray := prog_5_method_5_code
def yX3_isPlace : MethodName := ⟨RX3, "isPlace", "(I)Z"⟩
abbrev cX3_isCustomer : ByteArray := prog_5_method_6_code
def yX3_isCustomer : MethodName := ⟨RX3, "isCustomer", "(I)Z"⟩
abbrev cX3_fact : ByteArray := prog_5_method_7_code
def yX3_fact : MethodName := ⟨RX3, "fact", "(II)I"⟩
abbrev cX3_setting : ByteArray := prog_5_method_8_code
def yX3_setting : MethodName := ⟨RX3, "setting", "(I)I"⟩
abbrev cX3_putFact : ByteArray := prog_5_method_9_code
def yX3_putFact : MethodName := ⟨RX3, "putFact", "(III)V"⟩
abbrev cX3_putSetting : ByteArray := prog_5_method_10_code
def yX3_putSetting : MethodName := ⟨RX3, "putSetting", "(II)V"⟩
abbrev cX3_addCustomer : ByteArray := prog_5_method_11_code
def yX3_addCustomer : MethodName := ⟨RX3, "addCustomer", "()V"⟩
abbrev cX3_isLight : ByteArray := prog_5_method_12_code
def yX3_isLight : MethodName := ⟨RX3, "isLight", "(I)Z"⟩
abbrev cX3_drive : ByteArray := prog_5_method_13_code
def yX3_drive : MethodName := ⟨RX3, "drive", "(II)I"⟩
abbrev cX3_flight : ByteArray := prog_5_method_14_code
def yX3_flight : MethodName := ⟨RX3, "flight", "(IIII)I"⟩
def RX4 : String := "TruckWing$Plan"
def TX4 : u_T := fun k => match k with
  | 0 => ("TruckWing$Plan", "rowSize", "I", false)
  | 1 => ("TruckWing$Plan", "sorties", "I", false)
  | 2 => ("TruckWing$Plan", "row", "[I", true)
  | _ => ("TruckWing$Plan", "parts", "[I", true)
def tyX4 : Nat → FieldType := fun k => match k with
  | 0 => .int
  | 1 => .int
  | 2 => .array .int
  | _ => .array .int
abbrev wsX40 : List Cond := u_ws RX4 TX4 4
theorem nmX4 : ∀ a, a < 4 → ∀ b, b < 4 → a ≠ b → (TX4 a).2.1 ≠ (TX4 b).2.1 := by decide +kernel
theorem tyX4_ok : ∀ k, k < 4 → parseFieldDescriptor (TX4 k).2.2.1 = some (tyX4 k) := by decide +kernel
abbrev cX4_init : ByteArray := prog_6_method_1_code
def yX4_init : MethodName := ⟨RX4, "<init>", "()V"⟩
abbrev cX4_mayBeFlyer : ByteArray := prog_6_method_2_code
def yX4_mayBeFlyer : MethodName := ⟨RX4, "mayBeFlyer", "(I)Z"⟩
abbrev cX4_mayBeIndex : ByteArray := prog_6_method_3_code
def yX4_mayBeIndex : MethodName := ⟨RX4, "mayBeIndex", "(I)Z"⟩
abbrev cX4_copyOf : ByteArray := prog_6_method_4_code
def yX4_copyOf : MethodName := ⟨RX4, "copyOf", "(LTruckWing$Plan;)V"⟩
abbrev cX4_empty : ByteArray := prog_6_method_5_code
def yX4_empty : MethodName := ⟨RX4, "empty", "()V"⟩
abbrev cX4_stops : ByteArray := prog_6_method_6_code
def yX4_stops : MethodName := ⟨RX4, "stops", "()I"⟩
abbrev cX4_placeAt : ByteArray := prog_6_method_7_code
def yX4_placeAt : MethodName := ⟨RX4, "placeAt", "(I)I"⟩
abbrev cX4_addStop : ByteArray := prog_6_method_8_code
def yX4_addStop : MethodName := ⟨RX4, "addStop", "(I)Z"⟩
abbrev cX4_addSortie : ByteArray := prog_6_method_9_code
def yX4_addSortie : MethodName := ⟨RX4, "addSortie", "(IIII)Z"⟩
abbrev cX4_hasSortie : ByteArray := prog_6_method_10_code
def yX4_hasSortie : MethodName := ⟨RX4, "hasSortie", "(I)Z"⟩
abbrev cX4_part : ByteArray := prog_6_method_11_code
def yX4_part : MethodName := ⟨RX4, "part", "(II)I"⟩
def RX5 : String := "TruckWing$Table"
def TX5 : u_T := fun k => match k with
  | 0 => ("TruckWing$Table", "land", "LTruckWing$Land;", true)
  | 1 => ("TruckWing$Table", "flyers", "I", false)
  | 2 => ("TruckWing$Table", "launch", "I", false)
  | 3 => ("TruckWing$Table", "catching", "I", false)
  | 4 => ("TruckWing$Table", "battery", "I", false)
  | 5 => ("TruckWing$Table", "hovers", "Z", false)
  | 6 => ("TruckWing$Table", "last", "I", false)
  | 7 => ("TruckWing$Table", "legs", "[I", true)
  | 8 => ("TruckWing$Table", "flights", "[I", true)
  | 9 => ("TruckWing$Table", "drops", "[I", true)
  | 10 => ("TruckWing$Table", "light", "[Z", true)
  | 11 => ("TruckWing$Table", "order", "[I", true)
  | 12 => ("TruckWing$Table", "served", "[I", true)
  | 13 => ("TruckWing$Table", "ready", "[I", true)
  | 14 => ("TruckWing$Table", "sorties", "[I", true)
  | 15 => ("TruckWing$Table", "begins", "[I", true)
  | 16 => ("TruckWing$Table", "sets", "[I", true)
  | _ => ("TruckWing$Table", "nexts", "[I", true)
def tyX5 : Nat → FieldType := fun k => match k with
  | 0 => .object "TruckWing$Land"
  | 1 => .int
  | 2 => .int
  | 3 => .int
  | 4 => .int
  | 5 => .boolean
  | 6 => .int
  | 7 => .array .int
  | 8 => .array .int
  | 9 => .array .int
  | 10 => .array .boolean
  | 11 => .array .int
  | 12 => .array .int
  | 13 => .array .int
  | 14 => .array .int
  | 15 => .array .int
  | 16 => .array .int
  | _ => .array .int
abbrev wsX50 : List Cond := u_ws RX5 TX5 18
theorem nmX5 : ∀ a, a < 18 → ∀ b, b < 18 → a ≠ b → (TX5 a).2.1 ≠ (TX5 b).2.1 := by decide +kernel
theorem tyX5_ok : ∀ k, k < 18 → parseFieldDescriptor (TX5 k).2.2.1 = some (tyX5 k) := by decide +kernel
abbrev cX5_init : ByteArray := prog_7_method_1_code
def yX5_init : MethodName := ⟨RX5, "<init>", "(LTruckWing$Land;)V"⟩
abbrev cX5_readOrder : ByteArray := prog_7_method_2_code
def yX5_readOrder : MethodName := ⟨RX5, "readOrder", "(I)Z"⟩
abbrev cX5_orderNumber : ByteArray := prog_7_method_3_code
def yX5_orderNumber : MethodName := ⟨RX5, "orderNumber", "()I"⟩
abbrev cX5_prepare : ByteArray := prog_7_method_4_code
def yX5_prepare : MethodName := ⟨RX5, "prepare", "(III)V"⟩
abbrev cX5_lastEnd : ByteArray := prog_7_method_5_code
def yX5_lastEnd : MethodName := ⟨RX5, "lastEnd", "()I"⟩
abbrev cX5_fill : ByteArray := prog_7_method_6_code
def yX5_fill : MethodName := ⟨RX5, "fill", "(I)V"⟩
abbrev cX5_beginWithVan : ByteArray := prog_7_method_7_code
def yX5_beginWithVan : MethodName := ⟨RX5, "beginWithVan", "(I)V"⟩
abbrev cX5_soonest : ByteArray := prog_7_method_8_code
def yX5_soonest : MethodName := ⟨RX5, "soonest", "(II)I"⟩
abbrev cX5_offerBlocks : ByteArray := prog_7_method_9_code
def yX5_offerBlocks : MethodName := ⟨RX5, "offerBlocks", "(II)V"⟩
abbrev cX5_offerOne : ByteArray := prog_7_method_10_code
def yX5_offerOne : MethodName := ⟨RX5, "offerOne", "(III)V"⟩
abbrev cX5_offerTwo : ByteArray := prog_7_method_11_code
def yX5_offerTwo : MethodName := ⟨RX5, "offerTwo", "(IIII)V"⟩
abbrev cX5_bit : ByteArray := prog_7_method_12_code
def yX5_bit : MethodName := ⟨RX5, "bit", "(II)I"⟩
abbrev cX5_offer : ByteArray := prog_7_method_13_code
def yX5_offer : MethodName := ⟨RX5, "offer", "(IIII)V"⟩
abbrev cX5_lasts : ByteArray := prog_7_method_14_code
def yX5_lasts : MethodName := ⟨RX5, "lasts", "(III)Z"⟩
abbrev cX5_spared : ByteArray := prog_7_method_15_code
def yX5_spared : MethodName := ⟨RX5, "spared", "(II)I"⟩
abbrev cX5_leg : ByteArray := prog_7_method_16_code
def yX5_leg : MethodName := ⟨RX5, "leg", "(II)I"⟩
abbrev cX5_trip : ByteArray := prog_7_method_17_code
def yX5_trip : MethodName := ⟨RX5, "trip", "(III)I"⟩
abbrev cX5_search : ByteArray := prog_7_method_18_code
def yX5_search : MethodName := ⟨RX5, "search", "(LTruckWing$Found;)V"⟩
abbrev cX5_nextOrder : ByteArray := prog_7_method_19_code
def yX5_nextOrder : MethodName := ⟨RX5, "nextOrder", "()I"⟩
abbrev cX5_swap : ByteArray := prog_7_method_20_code
def yX5_swap : MethodName := ⟨RX5, "swap", "(II)V"⟩
abbrev cX5_writePlan : ByteArray := prog_7_method_21_code
def yX5_writePlan : MethodName := ⟨RX5, "writePlan", "(LTruckWing$Plan;)V"⟩
abbrev cX5_linkBlocks : ByteArray := prog_7_method_22_code
def yX5_linkBlocks : MethodName := ⟨RX5, "linkBlocks", "()V"⟩
abbrev cX5_writeBlock : ByteArray := prog_7_method_23_code
def yX5_writeBlock : MethodName := ⟨RX5, "writeBlock", "(LTruckWing$Plan;II)V"⟩
abbrev cX5_isFlown : ByteArray := prog_7_method_24_code
def yX5_isFlown : MethodName := ⟨RX5, "isFlown", "(III)Z"⟩
def RX6 : String := "TruckWing$Tape"
def TX6 : u_T := fun k => match k with
  | 0 => ("TruckWing$Tape", "length", "I", false)
  | _ => ("TruckWing$Tape", "bytes", "[I", true)
def tyX6 : Nat → FieldType := fun k => match k with
  | 0 => .int
  | _ => .array .int
abbrev wsX60 : List Cond := u_ws RX6 TX6 2
theorem nmX6 : ∀ a, a < 2 → ∀ b, b < 2 → a ≠ b → (TX6 a).2.1 ≠ (TX6 b).2.1 := by decide +kernel
theorem tyX6_ok : ∀ k, k < 2 → parseFieldDescriptor (TX6 k).2.2.1 = some (tyX6 k) := by decide +kernel
abbrev cX6_init : ByteArray := prog_8_method_1_code
def yX6_init : MethodName := ⟨RX6, "<init>", "()V"⟩
abbrev cX6_append : ByteArray := prog_8_method_2_code
def yX6_append : MethodName := ⟨RX6, "append", "(I)V"⟩
abbrev cX6_byteAt : ByteArray := prog_8_method_3_code
def yX6_byteAt : MethodName := ⟨RX6, "byteAt", "(I)I"⟩
abbrev cX6_hasDigitAt : ByteArray := prog_8_method_4_code
def yX6_hasDigitAt : MethodName := ⟨RX6, "hasDigitAt", "(I)Z"⟩
abbrev cX6_hasLetterAt : ByteArray := prog_8_method_5_code
def yX6_hasLetterAt : MethodName := ⟨RX6, "hasLetterAt", "(I)Z"⟩
abbrev cX6_hasBlankAt : ByteArray := prog_8_method_6_code
def yX6_hasBlankAt : MethodName := ⟨RX6, "hasBlankAt", "(I)Z"⟩
def RX7 : String := "TruckWing$Teller"
def TX7 : u_T := fun k => match k with
  | 0 => ("TruckWing$Teller", "tape", "LTruckWing$Tape;", true)
  | 1 => ("TruckWing$Teller", "land", "LTruckWing$Land;", true)
  | 2 => ("TruckWing$Teller", "plan", "LTruckWing$Plan;", true)
  | 3 => ("TruckWing$Teller", "numbers", "[I", true)
  | 4 => ("TruckWing$Teller", "given", "I", false)
  | 5 => ("TruckWing$Teller", "fault", "I", false)
  | 6 => ("TruckWing$Teller", "token", "I", false)
  | 7 => ("TruckWing$Teller", "start", "I", false)
  | 8 => ("TruckWing$Teller", "behind", "I", false)
  | _ => ("TruckWing$Teller", "value", "I", false)
def tyX7 : Nat → FieldType := fun k => match k with
  | 0 => .object "TruckWing$Tape"
  | 1 => .object "TruckWing$Land"
  | 2 => .object "TruckWing$Plan"
  | 3 => .array .int
  | 4 => .int
  | 5 => .int
  | 6 => .int
  | 7 => .int
  | 8 => .int
  | _ => .int
abbrev wsX70 : List Cond := u_ws RX7 TX7 10
theorem nmX7 : ∀ a, a < 10 → ∀ b, b < 10 → a ≠ b → (TX7 a).2.1 ≠ (TX7 b).2.1 := by decide +kernel
theorem tyX7_ok : ∀ k, k < 10 → parseFieldDescriptor (TX7 k).2.2.1 = some (tyX7 k) := by decide +kernel
abbrev cX7_init : ByteArray := prog_9_method_1_code
def yX7_init : MethodName := ⟨RX7, "<init>", "(LTruckWing$Tape;)V"⟩
abbrev cX7_read : ByteArray := prog_9_method_2_code
def yX7_read : MethodName := ⟨RX7, "read", "(LTruckWing$Land;LTruckWing$Plan;)I"⟩
abbrev cX7_whatIsTold : ByteArray := prog_9_method_3_code
def yX7_whatIsTold : MethodName := ⟨RX7, "whatIsTold", "()I"⟩
abbrev cX7_readStatement : ByteArray := prog_9_method_4_code
def yX7_readStatement : MethodName := ⟨RX7, "readStatement", "(I)Z"⟩
abbrev cX7_least : ByteArray := prog_9_method_5_code
def yX7_least : MethodName := ⟨RX7, "least", "(I)I"⟩
abbrev cX7_most : ByteArray := prog_9_method_6_code
def yX7_most : MethodName := ⟨RX7, "most", "(I)I"⟩
abbrev cX7_apply : ByteArray := prog_9_method_7_code
def yX7_apply : MethodName := ⟨RX7, "apply", "(I)V"⟩
abbrev cX7_applyFacts : ByteArray := prog_9_method_8_code
def yX7_applyFacts : MethodName := ⟨RX7, "applyFacts", "(I)V"⟩
abbrev cX7_applyRow : ByteArray := prog_9_method_9_code
def yX7_applyRow : MethodName := ⟨RX7, "applyRow", "()V"⟩
abbrev cX7_refuse : ByteArray := prog_9_method_10_code
def yX7_refuse : MethodName := ⟨RX7, "refuse", "(I)Z"⟩
abbrev cX7_step : ByteArray := prog_9_method_11_code
def yX7_step : MethodName := ⟨RX7, "step", "()V"⟩
abbrev cX7_stepWord : ByteArray := prog_9_method_12_code
def yX7_stepWord : MethodName := ⟨RX7, "stepWord", "()V"⟩
abbrev cX7_stepInt : ByteArray := prog_9_method_13_code
def yX7_stepInt : MethodName := ⟨RX7, "stepInt", "(II)V"⟩
abbrev cX7_isWord : ByteArray := prog_9_method_14_code
def yX7_isWord : MethodName := ⟨RX7, "isWord", "(Ljava/lang/String;)Z"⟩
def RX8 : String := "TruckWing"
def TX8 : u_T := fun k => match k with
  | 0 => ("TruckWing", "land", "LTruckWing$Land;", true)
  | 1 => ("TruckWing", "plan", "LTruckWing$Plan;", true)
  | 2 => ("TruckWing", "course", "LTruckWing$Course;", true)
  | 3 => ("TruckWing", "table", "LTruckWing$Table;", true)
  | 4 => ("TruckWing", "tape", "LTruckWing$Tape;", true)
  | 5 => ("TruckWing", "teller", "LTruckWing$Teller;", true)
  | 6 => ("TruckWing", "bestFound", "LTruckWing$Found;", true)
  | _ => ("TruckWing", "aloneFound", "LTruckWing$Found;", true)
def tyX8 : Nat → FieldType := fun k => match k with
  | 0 => .object "TruckWing$Land"
  | 1 => .object "TruckWing$Plan"
  | 2 => .object "TruckWing$Course"
  | 3 => .object "TruckWing$Table"
  | 4 => .object "TruckWing$Tape"
  | 5 => .object "TruckWing$Teller"
  | 6 => .object "TruckWing$Found"
  | _ => .object "TruckWing$Found"
abbrev wsX80 : List Cond := u_ws RX8 TX8 8
theorem nmX8 : ∀ a, a < 8 → ∀ b, b < 8 → a ≠ b → (TX8 a).2.1 ≠ (TX8 b).2.1 := by decide +kernel
theorem tyX8_ok : ∀ k, k < 8 → parseFieldDescriptor (TX8 k).2.2.1 = some (tyX8 k) := by decide +kernel
abbrev cX8_init : ByteArray := prog_1_method_1_code
def yX8_init : MethodName := ⟨RX8, "<init>", "()V"⟩
abbrev cX8_feed : ByteArray := prog_1_method_2_code
def yX8_feed : MethodName := ⟨RX8, "feed", "(IIIII)I"⟩
abbrev cX8_end : ByteArray := prog_1_method_3_code
def yX8_end : MethodName := ⟨RX8, "end", "(I)Z"⟩
abbrev cX8_tell : ByteArray := prog_1_method_4_code
def yX8_tell : MethodName := ⟨RX8, "tell", "()I"⟩
abbrev cX8_fault : ByteArray := prog_1_method_5_code
def yX8_fault : MethodName := ⟨RX8, "fault", "()I"⟩
abbrev cX8_customer : ByteArray := prog_1_method_6_code
def yX8_customer : MethodName := ⟨RX8, "customer", "(IIIII)I"⟩
abbrev cX8_drop : ByteArray := prog_1_method_7_code
def yX8_drop : MethodName := ⟨RX8, "drop", "()I"⟩
abbrev cX8_set : ByteArray := prog_1_method_8_code
def yX8_set : MethodName := ⟨RX8, "set", "(II)Z"⟩
abbrev cX8_go : ByteArray := prog_1_method_9_code
def yX8_go : MethodName := ⟨RX8, "go", "(I)I"⟩
abbrev cX8_fly : ByteArray := prog_1_method_10_code
def yX8_fly : MethodName := ⟨RX8, "fly", "(IIII)I"⟩
abbrev cX8_undo : ByteArray := prog_1_method_11_code
def yX8_undo : MethodName := ⟨RX8, "undo", "(Z)I"⟩
abbrev cX8_clear : ByteArray := prog_1_method_12_code
def yX8_clear : MethodName := ⟨RX8, "clear", "()V"⟩
abbrev cX8_count : ByteArray := prog_1_method_13_code
def yX8_count : MethodName := ⟨RX8, "count", "(I)I"⟩
abbrev cX8_place : ByteArray := prog_1_method_14_code
def yX8_place : MethodName := ⟨RX8, "place", "(II)I"⟩
abbrev cX8_way : ByteArray := prog_1_method_15_code
def yX8_way : MethodName := ⟨RX8, "way", "(IIZ)I"⟩
abbrev cX8_sortie : ByteArray := prog_1_method_16_code
def yX8_sortie : MethodName := ⟨RX8, "sortie", "(II)I"⟩
abbrev cX8_wrong : ByteArray := prog_1_method_17_code
def yX8_wrong : MethodName := ⟨RX8, "wrong", "()I"⟩
abbrev cX8_ends : ByteArray := prog_1_method_18_code
def yX8_ends : MethodName := ⟨RX8, "ends", "()I"⟩
abbrev cX8_stop : ByteArray := prog_1_method_19_code
def yX8_stop : MethodName := ⟨RX8, "stop", "(II)I"⟩
abbrev cX8_flown : ByteArray := prog_1_method_20_code
def yX8_flown : MethodName := ⟨RX8, "flown", "(II)I"⟩
abbrev cX8_event : ByteArray := prog_1_method_21_code
def yX8_event : MethodName := ⟨RX8, "event", "(II)I"⟩
abbrev cX8_sum : ByteArray := prog_1_method_22_code
def yX8_sum : MethodName := ⟨RX8, "sum", "(I)I"⟩
abbrev cX8_split : ByteArray := prog_1_method_23_code
def yX8_split : MethodName := ⟨RX8, "split", "(I)I"⟩
abbrev cX8_take : ByteArray := prog_1_method_24_code
def yX8_take : MethodName := ⟨RX8, "take", "(I)I"⟩
abbrev cX8_best : ByteArray := prog_1_method_25_code
def yX8_best : MethodName := ⟨RX8, "best", "()I"⟩
abbrev cX8_bestOrder : ByteArray := prog_1_method_26_code
def yX8_bestOrder : MethodName := ⟨RX8, "bestOrder", "()I"⟩
abbrev cX8_alone : ByteArray := prog_1_method_27_code
def yX8_alone : MethodName := ⟨RX8, "alone", "(I)I"⟩
abbrev cX8_wind : ByteArray := prog_1_method_28_code
def yX8_wind : MethodName := ⟨RX8, "wind", "(II)I"⟩
abbrev cX8_bestWind : ByteArray := prog_1_method_29_code
def yX8_bestWind : MethodName := ⟨RX8, "bestWind", "()I"⟩
abbrev cX8_endByWind : ByteArray := prog_1_method_30_code
def yX8_endByWind : MethodName := ⟨RX8, "endByWind", "(I)I"⟩
abbrev cX8_fillTable : ByteArray := prog_1_method_31_code
def yX8_fillTable : MethodName := ⟨RX8, "fillTable", "()V"⟩
abbrev cX8_searchBest : ByteArray := prog_1_method_32_code
def yX8_searchBest : MethodName := ⟨RX8, "searchBest", "()V"⟩
abbrev cX8_searchAlone : ByteArray := prog_1_method_33_code
def yX8_searchAlone : MethodName := ⟨RX8, "searchAlone", "()V"⟩
abbrev cX8_forgetSearches : ByteArray := prog_1_method_34_code
def yX8_forgetSearches : MethodName := ⟨RX8, "forgetSearches", "()V"⟩
def RX9 : String := "TruckWingModel"
def TX9 : u_T := fun k => match k with
  | 0 => ("TruckWingModel", "thrown", "I", false)
  | 1 => ("TruckWingModel", "now", "[I", true)
  | 2 => ("TruckWingModel", "kept", "[I", true)
  | 3 => ("TruckWingModel", "tape", "[B", true)
  | 4 => ("TruckWingModel", "taped", "I", false)
  | 5 => ("TruckWingModel", "fault", "I", false)
  | 6 => ("TruckWingModel", "length", "I", false)
  | 7 => ("TruckWingModel", "at", "I", false)
  | 8 => ("TruckWingModel", "from", "I", false)
  | 9 => ("TruckWingModel", "comes", "[I", true)
  | 10 => ("TruckWingModel", "ready", "[I", true)
  | 11 => ("TruckWingModel", "leaves", "[I", true)
  | 12 => ("TruckWingModel", "waits", "[I", true)
  | 13 => ("TruckWingModel", "left", "[I", true)
  | 14 => ("TruckWingModel", "came", "[I", true)
  | 15 => ("TruckWingModel", "caught", "[I", true)
  | 16 => ("TruckWingModel", "isCaught", "[Z", true)
  | 17 => ("TruckWingModel", "event", "[I", true)
  | 18 => ("TruckWingModel", "events", "I", false)
  | 19 => ("TruckWingModel", "order", "[I", true)
  | 20 => ("TruckWingModel", "found", "[I", true)
  | 21 => ("TruckWingModel", "fewest", "[I", true)
  | 22 => ("TruckWingModel", "begins", "[I", true)
  | 23 => ("TruckWingModel", "flies", "[I", true)
  | 24 => ("TruckWingModel", "isEnd", "[Z", true)
  | 25 => ("TruckWingModel", "bestEnd", "I", false)
  | _ => ("TruckWingModel", "bestTold", "I", false)
def tyX9 : Nat → FieldType := fun k => match k with
  | 0 => .int
  | 1 => .array .int
  | 2 => .array .int
  | 3 => .array .byte
  | 4 => .int
  | 5 => .int
  | 6 => .int
  | 7 => .int
  | 8 => .int
  | 9 => .array .int
  | 10 => .array .int
  | 11 => .array .int
  | 12 => .array .int
  | 13 => .array .int
  | 14 => .array .int
  | 15 => .array .int
  | 16 => .array .boolean
  | 17 => .array .int
  | 18 => .int
  | 19 => .array .int
  | 20 => .array .int
  | 21 => .array .int
  | 22 => .array .int
  | 23 => .array .int
  | 24 => .array .boolean
  | 25 => .int
  | _ => .int
abbrev wsX90 : List Cond := u_ws RX9 TX9 27
theorem nmX9 : ∀ a, a < 27 → ∀ b, b < 27 → a ≠ b → (TX9 a).2.1 ≠ (TX9 b).2.1 := by decide +kernel
theorem tyX9_ok : ∀ k, k < 27 → parseFieldDescriptor (TX9 k).2.2.1 = some (tyX9 k) := by decide +kernel
abbrev cX9_init : ByteArray := prog_11_method_1_code
def yX9_init : MethodName := ⟨RX9, "<init>", "()V"⟩
abbrev cX9_thrown : ByteArray := prog_11_method_2_code
def yX9_thrown : MethodName := ⟨RX9, "thrown", "()I"⟩
abbrev cX9_isIn : ByteArray := prog_11_method_3_code
def yX9_isIn : MethodName := ⟨RX9, "isIn", "(III)Z"⟩
abbrev cX9_size : ByteArray := prog_11_method_4_code
def yX9_size : MethodName := ⟨RX9, "size", "(I)I"⟩
abbrev cX9_of : ByteArray := prog_11_method_5_code
def yX9_of : MethodName := ⟨RX9, "of", "(I)I"⟩
abbrev cX9_customers : ByteArray := prog_11_method_6_code
def yX9_customers : MethodName := ⟨RX9, "customers", "()I"⟩
abbrev cX9_placeOf : ByteArray := prog_11_method_7_code
def yX9_placeOf : MethodName := ⟨RX9, "placeOf", "(II)I"⟩
abbrev cX9_stops : ByteArray := prog_11_method_8_code
def yX9_stops : MethodName := ⟨RX9, "stops", "()I"⟩
abbrev cX9_sorties : ByteArray := prog_11_method_9_code
def yX9_sorties : MethodName := ⟨RX9, "sorties", "()I"⟩
abbrev cX9_stopAt : ByteArray := prog_11_method_10_code
def yX9_stopAt : MethodName := ⟨RX9, "stopAt", "(I)I"⟩
abbrev cX9_sortieOf : ByteArray := prog_11_method_11_code
def yX9_sortieOf : MethodName := ⟨RX9, "sortieOf", "(II)I"⟩
abbrev cX9_isCustomer : ByteArray := prog_11_method_12_code
def yX9_isCustomer : MethodName := ⟨RX9, "isCustomer", "(I)Z"⟩
abbrev cX9_isPlace : ByteArray := prog_11_method_13_code
def yX9_isPlace : MethodName := ⟨RX9, "isPlace", "(I)Z"⟩
abbrev cX9_drive : ByteArray := prog_11_method_14_code
def yX9_drive : MethodName := ⟨RX9, "drive", "(II)I"⟩
abbrev cX9_flight : ByteArray := prog_11_method_15_code
def yX9_flight : MethodName := ⟨RX9, "flight", "(II)I"⟩
abbrev cX9_isLight : ByteArray := prog_11_method_16_code
def yX9_isLight : MethodName := ⟨RX9, "isLight", "(I)Z"⟩
abbrev cX9_service : ByteArray := prog_11_method_17_code
def yX9_service : MethodName := ⟨RX9, "service", "(I)I"⟩
abbrev cX9_mayBe : ByteArray := prog_11_method_18_code
def yX9_mayBe : MethodName := ⟨RX9, "mayBe", "(II)Z"⟩
abbrev cX9_maySet : ByteArray := prog_11_method_19_code
def yX9_maySet : MethodName := ⟨RX9, "maySet", "(II)Z"⟩
abbrev cX9_more : ByteArray := prog_11_method_20_code
def yX9_more : MethodName := ⟨RX9, "more", "(IIIII)V"⟩
abbrev cX9_clears : ByteArray := prog_11_method_21_code
def yX9_clears : MethodName := ⟨RX9, "clears", "()V"⟩
abbrev cX9_stopsAt : ByteArray := prog_11_method_22_code
def yX9_stopsAt : MethodName := ⟨RX9, "stopsAt", "(I)V"⟩
abbrev cX9_sends : ByteArray := prog_11_method_23_code
def yX9_sends : MethodName := ⟨RX9, "sends", "(IIII)V"⟩
abbrev cX9_customer : ByteArray := prog_11_method_24_code
def yX9_customer : MethodName := ⟨RX9, "customer", "(IIIII)I"⟩
abbrev cX9_drop : ByteArray := prog_11_method_25_code
def yX9_drop : MethodName := ⟨RX9, "drop", "()I"⟩
abbrev cX9_set : ByteArray := prog_11_method_26_code
def yX9_set : MethodName := ⟨RX9, "set", "(II)Z"⟩
abbrev cX9_go : ByteArray := prog_11_method_27_code
def yX9_go : MethodName := ⟨RX9, "go", "(I)I"⟩
abbrev cX9_maySend : ByteArray := prog_11_method_28_code
def yX9_maySend : MethodName := ⟨RX9, "maySend", "(IIII)Z"⟩
abbrev cX9_fly : ByteArray := prog_11_method_29_code
def yX9_fly : MethodName := ⟨RX9, "fly", "(IIII)I"⟩
abbrev cX9_undo : ByteArray := prog_11_method_30_code
def yX9_undo : MethodName := ⟨RX9, "undo", "(Z)I"⟩
abbrev cX9_clear : ByteArray := prog_11_method_31_code
def yX9_clear : MethodName := ⟨RX9, "clear", "()V"⟩
abbrev cX9_count : ByteArray := prog_11_method_32_code
def yX9_count : MethodName := ⟨RX9, "count", "(I)I"⟩
abbrev cX9_place : ByteArray := prog_11_method_33_code
def yX9_place : MethodName := ⟨RX9, "place", "(II)I"⟩
abbrev cX9_way : ByteArray := prog_11_method_34_code
def yX9_way : MethodName := ⟨RX9, "way", "(IIZ)I"⟩
abbrev cX9_sortie : ByteArray := prog_11_method_35_code
def yX9_sortie : MethodName := ⟨RX9, "sortie", "(II)I"⟩
abbrev cX9_put : ByteArray := prog_11_method_36_code
def yX9_put : MethodName := ⟨RX9, "put", "(I)V"⟩
abbrev cX9_feed : ByteArray := prog_11_method_37_code
def yX9_feed : MethodName := ⟨RX9, "feed", "(IIIII)I"⟩
abbrev cX9_end : ByteArray := prog_11_method_38_code
def yX9_end : MethodName := ⟨RX9, "end", "(I)Z"⟩
abbrev cX9_here : ByteArray := prog_11_method_39_code
def yX9_here : MethodName := ⟨RX9, "here", "()I"⟩
abbrev cX9_fails : ByteArray := prog_11_method_40_code
def yX9_fails : MethodName := ⟨RX9, "fails", "(II)V"⟩
abbrev cX9_isDigitAt : ByteArray := prog_11_method_41_code
def yX9_isDigitAt : MethodName := ⟨RX9, "isDigitAt", "(I)Z"⟩
abbrev cX9_number : ByteArray := prog_11_method_42_code
def yX9_number : MethodName := ⟨RX9, "number", "()I"⟩
abbrev cX9_numberOf : ByteArray := prog_11_method_43_code
def yX9_numberOf : MethodName := ⟨RX9, "numberOf", "(I)I"⟩
abbrev cX9_numberIn : ByteArray := prog_11_method_44_code
def yX9_numberIn : MethodName := ⟨RX9, "numberIn", "(II)I"⟩
abbrev cX9_word : ByteArray := prog_11_method_45_code
def yX9_word : MethodName := ⟨RX9, "word", "()I"⟩
abbrev cX9_letters : ByteArray := prog_11_method_46_code
def yX9_letters : MethodName := ⟨RX9, "letters", "(III)I"⟩
abbrev cX9_statement : ByteArray := prog_11_method_47_code
def yX9_statement : MethodName := ⟨RX9, "statement", "()V"⟩
abbrev cX9_rowGoesOn : ByteArray := prog_11_method_48_code
def yX9_rowGoesOn : MethodName := ⟨RX9, "rowGoesOn", "()V"⟩
abbrev cX9_tell : ByteArray := prog_11_method_49_code
def yX9_tell : MethodName := ⟨RX9, "tell", "()I"⟩
abbrev cX9_fault : ByteArray := prog_11_method_50_code
def yX9_fault : MethodName := ⟨RX9, "fault", "()I"⟩
abbrev cX9_servedBy : ByteArray := prog_11_method_51_code
def yX9_servedBy : MethodName := ⟨RX9, "servedBy", "(I)I"⟩
abbrev cX9_crosses : ByteArray := prog_11_method_52_code
def yX9_crosses : MethodName := ⟨RX9, "crosses", "(I)Z"⟩
abbrev cX9_wrongPlan : ByteArray := prog_11_method_53_code
def yX9_wrongPlan : MethodName := ⟨RX9, "wrongPlan", "()I"⟩
abbrev cX9_happens : ByteArray := prog_11_method_54_code
def yX9_happens : MethodName := ⟨RX9, "happens", "(IIII)V"⟩
abbrev cX9_nextCaught : ByteArray := prog_11_method_55_code
def yX9_nextCaught : MethodName := ⟨RX9, "nextCaught", "(I)I"⟩
abbrev cX9_launches : ByteArray := prog_11_method_56_code
def yX9_launches : MethodName := ⟨RX9, "launches", "(II)I"⟩
abbrev cX9_goes : ByteArray := prog_11_method_57_code
def yX9_goes : MethodName := ⟨RX9, "goes", "()Z"⟩
abbrev cX9_isAhead : ByteArray := prog_11_method_58_code
def yX9_isAhead : MethodName := ⟨RX9, "isAhead", "(II)Z"⟩
abbrev cX9_sorts : ByteArray := prog_11_method_59_code
def yX9_sorts : MethodName := ⟨RX9, "sorts", "()V"⟩
abbrev cX9_airOf : ByteArray := prog_11_method_60_code
def yX9_airOf : MethodName := ⟨RX9, "airOf", "(I)I"⟩
abbrev cX9_wrong : ByteArray := prog_11_method_61_code
def yX9_wrong : MethodName := ⟨RX9, "wrong", "()I"⟩
abbrev cX9_ends : ByteArray := prog_11_method_62_code
def yX9_ends : MethodName := ⟨RX9, "ends", "()I"⟩
abbrev cX9_stop : ByteArray := prog_11_method_63_code
def yX9_stop : MethodName := ⟨RX9, "stop", "(II)I"⟩
abbrev cX9_flown : ByteArray := prog_11_method_64_code
def yX9_flown : MethodName := ⟨RX9, "flown", "(II)I"⟩
abbrev cX9_event : ByteArray := prog_11_method_65_code
def yX9_event : MethodName := ⟨RX9, "event", "(II)I"⟩
abbrev cX9_sum : ByteArray := prog_11_method_66_code
def yX9_sum : MethodName := ⟨RX9, "sum", "(I)I"⟩
abbrev cX9_lays : ByteArray := prog_11_method_67_code
def yX9_lays : MethodName := ⟨RX9, "lays", "(I)Z"⟩
abbrev cX9_bits : ByteArray := prog_11_method_68_code
def yX9_bits : MethodName := ⟨RX9, "bits", "(I)I"⟩
abbrev cX9_isLightSet : ByteArray := prog_11_method_69_code
def yX9_isLightSet : MethodName := ⟨RX9, "isLightSet", "(II)Z"⟩
abbrev cX9_lasts : ByteArray := prog_11_method_70_code
def yX9_lasts : MethodName := ⟨RX9, "lasts", "(III)I"⟩
abbrev cX9_splits : ByteArray := prog_11_method_71_code
def yX9_splits : MethodName := ⟨RX9, "splits", "(I)I"⟩
abbrev cX9_split : ByteArray := prog_11_method_72_code
def yX9_split : MethodName := ⟨RX9, "split", "(I)I"⟩
abbrev cX9_take : ByteArray := prog_11_method_73_code
def yX9_take : MethodName := ⟨RX9, "take", "(I)I"⟩
abbrev cX9_goesOn : ByteArray := prog_11_method_74_code
def yX9_goesOn : MethodName := ⟨RX9, "goesOn", "()Z"⟩
abbrev cX9_swaps : ByteArray := prog_11_method_75_code
def yX9_swaps : MethodName := ⟨RX9, "swaps", "(II)V"⟩
abbrev cX9_told : ByteArray := prog_11_method_76_code
def yX9_told : MethodName := ⟨RX9, "told", "()I"⟩
abbrev cX9_seeks : ByteArray := prog_11_method_77_code
def yX9_seeks : MethodName := ⟨RX9, "seeks", "(I)V"⟩
abbrev cX9_best : ByteArray := prog_11_method_78_code
def yX9_best : MethodName := ⟨RX9, "best", "()I"⟩
abbrev cX9_bestOrder : ByteArray := prog_11_method_79_code
def yX9_bestOrder : MethodName := ⟨RX9, "bestOrder", "()I"⟩
abbrev cX9_alone : ByteArray := prog_11_method_80_code
def yX9_alone : MethodName := ⟨RX9, "alone", "(I)I"⟩
abbrev cX9_splitBy : ByteArray := prog_11_method_81_code
def yX9_splitBy : MethodName := ⟨RX9, "splitBy", "(I)I"⟩
abbrev cX9_wind : ByteArray := prog_11_method_82_code
def yX9_wind : MethodName := ⟨RX9, "wind", "(II)I"⟩
def RJx145de : String := "java/io/Serializable"
def TJx145de : u_T := fun k => match k with
  | _ => ("", "", "", false)
def tyJx145de : Nat → FieldType := fun k => match k with
  | _ => .int
abbrev wsJx145de0 : List Cond := u_ws RJx145de TJx145de 0
theorem nmJx145de : ∀ a, a < 0 → ∀ b, b < 0 → a ≠ b → (TJx145de a).2.1 ≠ (TJx145de b).2.1 := by decide +kernel
theorem tyJx145de_ok : ∀ k, k < 0 → parseFieldDescriptor (TJx145de k).2.2.1 = some (tyJx145de k) := by decide +kernel
def RJx9f9b0 : String := "java/lang/CharSequence"
def TJx9f9b0 : u_T := fun k => match k with
  | _ => ("", "", "", false)
def tyJx9f9b0 : Nat → FieldType := fun k => match k with
  | _ => .int
abbrev wsJx9f9b00 : List Cond := u_ws RJx9f9b0 TJx9f9b0 0
theorem nmJx9f9b0 : ∀ a, a < 0 → ∀ b, b < 0 → a ≠ b → (TJx9f9b0 a).2.1 ≠ (TJx9f9b0 b).2.1 := by decide +kernel
theorem tyJx9f9b0_ok : ∀ k, k < 0 → parseFieldDescriptor (TJx9f9b0 k).2.2.1 = some (tyJx9f9b0 k) := by decide +kernel
def RJx8e188 : String := "java/lang/Cloneable"
def TJx8e188 : u_T := fun k => match k with
  | _ => ("", "", "", false)
def tyJx8e188 : Nat → FieldType := fun k => match k with
  | _ => .int
abbrev wsJx8e1880 : List Cond := u_ws RJx8e188 TJx8e188 0
theorem nmJx8e188 : ∀ a, a < 0 → ∀ b, b < 0 → a ≠ b → (TJx8e188 a).2.1 ≠ (TJx8e188 b).2.1 := by decide +kernel
theorem tyJx8e188_ok : ∀ k, k < 0 → parseFieldDescriptor (TJx8e188 k).2.2.1 = some (tyJx8e188 k) := by decide +kernel
def RJxb160c : String := "java/lang/Comparable"
def TJxb160c : u_T := fun k => match k with
  | _ => ("", "", "", false)
def tyJxb160c : Nat → FieldType := fun k => match k with
  | _ => .int
abbrev wsJxb160c0 : List Cond := u_ws RJxb160c TJxb160c 0
theorem nmJxb160c : ∀ a, a < 0 → ∀ b, b < 0 → a ≠ b → (TJxb160c a).2.1 ≠ (TJxb160c b).2.1 := by decide +kernel
theorem tyJxb160c_ok : ∀ k, k < 0 → parseFieldDescriptor (TJxb160c k).2.2.1 = some (tyJxb160c k) := by decide +kernel
def RJ6 : String := "java/lang/Integer"
def TJ6 : u_T := fun k => match k with
  | _ => ("", "", "", false)
def tyJ6 : Nat → FieldType := fun k => match k with
  | _ => .int
abbrev wsJ60 : List Cond := u_ws RJ6 TJ6 0
theorem nmJ6 : ∀ a, a < 0 → ∀ b, b < 0 → a ≠ b → (TJ6 a).2.1 ≠ (TJ6 b).2.1 := by decide +kernel
theorem tyJ6_ok : ∀ k, k < 0 → parseFieldDescriptor (TJ6 k).2.2.1 = some (tyJ6 k) := by decide +kernel
abbrev cJ6_bitCount_0f7a4 : ByteArray := prog_17_method_49_code
def yJ6_bitCount_0f7a4 : MethodName := ⟨RJ6, "bitCount", "(I)I"⟩
def RJ9 : String := "java/lang/Math"
def TJ9 : u_T := fun k => match k with
  | _ => ("", "", "", false)
def tyJ9 : Nat → FieldType := fun k => match k with
  | _ => .int
abbrev wsJ90 : List Cond := u_ws RJ9 TJ9 0
theorem nmJ9 : ∀ a, a < 0 → ∀ b, b < 0 → a ≠ b → (TJ9 a).2.1 ≠ (TJ9 b).2.1 := by decide +kernel
theorem tyJ9_ok : ∀ k, k < 0 → parseFieldDescriptor (TJ9 k).2.2.1 = some (tyJ9 k) := by decide +kernel
abbrev cJ9_abs_0f7a4 : ByteArray := prog_18_method_59_code
def yJ9_abs_0f7a4 : MethodName := ⟨RJ9, "abs", "(I)I"⟩
abbrev cJ9_max_7cf53 : ByteArray := prog_18_method_65_code
def yJ9_max_7cf53 : MethodName := ⟨RJ9, "max", "(II)I"⟩
def RJ0 : String := "java/lang/String"
def TJ0 : u_T := fun k => match k with
  | _ => ("", "", "", false)
def tyJ0 : Nat → FieldType := fun k => match k with
  | _ => .int
abbrev wsJ00 : List Cond := u_ws RJ0 TJ0 0
theorem nmJ0 : ∀ a, a < 0 → ∀ b, b < 0 → a ≠ b → (TJ0 a).2.1 ≠ (TJ0 b).2.1 := by decide +kernel
theorem tyJ0_ok : ∀ k, k < 0 → parseFieldDescriptor (TJ0 k).2.2.1 = some (tyJ0 k) := by decide +kernel
abbrev cJ0_length_8abf5 : ByteArray := prog_20_method_54_code
def yJ0_length_8abf5 : MethodName := ⟨RJ0, "length", "()I"⟩
abbrev cJ0_charAt_5068e : ByteArray := prog_20_method_56_code
def yJ0_charAt_5068e : MethodName := ⟨RJ0, "charAt", "(I)C"⟩
abbrev cJ0_coder_7d493 : ByteArray := prog_20_method_152_code
def yJ0_coder_7d493 : MethodName := ⟨RJ0, "coder", "()B"⟩
abbrev cJ0_isLatin1_aae02 : ByteArray := prog_20_method_154_code
def yJ0_isLatin1_aae02 : MethodName := ⟨RJ0, "isLatin1", "()Z"⟩
abbrev cJ0_checkIndex_df160 : ByteArray := prog_20_method_155_code
def yJ0_checkIndex_df160 : MethodName := ⟨RJ0, "checkIndex", "(II)V"⟩
def RJ1 : String := "java/lang/StringLatin1"
def TJ1 : u_T := fun k => match k with
  | _ => ("", "", "", false)
def tyJ1 : Nat → FieldType := fun k => match k with
  | _ => .int
abbrev wsJ10 : List Cond := u_ws RJ1 TJ1 0
theorem nmJ1 : ∀ a, a < 0 → ∀ b, b < 0 → a ≠ b → (TJ1 a).2.1 ≠ (TJ1 b).2.1 := by decide +kernel
theorem tyJ1_ok : ∀ k, k < 0 → parseFieldDescriptor (TJ1 k).2.2.1 = some (tyJ1 k) := by decide +kernel
abbrev cJ1_charAt_3b067 : ByteArray := prog_21_method_2_code
def yJ1_charAt_3b067 : MethodName := ⟨RJ1, "charAt", "([BI)C"⟩
def RJ2 : String := "java/lang/StringUTF16"
def TJ2 : u_T := fun k => match k with
  | _ => ("", "", "", false)
def tyJ2 : Nat → FieldType := fun k => match k with
  | _ => .int
abbrev wsJ20 : List Cond := u_ws RJ2 TJ2 0
theorem nmJ2 : ∀ a, a < 0 → ∀ b, b < 0 → a ≠ b → (TJ2 a).2.1 ≠ (TJ2 b).2.1 := by decide +kernel
theorem tyJ2_ok : ∀ k, k < 0 → parseFieldDescriptor (TJ2 k).2.2.1 = some (tyJ2 k) := by decide +kernel
abbrev cJ2_getChar_3b067 : ByteArray := prog_22_method_5_code
def yJ2_getChar_3b067 : MethodName := ⟨RJ2, "getChar", "([BI)C"⟩
abbrev cJ2_length_9d52b : ByteArray := prog_22_method_6_code
def yJ2_length_9d52b : MethodName := ⟨RJ2, "length", "([B)I"⟩
abbrev cJ2_charAt_3b067 : ByteArray := prog_22_method_83_code
def yJ2_charAt_3b067 : MethodName := ⟨RJ2, "charAt", "([BI)C"⟩
abbrev cJ2_checkIndex_2214a : ByteArray := prog_22_method_91_code
def yJ2_checkIndex_2214a : MethodName := ⟨RJ2, "checkIndex", "(I[B)V"⟩
def RJ10 : String := "java/lang/System"
def TJ10 : u_T := fun k => match k with
  | _ => ("", "", "", false)
def tyJ10 : Nat → FieldType := fun k => match k with
  | _ => .int
abbrev wsJ100 : List Cond := u_ws RJ10 TJ10 0
theorem nmJ10 : ∀ a, a < 0 → ∀ b, b < 0 → a ≠ b → (TJ10 a).2.1 ≠ (TJ10 b).2.1 := by decide +kernel
theorem tyJ10_ok : ∀ k, k < 0 → parseFieldDescriptor (TJ10 k).2.2.1 = some (tyJ10 k) := by decide +kernel
def RJxfd54e : String := "java/lang/constant/Constable"
def TJxfd54e : u_T := fun k => match k with
  | _ => ("", "", "", false)
def tyJxfd54e : Nat → FieldType := fun k => match k with
  | _ => .int
abbrev wsJxfd54e0 : List Cond := u_ws RJxfd54e TJxfd54e 0
theorem nmJxfd54e : ∀ a, a < 0 → ∀ b, b < 0 → a ≠ b → (TJxfd54e a).2.1 ≠ (TJxfd54e b).2.1 := by decide +kernel
theorem tyJxfd54e_ok : ∀ k, k < 0 → parseFieldDescriptor (TJxfd54e k).2.2.1 = some (tyJxfd54e k) := by decide +kernel
def RJx3cf43 : String := "java/lang/constant/ConstantDesc"
def TJx3cf43 : u_T := fun k => match k with
  | _ => ("", "", "", false)
def tyJx3cf43 : Nat → FieldType := fun k => match k with
  | _ => .int
abbrev wsJx3cf430 : List Cond := u_ws RJx3cf43 TJx3cf43 0
theorem nmJx3cf43 : ∀ a, a < 0 → ∀ b, b < 0 → a ≠ b → (TJx3cf43 a).2.1 ≠ (TJx3cf43 b).2.1 := by decide +kernel
theorem tyJx3cf43_ok : ∀ k, k < 0 → parseFieldDescriptor (TJx3cf43 k).2.2.1 = some (tyJx3cf43 k) := by decide +kernel
def RJ3 : String := "jdk/internal/util/Preconditions"
def TJ3 : u_T := fun k => match k with
  | _ => ("", "", "", false)
def tyJ3 : Nat → FieldType := fun k => match k with
  | _ => .int
abbrev wsJ30 : List Cond := u_ws RJ3 TJ3 0
theorem nmJ3 : ∀ a, a < 0 → ∀ b, b < 0 → a ≠ b → (TJ3 a).2.1 ≠ (TJ3 b).2.1 := by decide +kernel
theorem tyJ3_ok : ∀ k, k < 0 → parseFieldDescriptor (TJ3 k).2.2.1 = some (tyJ3 k) := by decide +kernel
abbrev cJ3_checkIndex_8e157 : ByteArray := prog_28_method_11_code
def yJ3_checkIndex_8e157 : MethodName := ⟨RJ3, "checkIndex", "(IILjava/util/function/BiFunction;)I"⟩
def RL : String := "TruckWingLaw"
abbrev cL_sortie : ByteArray := method_3_code
def yL_sortie : MethodName := ⟨RL, "sortie", "(LTruckWing;II[J)I"⟩
abbrev cL_law : ByteArray := code
def yL_law : MethodName := ⟨RL, "law", "([I)Z"⟩
abbrev vwCl : List vw_C := [(RX0, TX0, 11), (RX1, TX1, 2), (RX2, TX2, 3), (RX3, TX3, 3), (RX4, TX4, 4), (RX5, TX5, 18), (RX6, TX6, 2), (RX7, TX7, 10), (RX8, TX8, 8), (RX9, TX9, 27)]
end
section
/-! THE BASE: a side's cells (class's or reference's) never change their shape once made: what changes are ints alone. A memory M : cell -> slot -> int. Wp: the machine at a program counter, over any heap that holds M. -/
theorem goodIn_r {big : List Cond} (ws : List Cond) (ps : List Nat) (hp : ws = ps.filterMap (fun i => big[i]?)) (h : ws.all goodWord = true) : GoodIn big ws := by
  intro w hw
  have h1 := List.all_eq_true.mp h w hw
  rw [hp] at hw
  obtain ⟨i, -, hi⟩ := List.mem_filterMap.mp hw
  have hm : w ∈ big := by first | exact List.mem_of_getElem? hi | exact List.getElem?_mem hi
  exact ⟨hm, good_of_word h1⟩
/-- the good words of the tables, and the nest mates' links -/
def gw : List Cond := lw_tbl.filter goodWord
def isNst (w : Cond) : Bool := match w with | .fieldLinkNest .. => true | .methodLinkNest .. => true | _ => false
def nw : List Cond := lw_tbl.filter isNst
theorem gw_mem {w : Cond} (h : w ∈ lw_tbl) (hg : goodWord w = true) : w ∈ gw := List.mem_filter.mpr ⟨h, hg⟩
theorem gw_good {w : Cond} (h : w ∈ gw) : goodWord w = true := (List.mem_filter.mp h).2
theorem tb_mem {w : Cond} (i : Nat) (h : tables_1[i]? = some w) : w ∈ lw_tbl := List.mem_append_right _ (List.mem_of_getElem? h)
theorem sl_mem {w : Cond} (i : Nat) (h : (k2_sels lw_privs)[i]? = some w) : w ∈ lw_tbl := List.mem_append_left _ (List.mem_of_getElem? h)
theorem nw_mem {w : Cond} (h : w ∈ lw_tbl) (hg : isNst w = true) : w ∈ nw := List.mem_filter.mpr ⟨h, hg⟩
abbrev Mm : Type := Nat → Nat → Int32
/-- a cell's shape: an array (type, length) or an object (class, its fields: another cell, or an int) -/
abbrev Sd : Type := (FieldType × Nat) ⊕ (Nat × List (Option Nat))
abbrev Pk : Type := Program × Launch × Env × Room × State × MethodId × Array Value × List Frame × Method × Code
/-- a side: shapes, class numbers, array classes, addresses, addresses of the static arrays, of the texts and of their bytes -/
abbrev Sx : Type := List Sd × va_G × (FieldType → ClassId) × (Nat → Nat) × (Nat → Nat) × (Nat → Nat) × (Nat → Nat)
abbrev Zx : Type := ByteArray × String × Nat × Nat × Option FieldType
abbrev kp (K : Pk) : Program := K.1
abbrev kl (K : Pk) : Launch := K.2.1
abbrev ke (K : Pk) : Env := K.2.2.1
abbrev kR (K : Pk) : Room := K.2.2.2.1
abbrev ks (K : Pk) : State := K.2.2.2.2.1
abbrev km (K : Pk) : MethodId := K.2.2.2.2.2.1
abbrev ka (K : Pk) : Array Value := K.2.2.2.2.2.2.1
abbrev kb (K : Pk) : List Frame := K.2.2.2.2.2.2.2.1
abbrev kme (K : Pk) : Method := K.2.2.2.2.2.2.2.2.1
abbrev kc (K : Pk) : Code := K.2.2.2.2.2.2.2.2.2
def cty (Y : Sx) (ty : FieldType) : ClassId := Y.2.2.1 ty
def adr (Y : Sx) (k : Nat) : Nat := Y.2.2.2.1 k
def sta (Y : Sx) (k : Nat) : Nat := Y.2.2.2.2.1 k
def ska (Y : Sx) (k : Nat) : Nat := Y.2.2.2.2.2.1 k
def skv (Y : Sx) (k : Nat) : Nat := Y.2.2.2.2.2.2 k
def rmd (d : Nat) : Room := { frames := d, cells := 0, slots := 0, locals := 32 * d }
def fvl (Y : Sx) (M : Mm) (k : Nat) (fs : List (Option Nat)) : List Value := fs.mapIdx (fun i o => match o with | some j => Value.ref (adr Y j) | none => Value.int (M k i))
def cel (Y : Sx) (M : Mm) (k : Nat) (d : Sd) : va_E := match d with | .inl a => .inl (cty Y a.1, a.2, .inl (M k)) | .inr o => .inr (o.1, fvl Y M k o.2)
def wsO (Y : Sx) (M : Mm) : va_W := Y.1.mapIdx (fun k d => (adr Y k, cel Y M k d))
def mset (M : Mm) (k i : Nat) (v : Int32) : Mm := fun a => if a = k then upd (M k) i v else M a
/-- a whole row is put -/
def mrow (M : Mm) (k : Nat) (f : Nat → Int32) : Mm := fun a => if a = k then f else M a
theorem mset_eq (M : Mm) (k i : Nat) (v : Int32) : mset M k i v = mrow M k (upd (M k) i v) := rfl
theorem wsO_at {Y : Sx} {M : Mm} {k : Nat} {d : Sd} (h : Y.1[k]? = some d) : (wsO Y M)[k]? = some (adr Y k, cel Y M k d) := by simp [wsO, List.getElem?_mapIdx, h]
theorem wsO_get {Y : Sx} {M : Mm} {k : Nat} {q : Nat × va_E} (h : (wsO Y M)[k]? = some q) : k < Y.1.length ∧ q.1 = adr Y k := by
  simp only [wsO, List.getElem?_mapIdx] at h
  cases hd : Y.1[k]? with
  | none => rw [hd] at h; cases h
  | some d => rw [hd] at h; cases h; exact ⟨(List.getElem?_eq_some_iff.mp hd).1, rfl⟩
theorem cel_ne {Y : Sx} {M : Mm} {k j : Nat} {f : Nat → Int32} (h : j ≠ k) (d : Sd) : cel Y (mrow M k f) j d = cel Y M j d := by
  have e : mrow M k f j = M j := by simp [mrow, h]
  cases d with
  | inl a => simp [cel, e]
  | inr o => simp [cel, fvl, e]
theorem wsO_row {Y : Sx} {M : Mm} {k : Nat} {d : Sd} {f : Nat → Int32} (h : Y.1[k]? = some d) : (wsO Y M).set k (adr Y k, cel Y (mrow M k f) k d) = wsO Y (mrow M k f) := by
  apply List.ext_getElem?
  intro j
  by_cases hj : j = k
  · subst hj
    rw [List.getElem?_set_self (List.getElem?_eq_some_iff.mp (wsO_at (M := M) h)).1, wsO_at h]
  · rw [List.getElem?_set_ne (Ne.symm hj)]
    simp only [wsO, List.getElem?_mapIdx]
    cases Y.1[j]? with
    | none => rfl
    | some d2 => simp [cel_ne hj]
theorem wsO_arr {Y : Sx} {M : Mm} {k n : Nat} {ty : FieldType} {f : Nat → Int32} (h : Y.1[k]? = some (.inl (ty, n))) : (wsO Y M).set k (adr Y k, .inl (cty Y ty, n, .inl f)) = wsO Y (mrow M k f) := by
  rw [← wsO_row h]
  simp [cel, mrow]
theorem wsO_fld {Y : Sx} {M : Mm} {k ci i : Nat} {fs : List (Option Nat)} {v : Int32} (h : Y.1[k]? = some (.inr (ci, fs))) (hi : fs[i]? = some none) : (wsO Y M).set k (adr Y k, .inr (ci, (fvl Y M k fs).set i (.int v))) = wsO Y (mset M k i v) := by
  rw [mset_eq, ← wsO_row h]
  congr 3
  show _ = (ci, fvl Y (mrow M k (upd (M k) i v)) k fs)
  congr 1
  apply List.ext_getElem?
  intro j
  have hl : i < (fvl Y M k fs).length := by simp [fvl]; exact (List.getElem?_eq_some_iff.mp hi).1
  by_cases hj : j = i
  · subst hj
    rw [List.getElem?_set_self hl]
    simp [fvl, List.getElem?_mapIdx, hi, mrow, upd]
  · rw [List.getElem?_set_ne (Ne.symm hj)]
    simp only [fvl, List.getElem?_mapIdx]
    cases fs[j]? with
    | none => rfl
    | some o => cases o <;> simp [mrow, upd, hj]
/-- the cells that a side's methods may change -/
def AA (Y : Sx) (sz : Nat) : Nat → Prop := fun q => (∃ k, k < Y.1.length ∧ q = adr Y k) ∨ sz ≤ q
def apt (Y : Sx) : Prop := ∀ i j, i < Y.1.length → j < Y.1.length → adr Y i = adr Y j → i = j
theorem apt_D {Y : Sx} (h : apt Y) (sz : Nat) (M : Mm) : va_D (AA Y sz) (wsO Y M) := by
  refine ⟨fun i j p q hi hj e => ?_, fun k q hk => ?_⟩
  · obtain ⟨h1, e1⟩ := wsO_get hi
    obtain ⟨h2, e2⟩ := wsO_get hj
    exact h i j h1 h2 (by rw [← e1, ← e2]; exact e)
  · obtain ⟨h1, e1⟩ := wsO_get hk
    exact Or.inl ⟨k, h1, e1⟩
def tyl (Y : Sx) : List (ClassId × FieldType) := [(cty Y .int, .int), (cty Y .boolean, .boolean), (cty Y .byte, .byte)]
/-- static arrays, texts -/
def stT : List (String × String × Nat × List Int32) := [("TruckWing", "FACT_MOST", 5, [50, 50, 30, 30, 99]), ("TruckWing", "SETTING_LEAST", 10, [1, 1, -3, -3, 0, 1, 0, 0, 0, 0]), ("TruckWing", "SETTING_MOST", 10, [9, 9, 3, 3, 99, 999, 9, 9, 2, 1]), ("TruckWing", "SETTING_FIRST", 10, [3, 2, 0, 0, 50, 100, 1, 1, 1, 1]), ("TruckWing$Teller", "INTS", 5, [2, 5, 2, 8, 4])]
def skT : List (Nat × String) := [(65, "depot"), (71, "to"), (73, "set"), (75, "row"), (77, "fly")]
def skL : List Nat := [5, 2, 3, 3, 3]
def skB : List (List Int32) := [[100, 101, 112, 111, 116], [116, 111], [115, 101, 116], [114, 111, 119], [102, 108, 121]]
def Ext (Y : Sx) (A : Nat → Prop) (U : State) (H : Heap) : Prop :=
  (∀ (i : Nat) (q : String × String × Nat × List Int32), stT[i]? = some q → va_Z q.1 q.2.1 "[I" (.ref (sta Y i)) A U H ∧ va_T .int (sta Y i) q.2.2.1 (fun j => .int (q.2.2.2.getD j 0)) A U H) ∧
  vk_S 5 skL skB (ska Y) (skv Y) A U H ∧ va_Z "java/lang/String" "COMPACT_STRINGS" "Z" (.int 1) A U H ∧ va_Zq "jdk/internal/util/Preconditions" "SIOOBE_FORMATTER" "Ljava/util/function/BiFunction;" A U H
theorem Ext.moved {Y : Sx} {A : Nat → Prop} {u U : State} {H : Heap} (hvm : u.vm.Alike U.vm) (h : Ext Y A u H) : Ext Y A U H :=
  ⟨fun i q hq => ⟨(h.1 i q hq).1.moved hvm, (h.1 i q hq).2.moved hvm⟩, h.2.1.moved hvm, h.2.2.1.moved hvm, h.2.2.2.moved hvm⟩
theorem Ext.kept {Y : Sx} {A : Nat → Prop} {U : State} {H H1 : Heap} (h : Ext Y A U H) (hq : ∀ a : Nat, a < H.size → ¬ A a → H1[a]? = H[a]?) : Ext Y A U H1 :=
  ⟨fun i q hi => ⟨(h.1 i q hi).1.kept hq, (h.1 i q hi).2.kept hq⟩, h.2.1.kept hq, h.2.2.1.kept hq, h.2.2.2.kept hq⟩
theorem Ext.narrow {Y : Sx} {A B : Nat → Prop} {U : State} {H : Heap} (h : Ext Y A U H) (hAB : ∀ q, B q → A q) : Ext Y B U H :=
  ⟨fun i q hi => ⟨(h.1 i q hi).1.narrow hAB, (h.1 i q hi).2.narrow hAB⟩, h.2.1.narrow hAB, h.2.2.1.narrow hAB, h.2.2.2.narrow hAB⟩
/-- what speaks of the tables alone -/
def Nst (Y : Sx) (U : State) : Prop := (∀ w ∈ nw, va_Nw w U) ∧ ∀ (i : Nat) (q : Nat × String), skT[i]? = some q → vk_R "TruckWing$Teller" q.1 q.2 (ska Y i) U
theorem nst_on {w : Cond} (h : isNst w = true) : w.onTables = true := by
  cases w <;> simp [isNst] at h <;> rfl
theorem Nst.same {Y : Sx} {u U : State} (hv : u.vm = U.vm) (h : Nst Y u) : Nst Y U :=
  ⟨fun w hw => va_Nw.same (nst_on (List.mem_filter.mp hw).2) hv (h.1 w hw), fun i q hq => vk_R.same hv.symm (h.2 i q hq)⟩
theorem Nst.warm {Y : Sx} {s U : State} (hW : s.WarmedH U.vm) (h : Nst Y s) : Nst Y U := by
  refine ⟨fun w hw => ?_, fun i q hq => vk_R.warm hW (h.2 i q hq)⟩
  have h1 := h.1 w hw
  have h2 := (List.mem_filter.mp hw).2
  cases w <;> simp [isNst] at h2
  · exact va_Nw.warmM hW h1
  · exact va_Nw.warmF hW h1
def Pre (Y : Sx) (M : Mm) (sz : Nat) (U : State) : Prop := U.heap.size = sz ∧ va_P Y.2.1 vwCl (wsO Y M) U.heap ∧ va_K Y.2.1 vwCl (tyl Y) U ∧ Nst Y U ∧ Ext Y (AA Y sz) U U.heap ∧ apt Y
def Qr (Y : Sx) (sz : Nat) (r : Option Int32) (M' : Mm) : Array Value → State → Outcome → State → Prop := fun _ st oc t => oc = .returned (r.map Value.int) ∧ va_P Y.2.1 vwCl (wsO Y M') t.heap ∧ va_F (AA Y sz) st t
/-- a method's contract: with these arguments and this memory it answers r, and the memory is M' then -/
def Ct (l : Launch) (Y : Sx) (y : MethodName) (cc : ByteArray) (mL : Nat) (ret : Option FieldType) (d : Nat) (av : List Value) (M : Mm) (r : Option Int32) (M' : Mm) : Prop :=
  ∀ sz : Nat, Met l y (Cond.code y cc mL ret :: gw) (rmd d) (va_Pc av (Pre Y M sz)) (Qr Y sz r M') 0 0 (AA Y sz)
def Cx (K : Pk) (Z : Zx) (Y : Sx) : Prop :=
  (kp K).tables.exec = Jvm.exec ∧ (kc K).code = Z.1 ∧ (kc K).maxLocals = Z.2.2.1 ∧ (ks K).vm.findClass Z.2.1 = some (km K).cls ∧ (∀ w ∈ gw, w.before (ka K) (ks K) = true) ∧ Nst Y (ks K) ∧ va_K Y.2.1 vwCl (tyl Y) (ks K) ∧ apt Y ∧ Ext Y (AA Y (ks K).heap.size) (ks K) (ks K).heap ∧ (kme K).locks = false ∧ kR K = rmd Z.2.2.2.1 ∧ (kme K).sig.returnType = Z.2.2.2.2
def Wp (K : Pk) (Z : Zx) (Y : Sx) (Q : State → Prop) (M : Mm) (pc : Nat) (lv : List (Nat × Value)) (st : List Value) : Prop :=
  ∀ (H : Heap) (locs : List Loc) (ls : Array Slot), va_P Y.2.1 vwCl (wsO Y M) H → va_S (AA Y (ks K).heap.size) (ks K).heap H locs → lv_has ls Z.2.2.1 lv →
    W (kp K) (kl K) (ke K) (kR K) (ks K) (km K) (ka K) (kb K) (kme K) (kc K) H locs 0 0 Q (F0 (km K) pc ls st)
section ROWS
variable {K : Pk} {Z : Zx} {Y : Sx} {Q : State → Prop} {M : Mm} {pc : Nat} {lv : List (Nat × Value)} {st : List Value}
theorem w_iconst (C : Cx K Z Y) {n : Int} (hd : decode Z.1 pc = .ok (.iconst n, 1)) {v : Int32} (hv : Int32.ofInt n = v) (h : Wp K Z Y Q M (pc + 1) lv (.int v :: st)) : Wp K Z Y Q M pc lv st :=
  fun H locs ls hP hS hl => lv_iconst C.1 C.2.1 hd hv (h H locs ls hP hS hl)
theorem w_bipush (C : Cx K Z Y) {n : Int} (hd : decode Z.1 pc = .ok (.bipush n, 2)) {v : Int32} (hv : (Int8.ofInt n).toInt32 = v) (h : Wp K Z Y Q M (pc + 2) lv (.int v :: st)) : Wp K Z Y Q M pc lv st :=
  fun H locs ls hP hS hl => lv_bipush C.1 C.2.1 hd hv (h H locs ls hP hS hl)
theorem w_sipush (C : Cx K Z Y) {n : Int} (hd : decode Z.1 pc = .ok (.sipush n, 3)) {v : Int32} (hv : (Int16.ofInt n).toInt32 = v) (h : Wp K Z Y Q M (pc + 3) lv (.int v :: st)) : Wp K Z Y Q M pc lv st :=
  fun H locs ls hP hS hl => lv_sipush C.1 C.2.1 hd hv (h H locs ls hP hS hl)
theorem w_iload_n (C : Cx K Z Y) {k : Fin 4} (hd : decode Z.1 pc = .ok (.iload_n k, 1)) (j : Nat) {x : Int32} (hj : lv[j]? = some ((k : Nat), .int x)) (h : Wp K Z Y Q M (pc + 1) lv (.int x :: st)) : Wp K Z Y Q M pc lv st :=
  fun H locs ls hP hS hl => lv_iload_n C.1 C.2.1 hd rfl (lv_at hl j hj) (h H locs ls hP hS hl)
theorem w_iload (C : Cx K Z Y) {i : Nat} (hd : decode Z.1 pc = .ok (.iload i, 2)) (j : Nat) {x : Int32} (hj : lv[j]? = some (i, .int x)) (h : Wp K Z Y Q M (pc + 2) lv (.int x :: st)) : Wp K Z Y Q M pc lv st :=
  fun H locs ls hP hS hl => lv_iload C.1 C.2.1 hd (lv_at hl j hj) (h H locs ls hP hS hl)
theorem w_aload_n (C : Cx K Z Y) {k : Fin 4} (hd : decode Z.1 pc = .ok (.aload_n k, 1)) (j : Nat) {x : Nat} (hj : lv[j]? = some ((k : Nat), .ref x)) (h : Wp K Z Y Q M (pc + 1) lv (.ref x :: st)) : Wp K Z Y Q M pc lv st :=
  fun H locs ls hP hS hl => lv_aload_n C.1 C.2.1 hd rfl (lv_at hl j hj) (h H locs ls hP hS hl)
theorem w_aload (C : Cx K Z Y) {i : Nat} (hd : decode Z.1 pc = .ok (.aload i, 2)) (j : Nat) {x : Nat} (hj : lv[j]? = some (i, .ref x)) (h : Wp K Z Y Q M (pc + 2) lv (.ref x :: st)) : Wp K Z Y Q M pc lv st :=
  fun H locs ls hP hS hl => lv_aload C.1 C.2.1 hd (lv_at hl j hj) (h H locs ls hP hS hl)
/-- the locals, one put: in the order of their numbers (ints and references alone) -/
def lput (i : Nat) (v : Value) : List (Nat × Value) → List (Nat × Value)
  | [] => [(i, v)]
  | q :: l => if i < q.1 then (i, v) :: q :: l else if i = q.1 then (i, v) :: l else q :: lput i v l
def lok : List (Nat × Value) → Bool
  | [] => true
  | q :: l => (q.2.category == 1) && lok l
theorem lput_mem {i : Nat} {v : Value} : ∀ {l : List (Nat × Value)} {q : Nat × Value}, l.Pairwise (fun a b => a.1 < b.1) → q ∈ lput i v l → q = (i, v) ∨ (q ∈ l ∧ q.1 ≠ i)
  | [], q, _, h => by simp [lput] at h; exact Or.inl h
  | a :: l, q, hp, h => by
    rw [List.pairwise_cons] at hp
    unfold lput at h
    split at h
    · rename_i h1
      rcases List.mem_cons.mp h with h | h
      · exact Or.inl h
      · refine Or.inr ⟨h, ?_⟩
        rcases List.mem_cons.mp h with h2 | h2
        · rw [h2]; omega
        · have := hp.1 q h2; omega
    · split at h
      · rename_i h1 h2
        rcases List.mem_cons.mp h with h | h
        · exact Or.inl h
        · refine Or.inr ⟨List.mem_cons_of_mem _ h, ?_⟩
          have := hp.1 q h; omega
      · rename_i h1 h2
        rcases List.mem_cons.mp h with h | h
        · exact Or.inr ⟨by rw [h]; exact List.mem_cons_self, by rw [h]; omega⟩
        · rcases lput_mem hp.2 h with h | h
          · exact Or.inl h
          · exact Or.inr ⟨List.mem_cons_of_mem _ h.1, h.2⟩
/-- sorted, and no value of two words -/
def lvok : List (Nat × Value) → Bool
  | [] => true
  | q :: l => (q.2.category == 1) && (l.all fun r => Nat.blt q.1 r.1) && lvok l
theorem lvok_p : ∀ {l : List (Nat × Value)}, lvok l = true → l.Pairwise (fun a b => a.1 < b.1) ∧ ∀ q ∈ l, q.2.category = 1
  | [], _ => ⟨List.Pairwise.nil, fun q h => by cases h⟩
  | a :: l, h => by
    simp only [lvok, Bool.and_eq_true, beq_iff_eq, List.all_eq_true] at h
    obtain ⟨⟨h1, h2⟩, h3⟩ := h
    obtain ⟨r1, r2⟩ := lvok_p h3
    refine ⟨List.pairwise_cons.mpr ⟨fun b hb => Nat.le_of_ble_eq_true (h2 b hb), r1⟩, fun q hq => ?_⟩
    rcases List.mem_cons.mp hq with e | e
    · rw [e]; exact h1
    · exact r2 q e
theorem lput_has {ls : Array Slot} {nL i : Nat} {v : Value} {l : List (Nat × Value)} (ho : lvok l = true) (h : lv_has ls nL ((i, v) :: l.filter (fun q => !(q.1 == i) && !(q.1 + 1 == i && q.2.category == 2)))) : lv_has ls nL (lput i v l) := by
  obtain ⟨h1, h2, h3⟩ := h
  obtain ⟨p1, p2⟩ := lvok_p ho
  refine ⟨h1, h2, fun q hq => ?_⟩
  rcases lput_mem p1 hq with e | ⟨e1, e2⟩
  · exact h3 q (by rw [e]; exact List.mem_cons_self)
  · refine h3 q (List.mem_cons_of_mem _ (List.mem_filter.mpr ⟨e1, ?_⟩))
    have := p2 q e1
    simp [e2, this]
theorem w_istore_n (C : Cx K Z Y) {k : Fin 4} (hd : decode Z.1 pc = .ok (.istore_n k, 1)) {x : Int32} {lv' : List (Nat × Value)} (hn : Nat.blt k Z.2.2.1 = true) (ho : lvok lv = true) (hl' : lput k (.int x) lv = lv') (h : Wp K Z Y Q M (pc + 1) lv' st) : Wp K Z Y Q M pc lv (.int x :: st) :=
  fun H locs ls hP hS hl => lv_istore_n C.1 C.2.1 hd rfl hl (Nat.le_of_ble_eq_true hn) rfl (fun ls' hl2 => h H locs ls' hP hS (by rw [← hl']; exact lput_has ho hl2))
theorem w_istore (C : Cx K Z Y) {k : Nat} (hd : decode Z.1 pc = .ok (.istore k, 2)) {x : Int32} {lv' : List (Nat × Value)} (hn : Nat.blt k Z.2.2.1 = true) (ho : lvok lv = true) (hl' : lput k (.int x) lv = lv') (h : Wp K Z Y Q M (pc + 2) lv' st) : Wp K Z Y Q M pc lv (.int x :: st) :=
  fun H locs ls hP hS hl => lv_istore C.1 C.2.1 hd hl (Nat.le_of_ble_eq_true hn) rfl (fun ls' hl2 => h H locs ls' hP hS (by rw [← hl']; exact lput_has ho hl2))
theorem w_iinc (C : Cx K Z Y) {k : Nat} {n : Int} (hd : decode Z.1 pc = .ok (.iinc k n, 3)) (j : Nat) {x v : Int32} {lv' : List (Nat × Value)} (hj : lv[j]? = some (k, .int x)) (hv : Int32.ofInt n = v) (hn : Nat.blt k Z.2.2.1 = true) (ho : lvok lv = true) (hl' : lput k (.int (x + v)) lv = lv') (h : Wp K Z Y Q M (pc + 3) lv' st) : Wp K Z Y Q M pc lv st :=
  fun H locs ls hP hS hl => lv_iinc C.1 C.2.1 hd hl hj (by rw [hv]) (Nat.le_of_ble_eq_true hn) rfl (fun ls' hl2 => h H locs ls' hP hS (by rw [← hl']; exact lput_has ho hl2))
/-- fewer locals are known -/
theorem w_lv {lv' : List (Nat × Value)} (ks' : List Nat) (hl' : lv_pick lv ks' = lv') (h : Wp K Z Y Q M pc lv' st) : Wp K Z Y Q M pc lv st :=
  fun H locs ls hP hS hl => h H locs ls hP hS (lv_sub hl ks' hl')
theorem w_iadd (C : Cx K Z Y) {x y : Int32} (hd : decode Z.1 pc = .ok (.iadd, 1)) (h : Wp K Z Y Q M (pc + 1) lv (.int (x + y) :: st)) : Wp K Z Y Q M pc lv (.int y :: .int x :: st) :=
  fun H locs ls hP hS hl => lv_iadd C.1 C.2.1 hd (h H locs ls hP hS hl)
theorem w_isub (C : Cx K Z Y) {x y : Int32} (hd : decode Z.1 pc = .ok (.isub, 1)) (h : Wp K Z Y Q M (pc + 1) lv (.int (x - y) :: st)) : Wp K Z Y Q M pc lv (.int y :: .int x :: st) :=
  fun H locs ls hP hS hl => lv_isub C.1 C.2.1 hd (h H locs ls hP hS hl)
theorem w_imul (C : Cx K Z Y) {x y : Int32} (hd : decode Z.1 pc = .ok (.imul, 1)) (h : Wp K Z Y Q M (pc + 1) lv (.int (x * y) :: st)) : Wp K Z Y Q M pc lv (.int y :: .int x :: st) :=
  fun H locs ls hP hS hl => lv_imul C.1 C.2.1 hd (h H locs ls hP hS hl)
theorem w_iand (C : Cx K Z Y) {x y : Int32} (hd : decode Z.1 pc = .ok (.iand, 1)) (h : Wp K Z Y Q M (pc + 1) lv (.int (x &&& y) :: st)) : Wp K Z Y Q M pc lv (.int y :: .int x :: st) :=
  fun H locs ls hP hS hl => lv_iand C.1 C.2.1 hd (h H locs ls hP hS hl)
theorem w_ior (C : Cx K Z Y) {x y : Int32} (hd : decode Z.1 pc = .ok (.ior, 1)) (h : Wp K Z Y Q M (pc + 1) lv (.int (x ||| y) :: st)) : Wp K Z Y Q M pc lv (.int y :: .int x :: st) :=
  fun H locs ls hP hS hl => lv_ior C.1 C.2.1 hd (h H locs ls hP hS hl)
theorem w_ishl (C : Cx K Z Y) {x y : Int32} (hd : decode Z.1 pc = .ok (.ishl, 1)) (h : Wp K Z Y Q M (pc + 1) lv (.int (x <<< (y &&& 31)) :: st)) : Wp K Z Y Q M pc lv (.int y :: .int x :: st) :=
  fun H locs ls hP hS hl => lv_ishl C.1 C.2.1 hd (h H locs ls hP hS hl)
theorem w_ishr (C : Cx K Z Y) {x y : Int32} (hd : decode Z.1 pc = .ok (.ishr, 1)) (h : Wp K Z Y Q M (pc + 1) lv (.int (x >>> (y &&& 31)) :: st)) : Wp K Z Y Q M pc lv (.int y :: .int x :: st) :=
  fun H locs ls hP hS hl => lv_ishr C.1 C.2.1 hd (h H locs ls hP hS hl)
/-- x >>> y -/
def ush (x y : Int32) : Int32 := (x.toUInt32 >>> (y.toUInt32 &&& Int32.toUInt32 31)).toInt32
theorem w_iushr (C : Cx K Z Y) {x y : Int32} (hd : decode Z.1 pc = .ok (.iushr, 1)) (h : Wp K Z Y Q M (pc + 1) lv (.int (ush x y) :: st)) : Wp K Z Y Q M pc lv (.int y :: .int x :: st) :=
  fun H locs ls hP hS hl => lv_iushr C.1 C.2.1 hd rfl (h H locs ls hP hS hl)
theorem w_ineg (C : Cx K Z Y) {x : Int32} (hd : decode Z.1 pc = .ok (.ineg, 1)) (h : Wp K Z Y Q M (pc + 1) lv (.int (-x) :: st)) : Wp K Z Y Q M pc lv (.int x :: st) :=
  fun H locs ls hP hS hl => lv_ineg C.1 C.2.1 hd (h H locs ls hP hS hl)
/-- x % y -/
def rmi (x y : Int32) : Int32 := x - x / y * y
theorem w_idiv (C : Cx K Z Y) {x y : Int32} (hd : decode Z.1 pc = .ok (.idiv, 1)) (hne : ¬ y = 0) (h : Wp K Z Y Q M (pc + 1) lv (.int (x / y) :: st)) : Wp K Z Y Q M pc lv (.int y :: .int x :: st) :=
  fun H locs ls hP hS hl => lv_idiv C.1 C.2.1 hd hne (h H locs ls hP hS hl)
theorem w_irem (C : Cx K Z Y) {x y : Int32} (hd : decode Z.1 pc = .ok (.irem, 1)) (hne : ¬ y = 0) (h : Wp K Z Y Q M (pc + 1) lv (.int (rmi x y) :: st)) : Wp K Z Y Q M pc lv (.int y :: .int x :: st) :=
  fun H locs ls hP hS hl => lv_irem C.1 C.2.1 hd hne (h H locs ls hP hS hl)
theorem w_i2b (C : Cx K Z Y) {x : Int32} (hd : decode Z.1 pc = .ok (.i2b, 1)) (h : Wp K Z Y Q M (pc + 1) lv (.int x.toInt8.toInt32 :: st)) : Wp K Z Y Q M pc lv (.int x :: st) :=
  fun H locs ls hP hS hl => lv_i2b C.1 C.2.1 hd rfl (h H locs ls hP hS hl)
theorem w_dup (C : Cx K Z Y) {v : Value} (hd : decode Z.1 pc = .ok (.dup, 1)) (hv : v.category = 1) (h : Wp K Z Y Q M (pc + 1) lv (v :: v :: st)) : Wp K Z Y Q M pc lv (v :: st) :=
  fun H locs ls hP hS hl => lv_dup C.1 C.2.1 hd hv (h H locs ls hP hS hl)
theorem w_pop (C : Cx K Z Y) {v : Value} (hd : decode Z.1 pc = .ok (.pop, 1)) (hv : v.category = 1) (h : Wp K Z Y Q M (pc + 1) lv st) : Wp K Z Y Q M pc lv (v :: st) :=
  fun H locs ls hP hS hl => lv_pop C.1 C.2.1 hd hv (h H locs ls hP hS hl)
theorem w_dup2 (C : Cx K Z Y) {v w : Value} (hd : decode Z.1 pc = .ok (.dup2, 1)) (hv : v.category = 1) (hw : w.category = 1) (h : Wp K Z Y Q M (pc + 1) lv (v :: w :: v :: w :: st)) : Wp K Z Y Q M pc lv (v :: w :: st) :=
  fun H locs ls hP hS hl => lv_dup2_11 C.1 C.2.1 hd hv hw (h H locs ls hP hS hl)
theorem w_goto (C : Cx K Z Y) {off : Int} (tgt : Nat) (hd : decode Z.1 pc = .ok (.goto off, 3)) (ht : (pc : Int) + off = (tgt : Int)) (h : Wp K Z Y Q M tgt lv st) : Wp K Z Y Q M pc lv st :=
  fun H locs ls hP hS hl => lv_goto C.1 C.2.1 hd ht (h H locs ls hP hS hl)
theorem w_ifeq (C : Cx K Z Y) {x : Int32} {off : Int} (tgt : Nat) (hd : decode Z.1 pc = .ok (.ifCond .eq off, 3)) (ht : (pc : Int) + off = (tgt : Int)) (kt : x = 0 → Wp K Z Y Q M tgt lv st) (kf : ¬ x = 0 → Wp K Z Y Q M (pc + 3) lv st) : Wp K Z Y Q M pc lv (.int x :: st) :=
  fun H locs ls hP hS hl => lv_if_eq C.1 C.2.1 hd ht (fun c => kt c H locs ls hP hS hl) (fun c => kf c H locs ls hP hS hl)
theorem w_ifne (C : Cx K Z Y) {x : Int32} {off : Int} (tgt : Nat) (hd : decode Z.1 pc = .ok (.ifCond .ne off, 3)) (ht : (pc : Int) + off = (tgt : Int)) (kf : x = 0 → Wp K Z Y Q M (pc + 3) lv st) (kt : ¬ x = 0 → Wp K Z Y Q M tgt lv st) : Wp K Z Y Q M pc lv (.int x :: st) :=
  fun H locs ls hP hS hl => lv_if_ne C.1 C.2.1 hd ht (fun c => kt c H locs ls hP hS hl) (fun c => kf c H locs ls hP hS hl)
theorem w_iflt (C : Cx K Z Y) {x : Int32} {off : Int} (tgt : Nat) (hd : decode Z.1 pc = .ok (.ifCond .lt off, 3)) (ht : (pc : Int) + off = (tgt : Int)) (kt : x < 0 → Wp K Z Y Q M tgt lv st) (kf : ¬ x < 0 → Wp K Z Y Q M (pc + 3) lv st) : Wp K Z Y Q M pc lv (.int x :: st) :=
  fun H locs ls hP hS hl => lv_if_lt C.1 C.2.1 hd ht (fun c => kt c H locs ls hP hS hl) (fun c => kf c H locs ls hP hS hl)
theorem w_ifge (C : Cx K Z Y) {x : Int32} {off : Int} (tgt : Nat) (hd : decode Z.1 pc = .ok (.ifCond .ge off, 3)) (ht : (pc : Int) + off = (tgt : Int)) (kt : 0 ≤ x → Wp K Z Y Q M tgt lv st) (kf : ¬ 0 ≤ x → Wp K Z Y Q M (pc + 3) lv st) : Wp K Z Y Q M pc lv (.int x :: st) :=
  fun H locs ls hP hS hl => lv_if_ge C.1 C.2.1 hd ht (fun c => kt c H locs ls hP hS hl) (fun c => kf c H locs ls hP hS hl)
theorem w_ifgt (C : Cx K Z Y) {x : Int32} {off : Int} (tgt : Nat) (hd : decode Z.1 pc = .ok (.ifCond .gt off, 3)) (ht : (pc : Int) + off = (tgt : Int)) (kt : 0 < x → Wp K Z Y Q M tgt lv st) (kf : ¬ 0 < x → Wp K Z Y Q M (pc + 3) lv st) : Wp K Z Y Q M pc lv (.int x :: st) :=
  fun H locs ls hP hS hl => lv_if_gt C.1 C.2.1 hd ht (fun c => kt c H locs ls hP hS hl) (fun c => kf c H locs ls hP hS hl)
theorem w_ifle (C : Cx K Z Y) {x : Int32} {off : Int} (tgt : Nat) (hd : decode Z.1 pc = .ok (.ifCond .le off, 3)) (ht : (pc : Int) + off = (tgt : Int)) (kt : x ≤ 0 → Wp K Z Y Q M tgt lv st) (kf : ¬ x ≤ 0 → Wp K Z Y Q M (pc + 3) lv st) : Wp K Z Y Q M pc lv (.int x :: st) :=
  fun H locs ls hP hS hl => lv_if_le C.1 C.2.1 hd ht (fun c => kt c H locs ls hP hS hl) (fun c => kf c H locs ls hP hS hl)
theorem w_iceq (C : Cx K Z Y) {x y : Int32} {off : Int} (tgt : Nat) (hd : decode Z.1 pc = .ok (.if_icmp .eq off, 3)) (ht : (pc : Int) + off = (tgt : Int)) (kt : x = y → Wp K Z Y Q M tgt lv st) (kf : ¬ x = y → Wp K Z Y Q M (pc + 3) lv st) : Wp K Z Y Q M pc lv (.int y :: .int x :: st) :=
  fun H locs ls hP hS hl => lv_icmp_eq C.1 C.2.1 hd ht (fun c => kt c H locs ls hP hS hl) (fun c => kf c H locs ls hP hS hl)
theorem w_icne (C : Cx K Z Y) {x y : Int32} {off : Int} (tgt : Nat) (hd : decode Z.1 pc = .ok (.if_icmp .ne off, 3)) (ht : (pc : Int) + off = (tgt : Int)) (kf : x = y → Wp K Z Y Q M (pc + 3) lv st) (kt : ¬ x = y → Wp K Z Y Q M tgt lv st) : Wp K Z Y Q M pc lv (.int y :: .int x :: st) :=
  fun H locs ls hP hS hl => lv_icmp_ne C.1 C.2.1 hd ht (fun c => kt c H locs ls hP hS hl) (fun c => kf c H locs ls hP hS hl)
theorem w_iclt (C : Cx K Z Y) {x y : Int32} {off : Int} (tgt : Nat) (hd : decode Z.1 pc = .ok (.if_icmp .lt off, 3)) (ht : (pc : Int) + off = (tgt : Int)) (kt : x < y → Wp K Z Y Q M tgt lv st) (kf : ¬ x < y → Wp K Z Y Q M (pc + 3) lv st) : Wp K Z Y Q M pc lv (.int y :: .int x :: st) :=
  fun H locs ls hP hS hl => lv_icmp_lt C.1 C.2.1 hd ht (fun c => kt c H locs ls hP hS hl) (fun c => kf c H locs ls hP hS hl)
theorem w_icge (C : Cx K Z Y) {x y : Int32} {off : Int} (tgt : Nat) (hd : decode Z.1 pc = .ok (.if_icmp .ge off, 3)) (ht : (pc : Int) + off = (tgt : Int)) (kt : y ≤ x → Wp K Z Y Q M tgt lv st) (kf : ¬ y ≤ x → Wp K Z Y Q M (pc + 3) lv st) : Wp K Z Y Q M pc lv (.int y :: .int x :: st) :=
  fun H locs ls hP hS hl => lv_icmp_ge C.1 C.2.1 hd ht (fun c => kt c H locs ls hP hS hl) (fun c => kf c H locs ls hP hS hl)
theorem w_icgt (C : Cx K Z Y) {x y : Int32} {off : Int} (tgt : Nat) (hd : decode Z.1 pc = .ok (.if_icmp .gt off, 3)) (ht : (pc : Int) + off = (tgt : Int)) (kt : y < x → Wp K Z Y Q M tgt lv st) (kf : ¬ y < x → Wp K Z Y Q M (pc + 3) lv st) : Wp K Z Y Q M pc lv (.int y :: .int x :: st) :=
  fun H locs ls hP hS hl => lv_icmp_gt C.1 C.2.1 hd ht (fun c => kt c H locs ls hP hS hl) (fun c => kf c H locs ls hP hS hl)
theorem w_icle (C : Cx K Z Y) {x y : Int32} {off : Int} (tgt : Nat) (hd : decode Z.1 pc = .ok (.if_icmp .le off, 3)) (ht : (pc : Int) + off = (tgt : Int)) (kt : x ≤ y → Wp K Z Y Q M tgt lv st) (kf : ¬ x ≤ y → Wp K Z Y Q M (pc + 3) lv st) : Wp K Z Y Q M pc lv (.int y :: .int x :: st) :=
  fun H locs ls hP hS hl => lv_icmp_le C.1 C.2.1 hd ht (fun c => kt c H locs ls hP hS hl) (fun c => kf c H locs ls hP hS hl)
/-- tableswitch from lo on: the number's own road -/
theorem w_swIn (C : Cx K Z Y) {x v : Int32} {dflt lo hi off : Int} {offs : Array Int} {len : Nat} (tgt : Nat) (hd : decode Z.1 pc = .ok (.tableswitch dflt lo hi offs, len)) (hx : x = v) (h1 : ¬ v.toInt < lo) (h2 : ¬ hi < v.toInt) (ho : offs[(v.toInt - lo).toNat]? = some off) (ht : (pc : Int) + off = (tgt : Int)) (h : Wp K Z Y Q M tgt lv st) : Wp K Z Y Q M pc lv (.int x :: st) :=
  fun H locs ls hP hS hl => by subst hx; exact lv_tableIn C.1 C.2.1 hd h1 h2 ho ht (h H locs ls hP hS hl)
theorem w_swOut (C : Cx K Z Y) {x : Int32} {dflt lo hi : Int} {offs : Array Int} {len : Nat} (tgt : Nat) (hd : decode Z.1 pc = .ok (.tableswitch dflt lo hi offs, len)) (ho : x.toInt < lo ∨ hi < x.toInt) (ht : (pc : Int) + dflt = (tgt : Int)) (h : Wp K Z Y Q M tgt lv st) : Wp K Z Y Q M pc lv (.int x :: st) :=
  fun H locs ls hP hS hl => lv_tableOut C.1 C.2.1 hd ho ht (h H locs ls hP hS hl)
/-- links of a field: its class's number, its slot -/
def FL (own : String) (idx ci i : Nat) : Prop := ∃ (Cn : String) (T : u_T) (N : Nat), vwCl[ci]? = some (Cn, T, N) ∧ i < N ∧ (∀ w ∈ u_ws Cn T N, w ∈ gw) ∧ (Cond.fieldLink own idx (T i).1 (T i).2.1 (T i).2.2.1 ∈ gw ∨ ∃ host, Cond.fieldLinkNest own idx (T i).1 (T i).2.1 (T i).2.2.1 host ∈ nw)
def FP (own : String) (idx ci i : Nat) (ty : FieldType) : Prop := ∃ (Cn : String) (T : u_T) (N : Nat) (ty0 : Nat → FieldType), vwCl[ci]? = some (Cn, T, N) ∧ i < N ∧ (∀ w ∈ u_ws Cn T N, w ∈ gw) ∧ (Cond.fieldLink own idx (T i).1 (T i).2.1 (T i).2.2.1 ∈ gw ∨ ∃ host, Cond.fieldLinkNest own idx (T i).1 (T i).2.1 (T i).2.2.1 host ∈ nw) ∧
  (∀ k, k < N → parseFieldDescriptor (T k).2.2.1 = some (ty0 k)) ∧ (∀ a, a < N → ∀ b, b < N → a ≠ b → (T a).2.1 ≠ (T b).2.1) ∧ (T i).2.2.2 = false ∧ parseFieldDescriptor (T i).2.2.1 = some ty
theorem w_get (C : Cx K Z Y) {idx ci i k : Nat} {fs : List (Option Nat)} (hd : decode Z.1 pc = .ok (.getfield idx, 3)) (hF : FL Z.2.1 idx ci i) (hk : Y.1[k]? = some (.inr (ci, fs))) {v : Value} (hv : (fvl Y M k fs)[i]? = some v) (h : Wp K Z Y Q M (pc + 3) lv (v :: st)) : Wp K Z Y Q M pc lv (.ref (adr Y k) :: st) := by
  intro H locs ls hP hS hl
  obtain ⟨Cn, T, N, hc, hi, hin, hlk⟩ := hF
  rcases hlk with hlk | ⟨host, hlk⟩
  · exact va_get (C := Cn) (T := T) (N := N) C.1 C.2.1 C.2.2.2.2.1 hin C.2.2.2.1 C.2.2.2.2.2.2.1 hP k (wsO_at hk) hc i hi (C.2.2.2.2.1 _ hlk) (fun _ h9 => h9) hv hd (h H locs ls hP hS hl)
  · exact va_getN (C := Cn) (T := T) (N := N) C.1 C.2.1 C.2.2.2.2.1 hin C.2.2.2.1 C.2.2.2.2.2.2.1 hP k (wsO_at hk) hc i hi (va_Nw.use rfl (C.2.2.2.2.2.1.1 _ hlk)) (fun _ h9 => h9) hv hd (h H locs ls hP hS hl)
theorem w_getI (C : Cx K Z Y) {idx ci i k : Nat} {fs : List (Option Nat)} (hd : decode Z.1 pc = .ok (.getfield idx, 3)) (hF : FL Z.2.1 idx ci i) (hk : Y.1[k]? = some (.inr (ci, fs))) (hv : fs[i]? = some none) (h : Wp K Z Y Q M (pc + 3) lv (.int (M k i) :: st)) : Wp K Z Y Q M pc lv (.ref (adr Y k) :: st) :=
  w_get C hd hF hk (by simp [fvl, List.getElem?_mapIdx, hv]) h
theorem w_getR (C : Cx K Z Y) {idx ci i k j : Nat} {fs : List (Option Nat)} (hd : decode Z.1 pc = .ok (.getfield idx, 3)) (hF : FL Z.2.1 idx ci i) (hk : Y.1[k]? = some (.inr (ci, fs))) (hv : fs[i]? = some (some j)) (h : Wp K Z Y Q M (pc + 3) lv (.ref (adr Y j) :: st)) : Wp K Z Y Q M pc lv (.ref (adr Y k) :: st) :=
  w_get C hd hF hk (by simp [fvl, List.getElem?_mapIdx, hv]) h
theorem fvl_len {k : Nat} {fs : List (Option Nat)} : (fvl Y M k fs).length = fs.length := by simp [fvl]
theorem w_put (C : Cx K Z Y) {idx ci i k : Nat} {fs : List (Option Nat)} {ty : FieldType} {x : Int32} (hd : decode Z.1 pc = .ok (.putfield idx, 3)) (hF : FP Z.2.1 idx ci i ty) (hk : Y.1[k]? = some (.inr (ci, fs))) (hv : fs[i]? = some none) (hn : narrow ty (.int x) = .int x) (hfit : fits ty (.int x) = true) (h : Wp K Z Y Q (mset M k i x) (pc + 3) lv st) : Wp K Z Y Q M pc lv (.int x :: .ref (adr Y k) :: st) := by
  intro H locs ls hP hS hl
  obtain ⟨Cn, T, N, ty0, hc, hi, hin, hlk, h1, h2, h3, h4⟩ := hF
  have hD := apt_D C.2.2.2.2.2.2.2.1 (ks K).heap.size M
  have hlen : i < (fvl Y M k fs).length := by rw [fvl_len]; exact (List.getElem?_eq_some_iff.mp hv).1
  rcases hlk with hlk | ⟨host, hlk⟩
  · refine va_put (C := Cn) (T := T) (N := N) C.1 C.2.1 C.2.2.2.2.1 hin ty0 h1 h2 C.2.2.2.1 C.2.2.2.2.2.2.1 hP hD hS k (wsO_at hk) hc i hi (C.2.2.2.2.1 _ hlk) (fun _ h9 => h9) h3 h4 hn hfit hlen hd (fun H1 locs1 hP1 _ hS1 => ?_)
    rw [wsO_fld hk hv] at hP1
    exact h H1 locs1 ls hP1 hS1 hl
  · refine va_putN (C := Cn) (T := T) (N := N) C.1 C.2.1 C.2.2.2.2.1 hin ty0 h1 h2 C.2.2.2.1 C.2.2.2.2.2.2.1 hP hD hS k (wsO_at hk) hc i hi (va_Nw.use rfl (C.2.2.2.2.2.1.1 _ hlk)) (fun _ h9 => h9) h3 h4 hn hfit hlen hd (fun H1 locs1 hP1 _ hS1 => ?_)
    rw [wsO_fld hk hv] at hP1
    exact h H1 locs1 ls hP1 hS1 hl
theorem w_putI (C : Cx K Z Y) {idx ci i k : Nat} {fs : List (Option Nat)} {x : Int32} (hd : decode Z.1 pc = .ok (.putfield idx, 3)) (hF : FP Z.2.1 idx ci i .int) (hk : Y.1[k]? = some (.inr (ci, fs))) (hv : fs[i]? = some none) (h : Wp K Z Y Q (mset M k i x) (pc + 3) lv st) : Wp K Z Y Q M pc lv (.int x :: .ref (adr Y k) :: st) := w_put C hd hF hk hv rfl rfl h
/-- an index in its row -/
def inb (x : Int32) (n : Nat) : Bool := decide (¬ (x < 0 ∨ n ≤ x.toNatClampNeg))
def ald (M : Mm) (k n : Nat) (x : Int32) : Option Int32 := if inb x n = true then some (M k x.toNatClampNeg) else none
def ast (M : Mm) (k n : Nat) (x v : Int32) : Option Mm := if inb x n = true then some (mset M k x.toNatClampNeg v) else none
def sld (l : List Int32) (x : Int32) : Option Int32 := if inb x l.length = true then some (l.getD x.toNatClampNeg 0) else none
theorem inb_in {x : Int32} {n : Nat} (h : inb x n = true) : vp_in x n := of_decide_eq_true (p := ¬ (x < 0 ∨ n ≤ x.toNatClampNeg)) h
theorem ald_some {k n : Nat} {x v : Int32} (h : ald M k n x = some v) : vp_in x n ∧ M k x.toNatClampNeg = v := by
  unfold ald at h
  split at h
  · rename_i hi; exact ⟨inb_in hi, Option.some.inj h⟩
  · cases h
theorem ast_some {k n : Nat} {x v : Int32} {M' : Mm} (h : ast M k n x v = some M') : vp_in x n ∧ mset M k x.toNatClampNeg v = M' := by
  unfold ast at h
  split at h
  · rename_i hi; exact ⟨inb_in hi, Option.some.inj h⟩
  · cases h
theorem sld_some {l : List Int32} {x v : Int32} (h : sld l x = some v) : vp_in x l.length ∧ l.getD x.toNatClampNeg 0 = v := by
  unfold sld at h
  split at h
  · rename_i hi; exact ⟨inb_in hi, Option.some.inj h⟩
  · cases h
theorem w_iald (C : Cx K Z Y) {k n : Nat} {x v : Int32} (hd : decode Z.1 pc = .ok (.iaload, 1)) (hk : Y.1[k]? = some (.inl (.int, n))) (he : ald M k n x = some v) (h : Wp K Z Y Q M (pc + 1) lv (.int v :: st)) : Wp K Z Y Q M pc lv (.int x :: .ref (adr Y k) :: st) := by
  intro H locs ls hP hS hl
  obtain ⟨hi, rfl⟩ := ald_some he
  exact va_iald C.1 C.2.1 C.2.2.2.2.2.2.1 hP k 0 (wsO_at hk) rfl hi hd (h H locs ls hP hS hl)
theorem w_zald (C : Cx K Z Y) {k n : Nat} {x v : Int32} (hd : decode Z.1 pc = .ok (.baload, 1)) (hk : Y.1[k]? = some (.inl (.boolean, n))) (he : ald M k n x = some v) (h : Wp K Z Y Q M (pc + 1) lv (.int v :: st)) : Wp K Z Y Q M pc lv (.int x :: .ref (adr Y k) :: st) := by
  intro H locs ls hP hS hl
  obtain ⟨hi, rfl⟩ := ald_some he
  exact va_zald C.1 C.2.1 C.2.2.2.2.2.2.1 hP k 1 (wsO_at hk) rfl hi hd (h H locs ls hP hS hl)
theorem w_bald (C : Cx K Z Y) {k n : Nat} {x v : Int32} (hd : decode Z.1 pc = .ok (.baload, 1)) (hk : Y.1[k]? = some (.inl (.byte, n))) (he : ald M k n x = some v) (h : Wp K Z Y Q M (pc + 1) lv (.int v :: st)) : Wp K Z Y Q M pc lv (.int x :: .ref (adr Y k) :: st) := by
  intro H locs ls hP hS hl
  obtain ⟨hi, rfl⟩ := ald_some he
  exact va_bald C.1 C.2.1 C.2.2.2.2.2.2.1 hP k 2 (wsO_at hk) rfl hi hd (h H locs ls hP hS hl)
theorem w_iast (C : Cx K Z Y) {k n : Nat} {x v : Int32} {M' : Mm} (hd : decode Z.1 pc = .ok (.iastore, 1)) (hk : Y.1[k]? = some (.inl (.int, n))) (he : ast M k n x v = some M') (h : Wp K Z Y Q M' (pc + 1) lv st) : Wp K Z Y Q M pc lv (.int v :: .int x :: .ref (adr Y k) :: st) := by
  intro H locs ls hP hS hl
  obtain ⟨hi, rfl⟩ := ast_some he
  refine va_iast C.1 C.2.1 C.2.2.2.2.2.2.1 hP (apt_D C.2.2.2.2.2.2.2.1 (ks K).heap.size M) hS k 0 (wsO_at hk) rfl hi hd (fun H1 locs1 hP1 _ hS1 => ?_)
  rw [wsO_arr hk, ← mset_eq] at hP1
  exact h H1 locs1 ls hP1 hS1 hl
theorem w_zast (C : Cx K Z Y) {k n : Nat} {x v : Int32} {M' : Mm} (hd : decode Z.1 pc = .ok (.bastore, 1)) (hk : Y.1[k]? = some (.inl (.boolean, n))) (he : ast M k n x (vp_nar .boolean v) = some M') (h : Wp K Z Y Q M' (pc + 1) lv st) : Wp K Z Y Q M pc lv (.int v :: .int x :: .ref (adr Y k) :: st) := by
  intro H locs ls hP hS hl
  obtain ⟨hi, rfl⟩ := ast_some he
  refine va_zast C.1 C.2.1 C.2.2.2.2.2.2.1 hP (apt_D C.2.2.2.2.2.2.2.1 (ks K).heap.size M) hS k 1 (wsO_at hk) rfl hi hd (fun H1 locs1 hP1 _ hS1 => ?_)
  rw [wsO_arr hk, ← mset_eq] at hP1
  exact h H1 locs1 ls hP1 hS1 hl
theorem w_bast (C : Cx K Z Y) {k n : Nat} {x v : Int32} {M' : Mm} (hd : decode Z.1 pc = .ok (.bastore, 1)) (hk : Y.1[k]? = some (.inl (.byte, n))) (he : ast M k n x (vp_nar .byte v) = some M') (h : Wp K Z Y Q M' (pc + 1) lv st) : Wp K Z Y Q M pc lv (.int v :: .int x :: .ref (adr Y k) :: st) := by
  intro H locs ls hP hS hl
  obtain ⟨hi, rfl⟩ := ast_some he
  refine va_bast C.1 C.2.1 C.2.2.2.2.2.2.1 hP (apt_D C.2.2.2.2.2.2.2.1 (ks K).heap.size M) hS k 2 (wsO_at hk) rfl hi hd (fun H1 locs1 hP1 _ hS1 => ?_)
  rw [wsO_arr hk, ← mset_eq] at hP1
  exact h H1 locs1 ls hP1 hS1 hl
theorem w_alenI (C : Cx K Z Y) {k n : Nat} {v : Int32} (hd : decode Z.1 pc = .ok (.arraylength, 1)) (hk : Y.1[k]? = some (.inl (.int, n))) (hv : Int32.ofNat n = v) (h : Wp K Z Y Q M (pc + 1) lv (.int v :: st)) : Wp K Z Y Q M pc lv (.ref (adr Y k) :: st) :=
  fun H locs ls hP hS hl => va_alen C.1 C.2.1 C.2.2.2.2.2.2.1 hP k 0 (wsO_at hk) rfl hv hd (h H locs ls hP hS hl)
/-- a static array -/
def SL (own : String) (idx i : Nat) : Prop := ∃ (Cn fn : String) (n : Nat) (l : List Int32), stT[i]? = some (Cn, fn, n, l) ∧ (Cond.fieldLink own idx Cn fn "[I" ∈ gw ∨ ∃ host, Cond.fieldLinkNest own idx Cn fn "[I" host ∈ nw)
theorem w_gets (C : Cx K Z Y) {idx i : Nat} (hd : decode Z.1 pc = .ok (.getstatic idx, 3)) (hF : SL Z.2.1 idx i) (h : Wp K Z Y Q M (pc + 3) lv (.ref (sta Y i) :: st)) : Wp K Z Y Q M pc lv st := by
  intro H locs ls hP hS hl
  obtain ⟨Cn, fn, n, l, hi, hlk⟩ := hF
  have hE := (C.2.2.2.2.2.2.2.2.1.1 i _ hi).1
  rcases hlk with hlk | ⟨host, hlk⟩
  · exact va_gets C.1 C.2.1 hE hS C.2.2.2.1 (C.2.2.2.2.1 _ hlk) (fun _ h9 => h9) hd (h H locs ls hP hS hl)
  · exact va_getsN C.1 C.2.1 hE hS C.2.2.2.1 (va_Nw.use rfl (C.2.2.2.2.2.1.1 _ hlk)) (fun _ h9 => h9) hd (h H locs ls hP hS hl)
theorem w_sald (C : Cx K Z Y) {i n : Nat} {Cn fn : String} {l : List Int32} {x v : Int32} (hd : decode Z.1 pc = .ok (.iaload, 1)) (hi : stT[i]? = some (Cn, fn, n, l)) (hn : l.length = n) (he : sld l x = some v) (h : Wp K Z Y Q M (pc + 1) lv (.int v :: st)) : Wp K Z Y Q M pc lv (.int x :: .ref (sta Y i) :: st) := by
  intro H locs ls hP hS hl
  obtain ⟨hx, rfl⟩ := sld_some he
  have hE := (C.2.2.2.2.2.2.2.2.1.1 i _ hi).2
  exact va_ti C.1 C.2.1 hE hS (by rw [← hn]; exact hx) rfl hd (h H locs ls hP hS hl)
end ROWS
end
section
/-! CALLS AND RETURNS of a side's methods, by contract Ct; loops -/
def Qm (K : Pk) (Y : Sx) (r : Option Int32) (M' : Mm) : State → Prop := MQ (kb K) (Qr Y (ks K).heap.size r M') (ka K) (ks K) 0 0 (AA Y (ks K).heap.size)
/-- what the tables say of a method -/
def MY (y : MethodName) (cc : ByteArray) (mL : Nat) (ret : Option FieldType) (n : Nat) : Prop := Cond.code y cc mL ret ∈ gw ∧ Cond.initialized y.cls ∈ gw ∧ (y.cls ≠ "java/lang/invoke/MethodHandle" ∧ y.cls ≠ "java/lang/invoke/VarHandle" ∧ (parseMethodDescriptor y.desc).map (fun d => d.parameters.length) = some n)
def MI (y : MethodName) : Prop := Cond.instanceMethod y ∈ gw ∧ Cond.selects y.cls y y ∈ gw
def ML (own : String) (idx : Nat) (y : MethodName) : Prop := Cond.methodLink own idx y ∈ gw ∨ ∃ host, Cond.methodLinkNest own idx y host ∈ nw
theorem gIn (y : MethodName) (cc : ByteArray) (mL : Nat) (ret : Option FieldType) (h : Cond.code y cc mL ret ∈ gw) : GoodIn gw (Cond.code y cc mL ret :: gw) := fun w hw => by
  rcases List.mem_cons.mp hw with e | e
  · rw [e]; exact ⟨h, good_of_word (gw_good h)⟩
  · exact ⟨e, good_of_word (gw_good e)⟩
theorem AA_mono {Y : Sx} {s1 s2 : Nat} (h : s1 ≤ s2) : ∀ q, AA Y s2 q → AA Y s1 q := fun q hq => hq.elim Or.inl (fun h2 => Or.inr (Nat.le_trans h h2))
section CALLS
variable {K : Pk} {Z : Zx} {Y : Sx} {Q : State → Prop} {M : Mm} {pc : Nat} {lv : List (Nat × Value)} {st : List Value}
theorem pre_blind {av : List Value} {sz : Nat} : FrameBlind (va_Pc av (Pre Y M sz)) := fun a U g mk q => by
  obtain ⟨q0, q1, q2, q3, q4, q5, q6⟩ := q
  have hA : U.vm.Alike (U.calling g mk a).vm := Vm.Alike.refl U.vm
  exact ⟨q0, q1, q2, va_K.moved (u := U) hA q3, Nst.same (u := U) (U := U.calling g mk a) rfl q4, Ext.moved hA q5, q6⟩
theorem pre_of (C : Cx K Z Y) {H : Heap} {locs : List Loc} (hP : va_P Y.2.1 vwCl (wsO Y M) H) (hS : va_S (AA Y (ks K).heap.size) (ks K).heap H locs) {U : State} (hU : U.heap = H) (hW : (ks K).WarmedH U.vm) : Pre Y M H.size U := by
  refine ⟨by rw [hU], by rw [hU]; exact hP, va_K.moved hW.alike C.2.2.2.2.2.2.1, Nst.warm hW C.2.2.2.2.2.1, ?_, C.2.2.2.2.2.2.2.1⟩
  rw [hU]
  exact Ext.moved hW.alike (((C.2.2.2.2.2.2.2.2.1).kept (fun a h1 h2 => hS.2.1 a h1 h2)).narrow (AA_mono hS.1))
/-- behind a call -/
theorem call_end {idx : Nat} {stk rest : List Value} {r : Option Int32} {M' : Mm} {H : Heap} {locs : List Loc} {ls : Array Slot} {a : Array Value} (hl : lv_has ls Z.2.2.1 lv) (hS : va_S (AA Y (ks K).heap.size) (ks K).heap H locs)
    (hr : va_Run (kp K) (kl K) (ke K) (kR K) (ks K) (km K) (ka K) (kb K) (kme K) (kc K) H locs 0 0 0 0 (F0 (km K) pc ls stk) rest (Qr Y H.size r M' a) (AA Y H.size)) (h : Wp K Z Y Q M' (pc + 3) lv ((r.map Value.int).toList ++ rest)) :
    W (kp K) (kl K) (ke K) (kR K) (ks K) (km K) (ka K) (kb K) (kme K) (kc K) H locs 0 0 Q (F0 (km K) pc ls stk) := by
  intro T hT X
  obtain ⟨v, st₀, t, T', L, h0, X', hL, e1, e2, ⟨hv, hP1, hz, hk⟩, go⟩ := hr T hT X
  cases hv
  rw [h0] at hz hk
  have hS1 : va_S (AA Y (ks K).heap.size) (ks K).heap T'.heap (locs ++ L) := by
    refine ⟨Nat.le_trans hS.1 (by rw [e1]; exact hz), fun q h1 h2 => ?_, fun q hq => ?_⟩
    · rw [e1, hk q (Nat.lt_of_lt_of_le h1 hS.1) (fun z => h2 (AA_mono hS.1 q z))]
      exact hS.2.1 q h1 h2
    · rcases List.mem_append.mp hq with h2 | h2
      · exact hS.2.2 q h2
      · exact AA_mono hS.1 _ (hL q h2)
  obtain ⟨t2, a1, b1⟩ := h T'.heap (locs ++ L) ls (by rw [e1]; exact hP1) hS1 hl T' rfl X'
  exact ⟨t2, go t2 a1, b1⟩
theorem rm_le {d d' mL : Nat} (h : Nat.blt d' d = true) (hm : Nat.ble mL 13 = true) : (rmd d').frames + 1 ≤ (rmd d).frames ∧ 8 + (mL + 11) + (rmd d').locals ≤ (rmd d).locals := by
  have h1 : d' < d := Nat.le_of_ble_eq_true h
  have h2 : mL ≤ 13 := Nat.le_of_ble_eq_true hm
  refine ⟨h1, ?_⟩
  show 8 + (mL + 11) + 32 * d' ≤ 32 * d
  omega
theorem w_callV (C : Cx K Z Y) {idx ci k n mL d : Nat} {y : MethodName} {cc : ByteArray} {ret : Option FieldType} {fs : List (Option Nat)} {T : u_T} {N : Nat} {r : Option Int32} {M' : Mm} {stk : List Value} (hd : decode Z.1 pc = .ok (.invokevirtual idx, 3)) (hy : MY y cc mL ret n) (hi : MI y) (hlk : ML Z.2.1 idx y) (hk : Y.1[k]? = some (.inr (ci, fs))) (hci : vwCl[ci]? = some (y.cls, T, N)) (hdd : Nat.blt d Z.2.2.2.1 = true) (hmm : Nat.ble mL 13 = true)
    (As : List Value) (hn : As.length = n) (hst : stk = As.reverse ++ .ref (adr Y k) :: st) (hW : (st.map fun v => v.category).sum ≤ 8) (hc : Ct (kl K) Y y cc mL ret d (.ref (adr Y k) :: As) M r M') (h : Wp K Z Y Q M' (pc + 3) lv ((r.map Value.int).toList ++ st)) : Wp K Z Y Q M pc lv stk := by
  intro H locs ls hP hS hl
  have hR : (kR K) = rmd Z.2.2.2.1 := C.2.2.2.2.2.2.2.2.2.2.1
  have hfix : CallFix (kp K) (km K) (kc K) Z.1 Z.2.2.1 (ks K) (ka K) gw Z.2.1 := ⟨C.1, C.2.1, C.2.2.1, C.2.2.2.1, C.2.2.2.2.1⟩
  have hpre : PreV (ks K) H y.cls (adr Y k) (va_Pc (.ref (adr Y k) :: As) (Pre Y M H.size)) As := ⟨pre_blind, va_recv C.2.2.2.2.2.2.1 hP hci (wsO_at hk), fun U hU hW => ⟨rfl, pre_of C hP hS hU hW⟩⟩
  have hw : (Cond.instanceMethod y).before (ka K) (ks K) = true ∧ (Cond.selects y.cls y y).before (ka K) (ks K) = true := ⟨C.2.2.2.2.1 _ hi.1, C.2.2.2.2.1 _ hi.2⟩
  rcases hlk with hlk | ⟨host, hlk⟩
  · have cw : CallW (kR K) (ks K) (ka K) Z.2.1 y.cls idx y cc mL ret (Cond.code y cc mL ret :: gw) (rmd d) 0 0 n := ⟨callB_of n C.2.2.2.2.1 (gIn y cc mL ret hy.1) rfl rfl rfl (C.2.2.2.2.1 _ hy.2.1) (C.2.2.2.2.1 _ hlk) hy.2.2 (by rw [hR]; exact rm_le hdd hmm), hw.1, hw.2⟩
    exact call_end (idx := idx) hl hS (va_runV (As := As) (rest := st) hfix (hc H.size) cw hpre rfl hn hl.1 hst (lv_room hW) hd ⟨Nat.zero_le _, Nat.zero_le _⟩) h
  · have cw : va_CN (kR K) (ks K) (ka K) Z.2.1 idx y host cc mL ret (Cond.code y cc mL ret :: gw) (rmd d) 0 0 n := va_cnB n C.2.2.2.2.1 (gIn y cc mL ret hy.1) rfl rfl rfl (C.2.2.2.2.2.1.1 _ hlk) (C.2.2.2.2.1 _ hy.2.1) hy.2.2 (by rw [hR]; exact rm_le hdd hmm)
    exact call_end (idx := idx) hl hS (va_runVN (As := As) (rest := st) hfix (hc H.size) ⟨cw, hw.1, hw.2⟩ hpre rfl hn hl.1 hst (lv_room hW) hd ⟨Nat.zero_le _, Nat.zero_le _⟩) h
theorem w_callS (C : Cx K Z Y) {idx n mL d : Nat} {y : MethodName} {cc : ByteArray} {ret : Option FieldType} {r : Option Int32} {M' : Mm} {stk : List Value} (hd : decode Z.1 pc = .ok (.invokestatic idx, 3)) (hy : MY y cc mL ret n) (hi : Cond.static y ∈ gw) (hlk : ML Z.2.1 idx y) (hdd : Nat.blt d Z.2.2.2.1 = true) (hmm : Nat.ble mL 13 = true)
    (As : List Value) (hn : As.length = n) (hst : stk = As.reverse ++ st) (hW : (st.map fun v => v.category).sum ≤ 8) (hc : Ct (kl K) Y y cc mL ret d As M r M') (h : Wp K Z Y Q M' (pc + 3) lv ((r.map Value.int).toList ++ st)) : Wp K Z Y Q M pc lv stk := by
  intro H locs ls hP hS hl
  have hR : (kR K) = rmd Z.2.2.2.1 := C.2.2.2.2.2.2.2.2.2.2.1
  have hfix : CallFix (kp K) (km K) (kc K) Z.1 Z.2.2.1 (ks K) (ka K) gw Z.2.1 := ⟨C.1, C.2.1, C.2.2.1, C.2.2.2.1, C.2.2.2.2.1⟩
  have hpre : PreS (ks K) H (va_Pc As (Pre Y M H.size)) As := ⟨pre_blind, fun U hU hW => ⟨rfl, pre_of C hP hS hU hW⟩⟩
  have hw : (Cond.static y).before (ka K) (ks K) = true := C.2.2.2.2.1 _ hi
  rcases hlk with hlk | ⟨host, hlk⟩
  · have cw : CallB (kR K) (ks K) (ka K) Z.2.1 idx y cc mL ret (Cond.code y cc mL ret :: gw) (rmd d) 0 0 n ∧ (Cond.static y).before (ka K) (ks K) = true := ⟨callB_of n C.2.2.2.2.1 (gIn y cc mL ret hy.1) rfl rfl rfl (C.2.2.2.2.1 _ hy.2.1) (C.2.2.2.2.1 _ hlk) hy.2.2 (by rw [hR]; exact rm_le hdd hmm), hw⟩
    exact call_end (idx := idx) hl hS (va_runS (As := As) (rest := st) hfix (hc H.size) cw hpre rfl hn hl.1 hst (lv_room hW) hd ⟨Nat.zero_le _, Nat.zero_le _⟩) h
  · have cw : va_CN (kR K) (ks K) (ka K) Z.2.1 idx y host cc mL ret (Cond.code y cc mL ret :: gw) (rmd d) 0 0 n := va_cnB n C.2.2.2.2.1 (gIn y cc mL ret hy.1) rfl rfl rfl (C.2.2.2.2.2.1.1 _ hlk) (C.2.2.2.2.1 _ hy.2.1) hy.2.2 (by rw [hR]; exact rm_le hdd hmm)
    exact call_end (idx := idx) hl hS (va_runSN (As := As) (rest := st) hfix (hc H.size) ⟨cw, hw, trivial⟩ hpre rfl hn hl.1 hst (lv_room hW) hd ⟨Nat.zero_le _, Nat.zero_le _⟩) h
/-- Math.max, Math.abs -/
def mmax (x y : Int32) : Int32 := if x < y then y else x
def mabs (x : Int32) : Int32 := if 0 ≤ x then x else 0 - x
def MX (own : String) (idx : Nat) : Prop := Cond.methodLink own idx Lib.Math.max.name ∈ gw ∧ Cond.static Lib.Math.max.name ∈ gw ∧ Cond.initialized "java/lang/Math" ∈ gw ∧ Cond.code Lib.Math.max.name Lib.Math.max.code 2 (some .int) ∈ gw
def MA (own : String) (idx : Nat) : Prop := Cond.methodLink own idx Lib.Math.abs.name ∈ gw ∧ Cond.static Lib.Math.abs.name ∈ gw ∧ Cond.initialized "java/lang/Math" ∈ gw ∧ Cond.code Lib.Math.abs.name Lib.Math.abs.code 1 (some .int) ∈ gw
theorem w_max (C : Cx K Z Y) {idx : Nat} {x y : Int32} (hd : decode Z.1 pc = .ok (.invokestatic idx, 3)) (hm : MX Z.2.1 idx) (hdd : Nat.blt 0 Z.2.2.2.1 = true) (hW : (st.map fun v => v.category).sum ≤ 8) (h : Wp K Z Y Q M (pc + 3) lv (.int (mmax x y) :: st)) : Wp K Z Y Q M pc lv (.int y :: .int x :: st) := by
  intro H locs ls hP hS hl
  have hR : (kR K) = rmd Z.2.2.2.1 := C.2.2.2.2.2.2.2.2.2.2.1
  have h0 : 0 < Z.2.2.2.1 := Nat.le_of_ble_eq_true hdd
  refine va_mmax C.1 C.2.1 (by rw [hl.1]; exact C.2.2.1) C.2.2.2.1 (C.2.2.2.2.1 _ hm.1) (C.2.2.2.2.1 _ hm.2.1) (C.2.2.2.2.1 _ hm.2.2.1) (C.2.2.2.2.1 _ hm.2.2.2) ?_ ?_ (Nat.zero_le _) (Nat.zero_le _) hd (h H locs ls hP hS hl)
  · rw [hR]; exact h0
  · rw [hR]
    show _ + 13 ≤ 32 * _
    omega
theorem w_abs (C : Cx K Z Y) {idx : Nat} {x : Int32} (hd : decode Z.1 pc = .ok (.invokestatic idx, 3)) (hm : MA Z.2.1 idx) (hdd : Nat.blt 0 Z.2.2.2.1 = true) (hW : (st.map fun v => v.category).sum ≤ 8) (h : Wp K Z Y Q M (pc + 3) lv (.int (mabs x) :: st)) : Wp K Z Y Q M pc lv (.int x :: st) := by
  intro H locs ls hP hS hl
  have hR : (kR K) = rmd Z.2.2.2.1 := C.2.2.2.2.2.2.2.2.2.2.1
  have h0 : 0 < Z.2.2.2.1 := Nat.le_of_ble_eq_true hdd
  refine va_mabs C.1 C.2.1 (by rw [hl.1]; exact C.2.2.1) C.2.2.2.1 (C.2.2.2.2.1 _ hm.1) (C.2.2.2.2.1 _ hm.2.1) (C.2.2.2.2.1 _ hm.2.2.1) (C.2.2.2.2.1 _ hm.2.2.2) ?_ ?_ (Nat.zero_le _) (Nat.zero_le _) hd (h H locs ls hP hS hl)
  · rw [hR]; exact h0
  · rw [hR]
    show _ + 13 ≤ 32 * _
    omega
/-- System.arraycopy(a, 0, b, 0, n) over whole int rows of n -/
def MC (own : String) (idx : Nat) : Prop := Cond.methodLink own idx arraycopyName ∈ gw ∧ Cond.native arraycopyName ∈ gw ∧ Cond.static arraycopyName ∈ gw ∧ Cond.initialized "java/lang/System" ∈ gw
theorem w_copy (C : Cx K Z Y) {idx k0 k1 n : Nat} {v : Int32} (hd : decode Z.1 pc = .ok (.invokestatic idx, 3)) (hm : MC Z.2.1 idx) (hdd : Nat.blt 0 Z.2.2.2.1 = true) (hW : (st.map fun v => v.category).sum ≤ 8) (h0 : Y.1[k0]? = some (.inl (.int, n))) (h1 : Y.1[k1]? = some (.inl (.int, n))) (hv : v = nI n) (hnn : Nat.blt n 1000 = true) (h : Wp K Z Y Q (mrow M k1 (va_cpy (M k0) (M k1) 0 0 n)) (pc + 3) lv st) : Wp K Z Y Q M pc lv (.int v :: .int 0 :: .ref (adr Y k1) :: .int 0 :: .ref (adr Y k0) :: st) := by
  intro H locs ls hP hS hl
  have hR : (kR K) = rmd Z.2.2.2.1 := C.2.2.2.2.2.2.2.2.2.2.1
  have hz : 0 < Z.2.2.2.1 := Nat.le_of_ble_eq_true hdd
  have hn : n < 2 ^ 31 := Nat.lt_trans (Nat.le_of_ble_eq_true hnn) (by decide)
  have ec : (nI n).toNatClampNeg = n := nI_clamp hn
  subst hv
  refine va_copyi (D := Y.2.1) (cl := vwCl) (ty := .int) C.1 C.2.1 (by rw [hl.1]; exact C.2.2.1) C.2.2.2.1 (C.2.2.2.2.1 _ hm.1) (C.2.2.2.2.1 _ hm.2.1) (C.2.2.2.2.1 _ hm.2.2.1) (C.2.2.2.2.1 _ hm.2.2.2) C.2.2.2.2.2.2.1 hP (apt_D C.2.2.2.2.2.2.2.1 (ks K).heap.size M) hS k0 k1 0 0 (wsO_at h0) (wsO_at h1) rfl rfl rfl (by decide) (by decide) (nI_pos hn) (by rw [ec]; show (0 : Int32).toNatClampNeg + n ≤ n; rw [sb_cl0]; omega) (by rw [ec]; show (0 : Int32).toNatClampNeg + n ≤ n; rw [sb_cl0]; omega) (fun i _ => rfl) ?_ ?_ hd (fun H1 locs1 hP1 _ hS1 => ?_)
  · rw [hR]; exact hz
  · rw [hR]
    have : nativeFrameWords "java/lang/System" "arraycopy" 5 + 11 ≤ 24 := by decide +kernel
    show _ + (_ + 11) ≤ 32 * _
    omega
  · rw [ec, sb_cl0, wsO_arr h1] at hP1
    exact h H1 locs1 ls hP1 hS1 hl
/-- returns -/
theorem w_iret (C : Cx K Z Y) {v : Int32} {q : Int32 × Mm} (hd : decode Z.1 pc = .ok (.ireturn, 1)) (hr : Z.2.2.2.2 = some .int) (h : some (v, M) = some q) : Wp K Z Y (Qm K Y (some q.1) q.2) M pc lv [.int v] := by
  intro H locs ls hP hS hl
  obtain rfl := Option.some.inj h
  exact W.iret (Qc := Qr Y (ks K).heap.size (some v) M) C.1 C.2.1 (by rw [C.2.2.2.2.2.2.2.2.2.2.2]; exact hr) (fun t ht _ => ⟨rfl, by rw [ht]; exact hP, hS.F ht⟩) hS.2.2 hd C.2.2.2.2.2.2.2.2.2.1
theorem w_zret (C : Cx K Z Y) {v : Int32} {q : Int32 × Mm} (hd : decode Z.1 pc = .ok (.ireturn, 1)) (hr : Z.2.2.2.2 = some .boolean) (hz : v &&& 1 = v) (h : some (v, M) = some q) : Wp K Z Y (Qm K Y (some q.1) q.2) M pc lv [.int v] := by
  intro H locs ls hP hS hl
  obtain rfl := Option.some.inj h
  exact W.zret (Qc := Qr Y (ks K).heap.size (some v) M) C.1 C.2.1 (by rw [C.2.2.2.2.2.2.2.2.2.2.2]; exact hr) (by show Value.int (v &&& 1) = _; rw [hz]) (fun t ht _ => ⟨rfl, by rw [ht]; exact hP, hS.F ht⟩) hS.2.2 hd C.2.2.2.2.2.2.2.2.2.1
theorem w_iretR (C : Cx K Z Y) {v q : Int32} (hd : decode Z.1 pc = .ok (.ireturn, 1)) (hr : Z.2.2.2.2 = some .int) (h : some v = some q) : Wp K Z Y (Qm K Y (some q) M) M pc lv [.int v] := w_iret (q := (q, M)) C hd hr (by rw [Option.some.inj h])
theorem w_zretR (C : Cx K Z Y) {v q : Int32} (hd : decode Z.1 pc = .ok (.ireturn, 1)) (hr : Z.2.2.2.2 = some .boolean) (hz : v &&& 1 = v) (h : some v = some q) : Wp K Z Y (Qm K Y (some q) M) M pc lv [.int v] := w_zret (q := (q, M)) C hd hr hz (by rw [Option.some.inj h])
theorem w_vret (C : Cx K Z Y) {q : Mm} (hd : decode Z.1 pc = .ok (.return_, 1)) (hr : Z.2.2.2.2 = none) (h : some M = some q) : Wp K Z Y (Qm K Y none q) M pc lv [] := by
  intro H locs ls hP hS hl
  obtain rfl := Option.some.inj h
  exact W.vret (Qc := Qr Y (ks K).heap.size none M) C.1 C.2.1 (by rw [C.2.2.2.2.2.2.2.2.2.2.2]; exact hr) (fun t ht _ => ⟨rfl, by rw [ht]; exact hP, hS.F ht⟩) hS.2.2 hd C.2.2.2.2.2.2.2.2.2.1
end CALLS
theorem Ct.of {l : Launch} {Y : Sx} {y : MethodName} {cc : ByteArray} {mL d : Nat} {ret : Option FieldType} {av : List Value} {lv : List (Nat × Value)} {M M' : Mm} {r : Option Int32} (hy : plainName y.cls = true) (hlen : Nat.ble (lg_sl av).length mL = true) (hlv : lv_args 0 av = lv) (body : ∀ K : Pk, kl K = l → Cx K (cc, y.cls, mL, d, ret) Y → Wp K (cc, y.cls, mL, d, ret) Y (Qm K Y r M') M 0 lv []) : Ct l Y y cc mL ret d av M r M' := by
  intro sz
  refine Met.ofW (cc := cc) (maxL := mL) (ret := ret) hy rfl ?_
  intro p e s m args below meth c s₁ B hml hv
  obtain ⟨rfl, hsz, hP, hK, hN, hE, hap⟩ := hv
  subst hsz
  have hts := atoms_spec (ws := Cond.code y cc mL ret :: gw) B.pre
  have hown : s.vm.findClass y.cls = some m.cls := findClass_of_methodNamed B.named
  have C : Cx (p, l, e, rmd d, s, m, av.toArray, below, meth, c) (cc, y.cls, mL, d, ret) Y := ⟨B.exec, B.bytes, hml, hown, fun w hw => hts w (List.mem_cons_of_mem _ hw), hN, hK, hap, hE, B.notSynchronized, rfl, B.returns⟩
  have hl := lv_entry av (n := mL) (Nat.le_of_ble_eq_true hlen)
  rw [lg_entry_eq]
  rw [hlv] at hl
  exact body (p, l, e, rmd d, s, m, av.toArray, below, meth, c) rfl C s.heap [] _ hP va_S.rf hl
/-- a loop: from head to head (inl), or out (inr) -/
def itr {σ ρ : Type} (step : σ → Option (σ ⊕ ρ)) : Nat → σ → Option ρ
  | 0, _ => none
  | n + 1, s => match step s with
    | none => none
    | some (.inl s') => itr step n s'
    | some (.inr r) => some r
theorem itr_W {σ ρ : Type} {step : σ → Option (σ ⊕ ρ)} (P : σ → Prop) (R : ρ → Prop) (hb : ∀ s r, step s = some r → (∀ s', r = .inl s' → P s') → (∀ x, r = .inr x → R x) → P s) : ∀ (n : Nat) (s : σ) (x : ρ), itr step n s = some x → R x → P s
  | 0, s, x, h, _ => by cases h
  | n + 1, s, x, h, hR => by
    rw [itr] at h
    cases hs : step s with
    | none => rw [hs] at h; cases h
    | some q =>
      rw [hs] at h
      cases q with
      | inl s' => exact hb s _ hs (fun s2 e => by cases e; exact itr_W P R hb n s' x h hR) (fun y e => by cases e)
      | inr r => exact hb s _ hs (fun s2 e => by cases e) (fun y e => by cases e; cases h; exact hR)
theorem ob {α β : Type} {o : Option α} {f : α → Option β} {q : β} (h : o.bind f = some q) : ∃ a, o = some a ∧ f a = some q := Option.bind_eq_some_iff.mp h
def bnd {α β : Type} (e : α) (f : α → β) : β := f e
theorem it_t {α : Type} {c : Prop} [Decidable c] {x y z : α} (h : (if c then x else y) = z) (hc : c) : x = z := by rw [if_pos hc] at h; exact h
theorem it_f {α : Type} {c : Prop} [Decidable c] {x y z : α} (h : (if c then x else y) = z) (hc : ¬ c) : y = z := by rw [if_neg hc] at h; exact h
theorem w_bnd {K : Pk} {Z : Zx} {Y : Sx} {Q : State → Prop} {M : Mm} {pc : Nat} {lv : List (Nat × Value)} {st : List Value} {β : Type} {e : Int32} {f : Int32 → β} {q : β} (h : bnd e f = q) (kk : ∀ x, f x = q → Wp K Z Y Q M pc lv (.int x :: st)) : Wp K Z Y Q M pc lv (.int e :: st) := kk e h
/-- a boolean that was computed -/
def zb (v : Int32) : Option Int32 := if v &&& 1 = v then some v else none
theorem zb_some {v r : Int32} (h : zb v = some r) : v &&& 1 = v ∧ v = r := by
  unfold zb at h
  split at h
  · rename_i hi; exact ⟨hi, Option.some.inj h⟩
  · cases h
theorem bn {α β : Type} {e : α} {f : α → β} {q : β} (h : bnd e f = q) : ∃ x, e = x ∧ f x = q := ⟨e, rfl, h⟩
section RETS
variable {K : Pk} {Z : Zx} {Y : Sx} {Q : State → Prop} {M : Mm} {pc : Nat} {lv : List (Nat × Value)} {st : List Value}
theorem w_ret (C : Cx K Z Y) {v : Int32} {q : Int32 × Mm} (hd : decode Z.1 pc = .ok (.ireturn, 1)) (hr : Z.2.2.2.2 = some .int) (h : (v, M) = q) : Wp K Z Y (Qm K Y (some q.1) q.2) M pc lv [.int v] := w_iret C hd hr (by rw [h])
theorem w_retR (C : Cx K Z Y) {v q : Int32} (hd : decode Z.1 pc = .ok (.ireturn, 1)) (hr : Z.2.2.2.2 = some .int) (h : v = q) : Wp K Z Y (Qm K Y (some q) M) M pc lv [.int v] := w_iretR C hd hr (by rw [h])
theorem w_retV (C : Cx K Z Y) {q : Mm} (hd : decode Z.1 pc = .ok (.return_, 1)) (hr : Z.2.2.2.2 = none) (h : M = q) : Wp K Z Y (Qm K Y none q) M pc lv [] := w_vret C hd hr (by rw [h])
/-- a boolean is cut to its last bit -/
theorem w_retZ (C : Cx K Z Y) {v : Int32} {q : Int32 × Mm} (hd : decode Z.1 pc = .ok (.ireturn, 1)) (hr : Z.2.2.2.2 = some .boolean) (h : (v &&& 1, M) = q) : Wp K Z Y (Qm K Y (some q.1) q.2) M pc lv [.int v] := by
  intro H locs ls hP hS hl T hT X
  subst h
  have hrt : (kme K).sig.returnType = some .boolean := by rw [C.2.2.2.2.2.2.2.2.2.2.2]; exact hr
  have hlocks : (kme K).locks = false := C.2.2.2.2.2.2.2.2.2.1
  have hx := C.1
  have hb := C.2.1
  obtain ⟨fs, hret, hrun, hended, hW, hframe⟩ := X.leave (v := some (.int (v &&& 1))) (hlocks := hlocks) (fun h => by rw [hrt] at h; cases h)
  have hmeth' : T.vm.method? (km K) = some (kme K) := X.method'
  refine ⟨T.setFrames fs, ?_, .returned (some (.int (v &&& 1))), hrun, hended, ⟨rfl, by show va_P _ _ _ T.heap; rw [hT]; exact hP, hS.F hT⟩, locs, ⟨⟨_, rfl⟩, hW, hframe⟩, hS.2.2⟩
  jvm_step X.here [X.here.top, hx, hb, hd, hmeth', hrt, narrow]
  (try refine ⟨rfl, ?_⟩); (try refine ⟨rfl, ?_⟩)
  first | (intro acts; rw [hret _ acts rfl rfl rfl]) | rw [hret _ _ rfl rfl rfl]
  exact Steps.refl _
theorem w_retZR (C : Cx K Z Y) {v q : Int32} (hd : decode Z.1 pc = .ok (.ireturn, 1)) (hr : Z.2.2.2.2 = some .boolean) (h : v &&& 1 = q) : Wp K Z Y (Qm K Y (some q) M) M pc lv [.int v] := w_retZ (q := (q, M)) C hd hr (by rw [h])
theorem w_retz (C : Cx K Z Y) {v : Int32} {q : Int32 × Mm} (hd : decode Z.1 pc = .ok (.ireturn, 1)) (hr : Z.2.2.2.2 = some .boolean) (hz : v &&& 1 = v) (h : (v, M) = q) : Wp K Z Y (Qm K Y (some q.1) q.2) M pc lv [.int v] := w_retZ C hd hr (by rw [hz]; exact h)
theorem w_retzR (C : Cx K Z Y) {v q : Int32} (hd : decode Z.1 pc = .ok (.ireturn, 1)) (hr : Z.2.2.2.2 = some .boolean) (hz : v &&& 1 = v) (h : v = q) : Wp K Z Y (Qm K Y (some q) M) M pc lv [.int v] := w_retz (q := (q, M)) C hd hr hz (by rw [h])
theorem w_putZ (C : Cx K Z Y) {idx ci i k : Nat} {fs : List (Option Nat)} {x : Int32} (hd : decode Z.1 pc = .ok (.putfield idx, 3)) (hF : FP Z.2.1 idx ci i .boolean) (hk : Y.1[k]? = some (.inr (ci, fs))) (hv : fs[i]? = some none) (hx : x = 0 ∨ x = 1) (h : Wp K Z Y Q (mset M k i x) (pc + 3) lv st) : Wp K Z Y Q M pc lv (.int x :: .ref (adr Y k) :: st) := by
  rcases hx with rfl | rfl
  · exact w_put C hd hF hk hv rfl rfl h
  · exact w_put C hd hF hk hv rfl rfl h
theorem w_ldcw (C : Cx K Z Y) {idx : Nat} {v : Int32} (hd : decode Z.1 pc = .ok (.ldc_w idx, 3)) (hc : Cond.constant Z.2.1 idx v ∈ gw) (h : Wp K Z Y Q M (pc + 3) lv (.int v :: st)) : Wp K Z Y Q M pc lv st := by
  intro H locs ls hP hS hl
  exact lv_ldcw C.1 C.2.1 C.2.2.2.1 (C.2.2.2.2.1 _ hc) hd (h H locs ls hP hS hl)
theorem w_ldcS (C : Cx K Z Y) {idx i : Nat} {tx : String} (hd : decode Z.1 pc = .ok (.ldc idx, 2)) (ho : Z.2.1 = "TruckWing$Teller") (hi : skT[i]? = some (idx, tx)) (h : Wp K Z Y Q M (pc + 2) lv (.ref (ska Y i) :: st)) : Wp K Z Y Q M pc lv st :=
  fun H locs ls hP hS hl => va_ldcS C.1 C.2.1 C.2.2.2.1 (by rw [ho]; exact C.2.2.2.2.2.1.2 i _ hi) hd (h H locs ls hP hS hl)
end RETS
section CWR
variable {K : Pk} {Z : Zx} {Y : Sx} {Q : State → Prop} {M : Mm} {pc : Nat} {lv : List (Nat × Value)} {st : List Value}
theorem w_cVi (C : Cx K Z Y) {idx ci k n mL d : Nat} {y : MethodName} {cc : ByteArray} {ret : Option FieldType} {fs : List (Option Nat)} {T : u_T} {N : Nat} {v : Int32} {M' : Mm} {stk : List Value} (hd : decode Z.1 pc = .ok (.invokevirtual idx, 3)) (hy : MY y cc mL ret n) (hi : MI y) (hlk : ML Z.2.1 idx y) (hk : Y.1[k]? = some (.inr (ci, fs))) (hci : vwCl[ci]? = some (y.cls, T, N)) (hdd : Nat.blt d Z.2.2.2.1 = true) (hmm : Nat.ble mL 13 = true)
    (As : List Value) (hn : As.length = n) (hst : stk = As.reverse ++ .ref (adr Y k) :: st) (hW : (st.map fun v => v.category).sum ≤ 8) (hc : Ct (kl K) Y y cc mL ret d (.ref (adr Y k) :: As) M (some v) M') (h : Wp K Z Y Q M' (pc + 3) lv (.int v :: st)) : Wp K Z Y Q M pc lv stk := w_callV C hd hy hi hlk hk hci hdd hmm As hn hst hW hc h
theorem w_cVv (C : Cx K Z Y) {idx ci k n mL d : Nat} {y : MethodName} {cc : ByteArray} {ret : Option FieldType} {fs : List (Option Nat)} {T : u_T} {N : Nat} {M' : Mm} {stk : List Value} (hd : decode Z.1 pc = .ok (.invokevirtual idx, 3)) (hy : MY y cc mL ret n) (hi : MI y) (hlk : ML Z.2.1 idx y) (hk : Y.1[k]? = some (.inr (ci, fs))) (hci : vwCl[ci]? = some (y.cls, T, N)) (hdd : Nat.blt d Z.2.2.2.1 = true) (hmm : Nat.ble mL 13 = true)
    (As : List Value) (hn : As.length = n) (hst : stk = As.reverse ++ .ref (adr Y k) :: st) (hW : (st.map fun v => v.category).sum ≤ 8) (hc : Ct (kl K) Y y cc mL ret d (.ref (adr Y k) :: As) M none M') (h : Wp K Z Y Q M' (pc + 3) lv st) : Wp K Z Y Q M pc lv stk := w_callV C hd hy hi hlk hk hci hdd hmm As hn hst hW hc h
theorem w_cSi (C : Cx K Z Y) {idx n mL d : Nat} {y : MethodName} {cc : ByteArray} {ret : Option FieldType} {v : Int32} {M' : Mm} {stk : List Value} (hd : decode Z.1 pc = .ok (.invokestatic idx, 3)) (hy : MY y cc mL ret n) (hi : Cond.static y ∈ gw) (hlk : ML Z.2.1 idx y) (hdd : Nat.blt d Z.2.2.2.1 = true) (hmm : Nat.ble mL 13 = true)
    (As : List Value) (hn : As.length = n) (hst : stk = As.reverse ++ st) (hW : (st.map fun v => v.category).sum ≤ 8) (hc : Ct (kl K) Y y cc mL ret d As M (some v) M') (h : Wp K Z Y Q M' (pc + 3) lv (.int v :: st)) : Wp K Z Y Q M pc lv stk := w_callS C hd hy hi hlk hdd hmm As hn hst hW hc h
end CWR
def fuel : Nat := 6000
theorem gw_sub (ws : List Cond) (ps : List Nat) (hp : ws = ps.filterMap (fun i => tables_1[i]?)) (hg : ws.all goodWord = true) : ∀ w ∈ ws, w ∈ gw := by
  intro w hw
  have h1 := List.all_eq_true.mp hg w hw
  rw [hp] at hw
  obtain ⟨i, -, hi⟩ := List.mem_filterMap.mp hw
  exact gw_mem (tb_mem i hi) h1
def isLand (Y : Sx) (b : Nat) : Prop := Y.1[b]? = some (.inr (3, [none, some (b + 1), some (b + 2)])) ∧ Y.1[b + 1]? = some (.inl (.int, 45)) ∧ Y.1[b + 2]? = some (.inl (.int, 10))
def isPlan (Y : Sx) (b : Nat) : Prop := Y.1[b]? = some (.inr (4, [none, none, some (b + 1), some (b + 2)])) ∧ Y.1[b + 1]? = some (.inl (.int, 8)) ∧ Y.1[b + 2]? = some (.inl (.int, 32))
def isFound (Y : Sx) (b : Nat) : Prop := Y.1[b]? = some (.inr (2, [none, none, none]))
def zo (v : Int32) : Option Int32 := if v = 0 ∨ v = 1 then some v else none
theorem zo_some {v x : Int32} (h : zo v = some x) : (v = 0 ∨ v = 1) ∧ v = x := by
  unfold zo at h
  split at h
  · rename_i hi; exact ⟨hi, Option.some.inj h⟩
  · cases h
/-- charAt of a constant text -/
def sca (w : Nat) (x : Int32) : Option Int32 := if inb x (skL.getD w 0) = true then some ((skB.getD w []).getD x.toNatClampNeg 0) else none
end
section
def shA : List Sd := [.inr (8, [some 1, some 4, some 7, some 17, some 29, some 31, some 39, some 40]), .inr (3, [none, some 2, some 3]), .inl (.int, 45), .inl (.int, 10), .inr (4, [none, none, some 5, some 6]), .inl (.int, 8), .inl (.int, 32), .inr (0, [some 1, some 4, some 8, none, some 10, some 11, some 12, some 13, some 14, some 15, some 16]), .inr (1, [none, some 9]), .inl (.int, 26), .inl (.int, 10), .inl (.int, 10), .inl (.int, 10), .inl (.int, 10), .inl (.int, 8), .inl (.int, 8), .inl (.int, 8), .inr (5, [some 1, none, none, none, none, none, none, some 18, some 19, some 20, some 21, some 22, some 23, some 24, some 25, some 26, some 27, some 28]), .inl (.int, 81), .inl (.int, 81), .inl (.int, 9), .inl (.boolean, 9), .inl (.int, 10), .inl (.int, 10), .inl (.int, 10), .inl (.int, 10), .inl (.int, 10), .inl (.int, 10), .inl (.int, 10), .inr (6, [none, some 30]), .inl (.int, 300), .inr (7, [some 29, some 32, some 35, some 38, none, none, none, none, none, none]), .inr (3, [none, some 33, some 34]), .inl (.int, 45), .inl (.int, 10), .inr (4, [none, none, some 36, some 37]), .inl (.int, 8), .inl (.int, 32), .inl (.int, 8), .inr (2, [none, none, none]), .inr (2, [none, none, none])]
def isA (Y : Sx) : Prop := Y.1 = shA
theorem sA_0 {Y : Sx} (h : isA Y) : Y.1[0]? = some (.inr (8, [some 1, some 4, some 7, some 17, some 29, some 31, some 39, some 40])) := by rw [h]; rfl
theorem sA_1 {Y : Sx} (h : isA Y) : Y.1[1]? = some (.inr (3, [none, some 2, some 3])) := by rw [h]; rfl
theorem sA_2 {Y : Sx} (h : isA Y) : Y.1[2]? = some (.inl (.int, 45)) := by rw [h]; rfl
theorem sA_3 {Y : Sx} (h : isA Y) : Y.1[3]? = some (.inl (.int, 10)) := by rw [h]; rfl
theorem sA_4 {Y : Sx} (h : isA Y) : Y.1[4]? = some (.inr (4, [none, none, some 5, some 6])) := by rw [h]; rfl
theorem sA_5 {Y : Sx} (h : isA Y) : Y.1[5]? = some (.inl (.int, 8)) := by rw [h]; rfl
theorem sA_6 {Y : Sx} (h : isA Y) : Y.1[6]? = some (.inl (.int, 32)) := by rw [h]; rfl
theorem sA_7 {Y : Sx} (h : isA Y) : Y.1[7]? = some (.inr (0, [some 1, some 4, some 8, none, some 10, some 11, some 12, some 13, some 14, some 15, some 16])) := by rw [h]; rfl
theorem sA_8 {Y : Sx} (h : isA Y) : Y.1[8]? = some (.inr (1, [none, some 9])) := by rw [h]; rfl
theorem sA_9 {Y : Sx} (h : isA Y) : Y.1[9]? = some (.inl (.int, 26)) := by rw [h]; rfl
theorem sA_10 {Y : Sx} (h : isA Y) : Y.1[10]? = some (.inl (.int, 10)) := by rw [h]; rfl
theorem sA_11 {Y : Sx} (h : isA Y) : Y.1[11]? = some (.inl (.int, 10)) := by rw [h]; rfl
theorem sA_12 {Y : Sx} (h : isA Y) : Y.1[12]? = some (.inl (.int, 10)) := by rw [h]; rfl
theorem sA_13 {Y : Sx} (h : isA Y) : Y.1[13]? = some (.inl (.int, 10)) := by rw [h]; rfl
theorem sA_14 {Y : Sx} (h : isA Y) : Y.1[14]? = some (.inl (.int, 8)) := by rw [h]; rfl
theorem sA_15 {Y : Sx} (h : isA Y) : Y.1[15]? = some (.inl (.int, 8)) := by rw [h]; rfl
theorem sA_16 {Y : Sx} (h : isA Y) : Y.1[16]? = some (.inl (.int, 8)) := by rw [h]; rfl
theorem sA_17 {Y : Sx} (h : isA Y) : Y.1[17]? = some (.inr (5, [some 1, none, none, none, none, none, none, some 18, some 19, some 20, some 21, some 22, some 23, some 24, some 25, some 26, some 27, some 28])) := by rw [h]; rfl
theorem sA_18 {Y : Sx} (h : isA Y) : Y.1[18]? = some (.inl (.int, 81)) := by rw [h]; rfl
theorem sA_19 {Y : Sx} (h : isA Y) : Y.1[19]? = some (.inl (.int, 81)) := by rw [h]; rfl
theorem sA_20 {Y : Sx} (h : isA Y) : Y.1[20]? = some (.inl (.int, 9)) := by rw [h]; rfl
theorem sA_21 {Y : Sx} (h : isA Y) : Y.1[21]? = some (.inl (.boolean, 9)) := by rw [h]; rfl
theorem sA_22 {Y : Sx} (h : isA Y) : Y.1[22]? = some (.inl (.int, 10)) := by rw [h]; rfl
theorem sA_23 {Y : Sx} (h : isA Y) : Y.1[23]? = some (.inl (.int, 10)) := by rw [h]; rfl
theorem sA_24 {Y : Sx} (h : isA Y) : Y.1[24]? = some (.inl (.int, 10)) := by rw [h]; rfl
theorem sA_25 {Y : Sx} (h : isA Y) : Y.1[25]? = some (.inl (.int, 10)) := by rw [h]; rfl
theorem sA_26 {Y : Sx} (h : isA Y) : Y.1[26]? = some (.inl (.int, 10)) := by rw [h]; rfl
theorem sA_27 {Y : Sx} (h : isA Y) : Y.1[27]? = some (.inl (.int, 10)) := by rw [h]; rfl
theorem sA_28 {Y : Sx} (h : isA Y) : Y.1[28]? = some (.inl (.int, 10)) := by rw [h]; rfl
theorem sA_29 {Y : Sx} (h : isA Y) : Y.1[29]? = some (.inr (6, [none, some 30])) := by rw [h]; rfl
theorem sA_30 {Y : Sx} (h : isA Y) : Y.1[30]? = some (.inl (.int, 300)) := by rw [h]; rfl
theorem sA_31 {Y : Sx} (h : isA Y) : Y.1[31]? = some (.inr (7, [some 29, some 32, some 35, some 38, none, none, none, none, none, none])) := by rw [h]; rfl
theorem sA_32 {Y : Sx} (h : isA Y) : Y.1[32]? = some (.inr (3, [none, some 33, some 34])) := by rw [h]; rfl
theorem sA_33 {Y : Sx} (h : isA Y) : Y.1[33]? = some (.inl (.int, 45)) := by rw [h]; rfl
theorem sA_34 {Y : Sx} (h : isA Y) : Y.1[34]? = some (.inl (.int, 10)) := by rw [h]; rfl
theorem sA_35 {Y : Sx} (h : isA Y) : Y.1[35]? = some (.inr (4, [none, none, some 36, some 37])) := by rw [h]; rfl
theorem sA_36 {Y : Sx} (h : isA Y) : Y.1[36]? = some (.inl (.int, 8)) := by rw [h]; rfl
theorem sA_37 {Y : Sx} (h : isA Y) : Y.1[37]? = some (.inl (.int, 32)) := by rw [h]; rfl
theorem sA_38 {Y : Sx} (h : isA Y) : Y.1[38]? = some (.inl (.int, 8)) := by rw [h]; rfl
theorem sA_39 {Y : Sx} (h : isA Y) : Y.1[39]? = some (.inr (2, [none, none, none])) := by rw [h]; rfl
theorem sA_40 {Y : Sx} (h : isA Y) : Y.1[40]? = some (.inr (2, [none, none, none])) := by rw [h]; rfl
def shB : List Sd := [.inr (9, [none, some 1, some 2, some 3, none, none, none, none, none, some 4, some 5, some 6, some 7, some 8, some 9, some 10, some 11, some 12, none, some 13, some 14, some 15, some 16, some 17, some 18, none, none]), .inl (.int, 160), .inl (.int, 160), .inl (.byte, 300), .inl (.int, 10), .inl (.int, 10), .inl (.int, 10), .inl (.int, 10), .inl (.int, 8), .inl (.int, 8), .inl (.int, 8), .inl (.boolean, 8), .inl (.int, 200), .inl (.int, 10), .inl (.int, 10), .inl (.int, 10), .inl (.int, 10), .inl (.int, 10), .inl (.boolean, 10)]
def isB (Y : Sx) : Prop := Y.1 = shB
theorem sB_0 {Y : Sx} (h : isB Y) : Y.1[0]? = some (.inr (9, [none, some 1, some 2, some 3, none, none, none, none, none, some 4, some 5, some 6, some 7, some 8, some 9, some 10, some 11, some 12, none, some 13, some 14, some 15, some 16, some 17, some 18, none, none])) := by rw [h]; rfl
theorem sB_1 {Y : Sx} (h : isB Y) : Y.1[1]? = some (.inl (.int, 160)) := by rw [h]; rfl
theorem sB_2 {Y : Sx} (h : isB Y) : Y.1[2]? = some (.inl (.int, 160)) := by rw [h]; rfl
theorem sB_3 {Y : Sx} (h : isB Y) : Y.1[3]? = some (.inl (.byte, 300)) := by rw [h]; rfl
theorem sB_4 {Y : Sx} (h : isB Y) : Y.1[4]? = some (.inl (.int, 10)) := by rw [h]; rfl
theorem sB_5 {Y : Sx} (h : isB Y) : Y.1[5]? = some (.inl (.int, 10)) := by rw [h]; rfl
theorem sB_6 {Y : Sx} (h : isB Y) : Y.1[6]? = some (.inl (.int, 10)) := by rw [h]; rfl
theorem sB_7 {Y : Sx} (h : isB Y) : Y.1[7]? = some (.inl (.int, 10)) := by rw [h]; rfl
theorem sB_8 {Y : Sx} (h : isB Y) : Y.1[8]? = some (.inl (.int, 8)) := by rw [h]; rfl
theorem sB_9 {Y : Sx} (h : isB Y) : Y.1[9]? = some (.inl (.int, 8)) := by rw [h]; rfl
theorem sB_10 {Y : Sx} (h : isB Y) : Y.1[10]? = some (.inl (.int, 8)) := by rw [h]; rfl
theorem sB_11 {Y : Sx} (h : isB Y) : Y.1[11]? = some (.inl (.boolean, 8)) := by rw [h]; rfl
theorem sB_12 {Y : Sx} (h : isB Y) : Y.1[12]? = some (.inl (.int, 200)) := by rw [h]; rfl
theorem sB_13 {Y : Sx} (h : isB Y) : Y.1[13]? = some (.inl (.int, 10)) := by rw [h]; rfl
theorem sB_14 {Y : Sx} (h : isB Y) : Y.1[14]? = some (.inl (.int, 10)) := by rw [h]; rfl
theorem sB_15 {Y : Sx} (h : isB Y) : Y.1[15]? = some (.inl (.int, 10)) := by rw [h]; rfl
theorem sB_16 {Y : Sx} (h : isB Y) : Y.1[16]? = some (.inl (.int, 10)) := by rw [h]; rfl
theorem sB_17 {Y : Sx} (h : isB Y) : Y.1[17]? = some (.inl (.int, 10)) := by rw [h]; rfl
theorem sB_18 {Y : Sx} (h : isB Y) : Y.1[18]? = some (.inl (.boolean, 10)) := by rw [h]; rfl
theorem kLand_1 {Y : Sx} (h : isA Y) : isLand Y 1 := ⟨sA_1 h, sA_2 h, sA_3 h⟩
theorem kLand_32 {Y : Sx} (h : isA Y) : isLand Y 32 := ⟨sA_32 h, sA_33 h, sA_34 h⟩
theorem kPlan_4 {Y : Sx} (h : isA Y) : isPlan Y 4 := ⟨sA_4 h, sA_5 h, sA_6 h⟩
theorem kPlan_35 {Y : Sx} (h : isA Y) : isPlan Y 35 := ⟨sA_35 h, sA_36 h, sA_37 h⟩
theorem kFound_39 {Y : Sx} (h : isA Y) : isFound Y 39 := sA_39 h
theorem kFound_40 {Y : Sx} (h : isA Y) : isFound Y 40 := sA_40 h
def stL0 : List Int32 := [50, 50, 30, 30, 99]
def stL1 : List Int32 := [1, 1, -3, -3, 0, 1, 0, 0, 0, 0]
def stL2 : List Int32 := [9, 9, 3, 3, 99, 999, 9, 9, 2, 1]
def stL3 : List Int32 := [3, 2, 0, 0, 50, 100, 1, 1, 1, 1]
def stL4 : List Int32 := [2, 5, 2, 8, 4]
set_option maxRecDepth 20000 in
theorem tb_app {w : Cond} (h : w ∈ tables_1) : w ∈ lw_tbl := List.mem_append_right _ h
set_option maxRecDepth 20000 in
theorem tb1 {w : Cond} (i : Nat) (h : tables_1_1[i]? = some w) : w ∈ lw_tbl := tb_app (List.mem_append_left _ (List.mem_of_getElem? h))
set_option maxRecDepth 20000 in
theorem tb2 {w : Cond} (i : Nat) (h : tables_1_2[i]? = some w) : w ∈ lw_tbl := tb_app (List.mem_append_right _ (List.mem_append_left _ (List.mem_of_getElem? h)))
set_option maxRecDepth 20000 in
theorem tb3 {w : Cond} (i : Nat) (h : tables_1_3[i]? = some w) : w ∈ lw_tbl := tb_app (List.mem_append_right _ (List.mem_append_right _ (List.mem_append_left _ (List.mem_of_getElem? h))))
set_option maxRecDepth 20000 in
theorem tb4 {w : Cond} (i : Nat) (h : tables_1_4[i]? = some w) : w ∈ lw_tbl := tb_app (List.mem_append_right _ (List.mem_append_right _ (List.mem_append_right _ (List.mem_append_left _ (List.mem_of_getElem? h)))))
set_option maxRecDepth 20000 in
theorem tb5 {w : Cond} (i : Nat) (h : tables_1_5[i]? = some w) : w ∈ lw_tbl := tb_app (List.mem_append_right _ (List.mem_append_right _ (List.mem_append_right _ (List.mem_append_right _ (List.mem_append_left _ (List.mem_of_getElem? h))))))
set_option maxRecDepth 20000 in
theorem tb6 {w : Cond} (i : Nat) (h : tables_1_6[i]? = some w) : w ∈ lw_tbl := tb_app (List.mem_append_right _ (List.mem_append_right _ (List.mem_append_right _ (List.mem_append_right _ (List.mem_append_right _ (List.mem_of_getElem? h))))))
set_option maxRecDepth 20000 in
theorem sl1 {q : MethodName × Nat} (i : Nat) (h : lw_privs_1[i]? = some q) : Cond.selects q.1.cls q.1 q.1 ∈ lw_tbl := List.mem_append_left _ (List.mem_map.mpr ⟨q, (List.mem_append_left _ (List.mem_of_getElem? h)), rfl⟩)
set_option maxRecDepth 20000 in
theorem sl2 {q : MethodName × Nat} (i : Nat) (h : lw_privs_2[i]? = some q) : Cond.selects q.1.cls q.1 q.1 ∈ lw_tbl := List.mem_append_left _ (List.mem_map.mpr ⟨q, (List.mem_append_right _ (List.mem_append_left _ (List.mem_of_getElem? h))), rfl⟩)
set_option maxRecDepth 20000 in
theorem sl3 {q : MethodName × Nat} (i : Nat) (h : lw_privs_3[i]? = some q) : Cond.selects q.1.cls q.1 q.1 ∈ lw_tbl := List.mem_append_left _ (List.mem_map.mpr ⟨q, (List.mem_append_right _ (List.mem_append_right _ (List.mem_append_left _ (List.mem_of_getElem? h)))), rfl⟩)
set_option maxRecDepth 20000 in
theorem sl4 {q : MethodName × Nat} (i : Nat) (h : lw_privs_4[i]? = some q) : Cond.selects q.1.cls q.1 q.1 ∈ lw_tbl := List.mem_append_left _ (List.mem_map.mpr ⟨q, (List.mem_append_right _ (List.mem_append_right _ (List.mem_append_right _ (List.mem_append_left _ (List.mem_of_getElem? h))))), rfl⟩)
set_option maxRecDepth 20000 in
theorem sl5 {q : MethodName × Nat} (i : Nat) (h : lw_privs_5[i]? = some q) : Cond.selects q.1.cls q.1 q.1 ∈ lw_tbl := List.mem_append_left _ (List.mem_map.mpr ⟨q, (List.mem_append_right _ (List.mem_append_right _ (List.mem_append_right _ (List.mem_append_right _ (List.mem_append_left _ (List.mem_of_getElem? h)))))), rfl⟩)
set_option maxRecDepth 20000 in
theorem sl6 {q : MethodName × Nat} (i : Nat) (h : lw_privs_6[i]? = some q) : Cond.selects q.1.cls q.1 q.1 ∈ lw_tbl := List.mem_append_left _ (List.mem_map.mpr ⟨q, (List.mem_append_right _ (List.mem_append_right _ (List.mem_append_right _ (List.mem_append_right _ (List.mem_append_right _ (List.mem_append_left _ (List.mem_of_getElem? h))))))), rfl⟩)
set_option maxRecDepth 20000 in
theorem sl7 {q : MethodName × Nat} (i : Nat) (h : lw_privs_7[i]? = some q) : Cond.selects q.1.cls q.1 q.1 ∈ lw_tbl := List.mem_append_left _ (List.mem_map.mpr ⟨q, (List.mem_append_right _ (List.mem_append_right _ (List.mem_append_right _ (List.mem_append_right _ (List.mem_append_right _ (List.mem_append_right _ (List.mem_append_left _ (List.mem_of_getElem? h)))))))), rfl⟩)
set_option maxRecDepth 20000 in
theorem sl8 {q : MethodName × Nat} (i : Nat) (h : lw_privs_8[i]? = some q) : Cond.selects q.1.cls q.1 q.1 ∈ lw_tbl := List.mem_append_left _ (List.mem_map.mpr ⟨q, (List.mem_append_right _ (List.mem_append_right _ (List.mem_append_right _ (List.mem_append_right _ (List.mem_append_right _ (List.mem_append_right _ (List.mem_append_right _ (List.mem_append_left _ (List.mem_of_getElem? h))))))))), rfl⟩)
set_option maxRecDepth 20000 in
theorem sl9 {q : MethodName × Nat} (i : Nat) (h : lw_privs_9[i]? = some q) : Cond.selects q.1.cls q.1 q.1 ∈ lw_tbl := List.mem_append_left _ (List.mem_map.mpr ⟨q, (List.mem_append_right _ (List.mem_append_right _ (List.mem_append_right _ (List.mem_append_right _ (List.mem_append_right _ (List.mem_append_right _ (List.mem_append_right _ (List.mem_append_right _ (List.mem_of_getElem? h))))))))), rfl⟩)
set_option maxRecDepth 20000 in
theorem inWX0 : ∀ w ∈ u_ws RX0 TX0 11, w ∈ gw := gw_sub _ [118, 120, 122, 124, 126, 128, 130, 132, 134, 136, 138] (by decide +kernel) (by decide +kernel)
set_option maxRecDepth 20000 in
theorem inWX1 : ∀ w ∈ u_ws RX1 TX1 2, w ∈ gw := gw_sub _ [100, 102] (by decide +kernel) (by decide +kernel)
set_option maxRecDepth 20000 in
theorem inWX2 : ∀ w ∈ u_ws RX2 TX2 3, w ∈ gw := gw_sub _ [275, 277, 279] (by decide +kernel) (by decide +kernel)
set_option maxRecDepth 20000 in
theorem inWX3 : ∀ w ∈ u_ws RX3 TX3 3, w ∈ gw := gw_sub _ [52, 54, 56] (by decide +kernel) (by decide +kernel)
set_option maxRecDepth 20000 in
theorem inWX4 : ∀ w ∈ u_ws RX4 TX4 4, w ∈ gw := gw_sub _ [76, 78, 80, 82] (by decide +kernel) (by decide +kernel)
set_option maxRecDepth 20000 in
theorem inWX5 : ∀ w ∈ u_ws RX5 TX5 18, w ∈ gw := gw_sub _ [165, 167, 169, 171, 173, 175, 177, 179, 181, 183, 185, 187, 189, 191, 193, 195, 197, 199] (by decide +kernel) (by decide +kernel)
set_option maxRecDepth 20000 in
theorem inWX6 : ∀ w ∈ u_ws RX6 TX6 2, w ∈ gw := gw_sub _ [213, 215] (by decide +kernel) (by decide +kernel)
set_option maxRecDepth 20000 in
theorem inWX7 : ∀ w ∈ u_ws RX7 TX7 10, w ∈ gw := gw_sub _ [241, 243, 245, 247, 249, 251, 253, 255, 257, 259] (by decide +kernel) (by decide +kernel)
set_option maxRecDepth 20000 in
theorem inWX8 : ∀ w ∈ u_ws RX8 TX8 8, w ∈ gw := gw_sub _ [290, 292, 294, 296, 298, 300, 302, 304] (by decide +kernel) (by decide +kernel)
set_option maxRecDepth 20000 in
theorem inWX9 : ∀ w ∈ u_ws RX9 TX9 27, w ∈ gw := gw_sub _ [1009, 1011, 1013, 1015, 1017, 1019, 1021, 1023, 1025, 1027, 1029, 1031, 1033, 1035, 1037, 1039, 1041, 1043, 1045, 1047, 1049, 1051, 1053, 1055, 1057, 1059, 1061] (by decide +kernel) (by decide +kernel)
set_option maxRecDepth 20000 in
theorem f_X8_10 : FL RX8 10 8 0 := ⟨RX8, TX8, 8, rfl, by decide, inWX8, Or.inl (gw_mem (tb2 42 rfl) rfl)⟩
set_option maxRecDepth 20000 in
theorem f_X8_19 : FL RX8 19 8 1 := ⟨RX8, TX8, 8, rfl, by decide, inWX8, Or.inl (gw_mem (tb2 43 rfl) rfl)⟩
set_option maxRecDepth 20000 in
theorem f_X8_28 : FL RX8 28 8 2 := ⟨RX8, TX8, 8, rfl, by decide, inWX8, Or.inl (gw_mem (tb2 44 rfl) rfl)⟩
set_option maxRecDepth 20000 in
theorem f_X8_37 : FL RX8 37 8 3 := ⟨RX8, TX8, 8, rfl, by decide, inWX8, Or.inl (gw_mem (tb2 45 rfl) rfl)⟩
set_option maxRecDepth 20000 in
theorem f_X8_44 : FL RX8 44 8 4 := ⟨RX8, TX8, 8, rfl, by decide, inWX8, Or.inl (gw_mem (tb2 46 rfl) rfl)⟩
set_option maxRecDepth 20000 in
theorem f_X8_53 : FL RX8 53 8 5 := ⟨RX8, TX8, 8, rfl, by decide, inWX8, Or.inl (gw_mem (tb2 47 rfl) rfl)⟩
set_option maxRecDepth 20000 in
theorem f_X8_60 : FL RX8 60 8 6 := ⟨RX8, TX8, 8, rfl, by decide, inWX8, Or.inl (gw_mem (tb2 48 rfl) rfl)⟩
set_option maxRecDepth 20000 in
theorem f_X8_64 : FL RX8 64 8 7 := ⟨RX8, TX8, 8, rfl, by decide, inWX8, Or.inl (gw_mem (tb2 49 rfl) rfl)⟩
set_option maxRecDepth 20000 in
theorem f_X8_67 : FL RX8 67 6 0 := ⟨RX6, TX6, 2, rfl, by decide, inWX6, Or.inr ⟨"TruckWing", nw_mem (tb1 210 rfl) rfl⟩⟩
set_option maxRecDepth 20000 in
theorem f_X8_79 : FL RX8 79 7 1 := ⟨RX7, TX7, 10, rfl, by decide, inWX7, Or.inr ⟨"TruckWing", nw_mem (tb1 230 rfl) rfl⟩⟩
set_option maxRecDepth 20000 in
theorem f_X8_83 : FL RX8 83 7 2 := ⟨RX7, TX7, 10, rfl, by decide, inWX7, Or.inr ⟨"TruckWing", nw_mem (tb1 232 rfl) rfl⟩⟩
set_option maxRecDepth 20000 in
theorem f_X8_90 : FL RX8 90 7 5 := ⟨RX7, TX7, 10, rfl, by decide, inWX7, Or.inr ⟨"TruckWing", nw_mem (tb1 236 rfl) rfl⟩⟩
set_option maxRecDepth 20000 in
theorem f_X8_97 : FL RX8 97 3 0 := ⟨RX3, TX3, 3, rfl, by decide, inWX3, Or.inr ⟨"TruckWing", nw_mem (tb1 48 rfl) rfl⟩⟩
set_option maxRecDepth 20000 in
theorem f_X8_142 : FL RX8 142 4 1 := ⟨RX4, TX4, 4, rfl, by decide, inWX4, Or.inr ⟨"TruckWing", nw_mem (tb1 73 rfl) rfl⟩⟩
set_option maxRecDepth 20000 in
theorem f_X8_145 : FL RX8 145 4 0 := ⟨RX4, TX4, 4, rfl, by decide, inWX4, Or.inr ⟨"TruckWing", nw_mem (tb1 68 rfl) rfl⟩⟩
set_option maxRecDepth 20000 in
theorem f_X8_175 : FL RX8 175 0 3 := ⟨RX0, TX0, 11, rfl, by decide, inWX0, Or.inr ⟨"TruckWing", nw_mem (tb1 110 rfl) rfl⟩⟩
set_option maxRecDepth 20000 in
theorem f_X8_187 : FL RX8 187 0 2 := ⟨RX0, TX0, 11, rfl, by decide, inWX0, Or.inr ⟨"TruckWing", nw_mem (tb1 108 rfl) rfl⟩⟩
set_option maxRecDepth 20000 in
theorem f_X8_191 : FL RX8 191 1 0 := ⟨RX1, TX1, 2, rfl, by decide, inWX1, Or.inr ⟨"TruckWing", nw_mem (tb1 98 rfl) rfl⟩⟩
set_option maxRecDepth 20000 in
theorem f_X8_215 : FL RX8 215 2 1 := ⟨RX2, TX2, 3, rfl, by decide, inWX2, Or.inr ⟨"TruckWing", nw_mem (tb2 32 rfl) rfl⟩⟩
set_option maxRecDepth 20000 in
theorem f_X8_218 : FL RX8 218 2 2 := ⟨RX2, TX2, 3, rfl, by decide, inWX2, Or.inr ⟨"TruckWing", nw_mem (tb2 34 rfl) rfl⟩⟩
set_option maxRecDepth 20000 in
theorem f_X8_236 : FL RX8 236 2 0 := ⟨RX2, TX2, 3, rfl, by decide, inWX2, Or.inr ⟨"TruckWing", nw_mem (tb2 29 rfl) rfl⟩⟩
set_option maxRecDepth 20000 in
theorem f_X0_12 : FL RX0 12 0 2 := ⟨RX0, TX0, 11, rfl, by decide, inWX0, Or.inl (gw_mem (tb1 107 rfl) rfl)⟩
set_option maxRecDepth 20000 in
theorem f_X0_18 : FL RX0 18 0 4 := ⟨RX0, TX0, 11, rfl, by decide, inWX0, Or.inl (gw_mem (tb1 111 rfl) rfl)⟩
set_option maxRecDepth 20000 in
theorem f_X0_22 : FL RX0 22 0 5 := ⟨RX0, TX0, 11, rfl, by decide, inWX0, Or.inl (gw_mem (tb1 112 rfl) rfl)⟩
set_option maxRecDepth 20000 in
theorem f_X0_25 : FL RX0 25 0 6 := ⟨RX0, TX0, 11, rfl, by decide, inWX0, Or.inl (gw_mem (tb1 113 rfl) rfl)⟩
set_option maxRecDepth 20000 in
theorem f_X0_28 : FL RX0 28 0 7 := ⟨RX0, TX0, 11, rfl, by decide, inWX0, Or.inl (gw_mem (tb1 114 rfl) rfl)⟩
set_option maxRecDepth 20000 in
theorem f_X0_31 : FL RX0 31 0 8 := ⟨RX0, TX0, 11, rfl, by decide, inWX0, Or.inl (gw_mem (tb1 115 rfl) rfl)⟩
set_option maxRecDepth 20000 in
theorem f_X0_34 : FL RX0 34 0 9 := ⟨RX0, TX0, 11, rfl, by decide, inWX0, Or.inl (gw_mem (tb1 116 rfl) rfl)⟩
set_option maxRecDepth 20000 in
theorem f_X0_37 : FL RX0 37 0 10 := ⟨RX0, TX0, 11, rfl, by decide, inWX0, Or.inl (gw_mem (tb1 117 rfl) rfl)⟩
set_option maxRecDepth 20000 in
theorem f_X0_40 : FL RX0 40 0 0 := ⟨RX0, TX0, 11, rfl, by decide, inWX0, Or.inl (gw_mem (tb1 105 rfl) rfl)⟩
set_option maxRecDepth 20000 in
theorem f_X0_44 : FL RX0 44 0 1 := ⟨RX0, TX0, 11, rfl, by decide, inWX0, Or.inl (gw_mem (tb1 106 rfl) rfl)⟩
set_option maxRecDepth 20000 in
theorem f_X0_52 : FL RX0 52 0 3 := ⟨RX0, TX0, 11, rfl, by decide, inWX0, Or.inl (gw_mem (tb1 109 rfl) rfl)⟩
set_option maxRecDepth 20000 in
theorem f_X0_77 : FL RX0 77 4 1 := ⟨RX4, TX4, 4, rfl, by decide, inWX4, Or.inr ⟨"TruckWing", nw_mem (tb1 72 rfl) rfl⟩⟩
set_option maxRecDepth 20000 in
theorem f_X0_98 : FL RX0 98 4 0 := ⟨RX4, TX4, 4, rfl, by decide, inWX4, Or.inr ⟨"TruckWing", nw_mem (tb1 67 rfl) rfl⟩⟩
set_option maxRecDepth 20000 in
theorem f_X0_104 : FL RX0 104 3 0 := ⟨RX3, TX3, 3, rfl, by decide, inWX3, Or.inr ⟨"TruckWing", nw_mem (tb1 49 rfl) rfl⟩⟩
set_option maxRecDepth 20000 in
theorem f_X1_11 : FL RX1 11 1 1 := ⟨RX1, TX1, 2, rfl, by decide, inWX1, Or.inl (gw_mem (tb1 99 rfl) rfl)⟩
set_option maxRecDepth 20000 in
theorem f_X1_15 : FL RX1 15 1 0 := ⟨RX1, TX1, 2, rfl, by decide, inWX1, Or.inl (gw_mem (tb1 97 rfl) rfl)⟩
set_option maxRecDepth 20000 in
theorem f_X3_9 : FL RX3 9 3 1 := ⟨RX3, TX3, 3, rfl, by decide, inWX3, Or.inl (gw_mem (tb1 50 rfl) rfl)⟩
set_option maxRecDepth 20000 in
theorem f_X3_23 : FL RX3 23 3 2 := ⟨RX3, TX3, 3, rfl, by decide, inWX3, Or.inl (gw_mem (tb1 51 rfl) rfl)⟩
set_option maxRecDepth 20000 in
theorem f_X3_35 : FL RX3 35 3 0 := ⟨RX3, TX3, 3, rfl, by decide, inWX3, Or.inl (gw_mem (tb1 46 rfl) rfl)⟩
set_option maxRecDepth 20000 in
theorem f_X4_9 : FL RX4 9 4 2 := ⟨RX4, TX4, 4, rfl, by decide, inWX4, Or.inl (gw_mem (tb1 74 rfl) rfl)⟩
set_option maxRecDepth 20000 in
theorem f_X4_15 : FL RX4 15 4 3 := ⟨RX4, TX4, 4, rfl, by decide, inWX4, Or.inl (gw_mem (tb1 75 rfl) rfl)⟩
set_option maxRecDepth 20000 in
theorem f_X4_18 : FL RX4 18 4 0 := ⟨RX4, TX4, 4, rfl, by decide, inWX4, Or.inl (gw_mem (tb1 66 rfl) rfl)⟩
set_option maxRecDepth 20000 in
theorem f_X4_22 : FL RX4 22 4 1 := ⟨RX4, TX4, 4, rfl, by decide, inWX4, Or.inl (gw_mem (tb1 70 rfl) rfl)⟩
set_option maxRecDepth 20000 in
theorem f_X5_9 : FL RX5 9 5 7 := ⟨RX5, TX5, 18, rfl, by decide, inWX5, Or.inl (gw_mem (tb1 154 rfl) rfl)⟩
set_option maxRecDepth 20000 in
theorem f_X5_15 : FL RX5 15 5 8 := ⟨RX5, TX5, 18, rfl, by decide, inWX5, Or.inl (gw_mem (tb1 155 rfl) rfl)⟩
set_option maxRecDepth 20000 in
theorem f_X5_18 : FL RX5 18 5 9 := ⟨RX5, TX5, 18, rfl, by decide, inWX5, Or.inl (gw_mem (tb1 156 rfl) rfl)⟩
set_option maxRecDepth 20000 in
theorem f_X5_21 : FL RX5 21 5 10 := ⟨RX5, TX5, 18, rfl, by decide, inWX5, Or.inl (gw_mem (tb1 157 rfl) rfl)⟩
set_option maxRecDepth 20000 in
theorem f_X5_25 : FL RX5 25 5 11 := ⟨RX5, TX5, 18, rfl, by decide, inWX5, Or.inl (gw_mem (tb1 158 rfl) rfl)⟩
set_option maxRecDepth 20000 in
theorem f_X5_28 : FL RX5 28 5 12 := ⟨RX5, TX5, 18, rfl, by decide, inWX5, Or.inl (gw_mem (tb1 159 rfl) rfl)⟩
set_option maxRecDepth 20000 in
theorem f_X5_31 : FL RX5 31 5 13 := ⟨RX5, TX5, 18, rfl, by decide, inWX5, Or.inl (gw_mem (tb1 160 rfl) rfl)⟩
set_option maxRecDepth 20000 in
theorem f_X5_34 : FL RX5 34 5 14 := ⟨RX5, TX5, 18, rfl, by decide, inWX5, Or.inl (gw_mem (tb1 161 rfl) rfl)⟩
set_option maxRecDepth 20000 in
theorem f_X5_37 : FL RX5 37 5 15 := ⟨RX5, TX5, 18, rfl, by decide, inWX5, Or.inl (gw_mem (tb1 162 rfl) rfl)⟩
set_option maxRecDepth 20000 in
theorem f_X5_40 : FL RX5 40 5 16 := ⟨RX5, TX5, 18, rfl, by decide, inWX5, Or.inl (gw_mem (tb1 163 rfl) rfl)⟩
set_option maxRecDepth 20000 in
theorem f_X5_43 : FL RX5 43 5 17 := ⟨RX5, TX5, 18, rfl, by decide, inWX5, Or.inl (gw_mem (tb1 164 rfl) rfl)⟩
set_option maxRecDepth 20000 in
theorem f_X5_46 : FL RX5 46 5 0 := ⟨RX5, TX5, 18, rfl, by decide, inWX5, Or.inl (gw_mem (tb1 147 rfl) rfl)⟩
set_option maxRecDepth 20000 in
theorem f_X5_50 : FL RX5 50 3 0 := ⟨RX3, TX3, 3, rfl, by decide, inWX3, Or.inr ⟨"TruckWing", nw_mem (tb1 45 rfl) rfl⟩⟩
set_option maxRecDepth 20000 in
theorem f_X5_56 : FL RX5 56 5 6 := ⟨RX5, TX5, 18, rfl, by decide, inWX5, Or.inl (gw_mem (tb1 153 rfl) rfl)⟩
set_option maxRecDepth 20000 in
theorem f_X5_63 : FL RX5 63 5 1 := ⟨RX5, TX5, 18, rfl, by decide, inWX5, Or.inl (gw_mem (tb1 148 rfl) rfl)⟩
set_option maxRecDepth 20000 in
theorem f_X5_70 : FL RX5 70 5 2 := ⟨RX5, TX5, 18, rfl, by decide, inWX5, Or.inl (gw_mem (tb1 149 rfl) rfl)⟩
set_option maxRecDepth 20000 in
theorem f_X5_73 : FL RX5 73 5 3 := ⟨RX5, TX5, 18, rfl, by decide, inWX5, Or.inl (gw_mem (tb1 150 rfl) rfl)⟩
set_option maxRecDepth 20000 in
theorem f_X5_76 : FL RX5 76 5 4 := ⟨RX5, TX5, 18, rfl, by decide, inWX5, Or.inl (gw_mem (tb1 151 rfl) rfl)⟩
set_option maxRecDepth 20000 in
theorem f_X5_79 : FL RX5 79 5 5 := ⟨RX5, TX5, 18, rfl, by decide, inWX5, Or.inl (gw_mem (tb1 152 rfl) rfl)⟩
set_option maxRecDepth 20000 in
theorem f_X5_164 : FL RX5 164 2 1 := ⟨RX2, TX2, 3, rfl, by decide, inWX2, Or.inr ⟨"TruckWing", nw_mem (tb2 31 rfl) rfl⟩⟩
set_option maxRecDepth 20000 in
theorem f_X5_182 : FL RX5 182 4 0 := ⟨RX4, TX4, 4, rfl, by decide, inWX4, Or.inr ⟨"TruckWing", nw_mem (tb1 69 rfl) rfl⟩⟩
set_option maxRecDepth 20000 in
theorem f_X6_9 : FL RX6 9 6 1 := ⟨RX6, TX6, 2, rfl, by decide, inWX6, Or.inl (gw_mem (tb1 212 rfl) rfl)⟩
set_option maxRecDepth 20000 in
theorem f_X6_15 : FL RX6 15 6 0 := ⟨RX6, TX6, 2, rfl, by decide, inWX6, Or.inl (gw_mem (tb1 209 rfl) rfl)⟩
set_option maxRecDepth 20000 in
theorem f_X7_12 : FL RX7 12 7 1 := ⟨RX7, TX7, 10, rfl, by decide, inWX7, Or.inl (gw_mem (tb1 229 rfl) rfl)⟩
set_option maxRecDepth 20000 in
theorem f_X7_21 : FL RX7 21 7 2 := ⟨RX7, TX7, 10, rfl, by decide, inWX7, Or.inl (gw_mem (tb1 231 rfl) rfl)⟩
set_option maxRecDepth 20000 in
theorem f_X7_25 : FL RX7 25 7 3 := ⟨RX7, TX7, 10, rfl, by decide, inWX7, Or.inl (gw_mem (tb1 233 rfl) rfl)⟩
set_option maxRecDepth 20000 in
theorem f_X7_29 : FL RX7 29 7 0 := ⟨RX7, TX7, 10, rfl, by decide, inWX7, Or.inl (gw_mem (tb1 228 rfl) rfl)⟩
set_option maxRecDepth 20000 in
theorem f_X7_44 : FL RX7 44 7 8 := ⟨RX7, TX7, 10, rfl, by decide, inWX7, Or.inl (gw_mem (tb1 239 rfl) rfl)⟩
set_option maxRecDepth 20000 in
theorem f_X7_50 : FL RX7 50 7 6 := ⟨RX7, TX7, 10, rfl, by decide, inWX7, Or.inl (gw_mem (tb1 237 rfl) rfl)⟩
set_option maxRecDepth 20000 in
theorem f_X7_82 : FL RX7 82 3 0 := ⟨RX3, TX3, 3, rfl, by decide, inWX3, Or.inr ⟨"TruckWing", nw_mem (tb1 47 rfl) rfl⟩⟩
set_option maxRecDepth 20000 in
theorem f_X7_85 : FL RX7 85 4 1 := ⟨RX4, TX4, 4, rfl, by decide, inWX4, Or.inr ⟨"TruckWing", nw_mem (tb1 71 rfl) rfl⟩⟩
set_option maxRecDepth 20000 in
theorem f_X7_88 : FL RX7 88 7 4 := ⟨RX7, TX7, 10, rfl, by decide, inWX7, Or.inl (gw_mem (tb1 234 rfl) rfl)⟩
set_option maxRecDepth 20000 in
theorem f_X7_94 : FL RX7 94 7 9 := ⟨RX7, TX7, 10, rfl, by decide, inWX7, Or.inl (gw_mem (tb2 0 rfl) rfl)⟩
set_option maxRecDepth 20000 in
theorem f_X7_140 : FL RX7 140 7 7 := ⟨RX7, TX7, 10, rfl, by decide, inWX7, Or.inl (gw_mem (tb1 238 rfl) rfl)⟩
set_option maxRecDepth 20000 in
theorem f_X7_143 : FL RX7 143 6 0 := ⟨RX6, TX6, 2, rfl, by decide, inWX6, Or.inr ⟨"TruckWing", nw_mem (tb1 211 rfl) rfl⟩⟩
set_option maxRecDepth 20000 in
theorem f_X9_7 : FL RX9 7 9 1 := ⟨RX9, TX9, 27, rfl, by decide, inWX9, Or.inl (gw_mem (tb5 23 rfl) rfl)⟩
set_option maxRecDepth 20000 in
theorem f_X9_13 : FL RX9 13 9 2 := ⟨RX9, TX9, 27, rfl, by decide, inWX9, Or.inl (gw_mem (tb5 24 rfl) rfl)⟩
set_option maxRecDepth 20000 in
theorem f_X9_16 : FL RX9 16 9 3 := ⟨RX9, TX9, 27, rfl, by decide, inWX9, Or.inl (gw_mem (tb5 25 rfl) rfl)⟩
set_option maxRecDepth 20000 in
theorem f_X9_20 : FL RX9 20 9 9 := ⟨RX9, TX9, 27, rfl, by decide, inWX9, Or.inl (gw_mem (tb5 31 rfl) rfl)⟩
set_option maxRecDepth 20000 in
theorem f_X9_23 : FL RX9 23 9 10 := ⟨RX9, TX9, 27, rfl, by decide, inWX9, Or.inl (gw_mem (tb5 32 rfl) rfl)⟩
set_option maxRecDepth 20000 in
theorem f_X9_26 : FL RX9 26 9 11 := ⟨RX9, TX9, 27, rfl, by decide, inWX9, Or.inl (gw_mem (tb5 33 rfl) rfl)⟩
set_option maxRecDepth 20000 in
theorem f_X9_29 : FL RX9 29 9 12 := ⟨RX9, TX9, 27, rfl, by decide, inWX9, Or.inl (gw_mem (tb5 34 rfl) rfl)⟩
set_option maxRecDepth 20000 in
theorem f_X9_32 : FL RX9 32 9 13 := ⟨RX9, TX9, 27, rfl, by decide, inWX9, Or.inl (gw_mem (tb5 35 rfl) rfl)⟩
set_option maxRecDepth 20000 in
theorem f_X9_35 : FL RX9 35 9 14 := ⟨RX9, TX9, 27, rfl, by decide, inWX9, Or.inl (gw_mem (tb5 36 rfl) rfl)⟩
set_option maxRecDepth 20000 in
theorem f_X9_38 : FL RX9 38 9 15 := ⟨RX9, TX9, 27, rfl, by decide, inWX9, Or.inl (gw_mem (tb5 37 rfl) rfl)⟩
set_option maxRecDepth 20000 in
theorem f_X9_41 : FL RX9 41 9 16 := ⟨RX9, TX9, 27, rfl, by decide, inWX9, Or.inl (gw_mem (tb5 38 rfl) rfl)⟩
set_option maxRecDepth 20000 in
theorem f_X9_45 : FL RX9 45 9 17 := ⟨RX9, TX9, 27, rfl, by decide, inWX9, Or.inl (gw_mem (tb5 39 rfl) rfl)⟩
set_option maxRecDepth 20000 in
theorem f_X9_48 : FL RX9 48 9 19 := ⟨RX9, TX9, 27, rfl, by decide, inWX9, Or.inl (gw_mem (tb5 41 rfl) rfl)⟩
set_option maxRecDepth 20000 in
theorem f_X9_51 : FL RX9 51 9 20 := ⟨RX9, TX9, 27, rfl, by decide, inWX9, Or.inl (gw_mem (tb5 42 rfl) rfl)⟩
set_option maxRecDepth 20000 in
theorem f_X9_54 : FL RX9 54 9 21 := ⟨RX9, TX9, 27, rfl, by decide, inWX9, Or.inl (gw_mem (tb5 43 rfl) rfl)⟩
set_option maxRecDepth 20000 in
theorem f_X9_57 : FL RX9 57 9 22 := ⟨RX9, TX9, 27, rfl, by decide, inWX9, Or.inl (gw_mem (tb5 44 rfl) rfl)⟩
set_option maxRecDepth 20000 in
theorem f_X9_60 : FL RX9 60 9 23 := ⟨RX9, TX9, 27, rfl, by decide, inWX9, Or.inl (gw_mem (tb5 45 rfl) rfl)⟩
set_option maxRecDepth 20000 in
theorem f_X9_63 : FL RX9 63 9 24 := ⟨RX9, TX9, 27, rfl, by decide, inWX9, Or.inl (gw_mem (tb5 46 rfl) rfl)⟩
set_option maxRecDepth 20000 in
theorem f_X9_66 : FL RX9 66 9 0 := ⟨RX9, TX9, 27, rfl, by decide, inWX9, Or.inl (gw_mem (tb5 22 rfl) rfl)⟩
set_option maxRecDepth 20000 in
theorem f_X9_125 : FL RX9 125 9 4 := ⟨RX9, TX9, 27, rfl, by decide, inWX9, Or.inl (gw_mem (tb5 26 rfl) rfl)⟩
set_option maxRecDepth 20000 in
theorem f_X9_143 : FL RX9 143 9 7 := ⟨RX9, TX9, 27, rfl, by decide, inWX9, Or.inl (gw_mem (tb5 29 rfl) rfl)⟩
set_option maxRecDepth 20000 in
theorem f_X9_146 : FL RX9 146 9 6 := ⟨RX9, TX9, 27, rfl, by decide, inWX9, Or.inl (gw_mem (tb5 28 rfl) rfl)⟩
set_option maxRecDepth 20000 in
theorem f_X9_149 : FL RX9 149 9 5 := ⟨RX9, TX9, 27, rfl, by decide, inWX9, Or.inl (gw_mem (tb5 27 rfl) rfl)⟩
set_option maxRecDepth 20000 in
theorem f_X9_155 : FL RX9 155 9 8 := ⟨RX9, TX9, 27, rfl, by decide, inWX9, Or.inl (gw_mem (tb5 30 rfl) rfl)⟩
set_option maxRecDepth 20000 in
theorem f_X9_199 : FL RX9 199 9 18 := ⟨RX9, TX9, 27, rfl, by decide, inWX9, Or.inl (gw_mem (tb5 40 rfl) rfl)⟩
set_option maxRecDepth 20000 in
theorem f_X9_248 : FL RX9 248 9 25 := ⟨RX9, TX9, 27, rfl, by decide, inWX9, Or.inl (gw_mem (tb5 47 rfl) rfl)⟩
set_option maxRecDepth 20000 in
theorem f_X9_254 : FL RX9 254 9 26 := ⟨RX9, TX9, 27, rfl, by decide, inWX9, Or.inl (gw_mem (tb5 48 rfl) rfl)⟩
set_option maxRecDepth 20000 in
theorem fp_X8_67 : FP RX8 67 6 0 .int := ⟨RX6, TX6, 2, tyX6, rfl, by decide, inWX6, Or.inr ⟨"TruckWing", nw_mem (tb1 210 rfl) rfl⟩, tyX6_ok, nmX6, rfl, by decide +kernel⟩
set_option maxRecDepth 20000 in
theorem fp_X8_97 : FP RX8 97 3 0 .int := ⟨RX3, TX3, 3, tyX3, rfl, by decide, inWX3, Or.inr ⟨"TruckWing", nw_mem (tb1 48 rfl) rfl⟩, tyX3_ok, nmX3, rfl, by decide +kernel⟩
set_option maxRecDepth 20000 in
theorem fp_X8_142 : FP RX8 142 4 1 .int := ⟨RX4, TX4, 4, tyX4, rfl, by decide, inWX4, Or.inr ⟨"TruckWing", nw_mem (tb1 73 rfl) rfl⟩, tyX4_ok, nmX4, rfl, by decide +kernel⟩
set_option maxRecDepth 20000 in
theorem fp_X8_145 : FP RX8 145 4 0 .int := ⟨RX4, TX4, 4, tyX4, rfl, by decide, inWX4, Or.inr ⟨"TruckWing", nw_mem (tb1 68 rfl) rfl⟩, tyX4_ok, nmX4, rfl, by decide +kernel⟩
set_option maxRecDepth 20000 in
theorem fp_X8_236 : FP RX8 236 2 0 .boolean := ⟨RX2, TX2, 3, tyX2, rfl, by decide, inWX2, Or.inr ⟨"TruckWing", nw_mem (tb2 29 rfl) rfl⟩, tyX2_ok, nmX2, rfl, by decide +kernel⟩
set_option maxRecDepth 20000 in
theorem fp_X0_52 : FP RX0 52 0 3 .int := ⟨RX0, TX0, 11, tyX0, rfl, by decide, inWX0, Or.inl (gw_mem (tb1 109 rfl) rfl), tyX0_ok, nmX0, rfl, by decide +kernel⟩
set_option maxRecDepth 20000 in
theorem fp_X1_15 : FP RX1 15 1 0 .int := ⟨RX1, TX1, 2, tyX1, rfl, by decide, inWX1, Or.inl (gw_mem (tb1 97 rfl) rfl), tyX1_ok, nmX1, rfl, by decide +kernel⟩
set_option maxRecDepth 20000 in
theorem fp_X2_7 : FP RX2 7 2 0 .boolean := ⟨RX2, TX2, 3, tyX2, rfl, by decide, inWX2, Or.inl (gw_mem (tb2 28 rfl) rfl), tyX2_ok, nmX2, rfl, by decide +kernel⟩
set_option maxRecDepth 20000 in
theorem fp_X2_13 : FP RX2 13 2 1 .int := ⟨RX2, TX2, 3, tyX2, rfl, by decide, inWX2, Or.inl (gw_mem (tb2 30 rfl) rfl), tyX2_ok, nmX2, rfl, by decide +kernel⟩
set_option maxRecDepth 20000 in
theorem fp_X2_17 : FP RX2 17 2 2 .int := ⟨RX2, TX2, 3, tyX2, rfl, by decide, inWX2, Or.inl (gw_mem (tb2 33 rfl) rfl), tyX2_ok, nmX2, rfl, by decide +kernel⟩
set_option maxRecDepth 20000 in
theorem fp_X3_35 : FP RX3 35 3 0 .int := ⟨RX3, TX3, 3, tyX3, rfl, by decide, inWX3, Or.inl (gw_mem (tb1 46 rfl) rfl), tyX3_ok, nmX3, rfl, by decide +kernel⟩
set_option maxRecDepth 20000 in
theorem fp_X4_18 : FP RX4 18 4 0 .int := ⟨RX4, TX4, 4, tyX4, rfl, by decide, inWX4, Or.inl (gw_mem (tb1 66 rfl) rfl), tyX4_ok, nmX4, rfl, by decide +kernel⟩
set_option maxRecDepth 20000 in
theorem fp_X4_22 : FP RX4 22 4 1 .int := ⟨RX4, TX4, 4, tyX4, rfl, by decide, inWX4, Or.inl (gw_mem (tb1 70 rfl) rfl), tyX4_ok, nmX4, rfl, by decide +kernel⟩
set_option maxRecDepth 20000 in
theorem fp_X5_56 : FP RX5 56 5 6 .int := ⟨RX5, TX5, 18, tyX5, rfl, by decide, inWX5, Or.inl (gw_mem (tb1 153 rfl) rfl), tyX5_ok, nmX5, rfl, by decide +kernel⟩
set_option maxRecDepth 20000 in
theorem fp_X5_63 : FP RX5 63 5 1 .int := ⟨RX5, TX5, 18, tyX5, rfl, by decide, inWX5, Or.inl (gw_mem (tb1 148 rfl) rfl), tyX5_ok, nmX5, rfl, by decide +kernel⟩
set_option maxRecDepth 20000 in
theorem fp_X5_70 : FP RX5 70 5 2 .int := ⟨RX5, TX5, 18, tyX5, rfl, by decide, inWX5, Or.inl (gw_mem (tb1 149 rfl) rfl), tyX5_ok, nmX5, rfl, by decide +kernel⟩
set_option maxRecDepth 20000 in
theorem fp_X5_73 : FP RX5 73 5 3 .int := ⟨RX5, TX5, 18, tyX5, rfl, by decide, inWX5, Or.inl (gw_mem (tb1 150 rfl) rfl), tyX5_ok, nmX5, rfl, by decide +kernel⟩
set_option maxRecDepth 20000 in
theorem fp_X5_76 : FP RX5 76 5 4 .int := ⟨RX5, TX5, 18, tyX5, rfl, by decide, inWX5, Or.inl (gw_mem (tb1 151 rfl) rfl), tyX5_ok, nmX5, rfl, by decide +kernel⟩
set_option maxRecDepth 20000 in
theorem fp_X5_79 : FP RX5 79 5 5 .boolean := ⟨RX5, TX5, 18, tyX5, rfl, by decide, inWX5, Or.inl (gw_mem (tb1 152 rfl) rfl), tyX5_ok, nmX5, rfl, by decide +kernel⟩
set_option maxRecDepth 20000 in
theorem fp_X6_15 : FP RX6 15 6 0 .int := ⟨RX6, TX6, 2, tyX6, rfl, by decide, inWX6, Or.inl (gw_mem (tb1 209 rfl) rfl), tyX6_ok, nmX6, rfl, by decide +kernel⟩
set_option maxRecDepth 20000 in
theorem fp_X7_40 : FP RX7 40 7 5 .int := ⟨RX7, TX7, 10, tyX7, rfl, by decide, inWX7, Or.inl (gw_mem (tb1 235 rfl) rfl), tyX7_ok, nmX7, rfl, by decide +kernel⟩
set_option maxRecDepth 20000 in
theorem fp_X7_44 : FP RX7 44 7 8 .int := ⟨RX7, TX7, 10, tyX7, rfl, by decide, inWX7, Or.inl (gw_mem (tb1 239 rfl) rfl), tyX7_ok, nmX7, rfl, by decide +kernel⟩
set_option maxRecDepth 20000 in
theorem fp_X7_50 : FP RX7 50 7 6 .int := ⟨RX7, TX7, 10, tyX7, rfl, by decide, inWX7, Or.inl (gw_mem (tb1 237 rfl) rfl), tyX7_ok, nmX7, rfl, by decide +kernel⟩
set_option maxRecDepth 20000 in
theorem fp_X7_88 : FP RX7 88 7 4 .int := ⟨RX7, TX7, 10, tyX7, rfl, by decide, inWX7, Or.inl (gw_mem (tb1 234 rfl) rfl), tyX7_ok, nmX7, rfl, by decide +kernel⟩
set_option maxRecDepth 20000 in
theorem fp_X7_94 : FP RX7 94 7 9 .int := ⟨RX7, TX7, 10, tyX7, rfl, by decide, inWX7, Or.inl (gw_mem (tb2 0 rfl) rfl), tyX7_ok, nmX7, rfl, by decide +kernel⟩
set_option maxRecDepth 20000 in
theorem fp_X7_140 : FP RX7 140 7 7 .int := ⟨RX7, TX7, 10, tyX7, rfl, by decide, inWX7, Or.inl (gw_mem (tb1 238 rfl) rfl), tyX7_ok, nmX7, rfl, by decide +kernel⟩
set_option maxRecDepth 20000 in
theorem fp_X9_66 : FP RX9 66 9 0 .int := ⟨RX9, TX9, 27, tyX9, rfl, by decide, inWX9, Or.inl (gw_mem (tb5 22 rfl) rfl), tyX9_ok, nmX9, rfl, by decide +kernel⟩
set_option maxRecDepth 20000 in
theorem fp_X9_125 : FP RX9 125 9 4 .int := ⟨RX9, TX9, 27, tyX9, rfl, by decide, inWX9, Or.inl (gw_mem (tb5 26 rfl) rfl), tyX9_ok, nmX9, rfl, by decide +kernel⟩
set_option maxRecDepth 20000 in
theorem fp_X9_143 : FP RX9 143 9 7 .int := ⟨RX9, TX9, 27, tyX9, rfl, by decide, inWX9, Or.inl (gw_mem (tb5 29 rfl) rfl), tyX9_ok, nmX9, rfl, by decide +kernel⟩
set_option maxRecDepth 20000 in
theorem fp_X9_146 : FP RX9 146 9 6 .int := ⟨RX9, TX9, 27, tyX9, rfl, by decide, inWX9, Or.inl (gw_mem (tb5 28 rfl) rfl), tyX9_ok, nmX9, rfl, by decide +kernel⟩
set_option maxRecDepth 20000 in
theorem fp_X9_149 : FP RX9 149 9 5 .int := ⟨RX9, TX9, 27, tyX9, rfl, by decide, inWX9, Or.inl (gw_mem (tb5 27 rfl) rfl), tyX9_ok, nmX9, rfl, by decide +kernel⟩
set_option maxRecDepth 20000 in
theorem fp_X9_155 : FP RX9 155 9 8 .int := ⟨RX9, TX9, 27, tyX9, rfl, by decide, inWX9, Or.inl (gw_mem (tb5 30 rfl) rfl), tyX9_ok, nmX9, rfl, by decide +kernel⟩
set_option maxRecDepth 20000 in
theorem fp_X9_199 : FP RX9 199 9 18 .int := ⟨RX9, TX9, 27, tyX9, rfl, by decide, inWX9, Or.inl (gw_mem (tb5 40 rfl) rfl), tyX9_ok, nmX9, rfl, by decide +kernel⟩
set_option maxRecDepth 20000 in
theorem fp_X9_248 : FP RX9 248 9 25 .int := ⟨RX9, TX9, 27, tyX9, rfl, by decide, inWX9, Or.inl (gw_mem (tb5 47 rfl) rfl), tyX9_ok, nmX9, rfl, by decide +kernel⟩
set_option maxRecDepth 20000 in
theorem fp_X9_254 : FP RX9 254 9 26 .int := ⟨RX9, TX9, 27, tyX9, rfl, by decide, inWX9, Or.inl (gw_mem (tb5 48 rfl) rfl), tyX9_ok, nmX9, rfl, by decide +kernel⟩
set_option maxRecDepth 20000 in
theorem g_X3_26 : SL RX3 26 0 := ⟨_, _, _, _, rfl, Or.inr ⟨"TruckWing", nw_mem (tb2 232 rfl) rfl⟩⟩
set_option maxRecDepth 20000 in
theorem g_X3_29 : SL RX3 29 1 := ⟨_, _, _, _, rfl, Or.inr ⟨"TruckWing", nw_mem (tb3 4 rfl) rfl⟩⟩
set_option maxRecDepth 20000 in
theorem g_X3_32 : SL RX3 32 2 := ⟨_, _, _, _, rfl, Or.inr ⟨"TruckWing", nw_mem (tb3 5 rfl) rfl⟩⟩
set_option maxRecDepth 20000 in
theorem g_X7_91 : SL RX7 91 4 := ⟨_, _, _, _, rfl, Or.inl (gw_mem (tb2 197 rfl) rfl)⟩
set_option maxRecDepth 20000 in
theorem g_X7_104 : SL RX7 104 1 := ⟨_, _, _, _, rfl, Or.inr ⟨"TruckWing", nw_mem (tb2 203 rfl) rfl⟩⟩
set_option maxRecDepth 20000 in
theorem g_X7_107 : SL RX7 107 2 := ⟨_, _, _, _, rfl, Or.inr ⟨"TruckWing", nw_mem (tb2 209 rfl) rfl⟩⟩
set_option maxRecDepth 20000 in
theorem g_X7_110 : SL RX7 110 0 := ⟨_, _, _, _, rfl, Or.inr ⟨"TruckWing", nw_mem (tb2 211 rfl) rfl⟩⟩
set_option maxRecDepth 20000 in
theorem k_J6_265 : Cond.constant RJ6 265 1431655765 ∈ gw := gw_mem (tb4 98 rfl) rfl
set_option maxRecDepth 20000 in
theorem k_J6_266 : Cond.constant RJ6 266 858993459 ∈ gw := gw_mem (tb4 99 rfl) rfl
set_option maxRecDepth 20000 in
theorem k_J6_267 : Cond.constant RJ6 267 252645135 ∈ gw := gw_mem (tb4 100 rfl) rfl
set_option maxRecDepth 20000 in
theorem ml_X8_71 : ML RX8 71 yX6_append := Or.inr ⟨"TruckWing", nw_mem (tb2 71 rfl) rfl⟩
set_option maxRecDepth 20000 in
theorem ml_X8_75 : ML RX8 75 yX7_read := Or.inr ⟨"TruckWing", nw_mem (tb2 83 rfl) rfl⟩
set_option maxRecDepth 20000 in
theorem ml_X8_80 : ML RX8 80 yX3_copyOf := Or.inr ⟨"TruckWing", nw_mem (tb3 22 rfl) rfl⟩
set_option maxRecDepth 20000 in
theorem ml_X8_84 : ML RX8 84 yX4_copyOf := Or.inr ⟨"TruckWing", nw_mem (tb3 23 rfl) rfl⟩
set_option maxRecDepth 20000 in
theorem ml_X8_87 : ML RX8 87 yX8_forgetSearches := Or.inl (gw_mem (tb3 24 rfl) rfl)
set_option maxRecDepth 20000 in
theorem ml_X8_93 : ML RX8 93 yX3_mayBeFact := Or.inr ⟨"TruckWing", nw_mem (tb3 37 rfl) rfl⟩
set_option maxRecDepth 20000 in
theorem ml_X8_100 : ML RX8 100 yX3_addCustomer := Or.inr ⟨"TruckWing", nw_mem (tb3 38 rfl) rfl⟩
set_option maxRecDepth 20000 in
theorem ml_X8_103 : ML RX8 103 yX3_putFact := Or.inr ⟨"TruckWing", nw_mem (tb3 39 rfl) rfl⟩
set_option maxRecDepth 20000 in
theorem ml_X8_107 : ML RX8 107 yX4_empty := Or.inr ⟨"TruckWing", nw_mem (tb3 44 rfl) rfl⟩
set_option maxRecDepth 20000 in
theorem ml_X8_110 : ML RX8 110 yX3_mayBeSetting := Or.inr ⟨"TruckWing", nw_mem (tb3 49 rfl) rfl⟩
set_option maxRecDepth 20000 in
theorem ml_X8_113 : ML RX8 113 yX3_setting := Or.inr ⟨"TruckWing", nw_mem (tb3 50 rfl) rfl⟩
set_option maxRecDepth 20000 in
theorem ml_X8_117 : ML RX8 117 yX3_putSetting := Or.inr ⟨"TruckWing", nw_mem (tb3 54 rfl) rfl⟩
set_option maxRecDepth 20000 in
theorem ml_X8_121 : ML RX8 121 yX3_isCustomer := Or.inr ⟨"TruckWing", nw_mem (tb3 59 rfl) rfl⟩
set_option maxRecDepth 20000 in
theorem ml_X8_125 : ML RX8 125 yX4_addStop := Or.inr ⟨"TruckWing", nw_mem (tb3 63 rfl) rfl⟩
set_option maxRecDepth 20000 in
theorem ml_X8_128 : ML RX8 128 yX4_stops := Or.inr ⟨"TruckWing", nw_mem (tb3 64 rfl) rfl⟩
set_option maxRecDepth 20000 in
theorem ml_X8_132 : ML RX8 132 yX4_mayBeFlyer := Or.inr ⟨"TruckWing", nw_mem (tb3 72 rfl) rfl⟩
set_option maxRecDepth 20000 in
theorem ml_X8_135 : ML RX8 135 yX4_mayBeIndex := Or.inr ⟨"TruckWing", nw_mem (tb3 75 rfl) rfl⟩
set_option maxRecDepth 20000 in
theorem ml_X8_138 : ML RX8 138 yX4_addSortie := Or.inr ⟨"TruckWing", nw_mem (tb3 78 rfl) rfl⟩
set_option maxRecDepth 20000 in
theorem ml_X8_148 : ML RX8 148 yX3_fact := Or.inr ⟨"TruckWing", nw_mem (tb3 95 rfl) rfl⟩
set_option maxRecDepth 20000 in
theorem ml_X8_152 : ML RX8 152 yX3_isPlace := Or.inr ⟨"TruckWing", nw_mem (tb3 103 rfl) rfl⟩
set_option maxRecDepth 20000 in
theorem ml_X8_155 : ML RX8 155 yX3_flight := Or.inr ⟨"TruckWing", nw_mem (tb3 104 rfl) rfl⟩
set_option maxRecDepth 20000 in
theorem ml_X8_159 : ML RX8 159 yX3_drive := Or.inr ⟨"TruckWing", nw_mem (tb3 116 rfl) rfl⟩
set_option maxRecDepth 20000 in
theorem ml_X8_162 : ML RX8 162 yX4_hasSortie := Or.inr ⟨"TruckWing", nw_mem (tb3 237 rfl) rfl⟩
set_option maxRecDepth 20000 in
theorem ml_X8_171 : ML RX8 171 yX0_look := Or.inr ⟨"TruckWing", nw_mem (tb3 124 rfl) rfl⟩
set_option maxRecDepth 20000 in
theorem ml_X8_178 : ML RX8 178 yX0_lastReady := Or.inr ⟨"TruckWing", nw_mem (tb3 221 rfl) rfl⟩
set_option maxRecDepth 20000 in
theorem ml_X8_181 : ML RX8 181 yX0_ofStop := Or.inr ⟨"TruckWing", nw_mem (tb3 229 rfl) rfl⟩
set_option maxRecDepth 20000 in
theorem ml_X8_184 : ML RX8 184 yX0_ofSortie := Or.inr ⟨"TruckWing", nw_mem (tb4 1 rfl) rfl⟩
set_option maxRecDepth 20000 in
theorem ml_X8_196 : ML RX8 196 yX1_part := Or.inr ⟨"TruckWing", nw_mem (tb4 9 rfl) rfl⟩
set_option maxRecDepth 20000 in
theorem ml_X8_197 : ML RX8 197 yX0_total := Or.inr ⟨"TruckWing", nw_mem (tb4 17 rfl) rfl⟩
set_option maxRecDepth 20000 in
theorem ml_X8_200 : ML RX8 200 yX5_readOrder := Or.inr ⟨"TruckWing", nw_mem (tb4 33 rfl) rfl⟩
set_option maxRecDepth 20000 in
theorem ml_X8_203 : ML RX8 203 yX8_fillTable := Or.inl (gw_mem (tb4 38 rfl) rfl)
set_option maxRecDepth 20000 in
theorem ml_X8_206 : ML RX8 206 yX5_lastEnd := Or.inr ⟨"TruckWing", nw_mem (tb4 105 rfl) rfl⟩
set_option maxRecDepth 20000 in
theorem ml_X8_209 : ML RX8 209 yX5_writePlan := Or.inr ⟨"TruckWing", nw_mem (tb4 113 rfl) rfl⟩
set_option maxRecDepth 20000 in
theorem ml_X8_212 : ML RX8 212 yX8_searchBest := Or.inl (gw_mem (tb4 136 rfl) rfl)
set_option maxRecDepth 20000 in
theorem ml_X8_221 : ML RX8 221 yX8_searchAlone := Or.inl (gw_mem (tb4 170 rfl) rfl)
set_option maxRecDepth 20000 in
theorem ml_X8_224 : ML RX8 224 yX8_bestWind := Or.inl (gw_mem (tb4 178 rfl) rfl)
set_option maxRecDepth 20000 in
theorem ml_X8_227 : ML RX8 227 yX8_endByWind := Or.inl (gw_mem (tb4 182 rfl) rfl)
set_option maxRecDepth 20000 in
theorem ml_X8_230 : ML RX8 230 yX5_prepare := Or.inr ⟨"TruckWing", nw_mem (tb4 42 rfl) rfl⟩
set_option maxRecDepth 20000 in
theorem ml_X8_233 : ML RX8 233 yX5_fill := Or.inr ⟨"TruckWing", nw_mem (tb4 51 rfl) rfl⟩
set_option maxRecDepth 20000 in
theorem ml_X8_240 : ML RX8 240 yX5_search := Or.inr ⟨"TruckWing", nw_mem (tb4 140 rfl) rfl⟩
set_option maxRecDepth 20000 in
theorem ml_X0_48 : ML RX0 48 yX0_wrongWithoutTimes := Or.inl (gw_mem (tb3 128 rfl) rfl)
set_option maxRecDepth 20000 in
theorem ml_X0_56 : ML RX0 56 yX0_drivePlan := Or.inl (gw_mem (tb3 173 rfl) rfl)
set_option maxRecDepth 20000 in
theorem ml_X0_59 : ML RX0 59 yX0_tooLongInAir := Or.inl (gw_mem (tb3 209 rfl) rfl)
set_option maxRecDepth 20000 in
theorem ml_X0_62 : ML RX0 62 yX0_impossibleSortie := Or.inl (gw_mem (tb3 132 rfl) rfl)
set_option maxRecDepth 20000 in
theorem ml_X0_65 : ML RX0 65 yX0_servedTooOften := Or.inl (gw_mem (tb3 145 rfl) rfl)
set_option maxRecDepth 20000 in
theorem ml_X0_68 : ML RX0 68 yX0_servedByNobody := Or.inl (gw_mem (tb3 157 rfl) rfl)
set_option maxRecDepth 20000 in
theorem ml_X0_71 : ML RX0 71 yX0_tooHeavy := Or.inl (gw_mem (tb3 161 rfl) rfl)
set_option maxRecDepth 20000 in
theorem ml_X0_74 : ML RX0 74 yX0_overlapping := Or.inl (gw_mem (tb3 169 rfl) rfl)
set_option maxRecDepth 20000 in
theorem ml_X0_82 : ML RX0 82 yX4_part := Or.inr ⟨"TruckWing", nw_mem (tb3 136 rfl) rfl⟩
set_option maxRecDepth 20000 in
theorem ml_X0_86 : ML RX0 86 yX3_setting := Or.inr ⟨"TruckWing", nw_mem (tb3 140 rfl) rfl⟩
set_option maxRecDepth 20000 in
theorem ml_X0_92 : ML RX0 92 yX4_stops := Or.inr ⟨"TruckWing", nw_mem (tb3 141 rfl) rfl⟩
set_option maxRecDepth 20000 in
theorem ml_X0_95 : ML RX0 95 yX0_told := Or.inl (gw_mem (tb3 142 rfl) rfl)
set_option maxRecDepth 20000 in
theorem ml_X0_101 : ML RX0 101 yX4_placeAt := Or.inr ⟨"TruckWing", nw_mem (tb3 153 rfl) rfl⟩
set_option maxRecDepth 20000 in
theorem ml_X0_107 : ML RX0 107 yX0_timesServed := Or.inl (gw_mem (tb3 149 rfl) rfl)
set_option maxRecDepth 20000 in
theorem ml_X0_110 : ML RX0 110 yX3_isLight := Or.inr ⟨"TruckWing", nw_mem (tb3 165 rfl) rfl⟩
set_option maxRecDepth 20000 in
theorem ml_X0_114 : ML RX0 114 yX0_air := Or.inl (gw_mem (tb3 213 rfl) rfl)
set_option maxRecDepth 20000 in
theorem ml_X0_117 : ML RX0 117 yX1_empty := Or.inr ⟨"TruckWing", nw_mem (tb3 177 rfl) rfl⟩
set_option maxRecDepth 20000 in
theorem ml_X0_120 : ML RX0 120 yX3_drive := Or.inr ⟨"TruckWing", nw_mem (tb3 181 rfl) rfl⟩
set_option maxRecDepth 20000 in
theorem ml_X0_123 : ML RX0 123 yX1_note := Or.inr ⟨"TruckWing", nw_mem (tb3 182 rfl) rfl⟩
set_option maxRecDepth 20000 in
theorem ml_X0_127 : ML RX0 127 yX3_fact := Or.inr ⟨"TruckWing", nw_mem (tb3 186 rfl) rfl⟩
set_option maxRecDepth 20000 in
theorem ml_X0_130 : ML RX0 130 yX0_catchAll := Or.inl (gw_mem (tb3 187 rfl) rfl)
set_option maxRecDepth 20000 in
theorem ml_X0_133 : ML RX0 133 yX0_launchAll := Or.inl (gw_mem (tb3 200 rfl) rfl)
set_option maxRecDepth 20000 in
theorem ml_X0_136 : ML RX0 136 yX0_nextToCatch := Or.inl (gw_mem (tb3 191 rfl) rfl)
set_option maxRecDepth 20000 in
theorem ml_X0_144 : ML RX0 144 yX0_isAhead := Or.inl (gw_mem (tb3 195 rfl) rfl)
set_option maxRecDepth 20000 in
theorem ml_X0_148 : ML RX0 148 yX0_launch := Or.inl (gw_mem (tb3 204 rfl) rfl)
set_option maxRecDepth 20000 in
theorem ml_X0_152 : ML RX0 152 yX3_flight := Or.inr ⟨"TruckWing", nw_mem (tb3 208 rfl) rfl⟩
set_option maxRecDepth 20000 in
theorem ml_X0_156 : ML RX0 156 yX0_drivenTo := Or.inl (gw_mem (tb4 21 rfl) rfl)
set_option maxRecDepth 20000 in
theorem ml_X0_159 : ML RX0 159 yX0_flownBy := Or.inl (gw_mem (tb4 25 rfl) rfl)
set_option maxRecDepth 20000 in
theorem ml_X3_45 : ML RX3 45 yX3_isPlace := Or.inl (gw_mem (tb2 225 rfl) rfl)
set_option maxRecDepth 20000 in
theorem ml_X3_49 : ML RX3 49 yX3_mayBeFact := Or.inl (gw_mem (tb2 229 rfl) rfl)
set_option maxRecDepth 20000 in
theorem ml_X3_53 : ML RX3 53 yX3_mayBeSetting := Or.inl (gw_mem (tb3 1 rfl) rfl)
set_option maxRecDepth 20000 in
theorem ml_X3_56 : ML RX3 56 yX3_fact := Or.inl (gw_mem (tb3 108 rfl) rfl)
set_option maxRecDepth 20000 in
theorem ml_X3_60 : ML RX3 60 yX3_setting := Or.inl (gw_mem (tb3 109 rfl) rfl)
set_option maxRecDepth 20000 in
theorem ml_X5_59 : ML RX5 59 yX3_isCustomer := Or.inr ⟨"TruckWing", nw_mem (tb4 37 rfl) rfl⟩
set_option maxRecDepth 20000 in
theorem ml_X5_66 : ML RX5 66 yX3_setting := Or.inr ⟨"TruckWing", nw_mem (tb4 46 rfl) rfl⟩
set_option maxRecDepth 20000 in
theorem ml_X5_83 : ML RX5 83 yX3_fact := Or.inr ⟨"TruckWing", nw_mem (tb4 47 rfl) rfl⟩
set_option maxRecDepth 20000 in
theorem ml_X5_87 : ML RX5 87 yX3_isLight := Or.inr ⟨"TruckWing", nw_mem (tb4 48 rfl) rfl⟩
set_option maxRecDepth 20000 in
theorem ml_X5_90 : ML RX5 90 yX3_drive := Or.inr ⟨"TruckWing", nw_mem (tb4 49 rfl) rfl⟩
set_option maxRecDepth 20000 in
theorem ml_X5_93 : ML RX5 93 yX3_flight := Or.inr ⟨"TruckWing", nw_mem (tb4 50 rfl) rfl⟩
set_option maxRecDepth 20000 in
theorem ml_X5_102 : ML RX5 102 yX5_beginWithVan := Or.inl (gw_mem (tb4 56 rfl) rfl)
set_option maxRecDepth 20000 in
theorem ml_X5_106 : ML RX5 106 yX5_soonest := Or.inl (gw_mem (tb4 64 rfl) rfl)
set_option maxRecDepth 20000 in
theorem ml_X5_109 : ML RX5 109 yX5_offerBlocks := Or.inl (gw_mem (tb4 68 rfl) rfl)
set_option maxRecDepth 20000 in
theorem ml_X5_113 : ML RX5 113 yX5_leg := Or.inl (gw_mem (tb4 60 rfl) rfl)
set_option maxRecDepth 20000 in
theorem ml_X5_116 : ML RX5 116 yX5_offerOne := Or.inl (gw_mem (tb4 72 rfl) rfl)
set_option maxRecDepth 20000 in
theorem ml_X5_120 : ML RX5 120 yX5_offerTwo := Or.inl (gw_mem (tb4 101 rfl) rfl)
set_option maxRecDepth 20000 in
theorem ml_X5_124 : ML RX5 124 yX5_spared := Or.inl (gw_mem (tb4 76 rfl) rfl)
set_option maxRecDepth 20000 in
theorem ml_X5_127 : ML RX5 127 yX5_trip := Or.inl (gw_mem (tb4 80 rfl) rfl)
set_option maxRecDepth 20000 in
theorem ml_X5_131 : ML RX5 131 yX5_lasts := Or.inl (gw_mem (tb4 84 rfl) rfl)
set_option maxRecDepth 20000 in
theorem ml_X5_135 : ML RX5 135 yX5_bit := Or.inl (gw_mem (tb4 88 rfl) rfl)
set_option maxRecDepth 20000 in
theorem ml_X5_138 : ML RX5 138 yX5_offer := Or.inl (gw_mem (tb4 91 rfl) rfl)
set_option maxRecDepth 20000 in
theorem ml_X5_141 : ML RX5 141 yJ6_bitCount_0f7a4 := Or.inl (gw_mem (tb4 95 rfl) rfl)
set_option maxRecDepth 20000 in
theorem ml_X5_146 : ML RX5 146 yX5_fill := Or.inl (gw_mem (tb4 144 rfl) rfl)
set_option maxRecDepth 20000 in
theorem ml_X5_149 : ML RX5 149 yX5_lastEnd := Or.inl (gw_mem (tb4 145 rfl) rfl)
set_option maxRecDepth 20000 in
theorem ml_X5_153 : ML RX5 153 yX5_orderNumber := Or.inl (gw_mem (tb4 146 rfl) rfl)
set_option maxRecDepth 20000 in
theorem ml_X5_156 : ML RX5 156 yX2_keep := Or.inr ⟨"TruckWing", nw_mem (tb4 150 rfl) rfl⟩
set_option maxRecDepth 20000 in
theorem ml_X5_161 : ML RX5 161 yX5_nextOrder := Or.inl (gw_mem (tb4 154 rfl) rfl)
set_option maxRecDepth 20000 in
theorem ml_X5_167 : ML RX5 167 yX5_swap := Or.inl (gw_mem (tb4 158 rfl) rfl)
set_option maxRecDepth 20000 in
theorem ml_X5_170 : ML RX5 170 yX5_linkBlocks := Or.inl (gw_mem (tb4 117 rfl) rfl)
set_option maxRecDepth 20000 in
theorem ml_X5_173 : ML RX5 173 yX4_empty := Or.inr ⟨"TruckWing", nw_mem (tb4 121 rfl) rfl⟩
set_option maxRecDepth 20000 in
theorem ml_X5_178 : ML RX5 178 yX5_writeBlock := Or.inl (gw_mem (tb4 122 rfl) rfl)
set_option maxRecDepth 20000 in
theorem ml_X5_185 : ML RX5 185 yX5_isFlown := Or.inl (gw_mem (tb4 126 rfl) rfl)
set_option maxRecDepth 20000 in
theorem ml_X5_188 : ML RX5 188 yX4_addStop := Or.inr ⟨"TruckWing", nw_mem (tb4 130 rfl) rfl⟩
set_option maxRecDepth 20000 in
theorem ml_X5_191 : ML RX5 191 yX4_addSortie := Or.inr ⟨"TruckWing", nw_mem (tb4 131 rfl) rfl⟩
set_option maxRecDepth 20000 in
theorem ml_X6_19 : ML RX6 19 yX6_byteAt := Or.inl (gw_mem (tb2 107 rfl) rfl)
set_option maxRecDepth 20000 in
theorem ml_X7_33 : ML RX7 33 yX3_copyOf := Or.inr ⟨"TruckWing", nw_mem (tb2 87 rfl) rfl⟩
set_option maxRecDepth 20000 in
theorem ml_X7_37 : ML RX7 37 yX4_copyOf := Or.inr ⟨"TruckWing", nw_mem (tb2 94 rfl) rfl⟩
set_option maxRecDepth 20000 in
theorem ml_X7_47 : ML RX7 47 yX7_step := Or.inl (gw_mem (tb2 99 rfl) rfl)
set_option maxRecDepth 20000 in
theorem ml_X7_53 : ML RX7 53 yX7_whatIsTold := Or.inl (gw_mem (tb2 128 rfl) rfl)
set_option maxRecDepth 20000 in
theorem ml_X7_57 : ML RX7 57 yX7_readStatement := Or.inl (gw_mem (tb2 189 rfl) rfl)
set_option maxRecDepth 20000 in
theorem ml_X7_61 : ML RX7 61 yX7_apply := Or.inl (gw_mem (tb2 213 rfl) rfl)
set_option maxRecDepth 20000 in
theorem ml_X7_67 : ML RX7 67 yX7_isWord := Or.inl (gw_mem (tb2 133 rfl) rfl)
set_option maxRecDepth 20000 in
theorem ml_X7_79 : ML RX7 79 yX7_refuse := Or.inl (gw_mem (tb2 193 rfl) rfl)
set_option maxRecDepth 20000 in
theorem ml_X7_97 : ML RX7 97 yX7_least := Or.inl (gw_mem (tb2 199 rfl) rfl)
set_option maxRecDepth 20000 in
theorem ml_X7_101 : ML RX7 101 yX7_most := Or.inl (gw_mem (tb2 205 rfl) rfl)
set_option maxRecDepth 20000 in
theorem ml_X7_113 : ML RX7 113 yX7_applyFacts := Or.inl (gw_mem (tb2 217 rfl) rfl)
set_option maxRecDepth 20000 in
theorem ml_X7_116 : ML RX7 116 yX3_addCustomer := Or.inr ⟨"TruckWing", nw_mem (tb2 233 rfl) rfl⟩
set_option maxRecDepth 20000 in
theorem ml_X7_119 : ML RX7 119 yX3_putSetting := Or.inr ⟨"TruckWing", nw_mem (tb2 237 rfl) rfl⟩
set_option maxRecDepth 20000 in
theorem ml_X7_123 : ML RX7 123 yX7_applyRow := Or.inl (gw_mem (tb3 6 rfl) rfl)
set_option maxRecDepth 20000 in
theorem ml_X7_126 : ML RX7 126 yX4_addSortie := Or.inr ⟨"TruckWing", nw_mem (tb3 18 rfl) rfl⟩
set_option maxRecDepth 20000 in
theorem ml_X7_130 : ML RX7 130 yX3_putFact := Or.inr ⟨"TruckWing", nw_mem (tb2 221 rfl) rfl⟩
set_option maxRecDepth 20000 in
theorem ml_X7_134 : ML RX7 134 yX4_empty := Or.inr ⟨"TruckWing", nw_mem (tb3 10 rfl) rfl⟩
set_option maxRecDepth 20000 in
theorem ml_X7_137 : ML RX7 137 yX4_addStop := Or.inr ⟨"TruckWing", nw_mem (tb3 14 rfl) rfl⟩
set_option maxRecDepth 20000 in
theorem ml_X7_148 : ML RX7 148 yX6_hasBlankAt := Or.inr ⟨"TruckWing", nw_mem (tb2 103 rfl) rfl⟩
set_option maxRecDepth 20000 in
theorem ml_X7_151 : ML RX7 151 yX6_byteAt := Or.inr ⟨"TruckWing", nw_mem (tb2 111 rfl) rfl⟩
set_option maxRecDepth 20000 in
theorem ml_X7_154 : ML RX7 154 yX6_hasLetterAt := Or.inr ⟨"TruckWing", nw_mem (tb2 112 rfl) rfl⟩
set_option maxRecDepth 20000 in
theorem ml_X7_157 : ML RX7 157 yX7_stepWord := Or.inl (gw_mem (tb2 116 rfl) rfl)
set_option maxRecDepth 20000 in
theorem ml_X7_160 : ML RX7 160 yX6_hasDigitAt := Or.inr ⟨"TruckWing", nw_mem (tb2 120 rfl) rfl⟩
set_option maxRecDepth 20000 in
theorem ml_X7_163 : ML RX7 163 yX7_stepInt := Or.inl (gw_mem (tb2 124 rfl) rfl)
set_option maxRecDepth 20000 in
theorem ml_X7_166 : ML RX7 166 yJ0_length_8abf5 := Or.inl (gw_mem (tb2 137 rfl) rfl)
set_option maxRecDepth 20000 in
theorem ml_X7_170 : ML RX7 170 yJ0_charAt_5068e := Or.inl (gw_mem (tb2 147 rfl) rfl)
set_option maxRecDepth 20000 in
theorem ml_X9_70 : ML RX9 70 yX9_isIn := Or.inl (gw_mem (tb5 115 rfl) rfl)
set_option maxRecDepth 20000 in
theorem ml_X9_74 : ML RX9 74 yX9_customers := Or.inl (gw_mem (tb5 118 rfl) rfl)
set_option maxRecDepth 20000 in
theorem ml_X9_78 : ML RX9 78 yX9_of := Or.inl (gw_mem (tb5 141 rfl) rfl)
set_option maxRecDepth 20000 in
theorem ml_X9_82 : ML RX9 82 yX9_placeOf := Or.inl (gw_mem (tb5 197 rfl) rfl)
set_option maxRecDepth 20000 in
theorem ml_X9_86 : ML RX9 86 yX9_size := Or.inl (gw_mem (tb5 209 rfl) rfl)
set_option maxRecDepth 20000 in
theorem ml_X9_89 : ML RX9 89 yX9_mayBe := Or.inl (gw_mem (tb5 112 rfl) rfl)
set_option maxRecDepth 20000 in
theorem ml_X9_93 : ML RX9 93 yX9_more := Or.inl (gw_mem (tb5 122 rfl) rfl)
set_option maxRecDepth 20000 in
theorem ml_X9_97 : ML RX9 97 yX9_clears := Or.inl (gw_mem (tb5 130 rfl) rfl)
set_option maxRecDepth 20000 in
theorem ml_X9_100 : ML RX9 100 yX9_maySet := Or.inl (gw_mem (tb5 138 rfl) rfl)
set_option maxRecDepth 20000 in
theorem ml_X9_103 : ML RX9 103 yX9_isCustomer := Or.inl (gw_mem (tb5 149 rfl) rfl)
set_option maxRecDepth 20000 in
theorem ml_X9_107 : ML RX9 107 yX9_stops := Or.inl (gw_mem (tb5 153 rfl) rfl)
set_option maxRecDepth 20000 in
theorem ml_X9_110 : ML RX9 110 yX9_stopsAt := Or.inl (gw_mem (tb5 157 rfl) rfl)
set_option maxRecDepth 20000 in
theorem ml_X9_114 : ML RX9 114 yX9_maySend := Or.inl (gw_mem (tb5 165 rfl) rfl)
set_option maxRecDepth 20000 in
theorem ml_X9_118 : ML RX9 118 yX9_sorties := Or.inl (gw_mem (tb5 169 rfl) rfl)
set_option maxRecDepth 20000 in
theorem ml_X9_121 : ML RX9 121 yX9_sends := Or.inl (gw_mem (tb5 173 rfl) rfl)
set_option maxRecDepth 20000 in
theorem ml_X9_128 : ML RX9 128 yX9_isPlace := Or.inl (gw_mem (tb5 193 rfl) rfl)
set_option maxRecDepth 20000 in
theorem ml_X9_131 : ML RX9 131 yX9_flight := Or.inl (gw_mem (tb5 205 rfl) rfl)
set_option maxRecDepth 20000 in
theorem ml_X9_134 : ML RX9 134 yX9_drive := Or.inl (gw_mem (tb5 212 rfl) rfl)
set_option maxRecDepth 20000 in
theorem ml_X9_137 : ML RX9 137 yX9_sortieOf := Or.inl (gw_mem (tb5 220 rfl) rfl)
set_option maxRecDepth 20000 in
theorem ml_X9_140 : ML RX9 140 yX9_put := Or.inl (gw_mem (tb5 228 rfl) rfl)
set_option maxRecDepth 20000 in
theorem ml_X9_152 : ML RX9 152 yX9_here := Or.inl (gw_mem (tb6 0 rfl) rfl)
set_option maxRecDepth 20000 in
theorem ml_X9_158 : ML RX9 158 yX9_isDigitAt := Or.inl (gw_mem (tb6 23 rfl) rfl)
set_option maxRecDepth 20000 in
theorem ml_X9_161 : ML RX9 161 yX9_fails := Or.inl (gw_mem (tb6 27 rfl) rfl)
set_option maxRecDepth 20000 in
theorem ml_X9_165 : ML RX9 165 yX9_number := Or.inl (gw_mem (tb6 19 rfl) rfl)
set_option maxRecDepth 20000 in
theorem ml_X9_168 : ML RX9 168 yX9_word := Or.inl (gw_mem (tb6 8 rfl) rfl)
set_option maxRecDepth 20000 in
theorem ml_X9_171 : ML RX9 171 yX9_letters := Or.inl (gw_mem (tb6 12 rfl) rfl)
set_option maxRecDepth 20000 in
theorem ml_X9_175 : ML RX9 175 yX9_numberOf := Or.inl (gw_mem (tb6 15 rfl) rfl)
set_option maxRecDepth 20000 in
theorem ml_X9_178 : ML RX9 178 yX9_numberIn := Or.inl (gw_mem (tb6 31 rfl) rfl)
set_option maxRecDepth 20000 in
theorem ml_X9_181 : ML RX9 181 yX9_rowGoesOn := Or.inl (gw_mem (tb6 35 rfl) rfl)
set_option maxRecDepth 20000 in
theorem ml_X9_184 : ML RX9 184 yX9_statement := Or.inl (gw_mem (tb6 4 rfl) rfl)
set_option maxRecDepth 20000 in
theorem ml_X9_187 : ML RX9 187 yX9_stopAt := Or.inl (gw_mem (tb6 55 rfl) rfl)
set_option maxRecDepth 20000 in
theorem ml_X9_190 : ML RX9 190 yX9_servedBy := Or.inl (gw_mem (tb6 51 rfl) rfl)
set_option maxRecDepth 20000 in
theorem ml_X9_193 : ML RX9 193 yX9_isLight := Or.inl (gw_mem (tb6 59 rfl) rfl)
set_option maxRecDepth 20000 in
theorem ml_X9_196 : ML RX9 196 yX9_crosses := Or.inl (gw_mem (tb6 63 rfl) rfl)
set_option maxRecDepth 20000 in
theorem ml_X9_202 : ML RX9 202 yX9_happens := Or.inl (gw_mem (tb6 71 rfl) rfl)
set_option maxRecDepth 20000 in
theorem ml_X9_205 : ML RX9 205 yX9_wrongPlan := Or.inl (gw_mem (tb6 47 rfl) rfl)
set_option maxRecDepth 20000 in
theorem ml_X9_208 : ML RX9 208 yX9_service := Or.inl (gw_mem (tb6 75 rfl) rfl)
set_option maxRecDepth 20000 in
theorem ml_X9_211 : ML RX9 211 yX9_nextCaught := Or.inl (gw_mem (tb6 79 rfl) rfl)
set_option maxRecDepth 20000 in
theorem ml_X9_214 : ML RX9 214 yX9_launches := Or.inl (gw_mem (tb6 83 rfl) rfl)
set_option maxRecDepth 20000 in
theorem ml_X9_217 : ML RX9 217 yX9_sorts := Or.inl (gw_mem (tb6 87 rfl) rfl)
set_option maxRecDepth 20000 in
theorem ml_X9_220 : ML RX9 220 yX9_isAhead := Or.inl (gw_mem (tb6 91 rfl) rfl)
set_option maxRecDepth 20000 in
theorem ml_X9_223 : ML RX9 223 yX9_goes := Or.inl (gw_mem (tb6 67 rfl) rfl)
set_option maxRecDepth 20000 in
theorem ml_X9_227 : ML RX9 227 yX9_airOf := Or.inl (gw_mem (tb6 95 rfl) rfl)
set_option maxRecDepth 20000 in
theorem ml_X9_230 : ML RX9 230 yX9_bits := Or.inl (gw_mem (tb6 131 rfl) rfl)
set_option maxRecDepth 20000 in
theorem ml_X9_233 : ML RX9 233 yX9_isLightSet := Or.inl (gw_mem (tb6 134 rfl) rfl)
set_option maxRecDepth 20000 in
theorem ml_X9_236 : ML RX9 236 yX9_lasts := Or.inl (gw_mem (tb6 138 rfl) rfl)
set_option maxRecDepth 20000 in
theorem ml_X9_239 : ML RX9 239 yX9_lays := Or.inl (gw_mem (tb6 123 rfl) rfl)
set_option maxRecDepth 20000 in
theorem ml_X9_242 : ML RX9 242 yX9_splits := Or.inl (gw_mem (tb6 127 rfl) rfl)
set_option maxRecDepth 20000 in
theorem ml_X9_245 : ML RX9 245 yX9_swaps := Or.inl (gw_mem (tb6 162 rfl) rfl)
set_option maxRecDepth 20000 in
theorem ml_X9_251 : ML RX9 251 yX9_told := Or.inl (gw_mem (tb6 154 rfl) rfl)
set_option maxRecDepth 20000 in
theorem ml_X9_257 : ML RX9 257 yX9_goesOn := Or.inl (gw_mem (tb6 158 rfl) rfl)
set_option maxRecDepth 20000 in
theorem ml_X9_260 : ML RX9 260 yX9_seeks := Or.inl (gw_mem (tb6 150 rfl) rfl)
set_option maxRecDepth 20000 in
theorem ml_X9_263 : ML RX9 263 yX9_splitBy := Or.inl (gw_mem (tb6 178 rfl) rfl)
set_option maxRecDepth 20000 in
theorem mmax_X0_139 : MX RX0 139 := ⟨gw_mem (tb3 199 rfl) rfl, gw_mem (tb3 114 rfl) rfl, gw_mem (tb1 16 rfl) rfl, gw_mem (tb3 115 rfl) rfl⟩
set_option maxRecDepth 20000 in
theorem mcopy_X3_39 : MC RX3 39 := ⟨gw_mem (tb2 91 rfl) rfl, gw_mem (tb2 93 rfl) rfl, gw_mem (tb2 92 rfl) rfl, gw_mem (tb1 11 rfl) rfl⟩
set_option maxRecDepth 20000 in
theorem mabs_X3_64 : MA RX3 64 := ⟨gw_mem (tb3 110 rfl) rfl, gw_mem (tb3 111 rfl) rfl, gw_mem (tb1 16 rfl) rfl, gw_mem (tb3 112 rfl) rfl⟩
set_option maxRecDepth 20000 in
theorem mmax_X3_69 : MX RX3 69 := ⟨gw_mem (tb3 113 rfl) rfl, gw_mem (tb3 114 rfl) rfl, gw_mem (tb1 16 rfl) rfl, gw_mem (tb3 115 rfl) rfl⟩
set_option maxRecDepth 20000 in
theorem mcopy_X4_25 : MC RX4 25 := ⟨gw_mem (tb2 98 rfl) rfl, gw_mem (tb2 93 rfl) rfl, gw_mem (tb2 92 rfl) rfl, gw_mem (tb1 11 rfl) rfl⟩
set_option maxRecDepth 20000 in
theorem mmax_X5_97 : MX RX5 97 := ⟨gw_mem (tb4 55 rfl) rfl, gw_mem (tb3 114 rfl) rfl, gw_mem (tb1 16 rfl) rfl, gw_mem (tb3 115 rfl) rfl⟩
set_option maxRecDepth 20000 in
theorem my_J6_bitCount_0f7a4 : MY yJ6_bitCount_0f7a4 cJ6_bitCount_0f7a4 1 (some .int) 1 := ⟨gw_mem (tb4 97 rfl) rfl, gw_mem (tb1 21 rfl) rfl, by decide +kernel⟩
set_option maxRecDepth 20000 in
theorem ms_J6_bitCount_0f7a4 : Cond.static yJ6_bitCount_0f7a4 ∈ gw := gw_mem (tb4 96 rfl) rfl
set_option maxRecDepth 20000 in
theorem my_X0_air : MY yX0_air cX0_air 2 (some .int) 1 := ⟨gw_mem (tb3 216 rfl) rfl, gw_mem (tb1 4 rfl) rfl, by decide +kernel⟩
set_option maxRecDepth 20000 in
theorem mi_X0_air : MI yX0_air := ⟨gw_mem (tb3 215 rfl) rfl, gw_mem (sl4 6 rfl) rfl⟩
set_option maxRecDepth 20000 in
theorem my_X0_catchAll : MY yX0_catchAll cX0_catchAll 6 (some .int) 2 := ⟨gw_mem (tb3 190 rfl) rfl, gw_mem (tb1 4 rfl) rfl, by decide +kernel⟩
set_option maxRecDepth 20000 in
theorem mi_X0_catchAll : MI yX0_catchAll := ⟨gw_mem (tb3 189 rfl) rfl, gw_mem (sl4 0 rfl) rfl⟩
set_option maxRecDepth 20000 in
theorem my_X0_drivePlan : MY yX0_drivePlan cX0_drivePlan 4 none 0 := ⟨gw_mem (tb3 176 rfl) rfl, gw_mem (tb1 4 rfl) rfl, by decide +kernel⟩
set_option maxRecDepth 20000 in
theorem mi_X0_drivePlan : MI yX0_drivePlan := ⟨gw_mem (tb3 175 rfl) rfl, gw_mem (sl3 13 rfl) rfl⟩
set_option maxRecDepth 20000 in
theorem my_X0_drivenTo : MY yX0_drivenTo cX0_drivenTo 2 (some .int) 1 := ⟨gw_mem (tb4 24 rfl) rfl, gw_mem (tb1 4 rfl) rfl, by decide +kernel⟩
set_option maxRecDepth 20000 in
theorem mi_X0_drivenTo : MI yX0_drivenTo := ⟨gw_mem (tb4 23 rfl) rfl, gw_mem (sl4 13 rfl) rfl⟩
set_option maxRecDepth 20000 in
theorem my_X0_flownBy : MY yX0_flownBy cX0_flownBy 2 (some .int) 1 := ⟨gw_mem (tb4 28 rfl) rfl, gw_mem (tb1 4 rfl) rfl, by decide +kernel⟩
set_option maxRecDepth 20000 in
theorem mi_X0_flownBy : MI yX0_flownBy := ⟨gw_mem (tb4 27 rfl) rfl, gw_mem (sl4 14 rfl) rfl⟩
set_option maxRecDepth 20000 in
theorem my_X0_impossibleSortie : MY yX0_impossibleSortie cX0_impossibleSortie 4 (some .int) 0 := ⟨gw_mem (tb3 135 rfl) rfl, gw_mem (tb1 4 rfl) rfl, by decide +kernel⟩
set_option maxRecDepth 20000 in
theorem mi_X0_impossibleSortie : MI yX0_impossibleSortie := ⟨gw_mem (tb3 134 rfl) rfl, gw_mem (sl3 4 rfl) rfl⟩
set_option maxRecDepth 20000 in
theorem my_X0_isAhead : MY yX0_isAhead cX0_isAhead 3 (some .boolean) 2 := ⟨gw_mem (tb3 198 rfl) rfl, gw_mem (tb1 4 rfl) rfl, by decide +kernel⟩
set_option maxRecDepth 20000 in
theorem mi_X0_isAhead : MI yX0_isAhead := ⟨gw_mem (tb3 197 rfl) rfl, gw_mem (sl4 2 rfl) rfl⟩
set_option maxRecDepth 20000 in
theorem my_X0_lastReady : MY yX0_lastReady cX0_lastReady 1 (some .int) 0 := ⟨gw_mem (tb3 224 rfl) rfl, gw_mem (tb1 4 rfl) rfl, by decide +kernel⟩
set_option maxRecDepth 20000 in
theorem mi_X0_lastReady : MI yX0_lastReady := ⟨gw_mem (tb3 223 rfl) rfl, gw_mem (sl4 7 rfl) rfl⟩
set_option maxRecDepth 20000 in
theorem my_X0_launch : MY yX0_launch cX0_launch 10 none 2 := ⟨gw_mem (tb3 207 rfl) rfl, gw_mem (tb1 4 rfl) rfl, by decide +kernel⟩
set_option maxRecDepth 20000 in
theorem mi_X0_launch : MI yX0_launch := ⟨gw_mem (tb3 206 rfl) rfl, gw_mem (sl4 4 rfl) rfl⟩
set_option maxRecDepth 20000 in
theorem my_X0_launchAll : MY yX0_launchAll cX0_launchAll 6 (some .int) 2 := ⟨gw_mem (tb3 203 rfl) rfl, gw_mem (tb1 4 rfl) rfl, by decide +kernel⟩
set_option maxRecDepth 20000 in
theorem mi_X0_launchAll : MI yX0_launchAll := ⟨gw_mem (tb3 202 rfl) rfl, gw_mem (sl4 3 rfl) rfl⟩
set_option maxRecDepth 20000 in
theorem my_X0_look : MY yX0_look cX0_look 1 (some .boolean) 0 := ⟨gw_mem (tb3 127 rfl) rfl, gw_mem (tb1 4 rfl) rfl, by decide +kernel⟩
set_option maxRecDepth 20000 in
theorem mi_X0_look : MI yX0_look := ⟨gw_mem (tb3 126 rfl) rfl, gw_mem (sl3 2 rfl) rfl⟩
set_option maxRecDepth 20000 in
theorem my_X0_nextToCatch : MY yX0_nextToCatch cX0_nextToCatch 4 (some .int) 1 := ⟨gw_mem (tb3 194 rfl) rfl, gw_mem (tb1 4 rfl) rfl, by decide +kernel⟩
set_option maxRecDepth 20000 in
theorem mi_X0_nextToCatch : MI yX0_nextToCatch := ⟨gw_mem (tb3 193 rfl) rfl, gw_mem (sl4 1 rfl) rfl⟩
set_option maxRecDepth 20000 in
theorem my_X0_ofSortie : MY yX0_ofSortie cX0_ofSortie 3 (some .int) 2 := ⟨gw_mem (tb4 4 rfl) rfl, gw_mem (tb1 4 rfl) rfl, by decide +kernel⟩
set_option maxRecDepth 20000 in
theorem mi_X0_ofSortie : MI yX0_ofSortie := ⟨gw_mem (tb4 3 rfl) rfl, gw_mem (sl4 10 rfl) rfl⟩
set_option maxRecDepth 20000 in
theorem my_X0_ofStop : MY yX0_ofStop cX0_ofStop 3 (some .int) 2 := ⟨gw_mem (tb3 232 rfl) rfl, gw_mem (tb1 4 rfl) rfl, by decide +kernel⟩
set_option maxRecDepth 20000 in
theorem mi_X0_ofStop : MI yX0_ofStop := ⟨gw_mem (tb3 231 rfl) rfl, gw_mem (sl4 8 rfl) rfl⟩
set_option maxRecDepth 20000 in
theorem my_X0_overlapping : MY yX0_overlapping cX0_overlapping 3 (some .int) 0 := ⟨gw_mem (tb3 172 rfl) rfl, gw_mem (tb1 4 rfl) rfl, by decide +kernel⟩
set_option maxRecDepth 20000 in
theorem mi_X0_overlapping : MI yX0_overlapping := ⟨gw_mem (tb3 171 rfl) rfl, gw_mem (sl3 12 rfl) rfl⟩
set_option maxRecDepth 20000 in
theorem my_X0_servedByNobody : MY yX0_servedByNobody cX0_servedByNobody 2 (some .int) 0 := ⟨gw_mem (tb3 160 rfl) rfl, gw_mem (tb1 4 rfl) rfl, by decide +kernel⟩
set_option maxRecDepth 20000 in
theorem mi_X0_servedByNobody : MI yX0_servedByNobody := ⟨gw_mem (tb3 159 rfl) rfl, gw_mem (sl3 9 rfl) rfl⟩
set_option maxRecDepth 20000 in
theorem my_X0_servedTooOften : MY yX0_servedTooOften cX0_servedTooOften 2 (some .int) 0 := ⟨gw_mem (tb3 148 rfl) rfl, gw_mem (tb1 4 rfl) rfl, by decide +kernel⟩
set_option maxRecDepth 20000 in
theorem mi_X0_servedTooOften : MI yX0_servedTooOften := ⟨gw_mem (tb3 147 rfl) rfl, gw_mem (sl3 6 rfl) rfl⟩
set_option maxRecDepth 20000 in
theorem my_X0_timesServed : MY yX0_timesServed cX0_timesServed 4 (some .int) 1 := ⟨gw_mem (tb3 152 rfl) rfl, gw_mem (tb1 4 rfl) rfl, by decide +kernel⟩
set_option maxRecDepth 20000 in
theorem mi_X0_timesServed : MI yX0_timesServed := ⟨gw_mem (tb3 151 rfl) rfl, gw_mem (sl3 7 rfl) rfl⟩
set_option maxRecDepth 20000 in
theorem my_X0_told : MY yX0_told cX0_told 2 (some .int) 2 := ⟨gw_mem (tb3 144 rfl) rfl, gw_mem (tb1 4 rfl) rfl, by decide +kernel⟩
set_option maxRecDepth 20000 in
theorem ms_X0_told : Cond.static yX0_told ∈ gw := gw_mem (tb3 143 rfl) rfl
set_option maxRecDepth 20000 in
theorem my_X0_tooHeavy : MY yX0_tooHeavy cX0_tooHeavy 2 (some .int) 0 := ⟨gw_mem (tb3 164 rfl) rfl, gw_mem (tb1 4 rfl) rfl, by decide +kernel⟩
set_option maxRecDepth 20000 in
theorem mi_X0_tooHeavy : MI yX0_tooHeavy := ⟨gw_mem (tb3 163 rfl) rfl, gw_mem (sl3 10 rfl) rfl⟩
set_option maxRecDepth 20000 in
theorem my_X0_tooLongInAir : MY yX0_tooLongInAir cX0_tooLongInAir 2 (some .int) 0 := ⟨gw_mem (tb3 212 rfl) rfl, gw_mem (tb1 4 rfl) rfl, by decide +kernel⟩
set_option maxRecDepth 20000 in
theorem mi_X0_tooLongInAir : MI yX0_tooLongInAir := ⟨gw_mem (tb3 211 rfl) rfl, gw_mem (sl4 5 rfl) rfl⟩
set_option maxRecDepth 20000 in
theorem my_X0_total : MY yX0_total cX0_total 4 (some .int) 1 := ⟨gw_mem (tb4 20 rfl) rfl, gw_mem (tb1 4 rfl) rfl, by decide +kernel⟩
set_option maxRecDepth 20000 in
theorem mi_X0_total : MI yX0_total := ⟨gw_mem (tb4 19 rfl) rfl, gw_mem (sl4 12 rfl) rfl⟩
set_option maxRecDepth 20000 in
theorem my_X0_wrongWithoutTimes : MY yX0_wrongWithoutTimes cX0_wrongWithoutTimes 2 (some .int) 0 := ⟨gw_mem (tb3 131 rfl) rfl, gw_mem (tb1 4 rfl) rfl, by decide +kernel⟩
set_option maxRecDepth 20000 in
theorem mi_X0_wrongWithoutTimes : MI yX0_wrongWithoutTimes := ⟨gw_mem (tb3 130 rfl) rfl, gw_mem (sl3 3 rfl) rfl⟩
set_option maxRecDepth 20000 in
theorem my_X1_empty : MY yX1_empty cX1_empty 1 none 0 := ⟨gw_mem (tb3 180 rfl) rfl, gw_mem (tb1 5 rfl) rfl, by decide +kernel⟩
set_option maxRecDepth 20000 in
theorem mi_X1_empty : MI yX1_empty := ⟨gw_mem (tb3 179 rfl) rfl, gw_mem (sl3 14 rfl) rfl⟩
set_option maxRecDepth 20000 in
theorem my_X1_note : MY yX1_note cX1_note 7 none 4 := ⟨gw_mem (tb3 185 rfl) rfl, gw_mem (tb1 5 rfl) rfl, by decide +kernel⟩
set_option maxRecDepth 20000 in
theorem mi_X1_note : MI yX1_note := ⟨gw_mem (tb3 184 rfl) rfl, gw_mem (sl3 15 rfl) rfl⟩
set_option maxRecDepth 20000 in
theorem my_X1_part : MY yX1_part cX1_part 4 (some .int) 2 := ⟨gw_mem (tb4 12 rfl) rfl, gw_mem (tb1 5 rfl) rfl, by decide +kernel⟩
set_option maxRecDepth 20000 in
theorem mi_X1_part : MI yX1_part := ⟨gw_mem (tb4 11 rfl) rfl, gw_mem (sl4 11 rfl) rfl⟩
set_option maxRecDepth 20000 in
theorem my_X2_keep : MY yX2_keep cX2_keep 3 none 2 := ⟨gw_mem (tb4 153 rfl) rfl, gw_mem (tb1 9 rfl) rfl, by decide +kernel⟩
set_option maxRecDepth 20000 in
theorem mi_X2_keep : MI yX2_keep := ⟨gw_mem (tb4 152 rfl) rfl, gw_mem (sl6 5 rfl) rfl⟩
set_option maxRecDepth 20000 in
theorem my_X3_addCustomer : MY yX3_addCustomer cX3_addCustomer 1 none 0 := ⟨gw_mem (tb2 236 rfl) rfl, gw_mem (tb1 2 rfl) rfl, by decide +kernel⟩
set_option maxRecDepth 20000 in
theorem mi_X3_addCustomer : MI yX3_addCustomer := ⟨gw_mem (tb2 235 rfl) rfl, gw_mem (sl2 5 rfl) rfl⟩
set_option maxRecDepth 20000 in
theorem my_X3_copyOf : MY yX3_copyOf cX3_copyOf 2 none 1 := ⟨gw_mem (tb2 90 rfl) rfl, gw_mem (tb1 2 rfl) rfl, by decide +kernel⟩
set_option maxRecDepth 20000 in
theorem mi_X3_copyOf : MI yX3_copyOf := ⟨gw_mem (tb2 89 rfl) rfl, gw_mem (sl1 2 rfl) rfl⟩
set_option maxRecDepth 20000 in
theorem my_X3_drive : MY yX3_drive cX3_drive 5 (some .int) 2 := ⟨gw_mem (tb3 119 rfl) rfl, gw_mem (tb1 2 rfl) rfl, by decide +kernel⟩
set_option maxRecDepth 20000 in
theorem mi_X3_drive : MI yX3_drive := ⟨gw_mem (tb3 118 rfl) rfl, gw_mem (sl3 1 rfl) rfl⟩
set_option maxRecDepth 20000 in
theorem my_X3_fact : MY yX3_fact cX3_fact 4 (some .int) 2 := ⟨gw_mem (tb3 98 rfl) rfl, gw_mem (tb1 2 rfl) rfl, by decide +kernel⟩
set_option maxRecDepth 20000 in
theorem mi_X3_fact : MI yX3_fact := ⟨gw_mem (tb3 97 rfl) rfl, gw_mem (sl2 15 rfl) rfl⟩
set_option maxRecDepth 20000 in
theorem my_X3_flight : MY yX3_flight cX3_flight 8 (some .int) 4 := ⟨gw_mem (tb3 107 rfl) rfl, gw_mem (tb1 2 rfl) rfl, by decide +kernel⟩
set_option maxRecDepth 20000 in
theorem mi_X3_flight : MI yX3_flight := ⟨gw_mem (tb3 106 rfl) rfl, gw_mem (sl3 0 rfl) rfl⟩
set_option maxRecDepth 20000 in
theorem my_X3_isCustomer : MY yX3_isCustomer cX3_isCustomer 2 (some .boolean) 1 := ⟨gw_mem (tb3 62 rfl) rfl, gw_mem (tb1 2 rfl) rfl, by decide +kernel⟩
set_option maxRecDepth 20000 in
theorem mi_X3_isCustomer : MI yX3_isCustomer := ⟨gw_mem (tb3 61 rfl) rfl, gw_mem (sl2 13 rfl) rfl⟩
set_option maxRecDepth 20000 in
theorem my_X3_isLight : MY yX3_isLight cX3_isLight 2 (some .boolean) 1 := ⟨gw_mem (tb3 168 rfl) rfl, gw_mem (tb1 2 rfl) rfl, by decide +kernel⟩
set_option maxRecDepth 20000 in
theorem mi_X3_isLight : MI yX3_isLight := ⟨gw_mem (tb3 167 rfl) rfl, gw_mem (sl3 11 rfl) rfl⟩
set_option maxRecDepth 20000 in
theorem my_X3_isPlace : MY yX3_isPlace cX3_isPlace 2 (some .boolean) 1 := ⟨gw_mem (tb2 228 rfl) rfl, gw_mem (tb1 2 rfl) rfl, by decide +kernel⟩
set_option maxRecDepth 20000 in
theorem mi_X3_isPlace : MI yX3_isPlace := ⟨gw_mem (tb2 227 rfl) rfl, gw_mem (sl2 4 rfl) rfl⟩
set_option maxRecDepth 20000 in
theorem my_X3_mayBeFact : MY yX3_mayBeFact cX3_mayBeFact 2 (some .boolean) 2 := ⟨gw_mem (tb2 231 rfl) rfl, gw_mem (tb1 2 rfl) rfl, by decide +kernel⟩
set_option maxRecDepth 20000 in
theorem ms_X3_mayBeFact : Cond.static yX3_mayBeFact ∈ gw := gw_mem (tb2 230 rfl) rfl
set_option maxRecDepth 20000 in
theorem my_X3_mayBeSetting : MY yX3_mayBeSetting cX3_mayBeSetting 2 (some .boolean) 2 := ⟨gw_mem (tb3 3 rfl) rfl, gw_mem (tb1 2 rfl) rfl, by decide +kernel⟩
set_option maxRecDepth 20000 in
theorem ms_X3_mayBeSetting : Cond.static yX3_mayBeSetting ∈ gw := gw_mem (tb3 2 rfl) rfl
set_option maxRecDepth 20000 in
theorem my_X3_putFact : MY yX3_putFact cX3_putFact 4 none 3 := ⟨gw_mem (tb2 224 rfl) rfl, gw_mem (tb1 2 rfl) rfl, by decide +kernel⟩
set_option maxRecDepth 20000 in
theorem mi_X3_putFact : MI yX3_putFact := ⟨gw_mem (tb2 223 rfl) rfl, gw_mem (sl2 3 rfl) rfl⟩
set_option maxRecDepth 20000 in
theorem my_X3_putSetting : MY yX3_putSetting cX3_putSetting 3 none 2 := ⟨gw_mem (tb3 0 rfl) rfl, gw_mem (tb1 2 rfl) rfl, by decide +kernel⟩
set_option maxRecDepth 20000 in
theorem mi_X3_putSetting : MI yX3_putSetting := ⟨gw_mem (tb2 239 rfl) rfl, gw_mem (sl2 6 rfl) rfl⟩
set_option maxRecDepth 20000 in
theorem my_X3_setting : MY yX3_setting cX3_setting 2 (some .int) 1 := ⟨gw_mem (tb3 53 rfl) rfl, gw_mem (tb1 2 rfl) rfl, by decide +kernel⟩
set_option maxRecDepth 20000 in
theorem mi_X3_setting : MI yX3_setting := ⟨gw_mem (tb3 52 rfl) rfl, gw_mem (sl2 12 rfl) rfl⟩
set_option maxRecDepth 20000 in
theorem my_X4_addSortie : MY yX4_addSortie cX4_addSortie 6 (some .boolean) 4 := ⟨gw_mem (tb3 21 rfl) rfl, gw_mem (tb1 3 rfl) rfl, by decide +kernel⟩
set_option maxRecDepth 20000 in
theorem mi_X4_addSortie : MI yX4_addSortie := ⟨gw_mem (tb3 20 rfl) rfl, gw_mem (sl2 10 rfl) rfl⟩
set_option maxRecDepth 20000 in
theorem my_X4_addStop : MY yX4_addStop cX4_addStop 2 (some .boolean) 1 := ⟨gw_mem (tb3 17 rfl) rfl, gw_mem (tb1 3 rfl) rfl, by decide +kernel⟩
set_option maxRecDepth 20000 in
theorem mi_X4_addStop : MI yX4_addStop := ⟨gw_mem (tb3 16 rfl) rfl, gw_mem (sl2 9 rfl) rfl⟩
set_option maxRecDepth 20000 in
theorem my_X4_copyOf : MY yX4_copyOf cX4_copyOf 2 none 1 := ⟨gw_mem (tb2 97 rfl) rfl, gw_mem (tb1 3 rfl) rfl, by decide +kernel⟩
set_option maxRecDepth 20000 in
theorem mi_X4_copyOf : MI yX4_copyOf := ⟨gw_mem (tb2 96 rfl) rfl, gw_mem (sl1 3 rfl) rfl⟩
set_option maxRecDepth 20000 in
theorem my_X4_empty : MY yX4_empty cX4_empty 1 none 0 := ⟨gw_mem (tb3 13 rfl) rfl, gw_mem (tb1 3 rfl) rfl, by decide +kernel⟩
set_option maxRecDepth 20000 in
theorem mi_X4_empty : MI yX4_empty := ⟨gw_mem (tb3 12 rfl) rfl, gw_mem (sl2 8 rfl) rfl⟩
set_option maxRecDepth 20000 in
theorem my_X4_hasSortie : MY yX4_hasSortie cX4_hasSortie 2 (some .boolean) 1 := ⟨gw_mem (tb4 0 rfl) rfl, gw_mem (tb1 3 rfl) rfl, by decide +kernel⟩
set_option maxRecDepth 20000 in
theorem mi_X4_hasSortie : MI yX4_hasSortie := ⟨gw_mem (tb3 239 rfl) rfl, gw_mem (sl4 9 rfl) rfl⟩
set_option maxRecDepth 20000 in
theorem my_X4_mayBeFlyer : MY yX4_mayBeFlyer cX4_mayBeFlyer 1 (some .boolean) 1 := ⟨gw_mem (tb3 74 rfl) rfl, gw_mem (tb1 3 rfl) rfl, by decide +kernel⟩
set_option maxRecDepth 20000 in
theorem ms_X4_mayBeFlyer : Cond.static yX4_mayBeFlyer ∈ gw := gw_mem (tb3 73 rfl) rfl
set_option maxRecDepth 20000 in
theorem my_X4_mayBeIndex : MY yX4_mayBeIndex cX4_mayBeIndex 1 (some .boolean) 1 := ⟨gw_mem (tb3 77 rfl) rfl, gw_mem (tb1 3 rfl) rfl, by decide +kernel⟩
set_option maxRecDepth 20000 in
theorem ms_X4_mayBeIndex : Cond.static yX4_mayBeIndex ∈ gw := gw_mem (tb3 76 rfl) rfl
set_option maxRecDepth 20000 in
theorem my_X4_part : MY yX4_part cX4_part 4 (some .int) 2 := ⟨gw_mem (tb3 139 rfl) rfl, gw_mem (tb1 3 rfl) rfl, by decide +kernel⟩
set_option maxRecDepth 20000 in
theorem mi_X4_part : MI yX4_part := ⟨gw_mem (tb3 138 rfl) rfl, gw_mem (sl3 5 rfl) rfl⟩
set_option maxRecDepth 20000 in
theorem my_X4_placeAt : MY yX4_placeAt cX4_placeAt 2 (some .int) 1 := ⟨gw_mem (tb3 156 rfl) rfl, gw_mem (tb1 3 rfl) rfl, by decide +kernel⟩
set_option maxRecDepth 20000 in
theorem mi_X4_placeAt : MI yX4_placeAt := ⟨gw_mem (tb3 155 rfl) rfl, gw_mem (sl3 8 rfl) rfl⟩
set_option maxRecDepth 20000 in
theorem my_X4_stops : MY yX4_stops cX4_stops 1 (some .int) 0 := ⟨gw_mem (tb3 67 rfl) rfl, gw_mem (tb1 3 rfl) rfl, by decide +kernel⟩
set_option maxRecDepth 20000 in
theorem mi_X4_stops : MI yX4_stops := ⟨gw_mem (tb3 66 rfl) rfl, gw_mem (sl2 14 rfl) rfl⟩
set_option maxRecDepth 20000 in
theorem my_X5_beginWithVan : MY yX5_beginWithVan cX5_beginWithVan 3 none 1 := ⟨gw_mem (tb4 59 rfl) rfl, gw_mem (tb1 6 rfl) rfl, by decide +kernel⟩
set_option maxRecDepth 20000 in
theorem mi_X5_beginWithVan : MI yX5_beginWithVan := ⟨gw_mem (tb4 58 rfl) rfl, gw_mem (sl5 3 rfl) rfl⟩
set_option maxRecDepth 20000 in
theorem my_X5_bit : MY yX5_bit cX5_bit 2 (some .int) 2 := ⟨gw_mem (tb4 90 rfl) rfl, gw_mem (tb1 6 rfl) rfl, by decide +kernel⟩
set_option maxRecDepth 20000 in
theorem ms_X5_bit : Cond.static yX5_bit ∈ gw := gw_mem (tb4 89 rfl) rfl
set_option maxRecDepth 20000 in
theorem my_X5_fill : MY yX5_fill cX5_fill 4 none 1 := ⟨gw_mem (tb4 54 rfl) rfl, gw_mem (tb1 6 rfl) rfl, by decide +kernel⟩
set_option maxRecDepth 20000 in
theorem mi_X5_fill : MI yX5_fill := ⟨gw_mem (tb4 53 rfl) rfl, gw_mem (sl5 2 rfl) rfl⟩
set_option maxRecDepth 20000 in
theorem my_X5_isFlown : MY yX5_isFlown cX5_isFlown 4 (some .boolean) 3 := ⟨gw_mem (tb4 129 rfl) rfl, gw_mem (tb1 6 rfl) rfl, by decide +kernel⟩
set_option maxRecDepth 20000 in
theorem mi_X5_isFlown : MI yX5_isFlown := ⟨gw_mem (tb4 128 rfl) rfl, gw_mem (sl6 1 rfl) rfl⟩
set_option maxRecDepth 20000 in
theorem my_X5_lastEnd : MY yX5_lastEnd cX5_lastEnd 1 (some .int) 0 := ⟨gw_mem (tb4 108 rfl) rfl, gw_mem (tb1 6 rfl) rfl, by decide +kernel⟩
set_option maxRecDepth 20000 in
theorem mi_X5_lastEnd : MI yX5_lastEnd := ⟨gw_mem (tb4 107 rfl) rfl, gw_mem (sl5 13 rfl) rfl⟩
set_option maxRecDepth 20000 in
theorem my_X5_lasts : MY yX5_lasts cX5_lasts 4 (some .boolean) 3 := ⟨gw_mem (tb4 87 rfl) rfl, gw_mem (tb1 6 rfl) rfl, by decide +kernel⟩
set_option maxRecDepth 20000 in
theorem mi_X5_lasts : MI yX5_lasts := ⟨gw_mem (tb4 86 rfl) rfl, gw_mem (sl5 10 rfl) rfl⟩
set_option maxRecDepth 20000 in
theorem my_X5_leg : MY yX5_leg cX5_leg 3 (some .int) 2 := ⟨gw_mem (tb4 63 rfl) rfl, gw_mem (tb1 6 rfl) rfl, by decide +kernel⟩
set_option maxRecDepth 20000 in
theorem mi_X5_leg : MI yX5_leg := ⟨gw_mem (tb4 62 rfl) rfl, gw_mem (sl5 4 rfl) rfl⟩
set_option maxRecDepth 20000 in
theorem my_X5_linkBlocks : MY yX5_linkBlocks cX5_linkBlocks 3 none 0 := ⟨gw_mem (tb4 120 rfl) rfl, gw_mem (tb1 6 rfl) rfl, by decide +kernel⟩
set_option maxRecDepth 20000 in
theorem mi_X5_linkBlocks : MI yX5_linkBlocks := ⟨gw_mem (tb4 119 rfl) rfl, gw_mem (sl5 15 rfl) rfl⟩
set_option maxRecDepth 20000 in
theorem my_X5_nextOrder : MY yX5_nextOrder cX5_nextOrder 5 (some .int) 0 := ⟨gw_mem (tb4 157 rfl) rfl, gw_mem (tb1 6 rfl) rfl, by decide +kernel⟩
set_option maxRecDepth 20000 in
theorem mi_X5_nextOrder : MI yX5_nextOrder := ⟨gw_mem (tb4 156 rfl) rfl, gw_mem (sl6 6 rfl) rfl⟩
set_option maxRecDepth 20000 in
theorem my_X5_offer : MY yX5_offer cX5_offer 7 none 4 := ⟨gw_mem (tb4 94 rfl) rfl, gw_mem (tb1 6 rfl) rfl, by decide +kernel⟩
set_option maxRecDepth 20000 in
theorem mi_X5_offer : MI yX5_offer := ⟨gw_mem (tb4 93 rfl) rfl, gw_mem (sl5 11 rfl) rfl⟩
set_option maxRecDepth 20000 in
theorem my_X5_offerBlocks : MY yX5_offerBlocks cX5_offerBlocks 5 none 2 := ⟨gw_mem (tb4 71 rfl) rfl, gw_mem (tb1 6 rfl) rfl, by decide +kernel⟩
set_option maxRecDepth 20000 in
theorem mi_X5_offerBlocks : MI yX5_offerBlocks := ⟨gw_mem (tb4 70 rfl) rfl, gw_mem (sl5 6 rfl) rfl⟩
set_option maxRecDepth 20000 in
theorem my_X5_offerOne : MY yX5_offerOne cX5_offerOne 7 none 3 := ⟨gw_mem (tb4 75 rfl) rfl, gw_mem (tb1 6 rfl) rfl, by decide +kernel⟩
set_option maxRecDepth 20000 in
theorem mi_X5_offerOne : MI yX5_offerOne := ⟨gw_mem (tb4 74 rfl) rfl, gw_mem (sl5 7 rfl) rfl⟩
set_option maxRecDepth 20000 in
theorem my_X5_offerTwo : MY yX5_offerTwo cX5_offerTwo 11 none 4 := ⟨gw_mem (tb4 104 rfl) rfl, gw_mem (tb1 6 rfl) rfl, by decide +kernel⟩
set_option maxRecDepth 20000 in
theorem mi_X5_offerTwo : MI yX5_offerTwo := ⟨gw_mem (tb4 103 rfl) rfl, gw_mem (sl5 12 rfl) rfl⟩
set_option maxRecDepth 20000 in
theorem my_X5_orderNumber : MY yX5_orderNumber cX5_orderNumber 3 (some .int) 0 := ⟨gw_mem (tb4 149 rfl) rfl, gw_mem (tb1 6 rfl) rfl, by decide +kernel⟩
set_option maxRecDepth 20000 in
theorem mi_X5_orderNumber : MI yX5_orderNumber := ⟨gw_mem (tb4 148 rfl) rfl, gw_mem (sl6 4 rfl) rfl⟩
set_option maxRecDepth 20000 in
theorem my_X5_prepare : MY yX5_prepare cX5_prepare 6 none 3 := ⟨gw_mem (tb4 45 rfl) rfl, gw_mem (tb1 6 rfl) rfl, by decide +kernel⟩
set_option maxRecDepth 20000 in
theorem mi_X5_prepare : MI yX5_prepare := ⟨gw_mem (tb4 44 rfl) rfl, gw_mem (sl5 1 rfl) rfl⟩
set_option maxRecDepth 20000 in
theorem my_X5_readOrder : MY yX5_readOrder cX5_readOrder 6 (some .boolean) 1 := ⟨gw_mem (tb4 36 rfl) rfl, gw_mem (tb1 6 rfl) rfl, by decide +kernel⟩
set_option maxRecDepth 20000 in
theorem mi_X5_readOrder : MI yX5_readOrder := ⟨gw_mem (tb4 35 rfl) rfl, gw_mem (sl4 15 rfl) rfl⟩
set_option maxRecDepth 20000 in
theorem my_X5_search : MY yX5_search cX5_search 4 none 1 := ⟨gw_mem (tb4 143 rfl) rfl, gw_mem (tb1 6 rfl) rfl, by decide +kernel⟩
set_option maxRecDepth 20000 in
theorem mi_X5_search : MI yX5_search := ⟨gw_mem (tb4 142 rfl) rfl, gw_mem (sl6 3 rfl) rfl⟩
set_option maxRecDepth 20000 in
theorem my_X5_soonest : MY yX5_soonest cX5_soonest 3 (some .int) 2 := ⟨gw_mem (tb4 67 rfl) rfl, gw_mem (tb1 6 rfl) rfl, by decide +kernel⟩
set_option maxRecDepth 20000 in
theorem mi_X5_soonest : MI yX5_soonest := ⟨gw_mem (tb4 66 rfl) rfl, gw_mem (sl5 5 rfl) rfl⟩
set_option maxRecDepth 20000 in
theorem my_X5_spared : MY yX5_spared cX5_spared 4 (some .int) 2 := ⟨gw_mem (tb4 79 rfl) rfl, gw_mem (tb1 6 rfl) rfl, by decide +kernel⟩
set_option maxRecDepth 20000 in
theorem mi_X5_spared : MI yX5_spared := ⟨gw_mem (tb4 78 rfl) rfl, gw_mem (sl5 8 rfl) rfl⟩
set_option maxRecDepth 20000 in
theorem my_X5_swap : MY yX5_swap cX5_swap 4 none 2 := ⟨gw_mem (tb4 161 rfl) rfl, gw_mem (tb1 6 rfl) rfl, by decide +kernel⟩
set_option maxRecDepth 20000 in
theorem mi_X5_swap : MI yX5_swap := ⟨gw_mem (tb4 160 rfl) rfl, gw_mem (sl6 7 rfl) rfl⟩
set_option maxRecDepth 20000 in
theorem my_X5_trip : MY yX5_trip cX5_trip 5 (some .int) 3 := ⟨gw_mem (tb4 83 rfl) rfl, gw_mem (tb1 6 rfl) rfl, by decide +kernel⟩
set_option maxRecDepth 20000 in
theorem mi_X5_trip : MI yX5_trip := ⟨gw_mem (tb4 82 rfl) rfl, gw_mem (sl5 9 rfl) rfl⟩
set_option maxRecDepth 20000 in
theorem my_X5_writeBlock : MY yX5_writeBlock cX5_writeBlock 8 none 3 := ⟨gw_mem (tb4 125 rfl) rfl, gw_mem (tb1 6 rfl) rfl, by decide +kernel⟩
set_option maxRecDepth 20000 in
theorem mi_X5_writeBlock : MI yX5_writeBlock := ⟨gw_mem (tb4 124 rfl) rfl, gw_mem (sl6 0 rfl) rfl⟩
set_option maxRecDepth 20000 in
theorem my_X5_writePlan : MY yX5_writePlan cX5_writePlan 3 none 1 := ⟨gw_mem (tb4 116 rfl) rfl, gw_mem (tb1 6 rfl) rfl, by decide +kernel⟩
set_option maxRecDepth 20000 in
theorem mi_X5_writePlan : MI yX5_writePlan := ⟨gw_mem (tb4 115 rfl) rfl, gw_mem (sl5 14 rfl) rfl⟩
set_option maxRecDepth 20000 in
theorem my_X6_append : MY yX6_append cX6_append 3 none 1 := ⟨gw_mem (tb2 74 rfl) rfl, gw_mem (tb1 7 rfl) rfl, by decide +kernel⟩
set_option maxRecDepth 20000 in
theorem mi_X6_append : MI yX6_append := ⟨gw_mem (tb2 73 rfl) rfl, gw_mem (sl1 0 rfl) rfl⟩
set_option maxRecDepth 20000 in
theorem my_X6_byteAt : MY yX6_byteAt cX6_byteAt 2 (some .int) 1 := ⟨gw_mem (tb2 110 rfl) rfl, gw_mem (tb1 7 rfl) rfl, by decide +kernel⟩
set_option maxRecDepth 20000 in
theorem mi_X6_byteAt : MI yX6_byteAt := ⟨gw_mem (tb2 109 rfl) rfl, gw_mem (sl1 6 rfl) rfl⟩
set_option maxRecDepth 20000 in
theorem my_X6_hasBlankAt : MY yX6_hasBlankAt cX6_hasBlankAt 2 (some .boolean) 1 := ⟨gw_mem (tb2 106 rfl) rfl, gw_mem (tb1 7 rfl) rfl, by decide +kernel⟩
set_option maxRecDepth 20000 in
theorem mi_X6_hasBlankAt : MI yX6_hasBlankAt := ⟨gw_mem (tb2 105 rfl) rfl, gw_mem (sl1 5 rfl) rfl⟩
set_option maxRecDepth 20000 in
theorem my_X6_hasDigitAt : MY yX6_hasDigitAt cX6_hasDigitAt 2 (some .boolean) 1 := ⟨gw_mem (tb2 123 rfl) rfl, gw_mem (tb1 7 rfl) rfl, by decide +kernel⟩
set_option maxRecDepth 20000 in
theorem mi_X6_hasDigitAt : MI yX6_hasDigitAt := ⟨gw_mem (tb2 122 rfl) rfl, gw_mem (sl1 9 rfl) rfl⟩
set_option maxRecDepth 20000 in
theorem my_X6_hasLetterAt : MY yX6_hasLetterAt cX6_hasLetterAt 2 (some .boolean) 1 := ⟨gw_mem (tb2 115 rfl) rfl, gw_mem (tb1 7 rfl) rfl, by decide +kernel⟩
set_option maxRecDepth 20000 in
theorem mi_X6_hasLetterAt : MI yX6_hasLetterAt := ⟨gw_mem (tb2 114 rfl) rfl, gw_mem (sl1 7 rfl) rfl⟩
set_option maxRecDepth 20000 in
theorem my_X7_apply : MY yX7_apply cX7_apply 2 none 1 := ⟨gw_mem (tb2 216 rfl) rfl, gw_mem (tb1 8 rfl) rfl, by decide +kernel⟩
set_option maxRecDepth 20000 in
theorem mi_X7_apply : MI yX7_apply := ⟨gw_mem (tb2 215 rfl) rfl, gw_mem (sl2 1 rfl) rfl⟩
set_option maxRecDepth 20000 in
theorem my_X7_applyFacts : MY yX7_applyFacts cX7_applyFacts 3 none 1 := ⟨gw_mem (tb2 220 rfl) rfl, gw_mem (tb1 8 rfl) rfl, by decide +kernel⟩
set_option maxRecDepth 20000 in
theorem mi_X7_applyFacts : MI yX7_applyFacts := ⟨gw_mem (tb2 219 rfl) rfl, gw_mem (sl2 2 rfl) rfl⟩
set_option maxRecDepth 20000 in
theorem my_X7_applyRow : MY yX7_applyRow cX7_applyRow 2 none 0 := ⟨gw_mem (tb3 9 rfl) rfl, gw_mem (tb1 8 rfl) rfl, by decide +kernel⟩
set_option maxRecDepth 20000 in
theorem mi_X7_applyRow : MI yX7_applyRow := ⟨gw_mem (tb3 8 rfl) rfl, gw_mem (sl2 7 rfl) rfl⟩
set_option maxRecDepth 20000 in
theorem my_X7_isWord : MY yX7_isWord cX7_isWord 3 (some .boolean) 1 := ⟨gw_mem (tb2 136 rfl) rfl, gw_mem (tb1 8 rfl) rfl, by decide +kernel⟩
set_option maxRecDepth 20000 in
theorem mi_X7_isWord : MI yX7_isWord := ⟨gw_mem (tb2 135 rfl) rfl, gw_mem (sl1 12 rfl) rfl⟩
set_option maxRecDepth 20000 in
theorem my_X7_least : MY yX7_least cX7_least 2 (some .int) 1 := ⟨gw_mem (tb2 202 rfl) rfl, gw_mem (tb1 8 rfl) rfl, by decide +kernel⟩
set_option maxRecDepth 20000 in
theorem mi_X7_least : MI yX7_least := ⟨gw_mem (tb2 201 rfl) rfl, gw_mem (sl1 15 rfl) rfl⟩
set_option maxRecDepth 20000 in
theorem my_X7_most : MY yX7_most cX7_most 2 (some .int) 1 := ⟨gw_mem (tb2 208 rfl) rfl, gw_mem (tb1 8 rfl) rfl, by decide +kernel⟩
set_option maxRecDepth 20000 in
theorem mi_X7_most : MI yX7_most := ⟨gw_mem (tb2 207 rfl) rfl, gw_mem (sl2 0 rfl) rfl⟩
set_option maxRecDepth 20000 in
theorem my_X7_read : MY yX7_read cX7_read 5 (some .int) 2 := ⟨gw_mem (tb2 86 rfl) rfl, gw_mem (tb1 8 rfl) rfl, by decide +kernel⟩
set_option maxRecDepth 20000 in
theorem mi_X7_read : MI yX7_read := ⟨gw_mem (tb2 85 rfl) rfl, gw_mem (sl1 1 rfl) rfl⟩
set_option maxRecDepth 20000 in
theorem my_X7_readStatement : MY yX7_readStatement cX7_readStatement 3 (some .boolean) 1 := ⟨gw_mem (tb2 192 rfl) rfl, gw_mem (tb1 8 rfl) rfl, by decide +kernel⟩
set_option maxRecDepth 20000 in
theorem mi_X7_readStatement : MI yX7_readStatement := ⟨gw_mem (tb2 191 rfl) rfl, gw_mem (sl1 13 rfl) rfl⟩
set_option maxRecDepth 20000 in
theorem my_X7_refuse : MY yX7_refuse cX7_refuse 2 (some .boolean) 1 := ⟨gw_mem (tb2 196 rfl) rfl, gw_mem (tb1 8 rfl) rfl, by decide +kernel⟩
set_option maxRecDepth 20000 in
theorem mi_X7_refuse : MI yX7_refuse := ⟨gw_mem (tb2 195 rfl) rfl, gw_mem (sl1 14 rfl) rfl⟩
set_option maxRecDepth 20000 in
theorem my_X7_step : MY yX7_step cX7_step 1 none 0 := ⟨gw_mem (tb2 102 rfl) rfl, gw_mem (tb1 8 rfl) rfl, by decide +kernel⟩
set_option maxRecDepth 20000 in
theorem mi_X7_step : MI yX7_step := ⟨gw_mem (tb2 101 rfl) rfl, gw_mem (sl1 4 rfl) rfl⟩
set_option maxRecDepth 20000 in
theorem my_X7_stepInt : MY yX7_stepInt cX7_stepInt 5 none 2 := ⟨gw_mem (tb2 127 rfl) rfl, gw_mem (tb1 8 rfl) rfl, by decide +kernel⟩
set_option maxRecDepth 20000 in
theorem mi_X7_stepInt : MI yX7_stepInt := ⟨gw_mem (tb2 126 rfl) rfl, gw_mem (sl1 10 rfl) rfl⟩
set_option maxRecDepth 20000 in
theorem my_X7_stepWord : MY yX7_stepWord cX7_stepWord 1 none 0 := ⟨gw_mem (tb2 119 rfl) rfl, gw_mem (tb1 8 rfl) rfl, by decide +kernel⟩
set_option maxRecDepth 20000 in
theorem mi_X7_stepWord : MI yX7_stepWord := ⟨gw_mem (tb2 118 rfl) rfl, gw_mem (sl1 8 rfl) rfl⟩
set_option maxRecDepth 20000 in
theorem my_X7_whatIsTold : MY yX7_whatIsTold cX7_whatIsTold 1 (some .int) 0 := ⟨gw_mem (tb2 131 rfl) rfl, gw_mem (tb1 8 rfl) rfl, by decide +kernel⟩
set_option maxRecDepth 20000 in
theorem mi_X7_whatIsTold : MI yX7_whatIsTold := ⟨gw_mem (tb2 130 rfl) rfl, gw_mem (sl1 11 rfl) rfl⟩
set_option maxRecDepth 20000 in
theorem my_X8_bestWind : MY yX8_bestWind cX8_bestWind 5 (some .int) 0 := ⟨gw_mem (tb4 181 rfl) rfl, gw_mem (tb1 1 rfl) rfl, by decide +kernel⟩
set_option maxRecDepth 20000 in
theorem mi_X8_bestWind : MI yX8_bestWind := ⟨gw_mem (tb4 180 rfl) rfl, gw_mem (sl6 9 rfl) rfl⟩
set_option maxRecDepth 20000 in
theorem my_X8_endByWind : MY yX8_endByWind cX8_endByWind 2 (some .int) 1 := ⟨gw_mem (tb4 185 rfl) rfl, gw_mem (tb1 1 rfl) rfl, by decide +kernel⟩
set_option maxRecDepth 20000 in
theorem mi_X8_endByWind : MI yX8_endByWind := ⟨gw_mem (tb4 184 rfl) rfl, gw_mem (sl6 10 rfl) rfl⟩
set_option maxRecDepth 20000 in
theorem my_X8_fillTable : MY yX8_fillTable cX8_fillTable 1 none 0 := ⟨gw_mem (tb4 41 rfl) rfl, gw_mem (tb1 1 rfl) rfl, by decide +kernel⟩
set_option maxRecDepth 20000 in
theorem mi_X8_fillTable : MI yX8_fillTable := ⟨gw_mem (tb4 40 rfl) rfl, gw_mem (sl5 0 rfl) rfl⟩
set_option maxRecDepth 20000 in
theorem my_X8_forgetSearches : MY yX8_forgetSearches cX8_forgetSearches 1 none 0 := ⟨gw_mem (tb3 27 rfl) rfl, gw_mem (tb1 1 rfl) rfl, by decide +kernel⟩
set_option maxRecDepth 20000 in
theorem mi_X8_forgetSearches : MI yX8_forgetSearches := ⟨gw_mem (tb3 26 rfl) rfl, gw_mem (sl2 11 rfl) rfl⟩
set_option maxRecDepth 20000 in
theorem my_X8_searchAlone : MY yX8_searchAlone cX8_searchAlone 1 none 0 := ⟨gw_mem (tb4 173 rfl) rfl, gw_mem (tb1 1 rfl) rfl, by decide +kernel⟩
set_option maxRecDepth 20000 in
theorem mi_X8_searchAlone : MI yX8_searchAlone := ⟨gw_mem (tb4 172 rfl) rfl, gw_mem (sl6 8 rfl) rfl⟩
set_option maxRecDepth 20000 in
theorem my_X8_searchBest : MY yX8_searchBest cX8_searchBest 1 none 0 := ⟨gw_mem (tb4 139 rfl) rfl, gw_mem (tb1 1 rfl) rfl, by decide +kernel⟩
set_option maxRecDepth 20000 in
theorem mi_X8_searchBest : MI yX8_searchBest := ⟨gw_mem (tb4 138 rfl) rfl, gw_mem (sl6 2 rfl) rfl⟩
set_option maxRecDepth 20000 in
theorem my_X9_airOf : MY yX9_airOf cX9_airOf 2 (some .int) 1 := ⟨gw_mem (tb6 98 rfl) rfl, gw_mem (tb1 10 rfl) rfl, by decide +kernel⟩
set_option maxRecDepth 20000 in
theorem mi_X9_airOf : MI yX9_airOf := ⟨gw_mem (tb6 97 rfl) rfl, gw_mem (sl9 1 rfl) rfl⟩
set_option maxRecDepth 20000 in
theorem my_X9_bits : MY yX9_bits cX9_bits 3 (some .int) 1 := ⟨gw_mem (tb6 133 rfl) rfl, gw_mem (tb1 10 rfl) rfl, by decide +kernel⟩
set_option maxRecDepth 20000 in
theorem ms_X9_bits : Cond.static yX9_bits ∈ gw := gw_mem (tb6 132 rfl) rfl
set_option maxRecDepth 20000 in
theorem my_X9_clears : MY yX9_clears cX9_clears 1 none 0 := ⟨gw_mem (tb5 133 rfl) rfl, gw_mem (tb1 10 rfl) rfl, by decide +kernel⟩
set_option maxRecDepth 20000 in
theorem mi_X9_clears : MI yX9_clears := ⟨gw_mem (tb5 132 rfl) rfl, gw_mem (sl6 14 rfl) rfl⟩
set_option maxRecDepth 20000 in
theorem my_X9_crosses : MY yX9_crosses cX9_crosses 3 (some .boolean) 1 := ⟨gw_mem (tb6 66 rfl) rfl, gw_mem (tb1 10 rfl) rfl, by decide +kernel⟩
set_option maxRecDepth 20000 in
theorem mi_X9_crosses : MI yX9_crosses := ⟨gw_mem (tb6 65 rfl) rfl, gw_mem (sl8 9 rfl) rfl⟩
set_option maxRecDepth 20000 in
theorem my_X9_customers : MY yX9_customers cX9_customers 1 (some .int) 0 := ⟨gw_mem (tb5 121 rfl) rfl, gw_mem (tb1 10 rfl) rfl, by decide +kernel⟩
set_option maxRecDepth 20000 in
theorem mi_X9_customers : MI yX9_customers := ⟨gw_mem (tb5 120 rfl) rfl, gw_mem (sl6 12 rfl) rfl⟩
set_option maxRecDepth 20000 in
theorem my_X9_drive : MY yX9_drive cX9_drive 3 (some .int) 2 := ⟨gw_mem (tb5 215 rfl) rfl, gw_mem (tb1 10 rfl) rfl, by decide +kernel⟩
set_option maxRecDepth 20000 in
theorem mi_X9_drive : MI yX9_drive := ⟨gw_mem (tb5 214 rfl) rfl, gw_mem (sl7 9 rfl) rfl⟩
set_option maxRecDepth 20000 in
theorem my_X9_fails : MY yX9_fails cX9_fails 3 none 2 := ⟨gw_mem (tb6 30 rfl) rfl, gw_mem (tb1 10 rfl) rfl, by decide +kernel⟩
set_option maxRecDepth 20000 in
theorem mi_X9_fails : MI yX9_fails := ⟨gw_mem (tb6 29 rfl) rfl, gw_mem (sl8 2 rfl) rfl⟩
set_option maxRecDepth 20000 in
theorem my_X9_flight : MY yX9_flight cX9_flight 7 (some .int) 2 := ⟨gw_mem (tb5 208 rfl) rfl, gw_mem (tb1 10 rfl) rfl, by decide +kernel⟩
set_option maxRecDepth 20000 in
theorem mi_X9_flight : MI yX9_flight := ⟨gw_mem (tb5 207 rfl) rfl, gw_mem (sl7 8 rfl) rfl⟩
set_option maxRecDepth 20000 in
theorem my_X9_goes : MY yX9_goes cX9_goes 5 (some .boolean) 0 := ⟨gw_mem (tb6 70 rfl) rfl, gw_mem (tb1 10 rfl) rfl, by decide +kernel⟩
set_option maxRecDepth 20000 in
theorem mi_X9_goes : MI yX9_goes := ⟨gw_mem (tb6 69 rfl) rfl, gw_mem (sl8 10 rfl) rfl⟩
set_option maxRecDepth 20000 in
theorem my_X9_goesOn : MY yX9_goesOn cX9_goesOn 6 (some .boolean) 0 := ⟨gw_mem (tb6 161 rfl) rfl, gw_mem (tb1 10 rfl) rfl, by decide +kernel⟩
set_option maxRecDepth 20000 in
theorem mi_X9_goesOn : MI yX9_goesOn := ⟨gw_mem (tb6 160 rfl) rfl, gw_mem (sl9 8 rfl) rfl⟩
set_option maxRecDepth 20000 in
theorem my_X9_happens : MY yX9_happens cX9_happens 6 none 4 := ⟨gw_mem (tb6 74 rfl) rfl, gw_mem (tb1 10 rfl) rfl, by decide +kernel⟩
set_option maxRecDepth 20000 in
theorem mi_X9_happens : MI yX9_happens := ⟨gw_mem (tb6 73 rfl) rfl, gw_mem (sl8 11 rfl) rfl⟩
set_option maxRecDepth 20000 in
theorem my_X9_here : MY yX9_here cX9_here 1 (some .int) 0 := ⟨gw_mem (tb6 3 rfl) rfl, gw_mem (tb1 10 rfl) rfl, by decide +kernel⟩
set_option maxRecDepth 20000 in
theorem mi_X9_here : MI yX9_here := ⟨gw_mem (tb6 2 rfl) rfl, gw_mem (sl7 12 rfl) rfl⟩
set_option maxRecDepth 20000 in
theorem my_X9_isAhead : MY yX9_isAhead cX9_isAhead 4 (some .boolean) 2 := ⟨gw_mem (tb6 94 rfl) rfl, gw_mem (tb1 10 rfl) rfl, by decide +kernel⟩
set_option maxRecDepth 20000 in
theorem mi_X9_isAhead : MI yX9_isAhead := ⟨gw_mem (tb6 93 rfl) rfl, gw_mem (sl9 0 rfl) rfl⟩
set_option maxRecDepth 20000 in
theorem my_X9_isCustomer : MY yX9_isCustomer cX9_isCustomer 2 (some .boolean) 1 := ⟨gw_mem (tb5 152 rfl) rfl, gw_mem (tb1 10 rfl) rfl, by decide +kernel⟩
set_option maxRecDepth 20000 in
theorem mi_X9_isCustomer : MI yX9_isCustomer := ⟨gw_mem (tb5 151 rfl) rfl, gw_mem (sl7 0 rfl) rfl⟩
set_option maxRecDepth 20000 in
theorem my_X9_isDigitAt : MY yX9_isDigitAt cX9_isDigitAt 2 (some .boolean) 1 := ⟨gw_mem (tb6 26 rfl) rfl, gw_mem (tb1 10 rfl) rfl, by decide +kernel⟩
set_option maxRecDepth 20000 in
theorem mi_X9_isDigitAt : MI yX9_isDigitAt := ⟨gw_mem (tb6 25 rfl) rfl, gw_mem (sl8 1 rfl) rfl⟩
set_option maxRecDepth 20000 in
theorem my_X9_isIn : MY yX9_isIn cX9_isIn 3 (some .boolean) 3 := ⟨gw_mem (tb5 117 rfl) rfl, gw_mem (tb1 10 rfl) rfl, by decide +kernel⟩
set_option maxRecDepth 20000 in
theorem ms_X9_isIn : Cond.static yX9_isIn ∈ gw := gw_mem (tb5 116 rfl) rfl
set_option maxRecDepth 20000 in
theorem my_X9_isLight : MY yX9_isLight cX9_isLight 2 (some .boolean) 1 := ⟨gw_mem (tb6 62 rfl) rfl, gw_mem (tb1 10 rfl) rfl, by decide +kernel⟩
set_option maxRecDepth 20000 in
theorem mi_X9_isLight : MI yX9_isLight := ⟨gw_mem (tb6 61 rfl) rfl, gw_mem (sl8 8 rfl) rfl⟩
set_option maxRecDepth 20000 in
theorem my_X9_isLightSet : MY yX9_isLightSet cX9_isLightSet 4 (some .boolean) 2 := ⟨gw_mem (tb6 137 rfl) rfl, gw_mem (tb1 10 rfl) rfl, by decide +kernel⟩
set_option maxRecDepth 20000 in
theorem mi_X9_isLightSet : MI yX9_isLightSet := ⟨gw_mem (tb6 136 rfl) rfl, gw_mem (sl9 4 rfl) rfl⟩
set_option maxRecDepth 20000 in
theorem my_X9_isPlace : MY yX9_isPlace cX9_isPlace 2 (some .boolean) 1 := ⟨gw_mem (tb5 196 rfl) rfl, gw_mem (tb1 10 rfl) rfl, by decide +kernel⟩
set_option maxRecDepth 20000 in
theorem mi_X9_isPlace : MI yX9_isPlace := ⟨gw_mem (tb5 195 rfl) rfl, gw_mem (sl7 6 rfl) rfl⟩
set_option maxRecDepth 20000 in
theorem my_X9_lasts : MY yX9_lasts cX9_lasts 12 (some .int) 3 := ⟨gw_mem (tb6 141 rfl) rfl, gw_mem (tb1 10 rfl) rfl, by decide +kernel⟩
set_option maxRecDepth 20000 in
theorem mi_X9_lasts : MI yX9_lasts := ⟨gw_mem (tb6 140 rfl) rfl, gw_mem (sl9 5 rfl) rfl⟩
set_option maxRecDepth 20000 in
theorem my_X9_launches : MY yX9_launches cX9_launches 8 (some .int) 2 := ⟨gw_mem (tb6 86 rfl) rfl, gw_mem (tb1 10 rfl) rfl, by decide +kernel⟩
set_option maxRecDepth 20000 in
theorem mi_X9_launches : MI yX9_launches := ⟨gw_mem (tb6 85 rfl) rfl, gw_mem (sl8 14 rfl) rfl⟩
set_option maxRecDepth 20000 in
theorem my_X9_lays : MY yX9_lays cX9_lays 7 (some .boolean) 1 := ⟨gw_mem (tb6 126 rfl) rfl, gw_mem (tb1 10 rfl) rfl, by decide +kernel⟩
set_option maxRecDepth 20000 in
theorem mi_X9_lays : MI yX9_lays := ⟨gw_mem (tb6 125 rfl) rfl, gw_mem (sl9 2 rfl) rfl⟩
set_option maxRecDepth 20000 in
theorem my_X9_letters : MY yX9_letters cX9_letters 3 (some .int) 3 := ⟨gw_mem (tb6 14 rfl) rfl, gw_mem (tb1 10 rfl) rfl, by decide +kernel⟩
set_option maxRecDepth 20000 in
theorem ms_X9_letters : Cond.static yX9_letters ∈ gw := gw_mem (tb6 13 rfl) rfl
set_option maxRecDepth 20000 in
theorem my_X9_mayBe : MY yX9_mayBe cX9_mayBe 2 (some .boolean) 2 := ⟨gw_mem (tb5 114 rfl) rfl, gw_mem (tb1 10 rfl) rfl, by decide +kernel⟩
set_option maxRecDepth 20000 in
theorem ms_X9_mayBe : Cond.static yX9_mayBe ∈ gw := gw_mem (tb5 113 rfl) rfl
set_option maxRecDepth 20000 in
theorem my_X9_maySend : MY yX9_maySend cX9_maySend 5 (some .boolean) 4 := ⟨gw_mem (tb5 168 rfl) rfl, gw_mem (tb1 10 rfl) rfl, by decide +kernel⟩
set_option maxRecDepth 20000 in
theorem mi_X9_maySend : MI yX9_maySend := ⟨gw_mem (tb5 167 rfl) rfl, gw_mem (sl7 3 rfl) rfl⟩
set_option maxRecDepth 20000 in
theorem my_X9_maySet : MY yX9_maySet cX9_maySet 2 (some .boolean) 2 := ⟨gw_mem (tb5 140 rfl) rfl, gw_mem (tb1 10 rfl) rfl, by decide +kernel⟩
set_option maxRecDepth 20000 in
theorem ms_X9_maySet : Cond.static yX9_maySet ∈ gw := gw_mem (tb5 139 rfl) rfl
set_option maxRecDepth 20000 in
theorem my_X9_more : MY yX9_more cX9_more 7 none 5 := ⟨gw_mem (tb5 125 rfl) rfl, gw_mem (tb1 10 rfl) rfl, by decide +kernel⟩
set_option maxRecDepth 20000 in
theorem mi_X9_more : MI yX9_more := ⟨gw_mem (tb5 124 rfl) rfl, gw_mem (sl6 13 rfl) rfl⟩
set_option maxRecDepth 20000 in
theorem my_X9_nextCaught : MY yX9_nextCaught cX9_nextCaught 5 (some .int) 1 := ⟨gw_mem (tb6 82 rfl) rfl, gw_mem (tb1 10 rfl) rfl, by decide +kernel⟩
set_option maxRecDepth 20000 in
theorem mi_X9_nextCaught : MI yX9_nextCaught := ⟨gw_mem (tb6 81 rfl) rfl, gw_mem (sl8 13 rfl) rfl⟩
set_option maxRecDepth 20000 in
theorem my_X9_number : MY yX9_number cX9_number 5 (some .int) 0 := ⟨gw_mem (tb6 22 rfl) rfl, gw_mem (tb1 10 rfl) rfl, by decide +kernel⟩
set_option maxRecDepth 20000 in
theorem mi_X9_number : MI yX9_number := ⟨gw_mem (tb6 21 rfl) rfl, gw_mem (sl8 0 rfl) rfl⟩
set_option maxRecDepth 20000 in
theorem my_X9_numberIn : MY yX9_numberIn cX9_numberIn 4 (some .int) 2 := ⟨gw_mem (tb6 34 rfl) rfl, gw_mem (tb1 10 rfl) rfl, by decide +kernel⟩
set_option maxRecDepth 20000 in
theorem mi_X9_numberIn : MI yX9_numberIn := ⟨gw_mem (tb6 33 rfl) rfl, gw_mem (sl8 3 rfl) rfl⟩
set_option maxRecDepth 20000 in
theorem my_X9_numberOf : MY yX9_numberOf cX9_numberOf 3 (some .int) 1 := ⟨gw_mem (tb6 18 rfl) rfl, gw_mem (tb1 10 rfl) rfl, by decide +kernel⟩
set_option maxRecDepth 20000 in
theorem mi_X9_numberOf : MI yX9_numberOf := ⟨gw_mem (tb6 17 rfl) rfl, gw_mem (sl7 15 rfl) rfl⟩
set_option maxRecDepth 20000 in
theorem my_X9_of : MY yX9_of cX9_of 2 (some .int) 1 := ⟨gw_mem (tb5 144 rfl) rfl, gw_mem (tb1 10 rfl) rfl, by decide +kernel⟩
set_option maxRecDepth 20000 in
theorem mi_X9_of : MI yX9_of := ⟨gw_mem (tb5 143 rfl) rfl, gw_mem (sl6 15 rfl) rfl⟩
set_option maxRecDepth 20000 in
theorem my_X9_placeOf : MY yX9_placeOf cX9_placeOf 3 (some .int) 2 := ⟨gw_mem (tb5 200 rfl) rfl, gw_mem (tb1 10 rfl) rfl, by decide +kernel⟩
set_option maxRecDepth 20000 in
theorem mi_X9_placeOf : MI yX9_placeOf := ⟨gw_mem (tb5 199 rfl) rfl, gw_mem (sl7 7 rfl) rfl⟩
set_option maxRecDepth 20000 in
theorem my_X9_put : MY yX9_put cX9_put 3 none 1 := ⟨gw_mem (tb5 231 rfl) rfl, gw_mem (tb1 10 rfl) rfl, by decide +kernel⟩
set_option maxRecDepth 20000 in
theorem mi_X9_put : MI yX9_put := ⟨gw_mem (tb5 230 rfl) rfl, gw_mem (sl7 11 rfl) rfl⟩
set_option maxRecDepth 20000 in
theorem my_X9_rowGoesOn : MY yX9_rowGoesOn cX9_rowGoesOn 2 none 0 := ⟨gw_mem (tb6 38 rfl) rfl, gw_mem (tb1 10 rfl) rfl, by decide +kernel⟩
set_option maxRecDepth 20000 in
theorem mi_X9_rowGoesOn : MI yX9_rowGoesOn := ⟨gw_mem (tb6 37 rfl) rfl, gw_mem (sl8 4 rfl) rfl⟩
set_option maxRecDepth 20000 in
theorem my_X9_seeks : MY yX9_seeks cX9_seeks 3 none 1 := ⟨gw_mem (tb6 153 rfl) rfl, gw_mem (tb1 10 rfl) rfl, by decide +kernel⟩
set_option maxRecDepth 20000 in
theorem mi_X9_seeks : MI yX9_seeks := ⟨gw_mem (tb6 152 rfl) rfl, gw_mem (sl9 6 rfl) rfl⟩
set_option maxRecDepth 20000 in
theorem my_X9_sends : MY yX9_sends cX9_sends 6 none 4 := ⟨gw_mem (tb5 176 rfl) rfl, gw_mem (tb1 10 rfl) rfl, by decide +kernel⟩
set_option maxRecDepth 20000 in
theorem mi_X9_sends : MI yX9_sends := ⟨gw_mem (tb5 175 rfl) rfl, gw_mem (sl7 5 rfl) rfl⟩
set_option maxRecDepth 20000 in
theorem my_X9_servedBy : MY yX9_servedBy cX9_servedBy 4 (some .int) 1 := ⟨gw_mem (tb6 54 rfl) rfl, gw_mem (tb1 10 rfl) rfl, by decide +kernel⟩
set_option maxRecDepth 20000 in
theorem mi_X9_servedBy : MI yX9_servedBy := ⟨gw_mem (tb6 53 rfl) rfl, gw_mem (sl8 6 rfl) rfl⟩
set_option maxRecDepth 20000 in
theorem my_X9_service : MY yX9_service cX9_service 2 (some .int) 1 := ⟨gw_mem (tb6 78 rfl) rfl, gw_mem (tb1 10 rfl) rfl, by decide +kernel⟩
set_option maxRecDepth 20000 in
theorem mi_X9_service : MI yX9_service := ⟨gw_mem (tb6 77 rfl) rfl, gw_mem (sl8 12 rfl) rfl⟩
set_option maxRecDepth 20000 in
theorem my_X9_size : MY yX9_size cX9_size 1 (some .int) 1 := ⟨gw_mem (tb5 211 rfl) rfl, gw_mem (tb1 10 rfl) rfl, by decide +kernel⟩
set_option maxRecDepth 20000 in
theorem ms_X9_size : Cond.static yX9_size ∈ gw := gw_mem (tb5 210 rfl) rfl
set_option maxRecDepth 20000 in
theorem my_X9_sortieOf : MY yX9_sortieOf cX9_sortieOf 3 (some .int) 2 := ⟨gw_mem (tb5 223 rfl) rfl, gw_mem (tb1 10 rfl) rfl, by decide +kernel⟩
set_option maxRecDepth 20000 in
theorem mi_X9_sortieOf : MI yX9_sortieOf := ⟨gw_mem (tb5 222 rfl) rfl, gw_mem (sl7 10 rfl) rfl⟩
set_option maxRecDepth 20000 in
theorem my_X9_sorties : MY yX9_sorties cX9_sorties 1 (some .int) 0 := ⟨gw_mem (tb5 172 rfl) rfl, gw_mem (tb1 10 rfl) rfl, by decide +kernel⟩
set_option maxRecDepth 20000 in
theorem mi_X9_sorties : MI yX9_sorties := ⟨gw_mem (tb5 171 rfl) rfl, gw_mem (sl7 4 rfl) rfl⟩
set_option maxRecDepth 20000 in
theorem my_X9_sorts : MY yX9_sorts cX9_sorts 5 none 0 := ⟨gw_mem (tb6 90 rfl) rfl, gw_mem (tb1 10 rfl) rfl, by decide +kernel⟩
set_option maxRecDepth 20000 in
theorem mi_X9_sorts : MI yX9_sorts := ⟨gw_mem (tb6 89 rfl) rfl, gw_mem (sl8 15 rfl) rfl⟩
set_option maxRecDepth 20000 in
theorem my_X9_splitBy : MY yX9_splitBy cX9_splitBy 5 (some .int) 1 := ⟨gw_mem (tb6 181 rfl) rfl, gw_mem (tb1 10 rfl) rfl, by decide +kernel⟩
set_option maxRecDepth 20000 in
theorem mi_X9_splitBy : MI yX9_splitBy := ⟨gw_mem (tb6 180 rfl) rfl, gw_mem (sl9 10 rfl) rfl⟩
set_option maxRecDepth 20000 in
theorem my_X9_splits : MY yX9_splits cX9_splits 10 (some .int) 1 := ⟨gw_mem (tb6 130 rfl) rfl, gw_mem (tb1 10 rfl) rfl, by decide +kernel⟩
set_option maxRecDepth 20000 in
theorem mi_X9_splits : MI yX9_splits := ⟨gw_mem (tb6 129 rfl) rfl, gw_mem (sl9 3 rfl) rfl⟩
set_option maxRecDepth 20000 in
theorem my_X9_statement : MY yX9_statement cX9_statement 7 none 0 := ⟨gw_mem (tb6 7 rfl) rfl, gw_mem (tb1 10 rfl) rfl, by decide +kernel⟩
set_option maxRecDepth 20000 in
theorem mi_X9_statement : MI yX9_statement := ⟨gw_mem (tb6 6 rfl) rfl, gw_mem (sl7 13 rfl) rfl⟩
set_option maxRecDepth 20000 in
theorem my_X9_stopAt : MY yX9_stopAt cX9_stopAt 2 (some .int) 1 := ⟨gw_mem (tb6 58 rfl) rfl, gw_mem (tb1 10 rfl) rfl, by decide +kernel⟩
set_option maxRecDepth 20000 in
theorem mi_X9_stopAt : MI yX9_stopAt := ⟨gw_mem (tb6 57 rfl) rfl, gw_mem (sl8 7 rfl) rfl⟩
set_option maxRecDepth 20000 in
theorem my_X9_stops : MY yX9_stops cX9_stops 1 (some .int) 0 := ⟨gw_mem (tb5 156 rfl) rfl, gw_mem (tb1 10 rfl) rfl, by decide +kernel⟩
set_option maxRecDepth 20000 in
theorem mi_X9_stops : MI yX9_stops := ⟨gw_mem (tb5 155 rfl) rfl, gw_mem (sl7 1 rfl) rfl⟩
set_option maxRecDepth 20000 in
theorem my_X9_stopsAt : MY yX9_stopsAt cX9_stopsAt 2 none 1 := ⟨gw_mem (tb5 160 rfl) rfl, gw_mem (tb1 10 rfl) rfl, by decide +kernel⟩
set_option maxRecDepth 20000 in
theorem mi_X9_stopsAt : MI yX9_stopsAt := ⟨gw_mem (tb5 159 rfl) rfl, gw_mem (sl7 2 rfl) rfl⟩
set_option maxRecDepth 20000 in
theorem my_X9_swaps : MY yX9_swaps cX9_swaps 4 none 2 := ⟨gw_mem (tb6 165 rfl) rfl, gw_mem (tb1 10 rfl) rfl, by decide +kernel⟩
set_option maxRecDepth 20000 in
theorem mi_X9_swaps : MI yX9_swaps := ⟨gw_mem (tb6 164 rfl) rfl, gw_mem (sl9 9 rfl) rfl⟩
set_option maxRecDepth 20000 in
theorem my_X9_told : MY yX9_told cX9_told 3 (some .int) 0 := ⟨gw_mem (tb6 157 rfl) rfl, gw_mem (tb1 10 rfl) rfl, by decide +kernel⟩
set_option maxRecDepth 20000 in
theorem mi_X9_told : MI yX9_told := ⟨gw_mem (tb6 156 rfl) rfl, gw_mem (sl9 7 rfl) rfl⟩
set_option maxRecDepth 20000 in
theorem my_X9_word : MY yX9_word cX9_word 3 (some .int) 0 := ⟨gw_mem (tb6 11 rfl) rfl, gw_mem (tb1 10 rfl) rfl, by decide +kernel⟩
set_option maxRecDepth 20000 in
theorem mi_X9_word : MI yX9_word := ⟨gw_mem (tb6 10 rfl) rfl, gw_mem (sl7 14 rfl) rfl⟩
set_option maxRecDepth 20000 in
theorem my_X9_wrongPlan : MY yX9_wrongPlan cX9_wrongPlan 2 (some .int) 0 := ⟨gw_mem (tb6 50 rfl) rfl, gw_mem (tb1 10 rfl) rfl, by decide +kernel⟩
set_option maxRecDepth 20000 in
theorem mi_X9_wrongPlan : MI yX9_wrongPlan := ⟨gw_mem (tb6 49 rfl) rfl, gw_mem (sl8 5 rfl) rfl⟩
end
section
theorem dJ0_length_8abf5_0 : decode cJ0_length_8abf5 0 = .ok (.aload_n 0, 1) := by decide +kernel
theorem dJ0_length_8abf5_1 : decode cJ0_length_8abf5 1 = .ok (.getfield 9, 3) := by decide +kernel
theorem dJ0_length_8abf5_4 : decode cJ0_length_8abf5 4 = .ok (.arraylength, 1) := by decide +kernel
theorem dJ0_length_8abf5_5 : decode cJ0_length_8abf5 5 = .ok (.aload_n 0, 1) := by decide +kernel
theorem dJ0_length_8abf5_6 : decode cJ0_length_8abf5 6 = .ok (.invokevirtual 335, 3) := by decide +kernel
theorem dJ0_length_8abf5_9 : decode cJ0_length_8abf5 9 = .ok (.ishr, 1) := by decide +kernel
theorem dJ0_length_8abf5_10 : decode cJ0_length_8abf5 10 = .ok (.ireturn, 1) := by decide +kernel
set_option maxRecDepth 20000 in
theorem tmy_length : MY yJ0_length_8abf5 cJ0_length_8abf5 1 (some .int) 0 := ⟨gw_mem (tb2 140 rfl) rfl, gw_mem (tb1 12 rfl) rfl, by decide +kernel⟩
set_option maxRecDepth 20000 in
theorem tmi_length : MI yJ0_length_8abf5 := ⟨gw_mem (tb2 138 rfl) rfl, gw_mem (tb2 139 rfl) rfl⟩
theorem dJ0_coder_7d493_0 : decode cJ0_coder_7d493 0 = .ok (.getstatic 38, 3) := by decide +kernel
theorem dJ0_coder_7d493_3 : decode cJ0_coder_7d493 3 = .ok (.ifCond .eq 10, 3) := by decide +kernel
theorem dJ0_coder_7d493_6 : decode cJ0_coder_7d493 6 = .ok (.aload_n 0, 1) := by decide +kernel
theorem dJ0_coder_7d493_7 : decode cJ0_coder_7d493 7 = .ok (.getfield 15, 3) := by decide +kernel
theorem dJ0_coder_7d493_10 : decode cJ0_coder_7d493 10 = .ok (.goto 4, 3) := by decide +kernel
theorem dJ0_coder_7d493_13 : decode cJ0_coder_7d493 13 = .ok (.iconst 1, 1) := by decide +kernel
theorem dJ0_coder_7d493_14 : decode cJ0_coder_7d493 14 = .ok (.ireturn, 1) := by decide +kernel
set_option maxRecDepth 20000 in
theorem tmy_coder : MY yJ0_coder_7d493 cJ0_coder_7d493 1 (some .byte) 0 := ⟨gw_mem (tb2 144 rfl) rfl, gw_mem (tb1 12 rfl) rfl, by decide +kernel⟩
set_option maxRecDepth 20000 in
theorem tmi_coder : MI yJ0_coder_7d493 := ⟨gw_mem (tb2 142 rfl) rfl, gw_mem (tb2 143 rfl) rfl⟩
theorem dJ0_charAt_5068e_0 : decode cJ0_charAt_5068e 0 = .ok (.aload_n 0, 1) := by decide +kernel
theorem dJ0_charAt_5068e_1 : decode cJ0_charAt_5068e 1 = .ok (.invokevirtual 492, 3) := by decide +kernel
theorem dJ0_charAt_5068e_4 : decode cJ0_charAt_5068e 4 = .ok (.ifCond .eq 12, 3) := by decide +kernel
theorem dJ0_charAt_5068e_7 : decode cJ0_charAt_5068e 7 = .ok (.aload_n 0, 1) := by decide +kernel
theorem dJ0_charAt_5068e_8 : decode cJ0_charAt_5068e 8 = .ok (.getfield 9, 3) := by decide +kernel
theorem dJ0_charAt_5068e_11 : decode cJ0_charAt_5068e 11 = .ok (.iload_n 1, 1) := by decide +kernel
theorem dJ0_charAt_5068e_12 : decode cJ0_charAt_5068e 12 = .ok (.invokestatic 495, 3) := by decide +kernel
theorem dJ0_charAt_5068e_15 : decode cJ0_charAt_5068e 15 = .ok (.ireturn, 1) := by decide +kernel
theorem dJ0_charAt_5068e_16 : decode cJ0_charAt_5068e 16 = .ok (.aload_n 0, 1) := by decide +kernel
theorem dJ0_charAt_5068e_17 : decode cJ0_charAt_5068e 17 = .ok (.getfield 9, 3) := by decide +kernel
theorem dJ0_charAt_5068e_20 : decode cJ0_charAt_5068e 20 = .ok (.iload_n 1, 1) := by decide +kernel
theorem dJ0_charAt_5068e_21 : decode cJ0_charAt_5068e 21 = .ok (.invokestatic 498, 3) := by decide +kernel
theorem dJ0_charAt_5068e_24 : decode cJ0_charAt_5068e 24 = .ok (.ireturn, 1) := by decide +kernel
set_option maxRecDepth 20000 in
theorem tmy_charAt : MY yJ0_charAt_5068e cJ0_charAt_5068e 2 (some .char) 1 := ⟨gw_mem (tb2 150 rfl) rfl, gw_mem (tb1 12 rfl) rfl, by decide +kernel⟩
set_option maxRecDepth 20000 in
theorem tmi_charAt : MI yJ0_charAt_5068e := ⟨gw_mem (tb2 148 rfl) rfl, gw_mem (tb2 149 rfl) rfl⟩
theorem dJ0_isLatin1_aae02_0 : decode cJ0_isLatin1_aae02 0 = .ok (.getstatic 38, 3) := by decide +kernel
theorem dJ0_isLatin1_aae02_3 : decode cJ0_isLatin1_aae02 3 = .ok (.ifCond .eq 14, 3) := by decide +kernel
theorem dJ0_isLatin1_aae02_6 : decode cJ0_isLatin1_aae02 6 = .ok (.aload_n 0, 1) := by decide +kernel
theorem dJ0_isLatin1_aae02_7 : decode cJ0_isLatin1_aae02 7 = .ok (.getfield 15, 3) := by decide +kernel
theorem dJ0_isLatin1_aae02_10 : decode cJ0_isLatin1_aae02 10 = .ok (.ifCond .ne 7, 3) := by decide +kernel
theorem dJ0_isLatin1_aae02_13 : decode cJ0_isLatin1_aae02 13 = .ok (.iconst 1, 1) := by decide +kernel
theorem dJ0_isLatin1_aae02_14 : decode cJ0_isLatin1_aae02 14 = .ok (.goto 4, 3) := by decide +kernel
theorem dJ0_isLatin1_aae02_17 : decode cJ0_isLatin1_aae02 17 = .ok (.iconst 0, 1) := by decide +kernel
theorem dJ0_isLatin1_aae02_18 : decode cJ0_isLatin1_aae02 18 = .ok (.ireturn, 1) := by decide +kernel
set_option maxRecDepth 20000 in
theorem tmy_isLatin1 : MY yJ0_isLatin1_aae02 cJ0_isLatin1_aae02 1 (some .boolean) 0 := ⟨gw_mem (tb2 154 rfl) rfl, gw_mem (tb1 12 rfl) rfl, by decide +kernel⟩
set_option maxRecDepth 20000 in
theorem tmi_isLatin1 : MI yJ0_isLatin1_aae02 := ⟨gw_mem (tb2 152 rfl) rfl, gw_mem (tb2 153 rfl) rfl⟩
theorem dJ0_checkIndex_df160_0 : decode cJ0_checkIndex_df160 0 = .ok (.iload_n 0, 1) := by decide +kernel
theorem dJ0_checkIndex_df160_1 : decode cJ0_checkIndex_df160 1 = .ok (.iload_n 1, 1) := by decide +kernel
theorem dJ0_checkIndex_df160_2 : decode cJ0_checkIndex_df160 2 = .ok (.getstatic 1053, 3) := by decide +kernel
theorem dJ0_checkIndex_df160_5 : decode cJ0_checkIndex_df160 5 = .ok (.invokestatic 1059, 3) := by decide +kernel
theorem dJ0_checkIndex_df160_8 : decode cJ0_checkIndex_df160 8 = .ok (.pop, 1) := by decide +kernel
theorem dJ0_checkIndex_df160_9 : decode cJ0_checkIndex_df160 9 = .ok (.return_, 1) := by decide +kernel
set_option maxRecDepth 20000 in
theorem tmy_checkIndex : MY yJ0_checkIndex_df160 cJ0_checkIndex_df160 2 none 2 := ⟨gw_mem (tb2 160 rfl) rfl, gw_mem (tb1 12 rfl) rfl, by decide +kernel⟩
set_option maxRecDepth 20000 in
theorem tms_checkIndex : Cond.static yJ0_checkIndex_df160 ∈ gw := gw_mem (tb2 159 rfl) rfl
theorem dJ1_charAt_3b067_0 : decode cJ1_charAt_3b067 0 = .ok (.iload_n 1, 1) := by decide +kernel
theorem dJ1_charAt_3b067_1 : decode cJ1_charAt_3b067 1 = .ok (.aload_n 0, 1) := by decide +kernel
theorem dJ1_charAt_3b067_2 : decode cJ1_charAt_3b067 2 = .ok (.arraylength, 1) := by decide +kernel
theorem dJ1_charAt_3b067_3 : decode cJ1_charAt_3b067 3 = .ok (.invokestatic 9, 3) := by decide +kernel
theorem dJ1_charAt_3b067_6 : decode cJ1_charAt_3b067 6 = .ok (.aload_n 0, 1) := by decide +kernel
theorem dJ1_charAt_3b067_7 : decode cJ1_charAt_3b067 7 = .ok (.iload_n 1, 1) := by decide +kernel
theorem dJ1_charAt_3b067_8 : decode cJ1_charAt_3b067 8 = .ok (.baload, 1) := by decide +kernel
theorem dJ1_charAt_3b067_9 : decode cJ1_charAt_3b067 9 = .ok (.sipush 255, 3) := by decide +kernel
theorem dJ1_charAt_3b067_12 : decode cJ1_charAt_3b067 12 = .ok (.iand, 1) := by decide +kernel
theorem dJ1_charAt_3b067_13 : decode cJ1_charAt_3b067 13 = .ok (.i2c, 1) := by decide +kernel
theorem dJ1_charAt_3b067_14 : decode cJ1_charAt_3b067 14 = .ok (.ireturn, 1) := by decide +kernel
set_option maxRecDepth 20000 in
theorem tmy_lcharAt : MY yJ1_charAt_3b067 cJ1_charAt_3b067 2 (some .char) 2 := ⟨gw_mem (tb2 157 rfl) rfl, gw_mem (tb1 13 rfl) rfl, by decide +kernel⟩
set_option maxRecDepth 20000 in
theorem tms_lcharAt : Cond.static yJ1_charAt_3b067 ∈ gw := gw_mem (tb2 156 rfl) rfl
theorem dJ3_checkIndex_8e157_0 : decode cJ3_checkIndex_8e157 0 = .ok (.iload_n 0, 1) := by decide +kernel
theorem dJ3_checkIndex_8e157_1 : decode cJ3_checkIndex_8e157 1 = .ok (.ifCond .lt 8, 3) := by decide +kernel
theorem dJ3_checkIndex_8e157_4 : decode cJ3_checkIndex_8e157 4 = .ok (.iload_n 0, 1) := by decide +kernel
theorem dJ3_checkIndex_8e157_5 : decode cJ3_checkIndex_8e157 5 = .ok (.iload_n 1, 1) := by decide +kernel
theorem dJ3_checkIndex_8e157_6 : decode cJ3_checkIndex_8e157 6 = .ok (.if_icmp .lt 10, 3) := by decide +kernel
theorem dJ3_checkIndex_8e157_9 : decode cJ3_checkIndex_8e157 9 = .ok (.aload_n 2, 1) := by decide +kernel
theorem dJ3_checkIndex_8e157_10 : decode cJ3_checkIndex_8e157 10 = .ok (.iload_n 0, 1) := by decide +kernel
theorem dJ3_checkIndex_8e157_11 : decode cJ3_checkIndex_8e157 11 = .ok (.iload_n 1, 1) := by decide +kernel
theorem dJ3_checkIndex_8e157_12 : decode cJ3_checkIndex_8e157 12 = .ok (.invokestatic 95, 3) := by decide +kernel
theorem dJ3_checkIndex_8e157_15 : decode cJ3_checkIndex_8e157 15 = .ok (.athrow, 1) := by decide +kernel
theorem dJ3_checkIndex_8e157_16 : decode cJ3_checkIndex_8e157 16 = .ok (.iload_n 0, 1) := by decide +kernel
theorem dJ3_checkIndex_8e157_17 : decode cJ3_checkIndex_8e157 17 = .ok (.ireturn, 1) := by decide +kernel
set_option maxRecDepth 20000 in
theorem tmy_pcheck : MY yJ3_checkIndex_8e157 cJ3_checkIndex_8e157 3 (some .int) 3 := ⟨gw_mem (tb2 165 rfl) rfl, gw_mem (tb1 14 rfl) rfl, by decide +kernel⟩
set_option maxRecDepth 20000 in
theorem tms_pcheck : Cond.static yJ3_checkIndex_8e157 ∈ gw := gw_mem (tb2 164 rfl) rfl
set_option maxRecDepth 20000 in
theorem tml_coder : ML RJ0 335 yJ0_coder_7d493 := Or.inl (gw_mem (tb2 141 rfl) rfl)
set_option maxRecDepth 20000 in
theorem tml_isLatin1 : ML RJ0 492 yJ0_isLatin1_aae02 := Or.inl (gw_mem (tb2 151 rfl) rfl)
set_option maxRecDepth 20000 in
theorem tml_lcharAt : ML RJ0 495 yJ1_charAt_3b067 := Or.inl (gw_mem (tb2 155 rfl) rfl)
set_option maxRecDepth 20000 in
theorem tml_checkIndex : ML RJ1 9 yJ0_checkIndex_df160 := Or.inl (gw_mem (tb2 158 rfl) rfl)
set_option maxRecDepth 20000 in
theorem tml_pcheck : ML RJ0 1059 yJ3_checkIndex_8e157 := Or.inl (gw_mem (tb2 163 rfl) rfl)
set_option maxRecDepth 20000 in
theorem tfl_value : Cond.fieldLink RJ0 9 "java/lang/String" "value" "[B" ∈ gw := gw_mem (tb6 197 rfl) rfl
set_option maxRecDepth 20000 in
theorem tfl_coder : Cond.fieldLink RJ0 15 "java/lang/String" "coder" "B" ∈ gw := gw_mem (tb6 198 rfl) rfl
set_option maxRecDepth 20000 in
theorem tfl_compact : Cond.fieldLink RJ0 38 "java/lang/String" "COMPACT_STRINGS" "Z" ∈ gw := gw_mem (tb2 145 rfl) rfl
set_option maxRecDepth 20000 in
theorem tfl_fmt : Cond.fieldLink RJ0 1053 "jdk/internal/util/Preconditions" "SIOOBE_FORMATTER" "Ljava/util/function/BiFunction;" ∈ gw := gw_mem (tb2 161 rfl) rfl
section TXT
variable {K : Pk} {Z : Zx} {Y : Sx} {Q : State → Prop} {M : Mm} {pc : Nat} {lv : List (Nat × Value)} {st : List Value}
theorem w_tcoder (C : Cx K Z Y) {idx w : Nat} (hd : decode Z.1 pc = .ok (.getfield idx, 3)) (hl : Cond.fieldLink Z.2.1 idx "java/lang/String" "coder" "B" ∈ gw) (hw : w < 5) (h : Wp K Z Y Q M (pc + 3) lv (.int 0 :: st)) : Wp K Z Y Q M pc lv (.ref (ska Y w) :: st) :=
  fun H locs ls hP hS hlv => vk_getf C.1 C.2.1 (C.2.2.2.2.2.2.2.2.1.2.1.1 w hw).2.1 hS C.2.2.2.1 (C.2.2.2.2.1 _ hl) (fun _ h9 => h9) hd (h H locs ls hP hS hlv)
theorem w_tvalue (C : Cx K Z Y) {idx w : Nat} (hd : decode Z.1 pc = .ok (.getfield idx, 3)) (hl : Cond.fieldLink Z.2.1 idx "java/lang/String" "value" "[B" ∈ gw) (hw : w < 5) (h : Wp K Z Y Q M (pc + 3) lv (.ref (skv Y w) :: st)) : Wp K Z Y Q M pc lv (.ref (ska Y w) :: st) :=
  fun H locs ls hP hS hlv => vk_getf C.1 C.2.1 (C.2.2.2.2.2.2.2.2.1.2.1.1 w hw).2.2.1 hS C.2.2.2.1 (C.2.2.2.2.1 _ hl) (fun _ h9 => h9) hd (h H locs ls hP hS hlv)
theorem w_tlen (C : Cx K Z Y) {w : Nat} (hd : decode Z.1 pc = .ok (.arraylength, 1)) (hw : w < 5) (h : Wp K Z Y Q M (pc + 1) lv (.int (nI (skL.getD w 0)) :: st)) : Wp K Z Y Q M pc lv (.ref (skv Y w) :: st) :=
  fun H locs ls hP hS hlv => va_tlen C.1 C.2.1 (C.2.2.2.2.2.2.2.2.1.2.1.1 w hw).2.2.2 hS rfl hd (h H locs ls hP hS hlv)
theorem w_tbald (C : Cx K Z Y) {w : Nat} {x : Int32} (hd : decode Z.1 pc = .ok (.baload, 1)) (hw : w < 5) (hx : vp_in x (skL.getD w 0)) (h : Wp K Z Y Q M (pc + 1) lv (.int ((skB.getD w []).getD x.toNatClampNeg 0) :: st)) : Wp K Z Y Q M pc lv (.int x :: .ref (skv Y w) :: st) :=
  fun H locs ls hP hS hlv => va_tb C.1 C.2.1 (C.2.2.2.2.2.2.2.2.1.2.1.1 w hw).2.2.2 hS hx rfl hd (h H locs ls hP hS hlv)
theorem w_tcompact (C : Cx K Z Y) {idx : Nat} (hd : decode Z.1 pc = .ok (.getstatic idx, 3)) (hl : Cond.fieldLink Z.2.1 idx "java/lang/String" "COMPACT_STRINGS" "Z" ∈ gw) (h : Wp K Z Y Q M (pc + 3) lv (.int 1 :: st)) : Wp K Z Y Q M pc lv st :=
  fun H locs ls hP hS hlv => va_gets C.1 C.2.1 C.2.2.2.2.2.2.2.2.1.2.2.1 hS C.2.2.2.1 (C.2.2.2.2.1 _ hl) (fun _ h9 => h9) hd (h H locs ls hP hS hlv)
theorem w_tfmt (C : Cx K Z Y) {idx : Nat} (hd : decode Z.1 pc = .ok (.getstatic idx, 3)) (hl : Cond.fieldLink Z.2.1 idx "jdk/internal/util/Preconditions" "SIOOBE_FORMATTER" "Ljava/util/function/BiFunction;" ∈ gw) (h : ∀ v : Value, (v = .null ∨ ∃ t, v = .ref t) → Wp K Z Y Q M (pc + 3) lv (v :: st)) : Wp K Z Y Q M pc lv st := by
  intro H locs ls hP hS hlv
  rcases C.2.2.2.2.2.2.2.2.1.2.2.2 with hq | ⟨t, hq⟩
  · exact va_gets C.1 C.2.1 hq hS C.2.2.2.1 (C.2.2.2.2.1 _ hl) (fun _ h9 => h9) hd (h _ (Or.inl rfl) H locs ls hP hS hlv)
  · exact va_gets C.1 C.2.1 hq hS C.2.2.2.1 (C.2.2.2.2.1 _ hl) (fun _ h9 => h9) hd (h _ (Or.inr ⟨t, rfl⟩) H locs ls hP hS hlv)
theorem w_i2c (C : Cx K Z Y) {x : Int32} (hd : decode Z.1 pc = .ok (.i2c, 1)) (h : Wp K Z Y Q M (pc + 1) lv (.int (x.toUInt32 % 65536).toInt32 :: st)) : Wp K Z Y Q M pc lv (.int x :: st) :=
  fun H locs ls hP hS hl => lv_i2c C.1 C.2.1 hd rfl (h H locs ls hP hS hl)
theorem w_retT (C : Cx K Z Y) {v q : Int32} {ty : FieldType} (hd : decode Z.1 pc = .ok (.ireturn, 1)) (hr : Z.2.2.2.2 = some ty) (hn : narrow ty (.int v) = .int v) (h : v = q) : Wp K Z Y (Qm K Y (some q) M) M pc lv [.int v] := by
  intro H locs ls hP hS hl
  subst h
  exact W.zret (Qc := Qr Y (ks K).heap.size (some v) M) C.1 C.2.1 (by rw [C.2.2.2.2.2.2.2.2.2.2.2]; exact hr) hn (fun t ht _ => ⟨rfl, by rw [ht]; exact hP, hS.F ht⟩) hS.2.2 hd C.2.2.2.2.2.2.2.2.2.1
/-- a call whose receiver is a text -/
theorem w_callT (C : Cx K Z Y) {idx w n mL d : Nat} {y : MethodName} {cc : ByteArray} {ret : Option FieldType} {r : Option Int32} {M' : Mm} {stk : List Value} (hd : decode Z.1 pc = .ok (.invokevirtual idx, 3)) (hy : MY y cc mL ret n) (hi : MI y) (hlk : ML Z.2.1 idx y) (hw : w < 5) (hcs : y.cls = "java/lang/String") (hdd : Nat.blt d Z.2.2.2.1 = true) (hmm : Nat.ble mL 13 = true)
    (As : List Value) (hn : As.length = n) (hst : stk = As.reverse ++ .ref (ska Y w) :: st) (hW : (st.map fun v => v.category).sum ≤ 8) (hc : Ct (kl K) Y y cc mL ret d (.ref (ska Y w) :: As) M r M') (h : Wp K Z Y Q M' (pc + 3) lv ((r.map Value.int).toList ++ st)) : Wp K Z Y Q M pc lv stk := by
  intro H locs ls hP hS hl
  have hR : (kR K) = rmd Z.2.2.2.1 := C.2.2.2.2.2.2.2.2.2.2.1
  have hfix : CallFix (kp K) (km K) (kc K) Z.1 Z.2.2.1 (ks K) (ka K) gw Z.2.1 := ⟨C.1, C.2.1, C.2.2.1, C.2.2.2.1, C.2.2.2.2.1⟩
  have hrc : ∃ cell : Cell, H[ska Y w]? = some cell ∧ cell.vm.isStatics = false ∧ (ks K).vm.findClass y.cls = some cell.cls := by rw [hcs]; exact vk_recv C.2.2.2.2.2.2.2.2.1.2.1 hw hS
  have hpre : PreV (ks K) H y.cls (ska Y w) (va_Pc (.ref (ska Y w) :: As) (Pre Y M H.size)) As := ⟨pre_blind, hrc, fun U hU hW => ⟨rfl, pre_of C hP hS hU hW⟩⟩
  have hw2 : (Cond.instanceMethod y).before (ka K) (ks K) = true ∧ (Cond.selects y.cls y y).before (ka K) (ks K) = true := ⟨C.2.2.2.2.1 _ hi.1, C.2.2.2.2.1 _ hi.2⟩
  rcases hlk with hlk | ⟨host, hlk⟩
  · have cw : CallW (kR K) (ks K) (ka K) Z.2.1 y.cls idx y cc mL ret (Cond.code y cc mL ret :: gw) (rmd d) 0 0 n := ⟨callB_of n C.2.2.2.2.1 (gIn y cc mL ret hy.1) rfl rfl rfl (C.2.2.2.2.1 _ hy.2.1) (C.2.2.2.2.1 _ hlk) hy.2.2 (by rw [hR]; exact rm_le hdd hmm), hw2.1, hw2.2⟩
    exact call_end (idx := idx) hl hS (va_runV (As := As) (rest := st) hfix (hc H.size) cw hpre rfl hn hl.1 hst (lv_room hW) hd ⟨Nat.zero_le _, Nat.zero_le _⟩) h
  · have cw : va_CN (kR K) (ks K) (ka K) Z.2.1 idx y host cc mL ret (Cond.code y cc mL ret :: gw) (rmd d) 0 0 n := va_cnB n C.2.2.2.2.1 (gIn y cc mL ret hy.1) rfl rfl rfl (C.2.2.2.2.2.1.1 _ hlk) (C.2.2.2.2.1 _ hy.2.1) hy.2.2 (by rw [hR]; exact rm_le hdd hmm)
    exact call_end (idx := idx) hl hS (va_runVN (As := As) (rest := st) hfix (hc H.size) ⟨cw, hw2.1, hw2.2⟩ hpre rfl hn hl.1 hst (lv_room hW) hd ⟨Nat.zero_le _, Nat.zero_le _⟩) h
end TXT
abbrev zT_coder : Zx := (cJ0_coder_7d493, RJ0, 1, 0, some .byte)
theorem tT_coder {l : Launch} {Y : Sx} {M : Mm} {w : Nat} (hw : w < 5) : Ct l Y yJ0_coder_7d493 cJ0_coder_7d493 1 (some .byte) 0 [.ref (ska Y w)] M (some 0) M := by
  refine Ct.of (by decide) rfl (lv := [(0, .ref (ska Y w))]) rfl ?_
  intro K hkl C
  change Cx K zT_coder Y at C
  show Wp K zT_coder Y (Qm K Y (some 0) M) M 0 [(0, .ref (ska Y w))] []
  refine w_tcompact C (pc := 0) dJ0_coder_7d493_0 tfl_compact ?_
  refine w_ifeq C (pc := 3) 13 dJ0_coder_7d493_3 (by decide) (fun c => ?_) (fun c => ?_)
  · exact absurd c (by decide)
  · refine w_aload_n C (pc := 6) dJ0_coder_7d493_6 0 rfl ?_
    refine w_tcoder C (pc := 7) dJ0_coder_7d493_7 tfl_coder hw ?_
    refine w_goto C (pc := 10) 14 dJ0_coder_7d493_10 (by decide) ?_
    exact w_retT C (pc := 14) dJ0_coder_7d493_14 rfl (by decide) rfl
abbrev zT_isLatin1 : Zx := (cJ0_isLatin1_aae02, RJ0, 1, 0, some .boolean)
theorem tT_isLatin1 {l : Launch} {Y : Sx} {M : Mm} {w : Nat} (hw : w < 5) : Ct l Y yJ0_isLatin1_aae02 cJ0_isLatin1_aae02 1 (some .boolean) 0 [.ref (ska Y w)] M (some 1) M := by
  refine Ct.of (by decide) rfl (lv := [(0, .ref (ska Y w))]) rfl ?_
  intro K hkl C
  change Cx K zT_isLatin1 Y at C
  show Wp K zT_isLatin1 Y (Qm K Y (some 1) M) M 0 [(0, .ref (ska Y w))] []
  refine w_tcompact C (pc := 0) dJ0_isLatin1_aae02_0 tfl_compact ?_
  refine w_ifeq C (pc := 3) 17 dJ0_isLatin1_aae02_3 (by decide) (fun c => ?_) (fun c => ?_)
  · exact absurd c (by decide)
  · refine w_aload_n C (pc := 6) dJ0_isLatin1_aae02_6 0 rfl ?_
    refine w_tcoder C (pc := 7) dJ0_isLatin1_aae02_7 tfl_coder hw ?_
    refine w_ifne C (pc := 10) 17 dJ0_isLatin1_aae02_10 (by decide) (fun c => ?_) (fun c => ?_)
    · refine w_iconst C (pc := 13) dJ0_isLatin1_aae02_13 (v := 1) (by decide) ?_
      refine w_goto C (pc := 14) 18 dJ0_isLatin1_aae02_14 (by decide) ?_
      exact w_retzR C (pc := 18) dJ0_isLatin1_aae02_18 rfl (by decide) rfl
    · exact absurd rfl c
abbrev zT_length : Zx := (cJ0_length_8abf5, RJ0, 1, 1, some .int)
theorem sh0 (x : Int32) : x >>> ((0 : Int32) &&& 31) = x := sb_shr0 x
theorem tT_length {l : Launch} {Y : Sx} {M : Mm} {w : Nat} (hw : w < 5) : Ct l Y yJ0_length_8abf5 cJ0_length_8abf5 1 (some .int) 1 [.ref (ska Y w)] M (some (nI (skL.getD w 0))) M := by
  refine Ct.of (by decide) rfl (lv := [(0, .ref (ska Y w))]) rfl ?_
  intro K hkl C
  change Cx K zT_length Y at C
  subst hkl
  show Wp K zT_length Y (Qm K Y (some (nI (skL.getD w 0))) M) M 0 [(0, .ref (ska Y w))] []
  refine w_aload_n C (pc := 0) dJ0_length_8abf5_0 0 rfl ?_
  refine w_tvalue C (pc := 1) dJ0_length_8abf5_1 tfl_value hw ?_
  refine w_tlen C (pc := 4) dJ0_length_8abf5_4 hw ?_
  refine w_aload_n C (pc := 5) dJ0_length_8abf5_5 0 rfl ?_
  refine w_callT C (pc := 6) dJ0_length_8abf5_6 tmy_coder tmi_coder tml_coder hw rfl rfl rfl [] rfl rfl (Nat.le_of_ble_eq_true rfl) (tT_coder hw) ?_
  show Wp K zT_length Y (Qm K Y (some (nI (skL.getD w 0))) M) M 9 [(0, .ref (ska Y w))] [.int 0, .int (nI (skL.getD w 0))]
  refine w_ishr C (pc := 9) dJ0_length_8abf5_9 ?_
  exact w_retR C (pc := 10) dJ0_length_8abf5_10 rfl (sh0 _)
abbrev zT_pcheck : Zx := (cJ3_checkIndex_8e157, RJ3, 3, 0, some .int)
theorem tT_pcheck {l : Launch} {Y : Sx} {M : Mm} {x n : Int32} {v : Value} (hv : v = .null ∨ ∃ t, v = .ref t) (h0 : ¬ x < 0) (h1 : x < n) : Ct l Y yJ3_checkIndex_8e157 cJ3_checkIndex_8e157 3 (some .int) 0 [.int x, .int n, v] M (some x) M := by
  have key : ∀ v : Value, Nat.ble (lg_sl [Value.int x, Value.int n, v]).length 3 = true → lv_args 0 [Value.int x, Value.int n, v] = [(0, .int x), (1, .int n), (2, v)] → Ct l Y yJ3_checkIndex_8e157 cJ3_checkIndex_8e157 3 (some .int) 0 [.int x, .int n, v] M (some x) M := by
    intro v e1 e2
    refine Ct.of (by decide) e1 (lv := [(0, .int x), (1, .int n), (2, v)]) e2 ?_
    intro K hkl C
    change Cx K zT_pcheck Y at C
    show Wp K zT_pcheck Y (Qm K Y (some x) M) M 0 [(0, .int x), (1, .int n), (2, v)] []
    refine w_iload_n C (pc := 0) dJ3_checkIndex_8e157_0 0 rfl ?_
    refine w_iflt C (pc := 1) 9 dJ3_checkIndex_8e157_1 (by decide) (fun c => absurd c h0) (fun c => ?_)
    refine w_iload_n C (pc := 4) dJ3_checkIndex_8e157_4 0 rfl ?_
    refine w_iload_n C (pc := 5) dJ3_checkIndex_8e157_5 1 rfl ?_
    refine w_iclt C (pc := 6) 16 dJ3_checkIndex_8e157_6 (by decide) (fun c => ?_) (fun c => absurd h1 c)
    refine w_iload_n C (pc := 16) dJ3_checkIndex_8e157_16 0 rfl ?_
    exact w_retR C (pc := 17) dJ3_checkIndex_8e157_17 rfl rfl
  rcases hv with rfl | ⟨t, rfl⟩
  · exact key _ rfl rfl
  · exact key _ rfl rfl
abbrev zT_check : Zx := (cJ0_checkIndex_df160, RJ0, 2, 1, none)
theorem tT_check {l : Launch} {Y : Sx} {M : Mm} {x n : Int32} (h0 : ¬ x < 0) (h1 : x < n) : Ct l Y yJ0_checkIndex_df160 cJ0_checkIndex_df160 2 none 1 [.int x, .int n] M none M := by
  refine Ct.of (by decide) rfl (lv := [(0, .int x), (1, .int n)]) rfl ?_
  intro K hkl C
  change Cx K zT_check Y at C
  subst hkl
  show Wp K zT_check Y (Qm K Y none M) M 0 [(0, .int x), (1, .int n)] []
  refine w_iload_n C (pc := 0) dJ0_checkIndex_df160_0 0 rfl ?_
  refine w_iload_n C (pc := 1) dJ0_checkIndex_df160_1 1 rfl ?_
  refine w_tfmt C (pc := 2) dJ0_checkIndex_df160_2 tfl_fmt (fun v hv => ?_)
  refine w_callS C (pc := 5) (st := []) dJ0_checkIndex_df160_5 tmy_pcheck tms_pcheck tml_pcheck rfl rfl [.int x, .int n, v] rfl rfl (Nat.le_of_ble_eq_true rfl) (tT_pcheck hv h0 h1) ?_
  show Wp K zT_check Y (Qm K Y none M) M 8 [(0, .int x), (1, .int n)] [.int x]
  refine w_pop C (pc := 8) dJ0_checkIndex_df160_8 rfl ?_
  exact w_retV C (pc := 9) dJ0_checkIndex_df160_9 rfl rfl
abbrev zT_lchar : Zx := (cJ1_charAt_3b067, RJ1, 2, 2, some .char)
theorem skb_char : ∀ w, w < 5 → ∀ j, j < skL.getD w 0 → narrow .char (.int ((((skB.getD w []).getD j 0) &&& 255).toUInt32 % 65536).toInt32) = .int ((((skB.getD w []).getD j 0) &&& 255).toUInt32 % 65536).toInt32 ∧ ((((skB.getD w []).getD j 0) &&& 255).toUInt32 % 65536).toInt32 = (skB.getD w []).getD j 0 := by decide +kernel
theorem tT_lchar {l : Launch} {Y : Sx} {M : Mm} {w : Nat} {x : Int32} (hw : w < 5) (hx : vp_in x (skL.getD w 0)) : Ct l Y yJ1_charAt_3b067 cJ1_charAt_3b067 2 (some .char) 2 [.ref (skv Y w), .int x] M (some ((skB.getD w []).getD x.toNatClampNeg 0)) M := by
  have hL : skL.getD w 0 < 2 ^ 31 := by
    have : ∀ w, w < 5 → skL.getD w 0 < 2 ^ 31 := by decide +kernel
    exact this w hw
  obtain ⟨j, hj, rfl⟩ := vp_in_of hx hL
  have ej : (nI j).toNatClampNeg = j := nI_clamp (by omega)
  have hb := skb_char w hw j hj
  refine Ct.of (by decide) rfl (lv := [(0, .ref (skv Y w)), (1, .int (nI j))]) rfl ?_
  intro K hkl C
  change Cx K zT_lchar Y at C
  subst hkl
  rw [ej]
  show Wp K zT_lchar Y (Qm K Y (some ((skB.getD w []).getD j 0)) M) M 0 [(0, .ref (skv Y w)), (1, .int (nI j))] []
  refine w_iload_n C (pc := 0) dJ1_charAt_3b067_0 1 rfl ?_
  refine w_aload_n C (pc := 1) dJ1_charAt_3b067_1 0 rfl ?_
  refine w_tlen C (pc := 2) dJ1_charAt_3b067_2 hw ?_
  refine w_callS C (pc := 3) (st := []) dJ1_charAt_3b067_3 tmy_checkIndex tms_checkIndex tml_checkIndex rfl rfl [.int (nI j), .int (nI (skL.getD w 0))] rfl rfl (Nat.le_of_ble_eq_true rfl) (tT_check (nI_pos (by omega)) (nI_lt hj hL)) ?_
  show Wp K zT_lchar Y (Qm K Y (some ((skB.getD w []).getD j 0)) M) M 6 [(0, .ref (skv Y w)), (1, .int (nI j))] []
  refine w_aload_n C (pc := 6) dJ1_charAt_3b067_6 0 rfl ?_
  refine w_iload_n C (pc := 7) dJ1_charAt_3b067_7 1 rfl ?_
  refine w_tbald C (pc := 8) dJ1_charAt_3b067_8 hw hx ?_
  rw [ej]
  refine w_sipush C (pc := 9) dJ1_charAt_3b067_9 (v := 255) (by decide) ?_
  refine w_iand C (pc := 12) dJ1_charAt_3b067_12 ?_
  refine w_i2c C (pc := 13) dJ1_charAt_3b067_13 ?_
  exact w_retT C (pc := 14) dJ1_charAt_3b067_14 rfl hb.1 hb.2
abbrev zT_char : Zx := (cJ0_charAt_5068e, RJ0, 2, 3, some .char)
theorem skb_nar : ∀ w, w < 5 → ∀ j, j < skL.getD w 0 → narrow .char (.int ((skB.getD w []).getD j 0)) = .int ((skB.getD w []).getD j 0) := by decide +kernel
theorem tT_char {l : Launch} {Y : Sx} {M : Mm} {w : Nat} {x : Int32} (hw : w < 5) (hx : vp_in x (skL.getD w 0)) : Ct l Y yJ0_charAt_5068e cJ0_charAt_5068e 2 (some .char) 3 [.ref (ska Y w), .int x] M (some ((skB.getD w []).getD x.toNatClampNeg 0)) M := by
  have hL : skL.getD w 0 < 2 ^ 31 := by
    have : ∀ w, w < 5 → skL.getD w 0 < 2 ^ 31 := by decide +kernel
    exact this w hw
  have hnn : narrow .char (.int ((skB.getD w []).getD x.toNatClampNeg 0)) = .int ((skB.getD w []).getD x.toNatClampNeg 0) := by
    obtain ⟨j, hj, rfl⟩ := vp_in_of hx hL
    rw [nI_clamp (by omega)]
    exact skb_nar w hw j hj
  refine Ct.of (by decide) rfl (lv := [(0, .ref (ska Y w)), (1, .int x)]) rfl ?_
  intro K hkl C
  change Cx K zT_char Y at C
  subst hkl
  generalize hv : (skB.getD w []).getD x.toNatClampNeg 0 = v at hnn
  show Wp K zT_char Y (Qm K Y (some v) M) M 0 [(0, .ref (ska Y w)), (1, .int x)] []
  refine w_aload_n C (pc := 0) dJ0_charAt_5068e_0 0 rfl ?_
  refine w_callT C (pc := 1) dJ0_charAt_5068e_1 tmy_isLatin1 tmi_isLatin1 tml_isLatin1 hw rfl rfl rfl [] rfl rfl (Nat.le_of_ble_eq_true rfl) (tT_isLatin1 hw) ?_
  show Wp K zT_char Y (Qm K Y (some v) M) M 4 [(0, .ref (ska Y w)), (1, .int x)] [.int 1]
  refine w_ifeq C (pc := 4) 16 dJ0_charAt_5068e_4 (by decide) (fun c => absurd c (by decide)) (fun c => ?_)
  refine w_aload_n C (pc := 7) dJ0_charAt_5068e_7 0 rfl ?_
  refine w_tvalue C (pc := 8) dJ0_charAt_5068e_8 tfl_value hw ?_
  refine w_iload_n C (pc := 11) dJ0_charAt_5068e_11 1 rfl ?_
  refine w_callS C (pc := 12) (st := []) dJ0_charAt_5068e_12 tmy_lcharAt tms_lcharAt tml_lcharAt rfl rfl [.ref (skv Y w), .int x] rfl rfl (Nat.le_of_ble_eq_true rfl) (tT_lchar hw hx) ?_
  rw [hv]
  show Wp K zT_char Y (Qm K Y (some v) M) M 15 [(0, .ref (ska Y w)), (1, .int x)] [.int v]
  exact w_retT C (pc := 15) dJ0_charAt_5068e_15 rfl hnn rfl
section TXT2
variable {K : Pk} {Z : Zx} {Y : Sx} {Q : State → Prop} {M : Mm} {pc : Nat} {lv : List (Nat × Value)} {st : List Value}
theorem w_slen (C : Cx K Z Y) {idx w : Nat} (hd : decode Z.1 pc = .ok (.invokevirtual idx, 3)) (hlk : ML Z.2.1 idx yJ0_length_8abf5) (hw : w < 5) (hdd : Nat.blt 1 Z.2.2.2.1 = true) (hW : (st.map fun v => v.category).sum ≤ 8) (h : Wp K Z Y Q M (pc + 3) lv (.int (nI (skL.getD w 0)) :: st)) : Wp K Z Y Q M pc lv (.ref (ska Y w) :: st) :=
  w_callT C hd tmy_length tmi_length hlk hw rfl hdd rfl [] rfl rfl hW (tT_length hw) h
theorem sca_some {w : Nat} {x v : Int32} (h : sca w x = some v) : vp_in x (skL.getD w 0) ∧ (skB.getD w []).getD x.toNatClampNeg 0 = v := by
  unfold sca at h
  split at h
  · rename_i hi; exact ⟨inb_in hi, Option.some.inj h⟩
  · cases h
theorem w_schar (C : Cx K Z Y) {idx w : Nat} {x v : Int32} (hd : decode Z.1 pc = .ok (.invokevirtual idx, 3)) (hlk : ML Z.2.1 idx yJ0_charAt_5068e) (hw : w < 5) (hdd : Nat.blt 3 Z.2.2.2.1 = true) (hW : (st.map fun v => v.category).sum ≤ 8) (he : sca w x = some v) (h : Wp K Z Y Q M (pc + 3) lv (.int v :: st)) : Wp K Z Y Q M pc lv (.int x :: .ref (ska Y w) :: st) := by
  obtain ⟨hx, rfl⟩ := sca_some he
  exact w_callT C hd tmy_charAt tmi_charAt hlk hw rfl hdd rfl [.int x] rfl rfl hW (tT_char hw hx) h
end TXT2
end
