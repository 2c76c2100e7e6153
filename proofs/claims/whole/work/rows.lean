section
-- ===== PART A: goes FIRST, ahead of the names: the tables' words, and 'selects' of the private methods out of them =====
/-- a private method of a class that the tables say can be made, by its rows of tables_1 -/
def lw_okq (q : MethodName × Nat) : Prop := (q.1.cls ≠ "java/lang/invoke/MethodHandle" ∧ q.1.cls ≠ "java/lang/invoke/VarHandle") ∧ Cond.instantiable q.1.cls q.2 ∈ tables_1 ∧ Cond.privateMethod q.1 ∈ tables_1 ∧ Cond.instanceMethod q.1 ∈ tables_1
theorem lw_p0 : lw_okq (⟨"TruckWing$Tape", "append", "(I)V"⟩, 2) := ⟨⟨by decide +kernel, by decide +kernel⟩, List.mem_of_getElem? (i := 204) (by decide +kernel), List.mem_of_getElem? (i := 312) (by decide +kernel), List.mem_of_getElem? (i := 313) (by decide +kernel)⟩
theorem lw_p1 : lw_okq (⟨"TruckWing$Teller", "read", "(LTruckWing$Land;LTruckWing$Plan;)I"⟩, 10) := ⟨⟨by decide +kernel, by decide +kernel⟩, List.mem_of_getElem? (i := 219) (by decide +kernel), List.mem_of_getElem? (i := 324) (by decide +kernel), List.mem_of_getElem? (i := 325) (by decide +kernel)⟩
theorem lw_p2 : lw_okq (⟨"TruckWing$Land", "copyOf", "(LTruckWing$Land;)V"⟩, 3) := ⟨⟨by decide +kernel, by decide +kernel⟩, List.mem_of_getElem? (i := 31) (by decide +kernel), List.mem_of_getElem? (i := 328) (by decide +kernel), List.mem_of_getElem? (i := 329) (by decide +kernel)⟩
theorem lw_p3 : lw_okq (⟨"TruckWing$Plan", "copyOf", "(LTruckWing$Plan;)V"⟩, 4) := ⟨⟨by decide +kernel, by decide +kernel⟩, List.mem_of_getElem? (i := 61) (by decide +kernel), List.mem_of_getElem? (i := 335) (by decide +kernel), List.mem_of_getElem? (i := 336) (by decide +kernel)⟩
theorem lw_p4 : lw_okq (⟨"TruckWing$Teller", "step", "()V"⟩, 10) := ⟨⟨by decide +kernel, by decide +kernel⟩, List.mem_of_getElem? (i := 219) (by decide +kernel), List.mem_of_getElem? (i := 340) (by decide +kernel), List.mem_of_getElem? (i := 341) (by decide +kernel)⟩
theorem lw_p5 : lw_okq (⟨"TruckWing$Tape", "hasBlankAt", "(I)Z"⟩, 2) := ⟨⟨by decide +kernel, by decide +kernel⟩, List.mem_of_getElem? (i := 204) (by decide +kernel), List.mem_of_getElem? (i := 344) (by decide +kernel), List.mem_of_getElem? (i := 345) (by decide +kernel)⟩
theorem lw_p6 : lw_okq (⟨"TruckWing$Tape", "byteAt", "(I)I"⟩, 2) := ⟨⟨by decide +kernel, by decide +kernel⟩, List.mem_of_getElem? (i := 204) (by decide +kernel), List.mem_of_getElem? (i := 348) (by decide +kernel), List.mem_of_getElem? (i := 349) (by decide +kernel)⟩
theorem lw_p7 : lw_okq (⟨"TruckWing$Tape", "hasLetterAt", "(I)Z"⟩, 2) := ⟨⟨by decide +kernel, by decide +kernel⟩, List.mem_of_getElem? (i := 204) (by decide +kernel), List.mem_of_getElem? (i := 353) (by decide +kernel), List.mem_of_getElem? (i := 354) (by decide +kernel)⟩
theorem lw_p8 : lw_okq (⟨"TruckWing$Teller", "stepWord", "()V"⟩, 10) := ⟨⟨by decide +kernel, by decide +kernel⟩, List.mem_of_getElem? (i := 219) (by decide +kernel), List.mem_of_getElem? (i := 357) (by decide +kernel), List.mem_of_getElem? (i := 358) (by decide +kernel)⟩
theorem lw_p9 : lw_okq (⟨"TruckWing$Tape", "hasDigitAt", "(I)Z"⟩, 2) := ⟨⟨by decide +kernel, by decide +kernel⟩, List.mem_of_getElem? (i := 204) (by decide +kernel), List.mem_of_getElem? (i := 361) (by decide +kernel), List.mem_of_getElem? (i := 362) (by decide +kernel)⟩
theorem lw_p10 : lw_okq (⟨"TruckWing$Teller", "stepInt", "(II)V"⟩, 10) := ⟨⟨by decide +kernel, by decide +kernel⟩, List.mem_of_getElem? (i := 219) (by decide +kernel), List.mem_of_getElem? (i := 365) (by decide +kernel), List.mem_of_getElem? (i := 366) (by decide +kernel)⟩
theorem lw_p11 : lw_okq (⟨"TruckWing$Teller", "whatIsTold", "()I"⟩, 10) := ⟨⟨by decide +kernel, by decide +kernel⟩, List.mem_of_getElem? (i := 219) (by decide +kernel), List.mem_of_getElem? (i := 369) (by decide +kernel), List.mem_of_getElem? (i := 370) (by decide +kernel)⟩
theorem lw_p12 : lw_okq (⟨"TruckWing$Teller", "isWord", "(Ljava/lang/String;)Z"⟩, 10) := ⟨⟨by decide +kernel, by decide +kernel⟩, List.mem_of_getElem? (i := 219) (by decide +kernel), List.mem_of_getElem? (i := 374) (by decide +kernel), List.mem_of_getElem? (i := 375) (by decide +kernel)⟩
theorem lw_p13 : lw_okq (⟨"TruckWing$Teller", "readStatement", "(I)Z"⟩, 10) := ⟨⟨by decide +kernel, by decide +kernel⟩, List.mem_of_getElem? (i := 219) (by decide +kernel), List.mem_of_getElem? (i := 430) (by decide +kernel), List.mem_of_getElem? (i := 431) (by decide +kernel)⟩
theorem lw_p14 : lw_okq (⟨"TruckWing$Teller", "refuse", "(I)Z"⟩, 10) := ⟨⟨by decide +kernel, by decide +kernel⟩, List.mem_of_getElem? (i := 219) (by decide +kernel), List.mem_of_getElem? (i := 434) (by decide +kernel), List.mem_of_getElem? (i := 435) (by decide +kernel)⟩
theorem lw_p15 : lw_okq (⟨"TruckWing$Teller", "least", "(I)I"⟩, 10) := ⟨⟨by decide +kernel, by decide +kernel⟩, List.mem_of_getElem? (i := 219) (by decide +kernel), List.mem_of_getElem? (i := 440) (by decide +kernel), List.mem_of_getElem? (i := 441) (by decide +kernel)⟩
def lw_privs_1 : List (MethodName × Nat) := [(⟨"TruckWing$Tape", "append", "(I)V"⟩, 2), (⟨"TruckWing$Teller", "read", "(LTruckWing$Land;LTruckWing$Plan;)I"⟩, 10), (⟨"TruckWing$Land", "copyOf", "(LTruckWing$Land;)V"⟩, 3), (⟨"TruckWing$Plan", "copyOf", "(LTruckWing$Plan;)V"⟩, 4), (⟨"TruckWing$Teller", "step", "()V"⟩, 10), (⟨"TruckWing$Tape", "hasBlankAt", "(I)Z"⟩, 2), (⟨"TruckWing$Tape", "byteAt", "(I)I"⟩, 2), (⟨"TruckWing$Tape", "hasLetterAt", "(I)Z"⟩, 2), (⟨"TruckWing$Teller", "stepWord", "()V"⟩, 10), (⟨"TruckWing$Tape", "hasDigitAt", "(I)Z"⟩, 2), (⟨"TruckWing$Teller", "stepInt", "(II)V"⟩, 10), (⟨"TruckWing$Teller", "whatIsTold", "()I"⟩, 10), (⟨"TruckWing$Teller", "isWord", "(Ljava/lang/String;)Z"⟩, 10), (⟨"TruckWing$Teller", "readStatement", "(I)Z"⟩, 10), (⟨"TruckWing$Teller", "refuse", "(I)Z"⟩, 10), (⟨"TruckWing$Teller", "least", "(I)I"⟩, 10)]
theorem lw_r1 : ∀ q ∈ lw_privs_1, lw_okq q := List.forall_mem_cons.mpr ⟨lw_p0, List.forall_mem_cons.mpr ⟨lw_p1, List.forall_mem_cons.mpr ⟨lw_p2, List.forall_mem_cons.mpr ⟨lw_p3, List.forall_mem_cons.mpr ⟨lw_p4, List.forall_mem_cons.mpr ⟨lw_p5, List.forall_mem_cons.mpr ⟨lw_p6, List.forall_mem_cons.mpr ⟨lw_p7, List.forall_mem_cons.mpr ⟨lw_p8, List.forall_mem_cons.mpr ⟨lw_p9, List.forall_mem_cons.mpr ⟨lw_p10, List.forall_mem_cons.mpr ⟨lw_p11, List.forall_mem_cons.mpr ⟨lw_p12, List.forall_mem_cons.mpr ⟨lw_p13, List.forall_mem_cons.mpr ⟨lw_p14, List.forall_mem_cons.mpr ⟨lw_p15, fun _ h => absurd h List.not_mem_nil⟩⟩⟩⟩⟩⟩⟩⟩⟩⟩⟩⟩⟩⟩⟩⟩
theorem lw_p16 : lw_okq (⟨"TruckWing$Teller", "most", "(I)I"⟩, 10) := ⟨⟨by decide +kernel, by decide +kernel⟩, List.mem_of_getElem? (i := 219) (by decide +kernel), List.mem_of_getElem? (i := 446) (by decide +kernel), List.mem_of_getElem? (i := 447) (by decide +kernel)⟩
theorem lw_p17 : lw_okq (⟨"TruckWing$Teller", "apply", "(I)V"⟩, 10) := ⟨⟨by decide +kernel, by decide +kernel⟩, List.mem_of_getElem? (i := 219) (by decide +kernel), List.mem_of_getElem? (i := 454) (by decide +kernel), List.mem_of_getElem? (i := 455) (by decide +kernel)⟩
theorem lw_p18 : lw_okq (⟨"TruckWing$Teller", "applyFacts", "(I)V"⟩, 10) := ⟨⟨by decide +kernel, by decide +kernel⟩, List.mem_of_getElem? (i := 219) (by decide +kernel), List.mem_of_getElem? (i := 458) (by decide +kernel), List.mem_of_getElem? (i := 459) (by decide +kernel)⟩
theorem lw_p19 : lw_okq (⟨"TruckWing$Land", "putFact", "(III)V"⟩, 3) := ⟨⟨by decide +kernel, by decide +kernel⟩, List.mem_of_getElem? (i := 31) (by decide +kernel), List.mem_of_getElem? (i := 462) (by decide +kernel), List.mem_of_getElem? (i := 463) (by decide +kernel)⟩
theorem lw_p20 : lw_okq (⟨"TruckWing$Land", "isPlace", "(I)Z"⟩, 3) := ⟨⟨by decide +kernel, by decide +kernel⟩, List.mem_of_getElem? (i := 31) (by decide +kernel), List.mem_of_getElem? (i := 466) (by decide +kernel), List.mem_of_getElem? (i := 467) (by decide +kernel)⟩
theorem lw_p21 : lw_okq (⟨"TruckWing$Land", "addCustomer", "()V"⟩, 3) := ⟨⟨by decide +kernel, by decide +kernel⟩, List.mem_of_getElem? (i := 31) (by decide +kernel), List.mem_of_getElem? (i := 474) (by decide +kernel), List.mem_of_getElem? (i := 475) (by decide +kernel)⟩
theorem lw_p22 : lw_okq (⟨"TruckWing$Land", "putSetting", "(II)V"⟩, 3) := ⟨⟨by decide +kernel, by decide +kernel⟩, List.mem_of_getElem? (i := 31) (by decide +kernel), List.mem_of_getElem? (i := 478) (by decide +kernel), List.mem_of_getElem? (i := 479) (by decide +kernel)⟩
theorem lw_p23 : lw_okq (⟨"TruckWing$Teller", "applyRow", "()V"⟩, 10) := ⟨⟨by decide +kernel, by decide +kernel⟩, List.mem_of_getElem? (i := 219) (by decide +kernel), List.mem_of_getElem? (i := 487) (by decide +kernel), List.mem_of_getElem? (i := 488) (by decide +kernel)⟩
theorem lw_p24 : lw_okq (⟨"TruckWing$Plan", "empty", "()V"⟩, 4) := ⟨⟨by decide +kernel, by decide +kernel⟩, List.mem_of_getElem? (i := 61) (by decide +kernel), List.mem_of_getElem? (i := 491) (by decide +kernel), List.mem_of_getElem? (i := 492) (by decide +kernel)⟩
theorem lw_p25 : lw_okq (⟨"TruckWing$Plan", "addStop", "(I)Z"⟩, 4) := ⟨⟨by decide +kernel, by decide +kernel⟩, List.mem_of_getElem? (i := 61) (by decide +kernel), List.mem_of_getElem? (i := 495) (by decide +kernel), List.mem_of_getElem? (i := 496) (by decide +kernel)⟩
theorem lw_p26 : lw_okq (⟨"TruckWing$Plan", "addSortie", "(IIII)Z"⟩, 4) := ⟨⟨by decide +kernel, by decide +kernel⟩, List.mem_of_getElem? (i := 61) (by decide +kernel), List.mem_of_getElem? (i := 499) (by decide +kernel), List.mem_of_getElem? (i := 500) (by decide +kernel)⟩
theorem lw_p27 : lw_okq (⟨"TruckWing", "forgetSearches", "()V"⟩, 8) := ⟨⟨by decide +kernel, by decide +kernel⟩, List.mem_of_getElem? (i := 23) (by decide +kernel), List.mem_of_getElem? (i := 505) (by decide +kernel), List.mem_of_getElem? (i := 506) (by decide +kernel)⟩
theorem lw_p28 : lw_okq (⟨"TruckWing$Land", "setting", "(I)I"⟩, 3) := ⟨⟨by decide +kernel, by decide +kernel⟩, List.mem_of_getElem? (i := 31) (by decide +kernel), List.mem_of_getElem? (i := 531) (by decide +kernel), List.mem_of_getElem? (i := 532) (by decide +kernel)⟩
theorem lw_p29 : lw_okq (⟨"TruckWing$Land", "isCustomer", "(I)Z"⟩, 3) := ⟨⟨by decide +kernel, by decide +kernel⟩, List.mem_of_getElem? (i := 31) (by decide +kernel), List.mem_of_getElem? (i := 540) (by decide +kernel), List.mem_of_getElem? (i := 541) (by decide +kernel)⟩
theorem lw_p30 : lw_okq (⟨"TruckWing$Plan", "stops", "()I"⟩, 4) := ⟨⟨by decide +kernel, by decide +kernel⟩, List.mem_of_getElem? (i := 61) (by decide +kernel), List.mem_of_getElem? (i := 545) (by decide +kernel), List.mem_of_getElem? (i := 546) (by decide +kernel)⟩
theorem lw_p31 : lw_okq (⟨"TruckWing$Land", "fact", "(II)I"⟩, 3) := ⟨⟨by decide +kernel, by decide +kernel⟩, List.mem_of_getElem? (i := 31) (by decide +kernel), List.mem_of_getElem? (i := 576) (by decide +kernel), List.mem_of_getElem? (i := 577) (by decide +kernel)⟩
def lw_privs_2 : List (MethodName × Nat) := [(⟨"TruckWing$Teller", "most", "(I)I"⟩, 10), (⟨"TruckWing$Teller", "apply", "(I)V"⟩, 10), (⟨"TruckWing$Teller", "applyFacts", "(I)V"⟩, 10), (⟨"TruckWing$Land", "putFact", "(III)V"⟩, 3), (⟨"TruckWing$Land", "isPlace", "(I)Z"⟩, 3), (⟨"TruckWing$Land", "addCustomer", "()V"⟩, 3), (⟨"TruckWing$Land", "putSetting", "(II)V"⟩, 3), (⟨"TruckWing$Teller", "applyRow", "()V"⟩, 10), (⟨"TruckWing$Plan", "empty", "()V"⟩, 4), (⟨"TruckWing$Plan", "addStop", "(I)Z"⟩, 4), (⟨"TruckWing$Plan", "addSortie", "(IIII)Z"⟩, 4), (⟨"TruckWing", "forgetSearches", "()V"⟩, 8), (⟨"TruckWing$Land", "setting", "(I)I"⟩, 3), (⟨"TruckWing$Land", "isCustomer", "(I)Z"⟩, 3), (⟨"TruckWing$Plan", "stops", "()I"⟩, 4), (⟨"TruckWing$Land", "fact", "(II)I"⟩, 3)]
theorem lw_r2 : ∀ q ∈ lw_privs_2, lw_okq q := List.forall_mem_cons.mpr ⟨lw_p16, List.forall_mem_cons.mpr ⟨lw_p17, List.forall_mem_cons.mpr ⟨lw_p18, List.forall_mem_cons.mpr ⟨lw_p19, List.forall_mem_cons.mpr ⟨lw_p20, List.forall_mem_cons.mpr ⟨lw_p21, List.forall_mem_cons.mpr ⟨lw_p22, List.forall_mem_cons.mpr ⟨lw_p23, List.forall_mem_cons.mpr ⟨lw_p24, List.forall_mem_cons.mpr ⟨lw_p25, List.forall_mem_cons.mpr ⟨lw_p26, List.forall_mem_cons.mpr ⟨lw_p27, List.forall_mem_cons.mpr ⟨lw_p28, List.forall_mem_cons.mpr ⟨lw_p29, List.forall_mem_cons.mpr ⟨lw_p30, List.forall_mem_cons.mpr ⟨lw_p31, fun _ h => absurd h List.not_mem_nil⟩⟩⟩⟩⟩⟩⟩⟩⟩⟩⟩⟩⟩⟩⟩⟩
theorem lw_p32 : lw_okq (⟨"TruckWing$Land", "flight", "(IIII)I"⟩, 3) := ⟨⟨by decide +kernel, by decide +kernel⟩, List.mem_of_getElem? (i := 31) (by decide +kernel), List.mem_of_getElem? (i := 585) (by decide +kernel), List.mem_of_getElem? (i := 586) (by decide +kernel)⟩
theorem lw_p33 : lw_okq (⟨"TruckWing$Land", "drive", "(II)I"⟩, 3) := ⟨⟨by decide +kernel, by decide +kernel⟩, List.mem_of_getElem? (i := 31) (by decide +kernel), List.mem_of_getElem? (i := 597) (by decide +kernel), List.mem_of_getElem? (i := 598) (by decide +kernel)⟩
theorem lw_p34 : lw_okq (⟨"TruckWing$Course", "look", "()Z"⟩, 11) := ⟨⟨by decide +kernel, by decide +kernel⟩, List.mem_of_getElem? (i := 86) (by decide +kernel), List.mem_of_getElem? (i := 605) (by decide +kernel), List.mem_of_getElem? (i := 606) (by decide +kernel)⟩
theorem lw_p35 : lw_okq (⟨"TruckWing$Course", "wrongWithoutTimes", "()I"⟩, 11) := ⟨⟨by decide +kernel, by decide +kernel⟩, List.mem_of_getElem? (i := 86) (by decide +kernel), List.mem_of_getElem? (i := 609) (by decide +kernel), List.mem_of_getElem? (i := 610) (by decide +kernel)⟩
theorem lw_p36 : lw_okq (⟨"TruckWing$Course", "impossibleSortie", "()I"⟩, 11) := ⟨⟨by decide +kernel, by decide +kernel⟩, List.mem_of_getElem? (i := 86) (by decide +kernel), List.mem_of_getElem? (i := 613) (by decide +kernel), List.mem_of_getElem? (i := 614) (by decide +kernel)⟩
theorem lw_p37 : lw_okq (⟨"TruckWing$Plan", "part", "(II)I"⟩, 4) := ⟨⟨by decide +kernel, by decide +kernel⟩, List.mem_of_getElem? (i := 61) (by decide +kernel), List.mem_of_getElem? (i := 617) (by decide +kernel), List.mem_of_getElem? (i := 618) (by decide +kernel)⟩
theorem lw_p38 : lw_okq (⟨"TruckWing$Course", "servedTooOften", "()I"⟩, 11) := ⟨⟨by decide +kernel, by decide +kernel⟩, List.mem_of_getElem? (i := 86) (by decide +kernel), List.mem_of_getElem? (i := 626) (by decide +kernel), List.mem_of_getElem? (i := 627) (by decide +kernel)⟩
theorem lw_p39 : lw_okq (⟨"TruckWing$Course", "timesServed", "(I)I"⟩, 11) := ⟨⟨by decide +kernel, by decide +kernel⟩, List.mem_of_getElem? (i := 86) (by decide +kernel), List.mem_of_getElem? (i := 630) (by decide +kernel), List.mem_of_getElem? (i := 631) (by decide +kernel)⟩
theorem lw_p40 : lw_okq (⟨"TruckWing$Plan", "placeAt", "(I)I"⟩, 4) := ⟨⟨by decide +kernel, by decide +kernel⟩, List.mem_of_getElem? (i := 61) (by decide +kernel), List.mem_of_getElem? (i := 634) (by decide +kernel), List.mem_of_getElem? (i := 635) (by decide +kernel)⟩
theorem lw_p41 : lw_okq (⟨"TruckWing$Course", "servedByNobody", "()I"⟩, 11) := ⟨⟨by decide +kernel, by decide +kernel⟩, List.mem_of_getElem? (i := 86) (by decide +kernel), List.mem_of_getElem? (i := 638) (by decide +kernel), List.mem_of_getElem? (i := 639) (by decide +kernel)⟩
theorem lw_p42 : lw_okq (⟨"TruckWing$Course", "tooHeavy", "()I"⟩, 11) := ⟨⟨by decide +kernel, by decide +kernel⟩, List.mem_of_getElem? (i := 86) (by decide +kernel), List.mem_of_getElem? (i := 642) (by decide +kernel), List.mem_of_getElem? (i := 643) (by decide +kernel)⟩
theorem lw_p43 : lw_okq (⟨"TruckWing$Land", "isLight", "(I)Z"⟩, 3) := ⟨⟨by decide +kernel, by decide +kernel⟩, List.mem_of_getElem? (i := 31) (by decide +kernel), List.mem_of_getElem? (i := 646) (by decide +kernel), List.mem_of_getElem? (i := 647) (by decide +kernel)⟩
theorem lw_p44 : lw_okq (⟨"TruckWing$Course", "overlapping", "()I"⟩, 11) := ⟨⟨by decide +kernel, by decide +kernel⟩, List.mem_of_getElem? (i := 86) (by decide +kernel), List.mem_of_getElem? (i := 650) (by decide +kernel), List.mem_of_getElem? (i := 651) (by decide +kernel)⟩
theorem lw_p45 : lw_okq (⟨"TruckWing$Course", "drivePlan", "()V"⟩, 11) := ⟨⟨by decide +kernel, by decide +kernel⟩, List.mem_of_getElem? (i := 86) (by decide +kernel), List.mem_of_getElem? (i := 654) (by decide +kernel), List.mem_of_getElem? (i := 655) (by decide +kernel)⟩
theorem lw_p46 : lw_okq (⟨"TruckWing$Diary", "empty", "()V"⟩, 2) := ⟨⟨by decide +kernel, by decide +kernel⟩, List.mem_of_getElem? (i := 92) (by decide +kernel), List.mem_of_getElem? (i := 658) (by decide +kernel), List.mem_of_getElem? (i := 659) (by decide +kernel)⟩
theorem lw_p47 : lw_okq (⟨"TruckWing$Diary", "note", "(IIII)V"⟩, 2) := ⟨⟨by decide +kernel, by decide +kernel⟩, List.mem_of_getElem? (i := 92) (by decide +kernel), List.mem_of_getElem? (i := 663) (by decide +kernel), List.mem_of_getElem? (i := 664) (by decide +kernel)⟩
def lw_privs_3 : List (MethodName × Nat) := [(⟨"TruckWing$Land", "flight", "(IIII)I"⟩, 3), (⟨"TruckWing$Land", "drive", "(II)I"⟩, 3), (⟨"TruckWing$Course", "look", "()Z"⟩, 11), (⟨"TruckWing$Course", "wrongWithoutTimes", "()I"⟩, 11), (⟨"TruckWing$Course", "impossibleSortie", "()I"⟩, 11), (⟨"TruckWing$Plan", "part", "(II)I"⟩, 4), (⟨"TruckWing$Course", "servedTooOften", "()I"⟩, 11), (⟨"TruckWing$Course", "timesServed", "(I)I"⟩, 11), (⟨"TruckWing$Plan", "placeAt", "(I)I"⟩, 4), (⟨"TruckWing$Course", "servedByNobody", "()I"⟩, 11), (⟨"TruckWing$Course", "tooHeavy", "()I"⟩, 11), (⟨"TruckWing$Land", "isLight", "(I)Z"⟩, 3), (⟨"TruckWing$Course", "overlapping", "()I"⟩, 11), (⟨"TruckWing$Course", "drivePlan", "()V"⟩, 11), (⟨"TruckWing$Diary", "empty", "()V"⟩, 2), (⟨"TruckWing$Diary", "note", "(IIII)V"⟩, 2)]
theorem lw_r3 : ∀ q ∈ lw_privs_3, lw_okq q := List.forall_mem_cons.mpr ⟨lw_p32, List.forall_mem_cons.mpr ⟨lw_p33, List.forall_mem_cons.mpr ⟨lw_p34, List.forall_mem_cons.mpr ⟨lw_p35, List.forall_mem_cons.mpr ⟨lw_p36, List.forall_mem_cons.mpr ⟨lw_p37, List.forall_mem_cons.mpr ⟨lw_p38, List.forall_mem_cons.mpr ⟨lw_p39, List.forall_mem_cons.mpr ⟨lw_p40, List.forall_mem_cons.mpr ⟨lw_p41, List.forall_mem_cons.mpr ⟨lw_p42, List.forall_mem_cons.mpr ⟨lw_p43, List.forall_mem_cons.mpr ⟨lw_p44, List.forall_mem_cons.mpr ⟨lw_p45, List.forall_mem_cons.mpr ⟨lw_p46, List.forall_mem_cons.mpr ⟨lw_p47, fun _ h => absurd h List.not_mem_nil⟩⟩⟩⟩⟩⟩⟩⟩⟩⟩⟩⟩⟩⟩⟩⟩
theorem lw_p48 : lw_okq (⟨"TruckWing$Course", "catchAll", "(II)I"⟩, 11) := ⟨⟨by decide +kernel, by decide +kernel⟩, List.mem_of_getElem? (i := 86) (by decide +kernel), List.mem_of_getElem? (i := 668) (by decide +kernel), List.mem_of_getElem? (i := 669) (by decide +kernel)⟩
theorem lw_p49 : lw_okq (⟨"TruckWing$Course", "nextToCatch", "(I)I"⟩, 11) := ⟨⟨by decide +kernel, by decide +kernel⟩, List.mem_of_getElem? (i := 86) (by decide +kernel), List.mem_of_getElem? (i := 672) (by decide +kernel), List.mem_of_getElem? (i := 673) (by decide +kernel)⟩
theorem lw_p50 : lw_okq (⟨"TruckWing$Course", "isAhead", "(II)Z"⟩, 11) := ⟨⟨by decide +kernel, by decide +kernel⟩, List.mem_of_getElem? (i := 86) (by decide +kernel), List.mem_of_getElem? (i := 676) (by decide +kernel), List.mem_of_getElem? (i := 677) (by decide +kernel)⟩
theorem lw_p51 : lw_okq (⟨"TruckWing$Course", "launchAll", "(II)I"⟩, 11) := ⟨⟨by decide +kernel, by decide +kernel⟩, List.mem_of_getElem? (i := 86) (by decide +kernel), List.mem_of_getElem? (i := 681) (by decide +kernel), List.mem_of_getElem? (i := 682) (by decide +kernel)⟩
theorem lw_p52 : lw_okq (⟨"TruckWing$Course", "launch", "(II)V"⟩, 11) := ⟨⟨by decide +kernel, by decide +kernel⟩, List.mem_of_getElem? (i := 86) (by decide +kernel), List.mem_of_getElem? (i := 685) (by decide +kernel), List.mem_of_getElem? (i := 686) (by decide +kernel)⟩
theorem lw_p53 : lw_okq (⟨"TruckWing$Course", "tooLongInAir", "()I"⟩, 11) := ⟨⟨by decide +kernel, by decide +kernel⟩, List.mem_of_getElem? (i := 86) (by decide +kernel), List.mem_of_getElem? (i := 690) (by decide +kernel), List.mem_of_getElem? (i := 691) (by decide +kernel)⟩
theorem lw_p54 : lw_okq (⟨"TruckWing$Course", "air", "(I)I"⟩, 11) := ⟨⟨by decide +kernel, by decide +kernel⟩, List.mem_of_getElem? (i := 86) (by decide +kernel), List.mem_of_getElem? (i := 694) (by decide +kernel), List.mem_of_getElem? (i := 695) (by decide +kernel)⟩
theorem lw_p55 : lw_okq (⟨"TruckWing$Course", "lastReady", "()I"⟩, 11) := ⟨⟨by decide +kernel, by decide +kernel⟩, List.mem_of_getElem? (i := 86) (by decide +kernel), List.mem_of_getElem? (i := 702) (by decide +kernel), List.mem_of_getElem? (i := 703) (by decide +kernel)⟩
theorem lw_p56 : lw_okq (⟨"TruckWing$Course", "ofStop", "(II)I"⟩, 11) := ⟨⟨by decide +kernel, by decide +kernel⟩, List.mem_of_getElem? (i := 86) (by decide +kernel), List.mem_of_getElem? (i := 710) (by decide +kernel), List.mem_of_getElem? (i := 711) (by decide +kernel)⟩
theorem lw_p57 : lw_okq (⟨"TruckWing$Plan", "hasSortie", "(I)Z"⟩, 4) := ⟨⟨by decide +kernel, by decide +kernel⟩, List.mem_of_getElem? (i := 61) (by decide +kernel), List.mem_of_getElem? (i := 718) (by decide +kernel), List.mem_of_getElem? (i := 719) (by decide +kernel)⟩
theorem lw_p58 : lw_okq (⟨"TruckWing$Course", "ofSortie", "(II)I"⟩, 11) := ⟨⟨by decide +kernel, by decide +kernel⟩, List.mem_of_getElem? (i := 86) (by decide +kernel), List.mem_of_getElem? (i := 722) (by decide +kernel), List.mem_of_getElem? (i := 723) (by decide +kernel)⟩
theorem lw_p59 : lw_okq (⟨"TruckWing$Diary", "part", "(II)I"⟩, 2) := ⟨⟨by decide +kernel, by decide +kernel⟩, List.mem_of_getElem? (i := 92) (by decide +kernel), List.mem_of_getElem? (i := 730) (by decide +kernel), List.mem_of_getElem? (i := 731) (by decide +kernel)⟩
theorem lw_p60 : lw_okq (⟨"TruckWing$Course", "total", "(I)I"⟩, 11) := ⟨⟨by decide +kernel, by decide +kernel⟩, List.mem_of_getElem? (i := 86) (by decide +kernel), List.mem_of_getElem? (i := 738) (by decide +kernel), List.mem_of_getElem? (i := 739) (by decide +kernel)⟩
theorem lw_p61 : lw_okq (⟨"TruckWing$Course", "drivenTo", "(I)I"⟩, 11) := ⟨⟨by decide +kernel, by decide +kernel⟩, List.mem_of_getElem? (i := 86) (by decide +kernel), List.mem_of_getElem? (i := 742) (by decide +kernel), List.mem_of_getElem? (i := 743) (by decide +kernel)⟩
theorem lw_p62 : lw_okq (⟨"TruckWing$Course", "flownBy", "(I)I"⟩, 11) := ⟨⟨by decide +kernel, by decide +kernel⟩, List.mem_of_getElem? (i := 86) (by decide +kernel), List.mem_of_getElem? (i := 746) (by decide +kernel), List.mem_of_getElem? (i := 747) (by decide +kernel)⟩
theorem lw_p63 : lw_okq (⟨"TruckWing$Table", "readOrder", "(I)Z"⟩, 18) := ⟨⟨by decide +kernel, by decide +kernel⟩, List.mem_of_getElem? (i := 142) (by decide +kernel), List.mem_of_getElem? (i := 754) (by decide +kernel), List.mem_of_getElem? (i := 755) (by decide +kernel)⟩
def lw_privs_4 : List (MethodName × Nat) := [(⟨"TruckWing$Course", "catchAll", "(II)I"⟩, 11), (⟨"TruckWing$Course", "nextToCatch", "(I)I"⟩, 11), (⟨"TruckWing$Course", "isAhead", "(II)Z"⟩, 11), (⟨"TruckWing$Course", "launchAll", "(II)I"⟩, 11), (⟨"TruckWing$Course", "launch", "(II)V"⟩, 11), (⟨"TruckWing$Course", "tooLongInAir", "()I"⟩, 11), (⟨"TruckWing$Course", "air", "(I)I"⟩, 11), (⟨"TruckWing$Course", "lastReady", "()I"⟩, 11), (⟨"TruckWing$Course", "ofStop", "(II)I"⟩, 11), (⟨"TruckWing$Plan", "hasSortie", "(I)Z"⟩, 4), (⟨"TruckWing$Course", "ofSortie", "(II)I"⟩, 11), (⟨"TruckWing$Diary", "part", "(II)I"⟩, 2), (⟨"TruckWing$Course", "total", "(I)I"⟩, 11), (⟨"TruckWing$Course", "drivenTo", "(I)I"⟩, 11), (⟨"TruckWing$Course", "flownBy", "(I)I"⟩, 11), (⟨"TruckWing$Table", "readOrder", "(I)Z"⟩, 18)]
theorem lw_r4 : ∀ q ∈ lw_privs_4, lw_okq q := List.forall_mem_cons.mpr ⟨lw_p48, List.forall_mem_cons.mpr ⟨lw_p49, List.forall_mem_cons.mpr ⟨lw_p50, List.forall_mem_cons.mpr ⟨lw_p51, List.forall_mem_cons.mpr ⟨lw_p52, List.forall_mem_cons.mpr ⟨lw_p53, List.forall_mem_cons.mpr ⟨lw_p54, List.forall_mem_cons.mpr ⟨lw_p55, List.forall_mem_cons.mpr ⟨lw_p56, List.forall_mem_cons.mpr ⟨lw_p57, List.forall_mem_cons.mpr ⟨lw_p58, List.forall_mem_cons.mpr ⟨lw_p59, List.forall_mem_cons.mpr ⟨lw_p60, List.forall_mem_cons.mpr ⟨lw_p61, List.forall_mem_cons.mpr ⟨lw_p62, List.forall_mem_cons.mpr ⟨lw_p63, fun _ h => absurd h List.not_mem_nil⟩⟩⟩⟩⟩⟩⟩⟩⟩⟩⟩⟩⟩⟩⟩⟩
theorem lw_p64 : lw_okq (⟨"TruckWing", "fillTable", "()V"⟩, 8) := ⟨⟨by decide +kernel, by decide +kernel⟩, List.mem_of_getElem? (i := 23) (by decide +kernel), List.mem_of_getElem? (i := 759) (by decide +kernel), List.mem_of_getElem? (i := 760) (by decide +kernel)⟩
theorem lw_p65 : lw_okq (⟨"TruckWing$Table", "prepare", "(III)V"⟩, 18) := ⟨⟨by decide +kernel, by decide +kernel⟩, List.mem_of_getElem? (i := 142) (by decide +kernel), List.mem_of_getElem? (i := 763) (by decide +kernel), List.mem_of_getElem? (i := 764) (by decide +kernel)⟩
theorem lw_p66 : lw_okq (⟨"TruckWing$Table", "fill", "(I)V"⟩, 18) := ⟨⟨by decide +kernel, by decide +kernel⟩, List.mem_of_getElem? (i := 142) (by decide +kernel), List.mem_of_getElem? (i := 772) (by decide +kernel), List.mem_of_getElem? (i := 773) (by decide +kernel)⟩
theorem lw_p67 : lw_okq (⟨"TruckWing$Table", "beginWithVan", "(I)V"⟩, 18) := ⟨⟨by decide +kernel, by decide +kernel⟩, List.mem_of_getElem? (i := 142) (by decide +kernel), List.mem_of_getElem? (i := 777) (by decide +kernel), List.mem_of_getElem? (i := 778) (by decide +kernel)⟩
theorem lw_p68 : lw_okq (⟨"TruckWing$Table", "leg", "(II)I"⟩, 18) := ⟨⟨by decide +kernel, by decide +kernel⟩, List.mem_of_getElem? (i := 142) (by decide +kernel), List.mem_of_getElem? (i := 781) (by decide +kernel), List.mem_of_getElem? (i := 782) (by decide +kernel)⟩
theorem lw_p69 : lw_okq (⟨"TruckWing$Table", "soonest", "(II)I"⟩, 18) := ⟨⟨by decide +kernel, by decide +kernel⟩, List.mem_of_getElem? (i := 142) (by decide +kernel), List.mem_of_getElem? (i := 785) (by decide +kernel), List.mem_of_getElem? (i := 786) (by decide +kernel)⟩
theorem lw_p70 : lw_okq (⟨"TruckWing$Table", "offerBlocks", "(II)V"⟩, 18) := ⟨⟨by decide +kernel, by decide +kernel⟩, List.mem_of_getElem? (i := 142) (by decide +kernel), List.mem_of_getElem? (i := 789) (by decide +kernel), List.mem_of_getElem? (i := 790) (by decide +kernel)⟩
theorem lw_p71 : lw_okq (⟨"TruckWing$Table", "offerOne", "(III)V"⟩, 18) := ⟨⟨by decide +kernel, by decide +kernel⟩, List.mem_of_getElem? (i := 142) (by decide +kernel), List.mem_of_getElem? (i := 793) (by decide +kernel), List.mem_of_getElem? (i := 794) (by decide +kernel)⟩
theorem lw_p72 : lw_okq (⟨"TruckWing$Table", "spared", "(II)I"⟩, 18) := ⟨⟨by decide +kernel, by decide +kernel⟩, List.mem_of_getElem? (i := 142) (by decide +kernel), List.mem_of_getElem? (i := 797) (by decide +kernel), List.mem_of_getElem? (i := 798) (by decide +kernel)⟩
theorem lw_p73 : lw_okq (⟨"TruckWing$Table", "trip", "(III)I"⟩, 18) := ⟨⟨by decide +kernel, by decide +kernel⟩, List.mem_of_getElem? (i := 142) (by decide +kernel), List.mem_of_getElem? (i := 801) (by decide +kernel), List.mem_of_getElem? (i := 802) (by decide +kernel)⟩
theorem lw_p74 : lw_okq (⟨"TruckWing$Table", "lasts", "(III)Z"⟩, 18) := ⟨⟨by decide +kernel, by decide +kernel⟩, List.mem_of_getElem? (i := 142) (by decide +kernel), List.mem_of_getElem? (i := 805) (by decide +kernel), List.mem_of_getElem? (i := 806) (by decide +kernel)⟩
theorem lw_p75 : lw_okq (⟨"TruckWing$Table", "offer", "(IIII)V"⟩, 18) := ⟨⟨by decide +kernel, by decide +kernel⟩, List.mem_of_getElem? (i := 142) (by decide +kernel), List.mem_of_getElem? (i := 812) (by decide +kernel), List.mem_of_getElem? (i := 813) (by decide +kernel)⟩
theorem lw_p76 : lw_okq (⟨"TruckWing$Table", "offerTwo", "(IIII)V"⟩, 18) := ⟨⟨by decide +kernel, by decide +kernel⟩, List.mem_of_getElem? (i := 142) (by decide +kernel), List.mem_of_getElem? (i := 822) (by decide +kernel), List.mem_of_getElem? (i := 823) (by decide +kernel)⟩
theorem lw_p77 : lw_okq (⟨"TruckWing$Table", "lastEnd", "()I"⟩, 18) := ⟨⟨by decide +kernel, by decide +kernel⟩, List.mem_of_getElem? (i := 142) (by decide +kernel), List.mem_of_getElem? (i := 826) (by decide +kernel), List.mem_of_getElem? (i := 827) (by decide +kernel)⟩
theorem lw_p78 : lw_okq (⟨"TruckWing$Table", "writePlan", "(LTruckWing$Plan;)V"⟩, 18) := ⟨⟨by decide +kernel, by decide +kernel⟩, List.mem_of_getElem? (i := 142) (by decide +kernel), List.mem_of_getElem? (i := 834) (by decide +kernel), List.mem_of_getElem? (i := 835) (by decide +kernel)⟩
theorem lw_p79 : lw_okq (⟨"TruckWing$Table", "linkBlocks", "()V"⟩, 18) := ⟨⟨by decide +kernel, by decide +kernel⟩, List.mem_of_getElem? (i := 142) (by decide +kernel), List.mem_of_getElem? (i := 838) (by decide +kernel), List.mem_of_getElem? (i := 839) (by decide +kernel)⟩
def lw_privs_5 : List (MethodName × Nat) := [(⟨"TruckWing", "fillTable", "()V"⟩, 8), (⟨"TruckWing$Table", "prepare", "(III)V"⟩, 18), (⟨"TruckWing$Table", "fill", "(I)V"⟩, 18), (⟨"TruckWing$Table", "beginWithVan", "(I)V"⟩, 18), (⟨"TruckWing$Table", "leg", "(II)I"⟩, 18), (⟨"TruckWing$Table", "soonest", "(II)I"⟩, 18), (⟨"TruckWing$Table", "offerBlocks", "(II)V"⟩, 18), (⟨"TruckWing$Table", "offerOne", "(III)V"⟩, 18), (⟨"TruckWing$Table", "spared", "(II)I"⟩, 18), (⟨"TruckWing$Table", "trip", "(III)I"⟩, 18), (⟨"TruckWing$Table", "lasts", "(III)Z"⟩, 18), (⟨"TruckWing$Table", "offer", "(IIII)V"⟩, 18), (⟨"TruckWing$Table", "offerTwo", "(IIII)V"⟩, 18), (⟨"TruckWing$Table", "lastEnd", "()I"⟩, 18), (⟨"TruckWing$Table", "writePlan", "(LTruckWing$Plan;)V"⟩, 18), (⟨"TruckWing$Table", "linkBlocks", "()V"⟩, 18)]
theorem lw_r5 : ∀ q ∈ lw_privs_5, lw_okq q := List.forall_mem_cons.mpr ⟨lw_p64, List.forall_mem_cons.mpr ⟨lw_p65, List.forall_mem_cons.mpr ⟨lw_p66, List.forall_mem_cons.mpr ⟨lw_p67, List.forall_mem_cons.mpr ⟨lw_p68, List.forall_mem_cons.mpr ⟨lw_p69, List.forall_mem_cons.mpr ⟨lw_p70, List.forall_mem_cons.mpr ⟨lw_p71, List.forall_mem_cons.mpr ⟨lw_p72, List.forall_mem_cons.mpr ⟨lw_p73, List.forall_mem_cons.mpr ⟨lw_p74, List.forall_mem_cons.mpr ⟨lw_p75, List.forall_mem_cons.mpr ⟨lw_p76, List.forall_mem_cons.mpr ⟨lw_p77, List.forall_mem_cons.mpr ⟨lw_p78, List.forall_mem_cons.mpr ⟨lw_p79, fun _ h => absurd h List.not_mem_nil⟩⟩⟩⟩⟩⟩⟩⟩⟩⟩⟩⟩⟩⟩⟩⟩
theorem lw_p80 : lw_okq (⟨"TruckWing$Table", "writeBlock", "(LTruckWing$Plan;II)V"⟩, 18) := ⟨⟨by decide +kernel, by decide +kernel⟩, List.mem_of_getElem? (i := 142) (by decide +kernel), List.mem_of_getElem? (i := 843) (by decide +kernel), List.mem_of_getElem? (i := 844) (by decide +kernel)⟩
theorem lw_p81 : lw_okq (⟨"TruckWing$Table", "isFlown", "(III)Z"⟩, 18) := ⟨⟨by decide +kernel, by decide +kernel⟩, List.mem_of_getElem? (i := 142) (by decide +kernel), List.mem_of_getElem? (i := 847) (by decide +kernel), List.mem_of_getElem? (i := 848) (by decide +kernel)⟩
theorem lw_p82 : lw_okq (⟨"TruckWing", "searchBest", "()V"⟩, 8) := ⟨⟨by decide +kernel, by decide +kernel⟩, List.mem_of_getElem? (i := 23) (by decide +kernel), List.mem_of_getElem? (i := 857) (by decide +kernel), List.mem_of_getElem? (i := 858) (by decide +kernel)⟩
theorem lw_p83 : lw_okq (⟨"TruckWing$Table", "search", "(LTruckWing$Found;)V"⟩, 18) := ⟨⟨by decide +kernel, by decide +kernel⟩, List.mem_of_getElem? (i := 142) (by decide +kernel), List.mem_of_getElem? (i := 861) (by decide +kernel), List.mem_of_getElem? (i := 862) (by decide +kernel)⟩
theorem lw_p84 : lw_okq (⟨"TruckWing$Table", "orderNumber", "()I"⟩, 18) := ⟨⟨by decide +kernel, by decide +kernel⟩, List.mem_of_getElem? (i := 142) (by decide +kernel), List.mem_of_getElem? (i := 867) (by decide +kernel), List.mem_of_getElem? (i := 868) (by decide +kernel)⟩
theorem lw_p85 : lw_okq (⟨"TruckWing$Found", "keep", "(II)V"⟩, 3) := ⟨⟨by decide +kernel, by decide +kernel⟩, List.mem_of_getElem? (i := 263) (by decide +kernel), List.mem_of_getElem? (i := 871) (by decide +kernel), List.mem_of_getElem? (i := 872) (by decide +kernel)⟩
theorem lw_p86 : lw_okq (⟨"TruckWing$Table", "nextOrder", "()I"⟩, 18) := ⟨⟨by decide +kernel, by decide +kernel⟩, List.mem_of_getElem? (i := 142) (by decide +kernel), List.mem_of_getElem? (i := 875) (by decide +kernel), List.mem_of_getElem? (i := 876) (by decide +kernel)⟩
theorem lw_p87 : lw_okq (⟨"TruckWing$Table", "swap", "(II)V"⟩, 18) := ⟨⟨by decide +kernel, by decide +kernel⟩, List.mem_of_getElem? (i := 142) (by decide +kernel), List.mem_of_getElem? (i := 879) (by decide +kernel), List.mem_of_getElem? (i := 880) (by decide +kernel)⟩
theorem lw_p88 : lw_okq (⟨"TruckWing", "searchAlone", "()V"⟩, 8) := ⟨⟨by decide +kernel, by decide +kernel⟩, List.mem_of_getElem? (i := 23) (by decide +kernel), List.mem_of_getElem? (i := 891) (by decide +kernel), List.mem_of_getElem? (i := 892) (by decide +kernel)⟩
theorem lw_p89 : lw_okq (⟨"TruckWing", "bestWind", "()I"⟩, 8) := ⟨⟨by decide +kernel, by decide +kernel⟩, List.mem_of_getElem? (i := 23) (by decide +kernel), List.mem_of_getElem? (i := 899) (by decide +kernel), List.mem_of_getElem? (i := 900) (by decide +kernel)⟩
theorem lw_p90 : lw_okq (⟨"TruckWing", "endByWind", "(I)I"⟩, 8) := ⟨⟨by decide +kernel, by decide +kernel⟩, List.mem_of_getElem? (i := 23) (by decide +kernel), List.mem_of_getElem? (i := 903) (by decide +kernel), List.mem_of_getElem? (i := 904) (by decide +kernel)⟩
theorem lw_p91 : lw_okq (⟨"java/lang/Throwable", "fillInStackTrace", "(I)Ljava/lang/Throwable;"⟩, 6) := ⟨⟨by decide +kernel, by decide +kernel⟩, List.mem_of_getElem? (i := 951) (by decide +kernel), List.mem_of_getElem? (i := 949) (by decide +kernel), List.mem_of_getElem? (i := 950) (by decide +kernel)⟩
theorem lw_p92 : lw_okq (⟨"TruckWingModel", "customers", "()I"⟩, 27) := ⟨⟨by decide +kernel, by decide +kernel⟩, List.mem_of_getElem? (i := 977) (by decide +kernel), List.mem_of_getElem? (i := 1079) (by decide +kernel), List.mem_of_getElem? (i := 1080) (by decide +kernel)⟩
theorem lw_p93 : lw_okq (⟨"TruckWingModel", "more", "(IIIII)V"⟩, 27) := ⟨⟨by decide +kernel, by decide +kernel⟩, List.mem_of_getElem? (i := 977) (by decide +kernel), List.mem_of_getElem? (i := 1083) (by decide +kernel), List.mem_of_getElem? (i := 1084) (by decide +kernel)⟩
theorem lw_p94 : lw_okq (⟨"TruckWingModel", "clears", "()V"⟩, 27) := ⟨⟨by decide +kernel, by decide +kernel⟩, List.mem_of_getElem? (i := 977) (by decide +kernel), List.mem_of_getElem? (i := 1091) (by decide +kernel), List.mem_of_getElem? (i := 1092) (by decide +kernel)⟩
theorem lw_p95 : lw_okq (⟨"TruckWingModel", "of", "(I)I"⟩, 27) := ⟨⟨by decide +kernel, by decide +kernel⟩, List.mem_of_getElem? (i := 977) (by decide +kernel), List.mem_of_getElem? (i := 1102) (by decide +kernel), List.mem_of_getElem? (i := 1103) (by decide +kernel)⟩
def lw_privs_6 : List (MethodName × Nat) := [(⟨"TruckWing$Table", "writeBlock", "(LTruckWing$Plan;II)V"⟩, 18), (⟨"TruckWing$Table", "isFlown", "(III)Z"⟩, 18), (⟨"TruckWing", "searchBest", "()V"⟩, 8), (⟨"TruckWing$Table", "search", "(LTruckWing$Found;)V"⟩, 18), (⟨"TruckWing$Table", "orderNumber", "()I"⟩, 18), (⟨"TruckWing$Found", "keep", "(II)V"⟩, 3), (⟨"TruckWing$Table", "nextOrder", "()I"⟩, 18), (⟨"TruckWing$Table", "swap", "(II)V"⟩, 18), (⟨"TruckWing", "searchAlone", "()V"⟩, 8), (⟨"TruckWing", "bestWind", "()I"⟩, 8), (⟨"TruckWing", "endByWind", "(I)I"⟩, 8), (⟨"java/lang/Throwable", "fillInStackTrace", "(I)Ljava/lang/Throwable;"⟩, 6), (⟨"TruckWingModel", "customers", "()I"⟩, 27), (⟨"TruckWingModel", "more", "(IIIII)V"⟩, 27), (⟨"TruckWingModel", "clears", "()V"⟩, 27), (⟨"TruckWingModel", "of", "(I)I"⟩, 27)]
theorem lw_r6 : ∀ q ∈ lw_privs_6, lw_okq q := List.forall_mem_cons.mpr ⟨lw_p80, List.forall_mem_cons.mpr ⟨lw_p81, List.forall_mem_cons.mpr ⟨lw_p82, List.forall_mem_cons.mpr ⟨lw_p83, List.forall_mem_cons.mpr ⟨lw_p84, List.forall_mem_cons.mpr ⟨lw_p85, List.forall_mem_cons.mpr ⟨lw_p86, List.forall_mem_cons.mpr ⟨lw_p87, List.forall_mem_cons.mpr ⟨lw_p88, List.forall_mem_cons.mpr ⟨lw_p89, List.forall_mem_cons.mpr ⟨lw_p90, List.forall_mem_cons.mpr ⟨lw_p91, List.forall_mem_cons.mpr ⟨lw_p92, List.forall_mem_cons.mpr ⟨lw_p93, List.forall_mem_cons.mpr ⟨lw_p94, List.forall_mem_cons.mpr ⟨lw_p95, fun _ h => absurd h List.not_mem_nil⟩⟩⟩⟩⟩⟩⟩⟩⟩⟩⟩⟩⟩⟩⟩⟩
theorem lw_p96 : lw_okq (⟨"TruckWingModel", "isCustomer", "(I)Z"⟩, 27) := ⟨⟨by decide +kernel, by decide +kernel⟩, List.mem_of_getElem? (i := 977) (by decide +kernel), List.mem_of_getElem? (i := 1110) (by decide +kernel), List.mem_of_getElem? (i := 1111) (by decide +kernel)⟩
theorem lw_p97 : lw_okq (⟨"TruckWingModel", "stops", "()I"⟩, 27) := ⟨⟨by decide +kernel, by decide +kernel⟩, List.mem_of_getElem? (i := 977) (by decide +kernel), List.mem_of_getElem? (i := 1114) (by decide +kernel), List.mem_of_getElem? (i := 1115) (by decide +kernel)⟩
theorem lw_p98 : lw_okq (⟨"TruckWingModel", "stopsAt", "(I)V"⟩, 27) := ⟨⟨by decide +kernel, by decide +kernel⟩, List.mem_of_getElem? (i := 977) (by decide +kernel), List.mem_of_getElem? (i := 1118) (by decide +kernel), List.mem_of_getElem? (i := 1119) (by decide +kernel)⟩
theorem lw_p99 : lw_okq (⟨"TruckWingModel", "maySend", "(IIII)Z"⟩, 27) := ⟨⟨by decide +kernel, by decide +kernel⟩, List.mem_of_getElem? (i := 977) (by decide +kernel), List.mem_of_getElem? (i := 1126) (by decide +kernel), List.mem_of_getElem? (i := 1127) (by decide +kernel)⟩
theorem lw_p100 : lw_okq (⟨"TruckWingModel", "sorties", "()I"⟩, 27) := ⟨⟨by decide +kernel, by decide +kernel⟩, List.mem_of_getElem? (i := 977) (by decide +kernel), List.mem_of_getElem? (i := 1130) (by decide +kernel), List.mem_of_getElem? (i := 1131) (by decide +kernel)⟩
theorem lw_p101 : lw_okq (⟨"TruckWingModel", "sends", "(IIII)V"⟩, 27) := ⟨⟨by decide +kernel, by decide +kernel⟩, List.mem_of_getElem? (i := 977) (by decide +kernel), List.mem_of_getElem? (i := 1134) (by decide +kernel), List.mem_of_getElem? (i := 1135) (by decide +kernel)⟩
theorem lw_p102 : lw_okq (⟨"TruckWingModel", "isPlace", "(I)Z"⟩, 27) := ⟨⟨by decide +kernel, by decide +kernel⟩, List.mem_of_getElem? (i := 977) (by decide +kernel), List.mem_of_getElem? (i := 1154) (by decide +kernel), List.mem_of_getElem? (i := 1155) (by decide +kernel)⟩
theorem lw_p103 : lw_okq (⟨"TruckWingModel", "placeOf", "(II)I"⟩, 27) := ⟨⟨by decide +kernel, by decide +kernel⟩, List.mem_of_getElem? (i := 977) (by decide +kernel), List.mem_of_getElem? (i := 1158) (by decide +kernel), List.mem_of_getElem? (i := 1159) (by decide +kernel)⟩
theorem lw_p104 : lw_okq (⟨"TruckWingModel", "flight", "(II)I"⟩, 27) := ⟨⟨by decide +kernel, by decide +kernel⟩, List.mem_of_getElem? (i := 977) (by decide +kernel), List.mem_of_getElem? (i := 1166) (by decide +kernel), List.mem_of_getElem? (i := 1167) (by decide +kernel)⟩
theorem lw_p105 : lw_okq (⟨"TruckWingModel", "drive", "(II)I"⟩, 27) := ⟨⟨by decide +kernel, by decide +kernel⟩, List.mem_of_getElem? (i := 977) (by decide +kernel), List.mem_of_getElem? (i := 1173) (by decide +kernel), List.mem_of_getElem? (i := 1174) (by decide +kernel)⟩
theorem lw_p106 : lw_okq (⟨"TruckWingModel", "sortieOf", "(II)I"⟩, 27) := ⟨⟨by decide +kernel, by decide +kernel⟩, List.mem_of_getElem? (i := 977) (by decide +kernel), List.mem_of_getElem? (i := 1181) (by decide +kernel), List.mem_of_getElem? (i := 1182) (by decide +kernel)⟩
theorem lw_p107 : lw_okq (⟨"TruckWingModel", "put", "(I)V"⟩, 27) := ⟨⟨by decide +kernel, by decide +kernel⟩, List.mem_of_getElem? (i := 977) (by decide +kernel), List.mem_of_getElem? (i := 1189) (by decide +kernel), List.mem_of_getElem? (i := 1190) (by decide +kernel)⟩
theorem lw_p108 : lw_okq (⟨"TruckWingModel", "here", "()I"⟩, 27) := ⟨⟨by decide +kernel, by decide +kernel⟩, List.mem_of_getElem? (i := 977) (by decide +kernel), List.mem_of_getElem? (i := 1201) (by decide +kernel), List.mem_of_getElem? (i := 1202) (by decide +kernel)⟩
theorem lw_p109 : lw_okq (⟨"TruckWingModel", "statement", "()V"⟩, 27) := ⟨⟨by decide +kernel, by decide +kernel⟩, List.mem_of_getElem? (i := 977) (by decide +kernel), List.mem_of_getElem? (i := 1205) (by decide +kernel), List.mem_of_getElem? (i := 1206) (by decide +kernel)⟩
theorem lw_p110 : lw_okq (⟨"TruckWingModel", "word", "()I"⟩, 27) := ⟨⟨by decide +kernel, by decide +kernel⟩, List.mem_of_getElem? (i := 977) (by decide +kernel), List.mem_of_getElem? (i := 1209) (by decide +kernel), List.mem_of_getElem? (i := 1210) (by decide +kernel)⟩
theorem lw_p111 : lw_okq (⟨"TruckWingModel", "numberOf", "(I)I"⟩, 27) := ⟨⟨by decide +kernel, by decide +kernel⟩, List.mem_of_getElem? (i := 977) (by decide +kernel), List.mem_of_getElem? (i := 1216) (by decide +kernel), List.mem_of_getElem? (i := 1217) (by decide +kernel)⟩
def lw_privs_7 : List (MethodName × Nat) := [(⟨"TruckWingModel", "isCustomer", "(I)Z"⟩, 27), (⟨"TruckWingModel", "stops", "()I"⟩, 27), (⟨"TruckWingModel", "stopsAt", "(I)V"⟩, 27), (⟨"TruckWingModel", "maySend", "(IIII)Z"⟩, 27), (⟨"TruckWingModel", "sorties", "()I"⟩, 27), (⟨"TruckWingModel", "sends", "(IIII)V"⟩, 27), (⟨"TruckWingModel", "isPlace", "(I)Z"⟩, 27), (⟨"TruckWingModel", "placeOf", "(II)I"⟩, 27), (⟨"TruckWingModel", "flight", "(II)I"⟩, 27), (⟨"TruckWingModel", "drive", "(II)I"⟩, 27), (⟨"TruckWingModel", "sortieOf", "(II)I"⟩, 27), (⟨"TruckWingModel", "put", "(I)V"⟩, 27), (⟨"TruckWingModel", "here", "()I"⟩, 27), (⟨"TruckWingModel", "statement", "()V"⟩, 27), (⟨"TruckWingModel", "word", "()I"⟩, 27), (⟨"TruckWingModel", "numberOf", "(I)I"⟩, 27)]
theorem lw_r7 : ∀ q ∈ lw_privs_7, lw_okq q := List.forall_mem_cons.mpr ⟨lw_p96, List.forall_mem_cons.mpr ⟨lw_p97, List.forall_mem_cons.mpr ⟨lw_p98, List.forall_mem_cons.mpr ⟨lw_p99, List.forall_mem_cons.mpr ⟨lw_p100, List.forall_mem_cons.mpr ⟨lw_p101, List.forall_mem_cons.mpr ⟨lw_p102, List.forall_mem_cons.mpr ⟨lw_p103, List.forall_mem_cons.mpr ⟨lw_p104, List.forall_mem_cons.mpr ⟨lw_p105, List.forall_mem_cons.mpr ⟨lw_p106, List.forall_mem_cons.mpr ⟨lw_p107, List.forall_mem_cons.mpr ⟨lw_p108, List.forall_mem_cons.mpr ⟨lw_p109, List.forall_mem_cons.mpr ⟨lw_p110, List.forall_mem_cons.mpr ⟨lw_p111, fun _ h => absurd h List.not_mem_nil⟩⟩⟩⟩⟩⟩⟩⟩⟩⟩⟩⟩⟩⟩⟩⟩
theorem lw_p112 : lw_okq (⟨"TruckWingModel", "number", "()I"⟩, 27) := ⟨⟨by decide +kernel, by decide +kernel⟩, List.mem_of_getElem? (i := 977) (by decide +kernel), List.mem_of_getElem? (i := 1220) (by decide +kernel), List.mem_of_getElem? (i := 1221) (by decide +kernel)⟩
theorem lw_p113 : lw_okq (⟨"TruckWingModel", "isDigitAt", "(I)Z"⟩, 27) := ⟨⟨by decide +kernel, by decide +kernel⟩, List.mem_of_getElem? (i := 977) (by decide +kernel), List.mem_of_getElem? (i := 1224) (by decide +kernel), List.mem_of_getElem? (i := 1225) (by decide +kernel)⟩
theorem lw_p114 : lw_okq (⟨"TruckWingModel", "fails", "(II)V"⟩, 27) := ⟨⟨by decide +kernel, by decide +kernel⟩, List.mem_of_getElem? (i := 977) (by decide +kernel), List.mem_of_getElem? (i := 1228) (by decide +kernel), List.mem_of_getElem? (i := 1229) (by decide +kernel)⟩
theorem lw_p115 : lw_okq (⟨"TruckWingModel", "numberIn", "(II)I"⟩, 27) := ⟨⟨by decide +kernel, by decide +kernel⟩, List.mem_of_getElem? (i := 977) (by decide +kernel), List.mem_of_getElem? (i := 1232) (by decide +kernel), List.mem_of_getElem? (i := 1233) (by decide +kernel)⟩
theorem lw_p116 : lw_okq (⟨"TruckWingModel", "rowGoesOn", "()V"⟩, 27) := ⟨⟨by decide +kernel, by decide +kernel⟩, List.mem_of_getElem? (i := 977) (by decide +kernel), List.mem_of_getElem? (i := 1236) (by decide +kernel), List.mem_of_getElem? (i := 1237) (by decide +kernel)⟩
theorem lw_p117 : lw_okq (⟨"TruckWingModel", "wrongPlan", "()I"⟩, 27) := ⟨⟨by decide +kernel, by decide +kernel⟩, List.mem_of_getElem? (i := 977) (by decide +kernel), List.mem_of_getElem? (i := 1248) (by decide +kernel), List.mem_of_getElem? (i := 1249) (by decide +kernel)⟩
theorem lw_p118 : lw_okq (⟨"TruckWingModel", "servedBy", "(I)I"⟩, 27) := ⟨⟨by decide +kernel, by decide +kernel⟩, List.mem_of_getElem? (i := 977) (by decide +kernel), List.mem_of_getElem? (i := 1252) (by decide +kernel), List.mem_of_getElem? (i := 1253) (by decide +kernel)⟩
theorem lw_p119 : lw_okq (⟨"TruckWingModel", "stopAt", "(I)I"⟩, 27) := ⟨⟨by decide +kernel, by decide +kernel⟩, List.mem_of_getElem? (i := 977) (by decide +kernel), List.mem_of_getElem? (i := 1256) (by decide +kernel), List.mem_of_getElem? (i := 1257) (by decide +kernel)⟩
theorem lw_p120 : lw_okq (⟨"TruckWingModel", "isLight", "(I)Z"⟩, 27) := ⟨⟨by decide +kernel, by decide +kernel⟩, List.mem_of_getElem? (i := 977) (by decide +kernel), List.mem_of_getElem? (i := 1260) (by decide +kernel), List.mem_of_getElem? (i := 1261) (by decide +kernel)⟩
theorem lw_p121 : lw_okq (⟨"TruckWingModel", "crosses", "(I)Z"⟩, 27) := ⟨⟨by decide +kernel, by decide +kernel⟩, List.mem_of_getElem? (i := 977) (by decide +kernel), List.mem_of_getElem? (i := 1264) (by decide +kernel), List.mem_of_getElem? (i := 1265) (by decide +kernel)⟩
theorem lw_p122 : lw_okq (⟨"TruckWingModel", "goes", "()Z"⟩, 27) := ⟨⟨by decide +kernel, by decide +kernel⟩, List.mem_of_getElem? (i := 977) (by decide +kernel), List.mem_of_getElem? (i := 1268) (by decide +kernel), List.mem_of_getElem? (i := 1269) (by decide +kernel)⟩
theorem lw_p123 : lw_okq (⟨"TruckWingModel", "happens", "(IIII)V"⟩, 27) := ⟨⟨by decide +kernel, by decide +kernel⟩, List.mem_of_getElem? (i := 977) (by decide +kernel), List.mem_of_getElem? (i := 1272) (by decide +kernel), List.mem_of_getElem? (i := 1273) (by decide +kernel)⟩
theorem lw_p124 : lw_okq (⟨"TruckWingModel", "service", "(I)I"⟩, 27) := ⟨⟨by decide +kernel, by decide +kernel⟩, List.mem_of_getElem? (i := 977) (by decide +kernel), List.mem_of_getElem? (i := 1276) (by decide +kernel), List.mem_of_getElem? (i := 1277) (by decide +kernel)⟩
theorem lw_p125 : lw_okq (⟨"TruckWingModel", "nextCaught", "(I)I"⟩, 27) := ⟨⟨by decide +kernel, by decide +kernel⟩, List.mem_of_getElem? (i := 977) (by decide +kernel), List.mem_of_getElem? (i := 1280) (by decide +kernel), List.mem_of_getElem? (i := 1281) (by decide +kernel)⟩
theorem lw_p126 : lw_okq (⟨"TruckWingModel", "launches", "(II)I"⟩, 27) := ⟨⟨by decide +kernel, by decide +kernel⟩, List.mem_of_getElem? (i := 977) (by decide +kernel), List.mem_of_getElem? (i := 1284) (by decide +kernel), List.mem_of_getElem? (i := 1285) (by decide +kernel)⟩
theorem lw_p127 : lw_okq (⟨"TruckWingModel", "sorts", "()V"⟩, 27) := ⟨⟨by decide +kernel, by decide +kernel⟩, List.mem_of_getElem? (i := 977) (by decide +kernel), List.mem_of_getElem? (i := 1288) (by decide +kernel), List.mem_of_getElem? (i := 1289) (by decide +kernel)⟩
def lw_privs_8 : List (MethodName × Nat) := [(⟨"TruckWingModel", "number", "()I"⟩, 27), (⟨"TruckWingModel", "isDigitAt", "(I)Z"⟩, 27), (⟨"TruckWingModel", "fails", "(II)V"⟩, 27), (⟨"TruckWingModel", "numberIn", "(II)I"⟩, 27), (⟨"TruckWingModel", "rowGoesOn", "()V"⟩, 27), (⟨"TruckWingModel", "wrongPlan", "()I"⟩, 27), (⟨"TruckWingModel", "servedBy", "(I)I"⟩, 27), (⟨"TruckWingModel", "stopAt", "(I)I"⟩, 27), (⟨"TruckWingModel", "isLight", "(I)Z"⟩, 27), (⟨"TruckWingModel", "crosses", "(I)Z"⟩, 27), (⟨"TruckWingModel", "goes", "()Z"⟩, 27), (⟨"TruckWingModel", "happens", "(IIII)V"⟩, 27), (⟨"TruckWingModel", "service", "(I)I"⟩, 27), (⟨"TruckWingModel", "nextCaught", "(I)I"⟩, 27), (⟨"TruckWingModel", "launches", "(II)I"⟩, 27), (⟨"TruckWingModel", "sorts", "()V"⟩, 27)]
theorem lw_r8 : ∀ q ∈ lw_privs_8, lw_okq q := List.forall_mem_cons.mpr ⟨lw_p112, List.forall_mem_cons.mpr ⟨lw_p113, List.forall_mem_cons.mpr ⟨lw_p114, List.forall_mem_cons.mpr ⟨lw_p115, List.forall_mem_cons.mpr ⟨lw_p116, List.forall_mem_cons.mpr ⟨lw_p117, List.forall_mem_cons.mpr ⟨lw_p118, List.forall_mem_cons.mpr ⟨lw_p119, List.forall_mem_cons.mpr ⟨lw_p120, List.forall_mem_cons.mpr ⟨lw_p121, List.forall_mem_cons.mpr ⟨lw_p122, List.forall_mem_cons.mpr ⟨lw_p123, List.forall_mem_cons.mpr ⟨lw_p124, List.forall_mem_cons.mpr ⟨lw_p125, List.forall_mem_cons.mpr ⟨lw_p126, List.forall_mem_cons.mpr ⟨lw_p127, fun _ h => absurd h List.not_mem_nil⟩⟩⟩⟩⟩⟩⟩⟩⟩⟩⟩⟩⟩⟩⟩⟩
theorem lw_p128 : lw_okq (⟨"TruckWingModel", "isAhead", "(II)Z"⟩, 27) := ⟨⟨by decide +kernel, by decide +kernel⟩, List.mem_of_getElem? (i := 977) (by decide +kernel), List.mem_of_getElem? (i := 1292) (by decide +kernel), List.mem_of_getElem? (i := 1293) (by decide +kernel)⟩
theorem lw_p129 : lw_okq (⟨"TruckWingModel", "airOf", "(I)I"⟩, 27) := ⟨⟨by decide +kernel, by decide +kernel⟩, List.mem_of_getElem? (i := 977) (by decide +kernel), List.mem_of_getElem? (i := 1296) (by decide +kernel), List.mem_of_getElem? (i := 1297) (by decide +kernel)⟩
theorem lw_p130 : lw_okq (⟨"TruckWingModel", "lays", "(I)Z"⟩, 27) := ⟨⟨by decide +kernel, by decide +kernel⟩, List.mem_of_getElem? (i := 977) (by decide +kernel), List.mem_of_getElem? (i := 1324) (by decide +kernel), List.mem_of_getElem? (i := 1325) (by decide +kernel)⟩
theorem lw_p131 : lw_okq (⟨"TruckWingModel", "splits", "(I)I"⟩, 27) := ⟨⟨by decide +kernel, by decide +kernel⟩, List.mem_of_getElem? (i := 977) (by decide +kernel), List.mem_of_getElem? (i := 1328) (by decide +kernel), List.mem_of_getElem? (i := 1329) (by decide +kernel)⟩
theorem lw_p132 : lw_okq (⟨"TruckWingModel", "isLightSet", "(II)Z"⟩, 27) := ⟨⟨by decide +kernel, by decide +kernel⟩, List.mem_of_getElem? (i := 977) (by decide +kernel), List.mem_of_getElem? (i := 1335) (by decide +kernel), List.mem_of_getElem? (i := 1336) (by decide +kernel)⟩
theorem lw_p133 : lw_okq (⟨"TruckWingModel", "lasts", "(III)I"⟩, 27) := ⟨⟨by decide +kernel, by decide +kernel⟩, List.mem_of_getElem? (i := 977) (by decide +kernel), List.mem_of_getElem? (i := 1339) (by decide +kernel), List.mem_of_getElem? (i := 1340) (by decide +kernel)⟩
theorem lw_p134 : lw_okq (⟨"TruckWingModel", "seeks", "(I)V"⟩, 27) := ⟨⟨by decide +kernel, by decide +kernel⟩, List.mem_of_getElem? (i := 977) (by decide +kernel), List.mem_of_getElem? (i := 1351) (by decide +kernel), List.mem_of_getElem? (i := 1352) (by decide +kernel)⟩
theorem lw_p135 : lw_okq (⟨"TruckWingModel", "told", "()I"⟩, 27) := ⟨⟨by decide +kernel, by decide +kernel⟩, List.mem_of_getElem? (i := 977) (by decide +kernel), List.mem_of_getElem? (i := 1355) (by decide +kernel), List.mem_of_getElem? (i := 1356) (by decide +kernel)⟩
theorem lw_p136 : lw_okq (⟨"TruckWingModel", "goesOn", "()Z"⟩, 27) := ⟨⟨by decide +kernel, by decide +kernel⟩, List.mem_of_getElem? (i := 977) (by decide +kernel), List.mem_of_getElem? (i := 1359) (by decide +kernel), List.mem_of_getElem? (i := 1360) (by decide +kernel)⟩
theorem lw_p137 : lw_okq (⟨"TruckWingModel", "swaps", "(II)V"⟩, 27) := ⟨⟨by decide +kernel, by decide +kernel⟩, List.mem_of_getElem? (i := 977) (by decide +kernel), List.mem_of_getElem? (i := 1363) (by decide +kernel), List.mem_of_getElem? (i := 1364) (by decide +kernel)⟩
theorem lw_p138 : lw_okq (⟨"TruckWingModel", "splitBy", "(I)I"⟩, 27) := ⟨⟨by decide +kernel, by decide +kernel⟩, List.mem_of_getElem? (i := 977) (by decide +kernel), List.mem_of_getElem? (i := 1379) (by decide +kernel), List.mem_of_getElem? (i := 1380) (by decide +kernel)⟩
def lw_privs_9 : List (MethodName × Nat) := [(⟨"TruckWingModel", "isAhead", "(II)Z"⟩, 27), (⟨"TruckWingModel", "airOf", "(I)I"⟩, 27), (⟨"TruckWingModel", "lays", "(I)Z"⟩, 27), (⟨"TruckWingModel", "splits", "(I)I"⟩, 27), (⟨"TruckWingModel", "isLightSet", "(II)Z"⟩, 27), (⟨"TruckWingModel", "lasts", "(III)I"⟩, 27), (⟨"TruckWingModel", "seeks", "(I)V"⟩, 27), (⟨"TruckWingModel", "told", "()I"⟩, 27), (⟨"TruckWingModel", "goesOn", "()Z"⟩, 27), (⟨"TruckWingModel", "swaps", "(II)V"⟩, 27), (⟨"TruckWingModel", "splitBy", "(I)I"⟩, 27)]
theorem lw_r9 : ∀ q ∈ lw_privs_9, lw_okq q := List.forall_mem_cons.mpr ⟨lw_p128, List.forall_mem_cons.mpr ⟨lw_p129, List.forall_mem_cons.mpr ⟨lw_p130, List.forall_mem_cons.mpr ⟨lw_p131, List.forall_mem_cons.mpr ⟨lw_p132, List.forall_mem_cons.mpr ⟨lw_p133, List.forall_mem_cons.mpr ⟨lw_p134, List.forall_mem_cons.mpr ⟨lw_p135, List.forall_mem_cons.mpr ⟨lw_p136, List.forall_mem_cons.mpr ⟨lw_p137, List.forall_mem_cons.mpr ⟨lw_p138, fun _ h => absurd h List.not_mem_nil⟩⟩⟩⟩⟩⟩⟩⟩⟩⟩⟩
def lw_privs : List (MethodName × Nat) := lw_privs_1 ++ (lw_privs_2 ++ (lw_privs_3 ++ (lw_privs_4 ++ (lw_privs_5 ++ (lw_privs_6 ++ (lw_privs_7 ++ (lw_privs_8 ++ (lw_privs_9))))))))
def lw_tbl : List Cond := k2_sels lw_privs ++ tables_1
theorem lw_privs_ok : ∀ q ∈ lw_privs, lw_okq q := by
  show ∀ q ∈ lw_privs_1 ++ (lw_privs_2 ++ (lw_privs_3 ++ (lw_privs_4 ++ (lw_privs_5 ++ (lw_privs_6 ++ (lw_privs_7 ++ (lw_privs_8 ++ (lw_privs_9)))))))), lw_okq q
  exact List.forall_mem_append.mpr ⟨lw_r1, List.forall_mem_append.mpr ⟨lw_r2, List.forall_mem_append.mpr ⟨lw_r3, List.forall_mem_append.mpr ⟨lw_r4, List.forall_mem_append.mpr ⟨lw_r5, List.forall_mem_append.mpr ⟨lw_r6, List.forall_mem_append.mpr ⟨lw_r7, List.forall_mem_append.mpr ⟨lw_r8, lw_r9⟩⟩⟩⟩⟩⟩⟩⟩
-- ===== end of PART A; then your names; then what follows =====
end
section
def RX0 : String := "TruckWing$Course"
def TX0 : u_T := fun k => match k with
  | 0 => ("TruckWing$Course", "land", "LTruckWing$Land;", true)
  | 1 => ("TruckWing$Course", "plan", "LTruckWing$Plan;", true)
  | 2 => ("TruckWing$Course", "diary", "LTruckWing$Diary;", true)
  | 3 => ("TruckWing$Course", "verdict", "I", false)
  | 4 => ("TruckWing$Course", "comes", "[I", true)
  | 5 => ("TruckWing$Course", "ready", "[I", true)
  | 6 => ("TruckWing$Course", "leaves", "[I", true)
  | 7 => ("TruckWing$Course", "waits", "[I", true)
  | 8 => ("TruckWing$Course", "left", "[I", true)
  | 9 => ("TruckWing$Course", "back", "[I", true)
  | _ => ("TruckWing$Course", "caught", "[I", true)
def tyX0 : Nat → FieldType := fun k => match k with
  | 0 => .object "TruckWing$Land"
  | 1 => .object "TruckWing$Plan"
  | 2 => .object "TruckWing$Diary"
  | 3 => .int
  | 4 => .array .int
  | 5 => .array .int
  | 6 => .array .int
  | 7 => .array .int
  | 8 => .array .int
  | 9 => .array .int
  | _ => .array .int
abbrev wsX00 : List Cond := u_ws RX0 TX0 11
theorem nmX0 : ∀ a, a < 11 → ∀ b, b < 11 → a ≠ b → (TX0 a).2.1 ≠ (TX0 b).2.1 := by decide +kernel
theorem tyX0_ok : ∀ k, k < 11 → parseFieldDescriptor (TX0 k).2.2.1 = some (tyX0 k) := by decide +kernel
abbrev cX0_init : ByteArray := prog_2_method_1_code
def yX0_init : MethodName := ⟨RX0, "<init>", "(LTruckWing$Land;LTruckWing$Plan;)V"⟩
abbrev cX0_look : ByteArray := prog_2_method_2_code
def yX0_look : MethodName := ⟨RX0, "look", "()Z"⟩
abbrev cX0_told : ByteArray := prog_2_method_3_code
def yX0_told : MethodName := ⟨RX0, "told", "(II)I"⟩
abbrev cX0_wrongWithoutTimes : ByteArray := prog_2_method_4_code
def yX0_wrongWithoutTimes : MethodName := ⟨RX0, "wrongWithoutTimes", "()I"⟩
abbrev cX0_impossibleSortie : ByteArray := prog_2_method_5_code
def yX0_impossibleSortie : MethodName := ⟨RX0, "impossibleSortie", "()I"⟩
abbrev cX0_timesServed : ByteArray := prog_2_method_6_code
def yX0_timesServed : MethodName := ⟨RX0, "timesServed", "(I)I"⟩
abbrev cX0_servedTooOften : ByteArray := prog_2_method_7_code
def yX0_servedTooOften : MethodName := ⟨RX0, "servedTooOften", "()I"⟩
abbrev cX0_servedByNobody : ByteArray := prog_2_method_8_code
def yX0_servedByNobody : MethodName := ⟨RX0, "servedByNobody", "()I"⟩
abbrev cX0_tooHeavy : ByteArray := prog_2_method_9_code
def yX0_tooHeavy : MethodName := ⟨RX0, "tooHeavy", "()I"⟩
abbrev cX0_overlapping : ByteArray := prog_2_method_10_code
def yX0_overlapping : MethodName := ⟨RX0, "overlapping", "()I"⟩
abbrev cX0_tooLongInAir : ByteArray := prog_2_method_11_code
def yX0_tooLongInAir : MethodName := ⟨RX0, "tooLongInAir", "()I"⟩
abbrev cX0_air : ByteArray := prog_2_method_12_code
def yX0_air : MethodName := ⟨RX0, "air", "(I)I"⟩
abbrev cX0_drivePlan : ByteArray := prog_2_method_13_code
def yX0_drivePlan : MethodName := ⟨RX0, "drivePlan", "()V"⟩
abbrev cX0_catchAll : ByteArray := prog_2_method_14_code
def yX0_catchAll : MethodName := ⟨RX0, "catchAll", "(II)I"⟩
abbrev cX0_nextToCatch : ByteArray := prog_2_method_15_code
def yX0_nextToCatch : MethodName := ⟨RX0, "nextToCatch", "(I)I"⟩
abbrev cX0_isAhead : ByteArray := prog_2_method_16_code
def yX0_isAhead : MethodName := ⟨RX0, "isAhead", "(II)Z"⟩
abbrev cX0_launchAll : ByteArray := prog_2_method_17_code
def yX0_launchAll : MethodName := ⟨RX0, "launchAll", "(II)I"⟩
abbrev cX0_launch : ByteArray := prog_2_method_18_code
def yX0_launch : MethodName := ⟨RX0, "launch", "(II)V"⟩
abbrev cX0_lastReady : ByteArray := prog_2_method_19_code
def yX0_lastReady : MethodName := ⟨RX0, "lastReady", "()I"⟩
abbrev cX0_ofStop : ByteArray := prog_2_method_20_code
def yX0_ofStop : MethodName := ⟨RX0, "ofStop", "(II)I"⟩
abbrev cX0_ofSortie : ByteArray := prog_2_method_21_code
def yX0_ofSortie : MethodName := ⟨RX0, "ofSortie", "(II)I"⟩
abbrev cX0_total : ByteArray := prog_2_method_22_code
def yX0_total : MethodName := ⟨RX0, "total", "(I)I"⟩
abbrev cX0_drivenTo : ByteArray := prog_2_method_23_code
def yX0_drivenTo : MethodName := ⟨RX0, "drivenTo", "(I)I"⟩
abbrev cX0_flownBy : ByteArray := prog_2_method_24_code
def yX0_flownBy : MethodName := ⟨RX0, "flownBy", "(I)I"⟩
def RX1 : String := "TruckWing$Diary"
def TX1 : u_T := fun k => match k with
  | 0 => ("TruckWing$Diary", "size", "I", false)
  | _ => ("TruckWing$Diary", "keys", "[I", true)
def tyX1 : Nat → FieldType := fun k => match k with
  | 0 => .int
  | _ => .array .int
abbrev wsX10 : List Cond := u_ws RX1 TX1 2
theorem nmX1 : ∀ a, a < 2 → ∀ b, b < 2 → a ≠ b → (TX1 a).2.1 ≠ (TX1 b).2.1 := by decide +kernel
theorem tyX1_ok : ∀ k, k < 2 → parseFieldDescriptor (TX1 k).2.2.1 = some (tyX1 k) := by decide +kernel
abbrev cX1_init : ByteArray := prog_3_method_1_code
def yX1_init : MethodName := ⟨RX1, "<init>", "()V"⟩
abbrev cX1_empty : ByteArray := prog_3_method_2_code
def yX1_empty : MethodName := ⟨RX1, "empty", "()V"⟩
abbrev cX1_note : ByteArray := prog_3_method_3_code
def yX1_note : MethodName := ⟨RX1, "note", "(IIII)V"⟩
abbrev cX1_part : ByteArray := prog_3_method_4_code
def yX1_part : MethodName := ⟨RX1, "part", "(II)I"⟩
def RX2 : String := "TruckWing$Found"
def TX2 : u_T := fun k => match k with
  | 0 => ("TruckWing$Found", "known", "Z", false)
  | 1 => ("TruckWing$Found", "end", "I", false)
  | _ => ("TruckWing$Found", "order", "I", false)
def tyX2 : Nat → FieldType := fun k => match k with
  | 0 => .boolean
  | 1 => .int
  | _ => .int
abbrev wsX20 : List Cond := u_ws RX2 TX2 3
theorem nmX2 : ∀ a, a < 3 → ∀ b, b < 3 → a ≠ b → (TX2 a).2.1 ≠ (TX2 b).2.1 := by decide +kernel
theorem tyX2_ok : ∀ k, k < 3 → parseFieldDescriptor (TX2 k).2.2.1 = some (tyX2 k) := by decide +kernel
abbrev cX2_init : ByteArray := prog_4_method_1_code
def yX2_init : MethodName := ⟨RX2, "<init>", "()V"⟩
abbrev cX2_keep : ByteArray := prog_4_method_2_code
def yX2_keep : MethodName := ⟨RX2, "keep", "(II)V"⟩
def RX3 : String := "TruckWing$Land"
def TX3 : u_T := fun k => match k with
  | 0 => ("TruckWing$Land", "customers", "I", false)
  | 1 => ("TruckWing$Land", "facts", "[I", true)
  | _ => ("TruckWing$Land", "settings", "[I", true)
def tyX3 : Nat → FieldType := fun k => match k with
  | 0 => .int
  | 1 => .array .int
  | _ => .array .int
abbrev wsX30 : List Cond := u_ws RX3 TX3 3
theorem nmX3 : ∀ a, a < 3 → ∀ b, b < 3 → a ≠ b → (TX3 a).2.1 ≠ (TX3 b).2.1 := by decide +kernel
theorem tyX3_ok : ∀ k, k < 3 → parseFieldDescriptor (TX3 k).2.2.1 = some (tyX3 k) := by decide +kernel
abbrev cX3_init : ByteArray := prog_5_method_1_code
def yX3_init : MethodName := ⟨RX3, "<init>", "()V"⟩
abbrev cX3_mayBeFact : ByteArray := prog_5_method_2_code
def yX3_mayBeFact : MethodName := ⟨RX3, "mayBeFact", "(II)Z"⟩
abbrev cX3_mayBeSetting : ByteArray := prog_5_method_3_code
def yX3_mayBeSetting : MethodName := ⟨RX3, "mayBeSetting", "(II)Z"⟩
abbrev cX3_copyOf : ByteArray := prog_5_method_4_code
def yX3_copyOf : MethodName := ⟨RX3, "copyOf", "(LTruckWing$Land;)V"⟩
abbrev cX3_isPlace : ByteArray := prog_5_method_5_code
def yX3_isPlace : MethodName := ⟨RX3, "isPlace", "(I)Z"⟩
abbrev cX3_isCustomer : ByteArray := prog_5_method_6_code
def yX3_isCustomer : MethodName := ⟨RX3, "isCustomer", "(I)Z"⟩
abbrev cX3_fact : ByteArray := prog_5_method_7_code
def yX3_fact : MethodName := ⟨RX3, "fact", "(II)I"⟩
abbrev cX3_setting : ByteArray := prog_5_method_8_code
def yX3_setting : MethodName := ⟨RX3, "setting", "(I)I"⟩
abbrev cX3_putFact : ByteArray := prog_5_method_9_code
def yX3_putFact : MethodName := ⟨RX3, "putFact", "(III)V"⟩
abbrev cX3_putSetting : ByteArray := prog_5_method_10_code
def yX3_putSetting : MethodName := ⟨RX3, "putSetting", "(II)V"⟩
abbrev cX3_addCustomer : ByteArray := prog_5_method_11_code
def yX3_addCustomer : MethodName := ⟨RX3, "addCustomer", "()V"⟩
abbrev cX3_isLight : ByteArray := prog_5_method_12_code
def yX3_isLight : MethodName := ⟨RX3, "isLight", "(I)Z"⟩
abbrev cX3_drive : ByteArray := prog_5_method_13_code
def yX3_drive : MethodName := ⟨RX3, "drive", "(II)I"⟩
abbrev cX3_flight : ByteArray := prog_5_method_14_code
def yX3_flight : MethodName := ⟨RX3, "flight", "(IIII)I"⟩
def RX4 : String := "TruckWing$Plan"
def TX4 : u_T := fun k => match k with
  | 0 => ("TruckWing$Plan", "rowSize", "I", false)
  | 1 => ("TruckWing$Plan", "sorties", "I", false)
  | 2 => ("TruckWing$Plan", "row", "[I", true)
  | _ => ("TruckWing$Plan", "parts", "[I", true)
def tyX4 : Nat → FieldType := fun k => match k with
  | 0 => .int
  | 1 => .int
  | 2 => .array .int
  | _ => .array .int
abbrev wsX40 : List Cond := u_ws RX4 TX4 4
theorem nmX4 : ∀ a, a < 4 → ∀ b, b < 4 → a ≠ b → (TX4 a).2.1 ≠ (TX4 b).2.1 := by decide +kernel
theorem tyX4_ok : ∀ k, k < 4 → parseFieldDescriptor (TX4 k).2.2.1 = some (tyX4 k) := by decide +kernel
abbrev cX4_init : ByteArray := prog_6_method_1_code
def yX4_init : MethodName := ⟨RX4, "<init>", "()V"⟩
abbrev cX4_mayBeFlyer : ByteArray := prog_6_method_2_code
def yX4_mayBeFlyer : MethodName := ⟨RX4, "mayBeFlyer", "(I)Z"⟩
abbrev cX4_mayBeIndex : ByteArray := prog_6_method_3_code
def yX4_mayBeIndex : MethodName := ⟨RX4, "mayBeIndex", "(I)Z"⟩
abbrev cX4_copyOf : ByteArray := prog_6_method_4_code
def yX4_copyOf : MethodName := ⟨RX4, "copyOf", "(LTruckWing$Plan;)V"⟩
abbrev cX4_empty : ByteArray := prog_6_method_5_code
def yX4_empty : MethodName := ⟨RX4, "empty", "()V"⟩
abbrev cX4_stops : ByteArray := prog_6_method_6_code
def yX4_stops : MethodName := ⟨RX4, "stops", "()I"⟩
abbrev cX4_placeAt : ByteArray := prog_6_method_7_code
def yX4_placeAt : MethodName := ⟨RX4, "placeAt", "(I)I"⟩
abbrev cX4_addStop : ByteArray := prog_6_method_8_code
def yX4_addStop : MethodName := ⟨RX4, "addStop", "(I)Z"⟩
abbrev cX4_addSortie : ByteArray := prog_6_method_9_code
def yX4_addSortie : MethodName := ⟨RX4, "addSortie", "(IIII)Z"⟩
abbrev cX4_hasSortie : ByteArray := prog_6_method_10_code
def yX4_hasSortie : MethodName := ⟨RX4, "hasSortie", "(I)Z"⟩
abbrev cX4_part : ByteArray := prog_6_method_11_code
def yX4_part : MethodName := ⟨RX4, "part", "(II)I"⟩
def RX5 : String := "TruckWing$Table"
def TX5 : u_T := fun k => match k with
  | 0 => ("TruckWing$Table", "land", "LTruckWing$Land;", true)
  | 1 => ("TruckWing$Table", "flyers", "I", false)
  | 2 => ("TruckWing$Table", "launch", "I", false)
  | 3 => ("TruckWing$Table", "catching", "I", false)
  | 4 => ("TruckWing$Table", "battery", "I", false)
  | 5 => ("TruckWing$Table", "hovers", "Z", false)
  | 6 => ("TruckWing$Table", "last", "I", false)
  | 7 => ("TruckWing$Table", "legs", "[I", true)
  | 8 => ("TruckWing$Table", "flights", "[I", true)
  | 9 => ("TruckWing$Table", "drops", "[I", true)
  | 10 => ("TruckWing$Table", "light", "[Z", true)
  | 11 => ("TruckWing$Table", "order", "[I", true)
  | 12 => ("TruckWing$Table", "served", "[I", true)
  | 13 => ("TruckWing$Table", "ready", "[I", true)
  | 14 => ("TruckWing$Table", "sorties", "[I", true)
  | 15 => ("TruckWing$Table", "begins", "[I", true)
  | 16 => ("TruckWing$Table", "sets", "[I", true)
  | _ => ("TruckWing$Table", "nexts", "[I", true)
def tyX5 : Nat → FieldType := fun k => match k with
  | 0 => .object "TruckWing$Land"
  | 1 => .int
  | 2 => .int
  | 3 => .int
  | 4 => .int
  | 5 => .boolean
  | 6 => .int
  | 7 => .array .int
  | 8 => .array .int
  | 9 => .array .int
  | 10 => .array .boolean
  | 11 => .array .int
  | 12 => .array .int
  | 13 => .array .int
  | 14 => .array .int
  | 15 => .array .int
  | 16 => .array .int
  | _ => .array .int
abbrev wsX50 : List Cond := u_ws RX5 TX5 18
theorem nmX5 : ∀ a, a < 18 → ∀ b, b < 18 → a ≠ b → (TX5 a).2.1 ≠ (TX5 b).2.1 := by decide +kernel
theorem tyX5_ok : ∀ k, k < 18 → parseFieldDescriptor (TX5 k).2.2.1 = some (tyX5 k) := by decide +kernel
abbrev cX5_init : ByteArray := prog_7_method_1_code
def yX5_init : MethodName := ⟨RX5, "<init>", "(LTruckWing$Land;)V"⟩
abbrev cX5_readOrder : ByteArray := prog_7_method_2_code
def yX5_readOrder : MethodName := ⟨RX5, "readOrder", "(I)Z"⟩
abbrev cX5_orderNumber : ByteArray := prog_7_method_3_code
def yX5_orderNumber : MethodName := ⟨RX5, "orderNumber", "()I"⟩
abbrev cX5_prepare : ByteArray := prog_7_method_4_code
def yX5_prepare : MethodName := ⟨RX5, "prepare", "(III)V"⟩
abbrev cX5_lastEnd : ByteArray := prog_7_method_5_code
def yX5_lastEnd : MethodName := ⟨RX5, "lastEnd", "()I"⟩
abbrev cX5_fill : ByteArray := prog_7_method_6_code
def yX5_fill : MethodName := ⟨RX5, "fill", "(I)V"⟩
abbrev cX5_beginWithVan : ByteArray := prog_7_method_7_code
def yX5_beginWithVan : MethodName := ⟨RX5, "beginWithVan", "(I)V"⟩
abbrev cX5_soonest : ByteArray := prog_7_method_8_code
def yX5_soonest : MethodName := ⟨RX5, "soonest", "(II)I"⟩
abbrev cX5_offerBlocks : ByteArray := prog_7_method_9_code
def yX5_offerBlocks : MethodName := ⟨RX5, "offerBlocks", "(II)V"⟩
abbrev cX5_offerOne : ByteArray := prog_7_method_10_code
def yX5_offerOne : MethodName := ⟨RX5, "offerOne", "(III)V"⟩
abbrev cX5_offerTwo : ByteArray := prog_7_method_11_code
def yX5_offerTwo : MethodName := ⟨RX5, "offerTwo", "(IIII)V"⟩
abbrev cX5_bit : ByteArray := prog_7_method_12_code
def yX5_bit : MethodName := ⟨RX5, "bit", "(II)I"⟩
abbrev cX5_offer : ByteArray := prog_7_method_13_code
def yX5_offer : MethodName := ⟨RX5, "offer", "(IIII)V"⟩
abbrev cX5_lasts : ByteArray := prog_7_method_14_code
def yX5_lasts : MethodName := ⟨RX5, "lasts", "(III)Z"⟩
abbrev cX5_spared : ByteArray := prog_7_method_15_code
def yX5_spared : MethodName := ⟨RX5, "spared", "(II)I"⟩
abbrev cX5_leg : ByteArray := prog_7_method_16_code
def yX5_leg : MethodName := ⟨RX5, "leg", "(II)I"⟩
abbrev cX5_trip : ByteArray := prog_7_method_17_code
def yX5_trip : MethodName := ⟨RX5, "trip", "(III)I"⟩
abbrev cX5_search : ByteArray := prog_7_method_18_code
def yX5_search : MethodName := ⟨RX5, "search", "(LTruckWing$Found;)V"⟩
abbrev cX5_nextOrder : ByteArray := prog_7_method_19_code
def yX5_nextOrder : MethodName := ⟨RX5, "nextOrder", "()I"⟩
abbrev cX5_swap : ByteArray := prog_7_method_20_code
def yX5_swap : MethodName := ⟨RX5, "swap", "(II)V"⟩
abbrev cX5_writePlan : ByteArray := prog_7_method_21_code
def yX5_writePlan : MethodName := ⟨RX5, "writePlan", "(LTruckWing$Plan;)V"⟩
abbrev cX5_linkBlocks : ByteArray := prog_7_method_22_code
def yX5_linkBlocks : MethodName := ⟨RX5, "linkBlocks", "()V"⟩
abbrev cX5_writeBlock : ByteArray := prog_7_method_23_code
def yX5_writeBlock : MethodName := ⟨RX5, "writeBlock", "(LTruckWing$Plan;II)V"⟩
abbrev cX5_isFlown : ByteArray := prog_7_method_24_code
def yX5_isFlown : MethodName := ⟨RX5, "isFlown", "(III)Z"⟩
def RX6 : String := "TruckWing$Tape"
def TX6 : u_T := fun k => match k with
  | 0 => ("TruckWing$Tape", "length", "I", false)
  | _ => ("TruckWing$Tape", "bytes", "[I", true)
def tyX6 : Nat → FieldType := fun k => match k with
  | 0 => .int
  | _ => .array .int
abbrev wsX60 : List Cond := u_ws RX6 TX6 2
theorem nmX6 : ∀ a, a < 2 → ∀ b, b < 2 → a ≠ b → (TX6 a).2.1 ≠ (TX6 b).2.1 := by decide +kernel
theorem tyX6_ok : ∀ k, k < 2 → parseFieldDescriptor (TX6 k).2.2.1 = some (tyX6 k) := by decide +kernel
abbrev cX6_init : ByteArray := prog_8_method_1_code
def yX6_init : MethodName := ⟨RX6, "<init>", "()V"⟩
abbrev cX6_append : ByteArray := prog_8_method_2_code
def yX6_append : MethodName := ⟨RX6, "append", "(I)V"⟩
abbrev cX6_byteAt : ByteArray := prog_8_method_3_code
def yX6_byteAt : MethodName := ⟨RX6, "byteAt", "(I)I"⟩
abbrev cX6_hasDigitAt : ByteArray := prog_8_method_4_code
def yX6_hasDigitAt : MethodName := ⟨RX6, "hasDigitAt", "(I)Z"⟩
abbrev cX6_hasLetterAt : ByteArray := prog_8_method_5_code
def yX6_hasLetterAt : MethodName := ⟨RX6, "hasLetterAt", "(I)Z"⟩
abbrev cX6_hasBlankAt : ByteArray := prog_8_method_6_code
def yX6_hasBlankAt : MethodName := ⟨RX6, "hasBlankAt", "(I)Z"⟩
def RX7 : String := "TruckWing$Teller"
def TX7 : u_T := fun k => match k with
  | 0 => ("TruckWing$Teller", "tape", "LTruckWing$Tape;", true)
  | 1 => ("TruckWing$Teller", "land", "LTruckWing$Land;", true)
  | 2 => ("TruckWing$Teller", "plan", "LTruckWing$Plan;", true)
  | 3 => ("TruckWing$Teller", "numbers", "[I", true)
  | 4 => ("TruckWing$Teller", "given", "I", false)
  | 5 => ("TruckWing$Teller", "fault", "I", false)
  | 6 => ("TruckWing$Teller", "token", "I", false)
  | 7 => ("TruckWing$Teller", "start", "I", false)
  | 8 => ("TruckWing$Teller", "behind", "I", false)
  | _ => ("TruckWing$Teller", "value", "I", false)
def tyX7 : Nat → FieldType := fun k => match k with
  | 0 => .object "TruckWing$Tape"
  | 1 => .object "TruckWing$Land"
  | 2 => .object "TruckWing$Plan"
  | 3 => .array .int
  | 4 => .int
  | 5 => .int
  | 6 => .int
  | 7 => .int
  | 8 => .int
  | _ => .int
abbrev wsX70 : List Cond := u_ws RX7 TX7 10
theorem nmX7 : ∀ a, a < 10 → ∀ b, b < 10 → a ≠ b → (TX7 a).2.1 ≠ (TX7 b).2.1 := by decide +kernel
theorem tyX7_ok : ∀ k, k < 10 → parseFieldDescriptor (TX7 k).2.2.1 = some (tyX7 k) := by decide +kernel
abbrev cX7_init : ByteArray := prog_9_method_1_code
def yX7_init : MethodName := ⟨RX7, "<init>", "(LTruckWing$Tape;)V"⟩
abbrev cX7_read : ByteArray := prog_9_method_2_code
def yX7_read : MethodName := ⟨RX7, "read", "(LTruckWing$Land;LTruckWing$Plan;)I"⟩
abbrev cX7_whatIsTold : ByteArray := prog_9_method_3_code
def yX7_whatIsTold : MethodName := ⟨RX7, "whatIsTold", "()I"⟩
abbrev cX7_readStatement : ByteArray := prog_9_method_4_code
def yX7_readStatement : MethodName := ⟨RX7, "readStatement", "(I)Z"⟩
abbrev cX7_least : ByteArray := prog_9_method_5_code
def yX7_least : MethodName := ⟨RX7, "least", "(I)I"⟩
abbrev cX7_most : ByteArray := prog_9_method_6_code
def yX7_most : MethodName := ⟨RX7, "most", "(I)I"⟩
abbrev cX7_apply : ByteArray := prog_9_method_7_code
def yX7_apply : MethodName := ⟨RX7, "apply", "(I)V"⟩
abbrev cX7_applyFacts : ByteArray := prog_9_method_8_code
def yX7_applyFacts : MethodName := ⟨RX7, "applyFacts", "(I)V"⟩
abbrev cX7_applyRow : ByteArray := prog_9_method_9_code
def yX7_applyRow : MethodName := ⟨RX7, "applyRow", "()V"⟩
abbrev cX7_refuse : ByteArray := prog_9_method_10_code
def yX7_refuse : MethodName := ⟨RX7, "refuse", "(I)Z"⟩
abbrev cX7_step : ByteArray := prog_9_method_11_code
def yX7_step : MethodName := ⟨RX7, "step", "()V"⟩
abbrev cX7_stepWord : ByteArray := prog_9_method_12_code
def yX7_stepWord : MethodName := ⟨RX7, "stepWord", "()V"⟩
abbrev cX7_stepInt : ByteArray := prog_9_method_13_code
def yX7_stepInt : MethodName := ⟨RX7, "stepInt", "(II)V"⟩
abbrev cX7_isWord : ByteArray := prog_9_method_14_code
def yX7_isWord : MethodName := ⟨RX7, "isWord", "(Ljava/lang/String;)Z"⟩
def RX8 : String := "TruckWing"
def TX8 : u_T := fun k => match k with
  | 0 => ("TruckWing", "land", "LTruckWing$Land;", true)
  | 1 => ("TruckWing", "plan", "LTruckWing$Plan;", true)
  | 2 => ("TruckWing", "course", "LTruckWing$Course;", true)
  | 3 => ("TruckWing", "table", "LTruckWing$Table;", true)
  | 4 => ("TruckWing", "tape", "LTruckWing$Tape;", true)
  | 5 => ("TruckWing", "teller", "LTruckWing$Teller;", true)
  | 6 => ("TruckWing", "bestFound", "LTruckWing$Found;", true)
  | _ => ("TruckWing", "aloneFound", "LTruckWing$Found;", true)
def tyX8 : Nat → FieldType := fun k => match k with
  | 0 => .object "TruckWing$Land"
  | 1 => .object "TruckWing$Plan"
  | 2 => .object "TruckWing$Course"
  | 3 => .object "TruckWing$Table"
  | 4 => .object "TruckWing$Tape"
  | 5 => .object "TruckWing$Teller"
  | 6 => .object "TruckWing$Found"
  | _ => .object "TruckWing$Found"
abbrev wsX80 : List Cond := u_ws RX8 TX8 8
theorem nmX8 : ∀ a, a < 8 → ∀ b, b < 8 → a ≠ b → (TX8 a).2.1 ≠ (TX8 b).2.1 := by decide +kernel
theorem tyX8_ok : ∀ k, k < 8 → parseFieldDescriptor (TX8 k).2.2.1 = some (tyX8 k) := by decide +kernel
abbrev cX8_init : ByteArray := prog_1_method_1_code
def yX8_init : MethodName := ⟨RX8, "<init>", "()V"⟩
abbrev cX8_feed : ByteArray := prog_1_method_2_code
def yX8_feed : MethodName := ⟨RX8, "feed", "(IIIII)I"⟩
abbrev cX8_end : ByteArray := prog_1_method_3_code
def yX8_end : MethodName := ⟨RX8, "end", "(I)Z"⟩
abbrev cX8_tell : ByteArray := prog_1_method_4_code
def yX8_tell : MethodName := ⟨RX8, "tell", "()I"⟩
abbrev cX8_fault : ByteArray := prog_1_method_5_code
def yX8_fault : MethodName := ⟨RX8, "fault", "()I"⟩
abbrev cX8_customer : ByteArray := prog_1_method_6_code
def yX8_customer : MethodName := ⟨RX8, "customer", "(IIIII)I"⟩
abbrev cX8_drop : ByteArray := prog_1_method_7_code
def yX8_drop : MethodName := ⟨RX8, "drop", "()I"⟩
abbrev cX8_set : ByteArray := prog_1_method_8_code
def yX8_set : MethodName := ⟨RX8, "set", "(II)Z"⟩
abbrev cX8_go : ByteArray := prog_1_method_9_code
def yX8_go : MethodName := ⟨RX8, "go", "(I)I"⟩
abbrev cX8_fly : ByteArray := prog_1_method_10_code
def yX8_fly : MethodName := ⟨RX8, "fly", "(IIII)I"⟩
abbrev cX8_undo : ByteArray := prog_1_method_11_code
def yX8_undo : MethodName := ⟨RX8, "undo", "(Z)I"⟩
abbrev cX8_clear : ByteArray := prog_1_method_12_code
def yX8_clear : MethodName := ⟨RX8, "clear", "()V"⟩
abbrev cX8_count : ByteArray := prog_1_method_13_code
def yX8_count : MethodName := ⟨RX8, "count", "(I)I"⟩
abbrev cX8_place : ByteArray := prog_1_method_14_code
def yX8_place : MethodName := ⟨RX8, "place", "(II)I"⟩
abbrev cX8_way : ByteArray := prog_1_method_15_code
def yX8_way : MethodName := ⟨RX8, "way", "(IIZ)I"⟩
abbrev cX8_sortie : ByteArray := prog_1_method_16_code
def yX8_sortie : MethodName := ⟨RX8, "sortie", "(II)I"⟩
abbrev cX8_wrong : ByteArray := prog_1_method_17_code
def yX8_wrong : MethodName := ⟨RX8, "wrong", "()I"⟩
abbrev cX8_ends : ByteArray := prog_1_method_18_code
def yX8_ends : MethodName := ⟨RX8, "ends", "()I"⟩
abbrev cX8_stop : ByteArray := prog_1_method_19_code
def yX8_stop : MethodName := ⟨RX8, "stop", "(II)I"⟩
abbrev cX8_flown : ByteArray := prog_1_method_20_code
def yX8_flown : MethodName := ⟨RX8, "flown", "(II)I"⟩
abbrev cX8_event : ByteArray := prog_1_method_21_code
def yX8_event : MethodName := ⟨RX8, "event", "(II)I"⟩
abbrev cX8_sum : ByteArray := prog_1_method_22_code
def yX8_sum : MethodName := ⟨RX8, "sum", "(I)I"⟩
abbrev cX8_split : ByteArray := prog_1_method_23_code
def yX8_split : MethodName := ⟨RX8, "split", "(I)I"⟩
abbrev cX8_take : ByteArray := prog_1_method_24_code
def yX8_take : MethodName := ⟨RX8, "take", "(I)I"⟩
abbrev cX8_best : ByteArray := prog_1_method_25_code
def yX8_best : MethodName := ⟨RX8, "best", "()I"⟩
abbrev cX8_bestOrder : ByteArray := prog_1_method_26_code
def yX8_bestOrder : MethodName := ⟨RX8, "bestOrder", "()I"⟩
abbrev cX8_alone : ByteArray := prog_1_method_27_code
def yX8_alone : MethodName := ⟨RX8, "alone", "(I)I"⟩
abbrev cX8_wind : ByteArray := prog_1_method_28_code
def yX8_wind : MethodName := ⟨RX8, "wind", "(II)I"⟩
abbrev cX8_bestWind : ByteArray := prog_1_method_29_code
def yX8_bestWind : MethodName := ⟨RX8, "bestWind", "()I"⟩
abbrev cX8_endByWind : ByteArray := prog_1_method_30_code
def yX8_endByWind : MethodName := ⟨RX8, "endByWind", "(I)I"⟩
abbrev cX8_fillTable : ByteArray := prog_1_method_31_code
def yX8_fillTable : MethodName := ⟨RX8, "fillTable", "()V"⟩
abbrev cX8_searchBest : ByteArray := prog_1_method_32_code
def yX8_searchBest : MethodName := ⟨RX8, "searchBest", "()V"⟩
abbrev cX8_searchAlone : ByteArray := prog_1_method_33_code
def yX8_searchAlone : MethodName := ⟨RX8, "searchAlone", "()V"⟩
abbrev cX8_forgetSearches : ByteArray := prog_1_method_34_code
def yX8_forgetSearches : MethodName := ⟨RX8, "forgetSearches", "()V"⟩
def RX9 : String := "TruckWingModel"
def TX9 : u_T := fun k => match k with
  | 0 => ("TruckWingModel", "thrown", "I", false)
  | 1 => ("TruckWingModel", "now", "[I", true)
  | 2 => ("TruckWingModel", "kept", "[I", true)
  | 3 => ("TruckWingModel", "tape", "[B", true)
  | 4 => ("TruckWingModel", "taped", "I", false)
  | 5 => ("TruckWingModel", "fault", "I", false)
  | 6 => ("TruckWingModel", "length", "I", false)
  | 7 => ("TruckWingModel", "at", "I", false)
  | 8 => ("TruckWingModel", "from", "I", false)
  | 9 => ("TruckWingModel", "comes", "[I", true)
  | 10 => ("TruckWingModel", "ready", "[I", true)
  | 11 => ("TruckWingModel", "leaves", "[I", true)
  | 12 => ("TruckWingModel", "waits", "[I", true)
  | 13 => ("TruckWingModel", "left", "[I", true)
  | 14 => ("TruckWingModel", "came", "[I", true)
  | 15 => ("TruckWingModel", "caught", "[I", true)
  | 16 => ("TruckWingModel", "isCaught", "[Z", true)
  | 17 => ("TruckWingModel", "event", "[I", true)
  | 18 => ("TruckWingModel", "events", "I", false)
  | 19 => ("TruckWingModel", "order", "[I", true)
  | 20 => ("TruckWingModel", "found", "[I", true)
  | 21 => ("TruckWingModel", "fewest", "[I", true)
  | 22 => ("TruckWingModel", "begins", "[I", true)
  | 23 => ("TruckWingModel", "flies", "[I", true)
  | 24 => ("TruckWingModel", "isEnd", "[Z", true)
  | 25 => ("TruckWingModel", "bestEnd", "I", false)
  | _ => ("TruckWingModel", "bestTold", "I", false)
def tyX9 : Nat → FieldType := fun k => match k with
  | 0 => .int
  | 1 => .array .int
  | 2 => .array .int
  | 3 => .array .byte
  | 4 => .int
  | 5 => .int
  | 6 => .int
  | 7 => .int
  | 8 => .int
  | 9 => .array .int
  | 10 => .array .int
  | 11 => .array .int
  | 12 => .array .int
  | 13 => .array .int
  | 14 => .array .int
  | 15 => .array .int
  | 16 => .array .boolean
  | 17 => .array .int
  | 18 => .int
  | 19 => .array .int
  | 20 => .array .int
  | 21 => .array .int
  | 22 => .array .int
  | 23 => .array .int
  | 24 => .array .boolean
  | 25 => .int
  | _ => .int
abbrev wsX90 : List Cond := u_ws RX9 TX9 27
theorem nmX9 : ∀ a, a < 27 → ∀ b, b < 27 → a ≠ b → (TX9 a).2.1 ≠ (TX9 b).2.1 := by decide +kernel
theorem tyX9_ok : ∀ k, k < 27 → parseFieldDescriptor (TX9 k).2.2.1 = some (tyX9 k) := by decide +kernel
abbrev cX9_init : ByteArray := prog_11_method_1_code
def yX9_init : MethodName := ⟨RX9, "<init>", "()V"⟩
abbrev cX9_thrown : ByteArray := prog_11_method_2_code
def yX9_thrown : MethodName := ⟨RX9, "thrown", "()I"⟩
abbrev cX9_isIn : ByteArray := prog_11_method_3_code
def yX9_isIn : MethodName := ⟨RX9, "isIn", "(III)Z"⟩
abbrev cX9_size : ByteArray := prog_11_method_4_code
def yX9_size : MethodName := ⟨RX9, "size", "(I)I"⟩
abbrev cX9_of : ByteArray := prog_11_method_5_code
def yX9_of : MethodName := ⟨RX9, "of", "(I)I"⟩
abbrev cX9_customers : ByteArray := prog_11_method_6_code
def yX9_customers : MethodName := ⟨RX9, "customers", "()I"⟩
abbrev cX9_placeOf : ByteArray := prog_11_method_7_code
def yX9_placeOf : MethodName := ⟨RX9, "placeOf", "(II)I"⟩
abbrev cX9_stops : ByteArray := prog_11_method_8_code
def yX9_stops : MethodName := ⟨RX9, "stops", "()I"⟩
abbrev cX9_sorties : ByteArray := prog_11_method_9_code
def yX9_sorties : MethodName := ⟨RX9, "sorties", "()I"⟩
abbrev cX9_stopAt : ByteArray := prog_11_method_10_code
def yX9_stopAt : MethodName := ⟨RX9, "stopAt", "(I)I"⟩
abbrev cX9_sortieOf : ByteArray := prog_11_method_11_code
def yX9_sortieOf : MethodName := ⟨RX9, "sortieOf", "(II)I"⟩
abbrev cX9_isCustomer : ByteArray := prog_11_method_12_code
def yX9_isCustomer : MethodName := ⟨RX9, "isCustomer", "(I)Z"⟩
abbrev cX9_isPlace : ByteArray := prog_11_method_13_code
def yX9_isPlace : MethodName := ⟨RX9, "isPlace", "(I)Z"⟩
abbrev cX9_drive : ByteArray := prog_11_method_14_code
def yX9_drive : MethodName := ⟨RX9, "drive", "(II)I"⟩
abbrev cX9_flight : ByteArray := prog_11_method_15_code
def yX9_flight : MethodName := ⟨RX9, "flight", "(II)I"⟩
abbrev cX9_isLight : ByteArray := prog_11_method_16_code
def yX9_isLight : MethodName := ⟨RX9, "isLight", "(I)Z"⟩
abbrev cX9_service : ByteArray := prog_11_method_17_code
def yX9_service : MethodName := ⟨RX9, "service", "(I)I"⟩
abbrev cX9_mayBe : ByteArray := prog_11_method_18_code
def yX9_mayBe : MethodName := ⟨RX9, "mayBe", "(II)Z"⟩
abbrev cX9_maySet : ByteArray := prog_11_method_19_code
def yX9_maySet : MethodName := ⟨RX9, "maySet", "(II)Z"⟩
abbrev cX9_more : ByteArray := prog_11_method_20_code
def yX9_more : MethodName := ⟨RX9, "more", "(IIIII)V"⟩
abbrev cX9_clears : ByteArray := prog_11_method_21_code
def yX9_clears : MethodName := ⟨RX9, "clears", "()V"⟩
abbrev cX9_stopsAt : ByteArray := prog_11_method_22_code
def yX9_stopsAt : MethodName := ⟨RX9, "stopsAt", "(I)V"⟩
abbrev cX9_sends : ByteArray := prog_11_method_23_code
def yX9_sends : MethodName := ⟨RX9, "sends", "(IIII)V"⟩
abbrev cX9_customer : ByteArray := prog_11_method_24_code
def yX9_customer : MethodName := ⟨RX9, "customer", "(IIIII)I"⟩
abbrev cX9_drop : ByteArray := prog_11_method_25_code
def yX9_drop : MethodName := ⟨RX9, "drop", "()I"⟩
abbrev cX9_set : ByteArray := prog_11_method_26_code
def yX9_set : MethodName := ⟨RX9, "set", "(II)Z"⟩
abbrev cX9_go : ByteArray := prog_11_method_27_code
def yX9_go : MethodName := ⟨RX9, "go", "(I)I"⟩
abbrev cX9_maySend : ByteArray := prog_11_method_28_code
def yX9_maySend : MethodName := ⟨RX9, "maySend", "(IIII)Z"⟩
abbrev cX9_fly : ByteArray := prog_11_method_29_code
def yX9_fly : MethodName := ⟨RX9, "fly", "(IIII)I"⟩
abbrev cX9_undo : ByteArray := prog_11_method_30_code
def yX9_undo : MethodName := ⟨RX9, "undo", "(Z)I"⟩
abbrev cX9_clear : ByteArray := prog_11_method_31_code
def yX9_clear : MethodName := ⟨RX9, "clear", "()V"⟩
abbrev cX9_count : ByteArray := prog_11_method_32_code
def yX9_count : MethodName := ⟨RX9, "count", "(I)I"⟩
abbrev cX9_place : ByteArray := prog_11_method_33_code
def yX9_place : MethodName := ⟨RX9, "place", "(II)I"⟩
abbrev cX9_way : ByteArray := prog_11_method_34_code
def yX9_way : MethodName := ⟨RX9, "way", "(IIZ)I"⟩
abbrev cX9_sortie : ByteArray := prog_11_method_35_code
def yX9_sortie : MethodName := ⟨RX9, "sortie", "(II)I"⟩
abbrev cX9_put : ByteArray := prog_11_method_36_code
def yX9_put : MethodName := ⟨RX9, "put", "(I)V"⟩
abbrev cX9_feed : ByteArray := prog_11_method_37_code
def yX9_feed : MethodName := ⟨RX9, "feed", "(IIIII)I"⟩
abbrev cX9_end : ByteArray := prog_11_method_38_code
def yX9_end : MethodName := ⟨RX9, "end", "(I)Z"⟩
abbrev cX9_here : ByteArray := prog_11_method_39_code
def yX9_here : MethodName := ⟨RX9, "here", "()I"⟩
abbrev cX9_fails : ByteArray := prog_11_method_40_code
def yX9_fails : MethodName := ⟨RX9, "fails", "(II)V"⟩
abbrev cX9_isDigitAt : ByteArray := prog_11_method_41_code
def yX9_isDigitAt : MethodName := ⟨RX9, "isDigitAt", "(I)Z"⟩
abbrev cX9_number : ByteArray := prog_11_method_42_code
def yX9_number : MethodName := ⟨RX9, "number", "()I"⟩
abbrev cX9_numberOf : ByteArray := prog_11_method_43_code
def yX9_numberOf : MethodName := ⟨RX9, "numberOf", "(I)I"⟩
abbrev cX9_numberIn : ByteArray := prog_11_method_44_code
def yX9_numberIn : MethodName := ⟨RX9, "numberIn", "(II)I"⟩
abbrev cX9_word : ByteArray := prog_11_method_45_code
def yX9_word : MethodName := ⟨RX9, "word", "()I"⟩
abbrev cX9_letters : ByteArray := prog_11_method_46_code
def yX9_letters : MethodName := ⟨RX9, "letters", "(III)I"⟩
abbrev cX9_statement : ByteArray := prog_11_method_47_code
def yX9_statement : MethodName := ⟨RX9, "statement", "()V"⟩
abbrev cX9_rowGoesOn : ByteArray := prog_11_method_48_code
def yX9_rowGoesOn : MethodName := ⟨RX9, "rowGoesOn", "()V"⟩
abbrev cX9_tell : ByteArray := prog_11_method_49_code
def yX9_tell : MethodName := ⟨RX9, "tell", "()I"⟩
abbrev cX9_fault : ByteArray := prog_11_method_50_code
def yX9_fault : MethodName := ⟨RX9, "fault", "()I"⟩
abbrev cX9_servedBy : ByteArray := prog_11_method_51_code
def yX9_servedBy : MethodName := ⟨RX9, "servedBy", "(I)I"⟩
abbrev cX9_crosses : ByteArray := prog_11_method_52_code
def yX9_crosses : MethodName := ⟨RX9, "crosses", "(I)Z"⟩
abbrev cX9_wrongPlan : ByteArray := prog_11_method_53_code
def yX9_wrongPlan : MethodName := ⟨RX9, "wrongPlan", "()I"⟩
abbrev cX9_happens : ByteArray := prog_11_method_54_code
def yX9_happens : MethodName := ⟨RX9, "happens", "(IIII)V"⟩
abbrev cX9_nextCaught : ByteArray := prog_11_method_55_code
def yX9_nextCaught : MethodName := ⟨RX9, "nextCaught", "(I)I"⟩
abbrev cX9_launches : ByteArray := prog_11_method_56_code
def yX9_launches : MethodName := ⟨RX9, "launches", "(II)I"⟩
abbrev cX9_goes : ByteArray := prog_11_method_57_code
def yX9_goes : MethodName := ⟨RX9, "goes", "()Z"⟩
abbrev cX9_isAhead : ByteArray := prog_11_method_58_code
def yX9_isAhead : MethodName := ⟨RX9, "isAhead", "(II)Z"⟩
abbrev cX9_sorts : ByteArray := prog_11_method_59_code
def yX9_sorts : MethodName := ⟨RX9, "sorts", "()V"⟩
abbrev cX9_airOf : ByteArray := prog_11_method_60_code
def yX9_airOf : MethodName := ⟨RX9, "airOf", "(I)I"⟩
abbrev cX9_wrong : ByteArray := prog_11_method_61_code
def yX9_wrong : MethodName := ⟨RX9, "wrong", "()I"⟩
abbrev cX9_ends : ByteArray := prog_11_method_62_code
def yX9_ends : MethodName := ⟨RX9, "ends", "()I"⟩
abbrev cX9_stop : ByteArray := prog_11_method_63_code
def yX9_stop : MethodName := ⟨RX9, "stop", "(II)I"⟩
abbrev cX9_flown : ByteArray := prog_11_method_64_code
def yX9_flown : MethodName := ⟨RX9, "flown", "(II)I"⟩
abbrev cX9_event : ByteArray := prog_11_method_65_code
def yX9_event : MethodName := ⟨RX9, "event", "(II)I"⟩
abbrev cX9_sum : ByteArray := prog_11_method_66_code
def yX9_sum : MethodName := ⟨RX9, "sum", "(I)I"⟩
abbrev cX9_lays : ByteArray := prog_11_method_67_code
def yX9_lays : MethodName := ⟨RX9, "lays", "(I)Z"⟩
abbrev cX9_bits : ByteArray := prog_11_method_68_code
def yX9_bits : MethodName := ⟨RX9, "bits", "(I)I"⟩
abbrev cX9_isLightSet : ByteArray := prog_11_method_69_code
def yX9_isLightSet : MethodName := ⟨RX9, "isLightSet", "(II)Z"⟩
abbrev cX9_lasts : ByteArray := prog_11_method_70_code
def yX9_lasts : MethodName := ⟨RX9, "lasts", "(III)I"⟩
abbrev cX9_splits : ByteArray := prog_11_method_71_code
def yX9_splits : MethodName := ⟨RX9, "splits", "(I)I"⟩
abbrev cX9_split : ByteArray := prog_11_method_72_code
def yX9_split : MethodName := ⟨RX9, "split", "(I)I"⟩
abbrev cX9_take : ByteArray := prog_11_method_73_code
def yX9_take : MethodName := ⟨RX9, "take", "(I)I"⟩
abbrev cX9_goesOn : ByteArray := prog_11_method_74_code
def yX9_goesOn : MethodName := ⟨RX9, "goesOn", "()Z"⟩
abbrev cX9_swaps : ByteArray := prog_11_method_75_code
def yX9_swaps : MethodName := ⟨RX9, "swaps", "(II)V"⟩
abbrev cX9_told : ByteArray := prog_11_method_76_code
def yX9_told : MethodName := ⟨RX9, "told", "()I"⟩
abbrev cX9_seeks : ByteArray := prog_11_method_77_code
def yX9_seeks : MethodName := ⟨RX9, "seeks", "(I)V"⟩
abbrev cX9_best : ByteArray := prog_11_method_78_code
def yX9_best : MethodName := ⟨RX9, "best", "()I"⟩
abbrev cX9_bestOrder : ByteArray := prog_11_method_79_code
def yX9_bestOrder : MethodName := ⟨RX9, "bestOrder", "()I"⟩
abbrev cX9_alone : ByteArray := prog_11_method_80_code
def yX9_alone : MethodName := ⟨RX9, "alone", "(I)I"⟩
abbrev cX9_splitBy : ByteArray := prog_11_method_81_code
def yX9_splitBy : MethodName := ⟨RX9, "splitBy", "(I)I"⟩
abbrev cX9_wind : ByteArray := prog_11_method_82_code
def yX9_wind : MethodName := ⟨RX9, "wind", "(II)I"⟩
def RJx145de : String := "java/io/Serializable"
def TJx145de : u_T := fun k => match k with
  | _ => ("", "", "", false)
def tyJx145de : Nat → FieldType := fun k => match k with
  | _ => .int
abbrev wsJx145de0 : List Cond := u_ws RJx145de TJx145de 0
theorem nmJx145de : ∀ a, a < 0 → ∀ b, b < 0 → a ≠ b → (TJx145de a).2.1 ≠ (TJx145de b).2.1 := by decide +kernel
theorem tyJx145de_ok : ∀ k, k < 0 → parseFieldDescriptor (TJx145de k).2.2.1 = some (tyJx145de k) := by decide +kernel
def RJx9f9b0 : String := "java/lang/CharSequence"
def TJx9f9b0 : u_T := fun k => match k with
  | _ => ("", "", "", false)
def tyJx9f9b0 : Nat → FieldType := fun k => match k with
  | _ => .int
abbrev wsJx9f9b00 : List Cond := u_ws RJx9f9b0 TJx9f9b0 0
theorem nmJx9f9b0 : ∀ a, a < 0 → ∀ b, b < 0 → a ≠ b → (TJx9f9b0 a).2.1 ≠ (TJx9f9b0 b).2.1 := by decide +kernel
theorem tyJx9f9b0_ok : ∀ k, k < 0 → parseFieldDescriptor (TJx9f9b0 k).2.2.1 = some (tyJx9f9b0 k) := by decide +kernel
def RJx8e188 : String := "java/lang/Cloneable"
def TJx8e188 : u_T := fun k => match k with
  | _ => ("", "", "", false)
def tyJx8e188 : Nat → FieldType := fun k => match k with
  | _ => .int
abbrev wsJx8e1880 : List Cond := u_ws RJx8e188 TJx8e188 0
theorem nmJx8e188 : ∀ a, a < 0 → ∀ b, b < 0 → a ≠ b → (TJx8e188 a).2.1 ≠ (TJx8e188 b).2.1 := by decide +kernel
theorem tyJx8e188_ok : ∀ k, k < 0 → parseFieldDescriptor (TJx8e188 k).2.2.1 = some (tyJx8e188 k) := by decide +kernel
def RJxb160c : String := "java/lang/Comparable"
def TJxb160c : u_T := fun k => match k with
  | _ => ("", "", "", false)
def tyJxb160c : Nat → FieldType := fun k => match k with
  | _ => .int
abbrev wsJxb160c0 : List Cond := u_ws RJxb160c TJxb160c 0
theorem nmJxb160c : ∀ a, a < 0 → ∀ b, b < 0 → a ≠ b → (TJxb160c a).2.1 ≠ (TJxb160c b).2.1 := by decide +kernel
theorem tyJxb160c_ok : ∀ k, k < 0 → parseFieldDescriptor (TJxb160c k).2.2.1 = some (tyJxb160c k) := by decide +kernel
def RJ6 : String := "java/lang/Integer"
def TJ6 : u_T := fun k => match k with
  | _ => ("", "", "", false)
def tyJ6 : Nat → FieldType := fun k => match k with
  | _ => .int
abbrev wsJ60 : List Cond := u_ws RJ6 TJ6 0
theorem nmJ6 : ∀ a, a < 0 → ∀ b, b < 0 → a ≠ b → (TJ6 a).2.1 ≠ (TJ6 b).2.1 := by decide +kernel
theorem tyJ6_ok : ∀ k, k < 0 → parseFieldDescriptor (TJ6 k).2.2.1 = some (tyJ6 k) := by decide +kernel
abbrev cJ6_bitCount_0f7a4 : ByteArray := prog_17_method_49_code
def yJ6_bitCount_0f7a4 : MethodName := ⟨RJ6, "bitCount", "(I)I"⟩
def RJ9 : String := "java/lang/Math"
def TJ9 : u_T := fun k => match k with
  | _ => ("", "", "", false)
def tyJ9 : Nat → FieldType := fun k => match k with
  | _ => .int
abbrev wsJ90 : List Cond := u_ws RJ9 TJ9 0
theorem nmJ9 : ∀ a, a < 0 → ∀ b, b < 0 → a ≠ b → (TJ9 a).2.1 ≠ (TJ9 b).2.1 := by decide +kernel
theorem tyJ9_ok : ∀ k, k < 0 → parseFieldDescriptor (TJ9 k).2.2.1 = some (tyJ9 k) := by decide +kernel
abbrev cJ9_abs_0f7a4 : ByteArray := prog_18_method_59_code
def yJ9_abs_0f7a4 : MethodName := ⟨RJ9, "abs", "(I)I"⟩
abbrev cJ9_max_7cf53 : ByteArray := prog_18_method_65_code
def yJ9_max_7cf53 : MethodName := ⟨RJ9, "max", "(II)I"⟩
def RJ0 : String := "java/lang/String"
def TJ0 : u_T := fun k => match k with
  | _ => ("", "", "", false)
def tyJ0 : Nat → FieldType := fun k => match k with
  | _ => .int
abbrev wsJ00 : List Cond := u_ws RJ0 TJ0 0
theorem nmJ0 : ∀ a, a < 0 → ∀ b, b < 0 → a ≠ b → (TJ0 a).2.1 ≠ (TJ0 b).2.1 := by decide +kernel
theorem tyJ0_ok : ∀ k, k < 0 → parseFieldDescriptor (TJ0 k).2.2.1 = some (tyJ0 k) := by decide +kernel
abbrev cJ0_length_8abf5 : ByteArray := prog_20_method_54_code
def yJ0_length_8abf5 : MethodName := ⟨RJ0, "length", "()I"⟩
abbrev cJ0_charAt_5068e : ByteArray := prog_20_method_56_code
def yJ0_charAt_5068e : MethodName := ⟨RJ0, "charAt", "(I)C"⟩
abbrev cJ0_coder_7d493 : ByteArray := prog_20_method_152_code
def yJ0_coder_7d493 : MethodName := ⟨RJ0, "coder", "()B"⟩
abbrev cJ0_isLatin1_aae02 : ByteArray := prog_20_method_154_code
def yJ0_isLatin1_aae02 : MethodName := ⟨RJ0, "isLatin1", "()Z"⟩
abbrev cJ0_checkIndex_df160 : ByteArray := prog_20_method_155_code
def yJ0_checkIndex_df160 : MethodName := ⟨RJ0, "checkIndex", "(II)V"⟩
def RJ1 : String := "java/lang/StringLatin1"
def TJ1 : u_T := fun k => match k with
  | _ => ("", "", "", false)
def tyJ1 : Nat → FieldType := fun k => match k with
  | _ => .int
abbrev wsJ10 : List Cond := u_ws RJ1 TJ1 0
theorem nmJ1 : ∀ a, a < 0 → ∀ b, b < 0 → a ≠ b → (TJ1 a).2.1 ≠ (TJ1 b).2.1 := by decide +kernel
theorem tyJ1_ok : ∀ k, k < 0 → parseFieldDescriptor (TJ1 k).2.2.1 = some (tyJ1 k) := by decide +kernel
abbrev cJ1_charAt_3b067 : ByteArray := prog_21_method_2_code
def yJ1_charAt_3b067 : MethodName := ⟨RJ1, "charAt", "([BI)C"⟩
def RJ2 : String := "java/lang/StringUTF16"
def TJ2 : u_T := fun k => match k with
  | _ => ("", "", "", false)
def tyJ2 : Nat → FieldType := fun k => match k with
  | _ => .int
abbrev wsJ20 : List Cond := u_ws RJ2 TJ2 0
theorem nmJ2 : ∀ a, a < 0 → ∀ b, b < 0 → a ≠ b → (TJ2 a).2.1 ≠ (TJ2 b).2.1 := by decide +kernel
theorem tyJ2_ok : ∀ k, k < 0 → parseFieldDescriptor (TJ2 k).2.2.1 = some (tyJ2 k) := by decide +kernel
abbrev cJ2_getChar_3b067 : ByteArray := prog_22_method_5_code
def yJ2_getChar_3b067 : MethodName := ⟨RJ2, "getChar", "([BI)C"⟩
abbrev cJ2_length_9d52b : ByteArray := prog_22_method_6_code
def yJ2_length_9d52b : MethodName := ⟨RJ2, "length", "([B)I"⟩
abbrev cJ2_charAt_3b067 : ByteArray := prog_22_method_83_code
def yJ2_charAt_3b067 : MethodName := ⟨RJ2, "charAt", "([BI)C"⟩
abbrev cJ2_checkIndex_2214a : ByteArray := prog_22_method_91_code
def yJ2_checkIndex_2214a : MethodName := ⟨RJ2, "checkIndex", "(I[B)V"⟩
def RJ10 : String := "java/lang/System"
def TJ10 : u_T := fun k => match k with
  | _ => ("", "", "", false)
def tyJ10 : Nat → FieldType := fun k => match k with
  | _ => .int
abbrev wsJ100 : List Cond := u_ws RJ10 TJ10 0
theorem nmJ10 : ∀ a, a < 0 → ∀ b, b < 0 → a ≠ b → (TJ10 a).2.1 ≠ (TJ10 b).2.1 := by decide +kernel
theorem tyJ10_ok : ∀ k, k < 0 → parseFieldDescriptor (TJ10 k).2.2.1 = some (tyJ10 k) := by decide +kernel
def RJxfd54e : String := "java/lang/constant/Constable"
def TJxfd54e : u_T := fun k => match k with
  | _ => ("", "", "", false)
def tyJxfd54e : Nat → FieldType := fun k => match k with
  | _ => .int
abbrev wsJxfd54e0 : List Cond := u_ws RJxfd54e TJxfd54e 0
theorem nmJxfd54e : ∀ a, a < 0 → ∀ b, b < 0 → a ≠ b → (TJxfd54e a).2.1 ≠ (TJxfd54e b).2.1 := by decide +kernel
theorem tyJxfd54e_ok : ∀ k, k < 0 → parseFieldDescriptor (TJxfd54e k).2.2.1 = some (tyJxfd54e k) := by decide +kernel
def RJx3cf43 : String := "java/lang/constant/ConstantDesc"
def TJx3cf43 : u_T := fun k => match k with
  | _ => ("", "", "", false)
def tyJx3cf43 : Nat → FieldType := fun k => match k with
  | _ => .int
abbrev wsJx3cf430 : List Cond := u_ws RJx3cf43 TJx3cf43 0
theorem nmJx3cf43 : ∀ a, a < 0 → ∀ b, b < 0 → a ≠ b → (TJx3cf43 a).2.1 ≠ (TJx3cf43 b).2.1 := by decide +kernel
theorem tyJx3cf43_ok : ∀ k, k < 0 → parseFieldDescriptor (TJx3cf43 k).2.2.1 = some (tyJx3cf43 k) := by decide +kernel
def RJ3 : String := "jdk/internal/util/Preconditions"
def TJ3 : u_T := fun k => match k with
  | _ => ("", "", "", false)
def tyJ3 : Nat → FieldType := fun k => match k with
  | _ => .int
abbrev wsJ30 : List Cond := u_ws RJ3 TJ3 0
theorem nmJ3 : ∀ a, a < 0 → ∀ b, b < 0 → a ≠ b → (TJ3 a).2.1 ≠ (TJ3 b).2.1 := by decide +kernel
theorem tyJ3_ok : ∀ k, k < 0 → parseFieldDescriptor (TJ3 k).2.2.1 = some (tyJ3 k) := by decide +kernel
abbrev cJ3_checkIndex_8e157 : ByteArray := prog_28_method_11_code
def yJ3_checkIndex_8e157 : MethodName := ⟨RJ3, "checkIndex", "(IILjava/util/function/BiFunction;)I"⟩
def RL : String := "TruckWingLaw"
abbrev cL_sortie : ByteArray := method_3_code
def yL_sortie : MethodName := ⟨RL, "sortie", "(LTruckWing;II[J)I"⟩
abbrev cL_law : ByteArray := code
def yL_law : MethodName := ⟨RL, "law", "([I)Z"⟩
abbrev vwCl : List vw_C := [(RX0, TX0, 11), (RX1, TX1, 2), (RX2, TX2, 3), (RX3, TX3, 3), (RX4, TX4, 4), (RX5, TX5, 18), (RX6, TX6, 2), (RX7, TX7, 10), (RX8, TX8, 8), (RX9, TX9, 27)]
end
section
/-! THE BASE: a side's cells (class's or reference's) never change their shape once made: what changes are ints alone. A memory M : cell -> slot -> int. Wp: the machine at a program counter, over any heap that holds M. -/
theorem goodIn_r {big : List Cond} (ws : List Cond) (ps : List Nat) (hp : ws = ps.filterMap (fun i => big[i]?)) (h : ws.all goodWord = true) : GoodIn big ws := by
  intro w hw
  have h1 := List.all_eq_true.mp h w hw
  rw [hp] at hw
  obtain ⟨i, -, hi⟩ := List.mem_filterMap.mp hw
  have hm : w ∈ big := by first | exact List.mem_of_getElem? hi | exact List.getElem?_mem hi
  exact ⟨hm, good_of_word h1⟩
/-- the good words of the tables, and the nest mates' links -/
def gw : List Cond := lw_tbl.filter goodWord
def isNst (w : Cond) : Bool := match w with | .fieldLinkNest .. => true | .methodLinkNest .. => true | _ => false
def nw : List Cond := lw_tbl.filter isNst
theorem gw_mem {w : Cond} (h : w ∈ lw_tbl) (hg : goodWord w = true) : w ∈ gw := List.mem_filter.mpr ⟨h, hg⟩
theorem gw_good {w : Cond} (h : w ∈ gw) : goodWord w = true := (List.mem_filter.mp h).2
theorem tb_mem {w : Cond} (i : Nat) (h : tables_1[i]? = some w) : w ∈ lw_tbl := List.mem_append_right _ (List.mem_of_getElem? h)
theorem sl_mem {w : Cond} (i : Nat) (h : (k2_sels lw_privs)[i]? = some w) : w ∈ lw_tbl := List.mem_append_left _ (List.mem_of_getElem? h)
theorem nw_mem {w : Cond} (h : w ∈ lw_tbl) (hg : isNst w = true) : w ∈ nw := List.mem_filter.mpr ⟨h, hg⟩
abbrev Mm : Type := Nat → Nat → Int32
/-- a cell's shape: an array (type, length) or an object (class, its fields: another cell, or an int) -/
abbrev Sd : Type := (FieldType × Nat) ⊕ (Nat × List (Option Nat))
abbrev Pk : Type := Program × Launch × Env × Room × State × MethodId × Array Value × List Frame × Method × Code
/-- a side: shapes, class numbers, array classes, addresses, addresses of the static arrays, of the texts and of their bytes -/
abbrev Sx : Type := List Sd × va_G × (FieldType → ClassId) × (Nat → Nat) × (Nat → Nat) × (Nat → Nat) × (Nat → Nat)
abbrev Zx : Type := ByteArray × String × Nat × Nat × Option FieldType
abbrev kp (K : Pk) : Program := K.1
abbrev kl (K : Pk) : Launch := K.2.1
abbrev ke (K : Pk) : Env := K.2.2.1
abbrev kR (K : Pk) : Room := K.2.2.2.1
abbrev ks (K : Pk) : State := K.2.2.2.2.1
abbrev km (K : Pk) : MethodId := K.2.2.2.2.2.1
abbrev ka (K : Pk) : Array Value := K.2.2.2.2.2.2.1
abbrev kb (K : Pk) : List Frame := K.2.2.2.2.2.2.2.1
abbrev kme (K : Pk) : Method := K.2.2.2.2.2.2.2.2.1
abbrev kc (K : Pk) : Code := K.2.2.2.2.2.2.2.2.2
def cty (Y : Sx) (ty : FieldType) : ClassId := Y.2.2.1 ty
def adr (Y : Sx) (k : Nat) : Nat := Y.2.2.2.1 k
def sta (Y : Sx) (k : Nat) : Nat := Y.2.2.2.2.1 k
def ska (Y : Sx) (k : Nat) : Nat := Y.2.2.2.2.2.1 k
def skv (Y : Sx) (k : Nat) : Nat := Y.2.2.2.2.2.2 k
def rmd (d : Nat) : Room := { frames := d, cells := 0, slots := 0, locals := 32 * d }
def fvl (Y : Sx) (M : Mm) (k : Nat) (fs : List (Option Nat)) : List Value := fs.mapIdx (fun i o => match o with | some j => Value.ref (adr Y j) | none => Value.int (M k i))
def cel (Y : Sx) (M : Mm) (k : Nat) (d : Sd) : va_E := match d with | .inl a => .inl (cty Y a.1, a.2, .inl (M k)) | .inr o => .inr (o.1, fvl Y M k o.2)
def wsO (Y : Sx) (M : Mm) : va_W := Y.1.mapIdx (fun k d => (adr Y k, cel Y M k d))
def mset (M : Mm) (k i : Nat) (v : Int32) : Mm := fun a => if a = k then upd (M k) i v else M a
/-- a whole row is put -/
def mrow (M : Mm) (k : Nat) (f : Nat → Int32) : Mm := fun a => if a = k then f else M a
theorem mset_eq (M : Mm) (k i : Nat) (v : Int32) : mset M k i v = mrow M k (upd (M k) i v) := rfl
theorem wsO_at {Y : Sx} {M : Mm} {k : Nat} {d : Sd} (h : Y.1[k]? = some d) : (wsO Y M)[k]? = some (adr Y k, cel Y M k d) := by simp [wsO, List.getElem?_mapIdx, h]
theorem wsO_get {Y : Sx} {M : Mm} {k : Nat} {q : Nat × va_E} (h : (wsO Y M)[k]? = some q) : k < Y.1.length ∧ q.1 = adr Y k := by
  simp only [wsO, List.getElem?_mapIdx] at h
  cases hd : Y.1[k]? with
  | none => rw [hd] at h; cases h
  | some d => rw [hd] at h; cases h; exact ⟨(List.getElem?_eq_some_iff.mp hd).1, rfl⟩
theorem cel_ne {Y : Sx} {M : Mm} {k j : Nat} {f : Nat → Int32} (h : j ≠ k) (d : Sd) : cel Y (mrow M k f) j d = cel Y M j d := by
  have e : mrow M k f j = M j := by simp [mrow, h]
  cases d with
  | inl a => simp [cel, e]
  | inr o => simp [cel, fvl, e]
theorem wsO_row {Y : Sx} {M : Mm} {k : Nat} {d : Sd} {f : Nat → Int32} (h : Y.1[k]? = some d) : (wsO Y M).set k (adr Y k, cel Y (mrow M k f) k d) = wsO Y (mrow M k f) := by
  apply List.ext_getElem?
  intro j
  by_cases hj : j = k
  · subst hj
    rw [List.getElem?_set_self (List.getElem?_eq_some_iff.mp (wsO_at (M := M) h)).1, wsO_at h]
  · rw [List.getElem?_set_ne (Ne.symm hj)]
    simp only [wsO, List.getElem?_mapIdx]
    cases Y.1[j]? with
    | none => rfl
    | some d2 => simp [cel_ne hj]
theorem wsO_arr {Y : Sx} {M : Mm} {k n : Nat} {ty : FieldType} {f : Nat → Int32} (h : Y.1[k]? = some (.inl (ty, n))) : (wsO Y M).set k (adr Y k, .inl (cty Y ty, n, .inl f)) = wsO Y (mrow M k f) := by
  rw [← wsO_row h]
  simp [cel, mrow]
theorem wsO_fld {Y : Sx} {M : Mm} {k ci i : Nat} {fs : List (Option Nat)} {v : Int32} (h : Y.1[k]? = some (.inr (ci, fs))) (hi : fs[i]? = some none) : (wsO Y M).set k (adr Y k, .inr (ci, (fvl Y M k fs).set i (.int v))) = wsO Y (mset M k i v) := by
  rw [mset_eq, ← wsO_row h]
  congr 3
  show _ = (ci, fvl Y (mrow M k (upd (M k) i v)) k fs)
  congr 1
  apply List.ext_getElem?
  intro j
  have hl : i < (fvl Y M k fs).length := by simp [fvl]; exact (List.getElem?_eq_some_iff.mp hi).1
  by_cases hj : j = i
  · subst hj
    rw [List.getElem?_set_self hl]
    simp [fvl, List.getElem?_mapIdx, hi, mrow, upd]
  · rw [List.getElem?_set_ne (Ne.symm hj)]
    simp only [fvl, List.getElem?_mapIdx]
    cases fs[j]? with
    | none => rfl
    | some o => cases o <;> simp [mrow, upd, hj]
/-- the cells that a side's methods may change -/
def AA (Y : Sx) (sz : Nat) : Nat → Prop := fun q => (∃ k, k < Y.1.length ∧ q = adr Y k) ∨ sz ≤ q
def apt (Y : Sx) : Prop := ∀ i j, i < Y.1.length → j < Y.1.length → adr Y i = adr Y j → i = j
theorem apt_D {Y : Sx} (h : apt Y) (sz : Nat) (M : Mm) : va_D (AA Y sz) (wsO Y M) := by
  refine ⟨fun i j p q hi hj e => ?_, fun k q hk => ?_⟩
  · obtain ⟨h1, e1⟩ := wsO_get hi
    obtain ⟨h2, e2⟩ := wsO_get hj
    exact h i j h1 h2 (by rw [← e1, ← e2]; exact e)
  · obtain ⟨h1, e1⟩ := wsO_get hk
    exact Or.inl ⟨k, h1, e1⟩
def tyl (Y : Sx) : List (ClassId × FieldType) := [(cty Y .int, .int), (cty Y .boolean, .boolean), (cty Y .byte, .byte)]
/-- static arrays, texts -/
def stT : List (String × String × Nat × List Int32) := [("TruckWing", "FACT_MOST", 5, [50, 50, 30, 30, 99]), ("TruckWing", "SETTING_LEAST", 10, [1, 1, -3, -3, 0, 1, 0, 0, 0, 0]), ("TruckWing", "SETTING_MOST", 10, [9, 9, 3, 3, 99, 999, 9, 9, 2, 1]), ("TruckWing", "SETTING_FIRST", 10, [3, 2, 0, 0, 50, 100, 1, 1, 1, 1]), ("TruckWing$Teller", "INTS", 5, [2, 5, 2, 8, 4])]
def skT : List (Nat × String) := [(65, "depot"), (71, "to"), (73, "set"), (75, "row"), (77, "fly")]
def skL : List Nat := [5, 2, 3, 3, 3]
def skB : List (List Int32) := [[100, 101, 112, 111, 116], [116, 111], [115, 101, 116], [114, 111, 119], [102, 108, 121]]
def Ext (Y : Sx) (A : Nat → Prop) (U : State) (H : Heap) : Prop :=
  (∀ (i : Nat) (q : String × String × Nat × List Int32), stT[i]? = some q → va_Z q.1 q.2.1 "[I" (.ref (sta Y i)) A U H ∧ va_T .int (sta Y i) q.2.2.1 (fun j => .int (q.2.2.2.getD j 0)) A U H) ∧
  vk_S 5 skL skB (ska Y) (skv Y) A U H ∧ va_Z "java/lang/String" "COMPACT_STRINGS" "Z" (.int 1) A U H
theorem Ext.moved {Y : Sx} {A : Nat → Prop} {u U : State} {H : Heap} (hvm : u.vm.Alike U.vm) (h : Ext Y A u H) : Ext Y A U H :=
  ⟨fun i q hq => ⟨(h.1 i q hq).1.moved hvm, (h.1 i q hq).2.moved hvm⟩, h.2.1.moved hvm, h.2.2.moved hvm⟩
theorem Ext.kept {Y : Sx} {A : Nat → Prop} {U : State} {H H1 : Heap} (h : Ext Y A U H) (hq : ∀ a : Nat, a < H.size → ¬ A a → H1[a]? = H[a]?) : Ext Y A U H1 :=
  ⟨fun i q hi => ⟨(h.1 i q hi).1.kept hq, (h.1 i q hi).2.kept hq⟩, h.2.1.kept hq, h.2.2.kept hq⟩
theorem Ext.narrow {Y : Sx} {A B : Nat → Prop} {U : State} {H : Heap} (h : Ext Y A U H) (hAB : ∀ q, B q → A q) : Ext Y B U H :=
  ⟨fun i q hi => ⟨(h.1 i q hi).1.narrow hAB, (h.1 i q hi).2.narrow hAB⟩, h.2.1.narrow hAB, h.2.2.narrow hAB⟩
/-- what speaks of the tables alone -/
def Nst (Y : Sx) (U : State) : Prop := (∀ w ∈ nw, va_Nw w U) ∧ ∀ (i : Nat) (q : Nat × String), skT[i]? = some q → vk_R "TruckWing$Teller" q.1 q.2 (ska Y i) U
theorem nst_on {w : Cond} (h : isNst w = true) : w.onTables = true := by
  cases w <;> simp [isNst] at h <;> rfl
theorem Nst.same {Y : Sx} {u U : State} (hv : u.vm = U.vm) (h : Nst Y u) : Nst Y U :=
  ⟨fun w hw => va_Nw.same (nst_on (List.mem_filter.mp hw).2) hv (h.1 w hw), fun i q hq => vk_R.same hv.symm (h.2 i q hq)⟩
theorem Nst.warm {Y : Sx} {s U : State} (hW : s.WarmedH U.vm) (h : Nst Y s) : Nst Y U := by
  refine ⟨fun w hw => ?_, fun i q hq => vk_R.warm hW (h.2 i q hq)⟩
  have h1 := h.1 w hw
  have h2 := (List.mem_filter.mp hw).2
  cases w <;> simp [isNst] at h2
  · exact va_Nw.warmM hW h1
  · exact va_Nw.warmF hW h1
def Pre (Y : Sx) (M : Mm) (sz : Nat) (U : State) : Prop := U.heap.size = sz ∧ va_P Y.2.1 vwCl (wsO Y M) U.heap ∧ va_K Y.2.1 vwCl (tyl Y) U ∧ Nst Y U ∧ Ext Y (AA Y sz) U U.heap ∧ apt Y
def Qr (Y : Sx) (sz : Nat) (r : Option Int32) (M' : Mm) : Array Value → State → Outcome → State → Prop := fun _ st oc t => oc = .returned (r.map Value.int) ∧ va_P Y.2.1 vwCl (wsO Y M') t.heap ∧ va_F (AA Y sz) st t
/-- a method's contract: with these arguments and this memory it answers r, and the memory is M' then -/
def Ct (l : Launch) (Y : Sx) (y : MethodName) (cc : ByteArray) (mL : Nat) (ret : Option FieldType) (d : Nat) (av : List Value) (M : Mm) (r : Option Int32) (M' : Mm) : Prop :=
  ∀ sz : Nat, Met l y (Cond.code y cc mL ret :: gw) (rmd d) (va_Pc av (Pre Y M sz)) (Qr Y sz r M') 0 0 (AA Y sz)
def Cx (K : Pk) (Z : Zx) (Y : Sx) : Prop :=
  (kp K).tables.exec = Jvm.exec ∧ (kc K).code = Z.1 ∧ (kc K).maxLocals = Z.2.2.1 ∧ (ks K).vm.findClass Z.2.1 = some (km K).cls ∧ (∀ w ∈ gw, w.before (ka K) (ks K) = true) ∧ Nst Y (ks K) ∧ va_K Y.2.1 vwCl (tyl Y) (ks K) ∧ apt Y ∧ Ext Y (AA Y (ks K).heap.size) (ks K) (ks K).heap ∧ (kme K).locks = false ∧ kR K = rmd Z.2.2.2.1 ∧ (kme K).sig.returnType = Z.2.2.2.2
def Wp (K : Pk) (Z : Zx) (Y : Sx) (Q : State → Prop) (M : Mm) (pc : Nat) (lv : List (Nat × Value)) (st : List Value) : Prop :=
  ∀ (H : Heap) (locs : List Loc) (ls : Array Slot), va_P Y.2.1 vwCl (wsO Y M) H → va_S (AA Y (ks K).heap.size) (ks K).heap H locs → lv_has ls Z.2.2.1 lv →
    W (kp K) (kl K) (ke K) (kR K) (ks K) (km K) (ka K) (kb K) (kme K) (kc K) H locs 0 0 Q (F0 (km K) pc ls st)
section ROWS
variable {K : Pk} {Z : Zx} {Y : Sx} {Q : State → Prop} {M : Mm} {pc : Nat} {lv : List (Nat × Value)} {st : List Value}
theorem w_iconst (C : Cx K Z Y) {n : Int} (hd : decode Z.1 pc = .ok (.iconst n, 1)) {v : Int32} (hv : Int32.ofInt n = v) (h : Wp K Z Y Q M (pc + 1) lv (.int v :: st)) : Wp K Z Y Q M pc lv st :=
  fun H locs ls hP hS hl => lv_iconst C.1 C.2.1 hd hv (h H locs ls hP hS hl)
theorem w_bipush (C : Cx K Z Y) {n : Int} (hd : decode Z.1 pc = .ok (.bipush n, 2)) {v : Int32} (hv : (Int8.ofInt n).toInt32 = v) (h : Wp K Z Y Q M (pc + 2) lv (.int v :: st)) : Wp K Z Y Q M pc lv st :=
  fun H locs ls hP hS hl => lv_bipush C.1 C.2.1 hd hv (h H locs ls hP hS hl)
theorem w_sipush (C : Cx K Z Y) {n : Int} (hd : decode Z.1 pc = .ok (.sipush n, 3)) {v : Int32} (hv : (Int16.ofInt n).toInt32 = v) (h : Wp K Z Y Q M (pc + 3) lv (.int v :: st)) : Wp K Z Y Q M pc lv st :=
  fun H locs ls hP hS hl => lv_sipush C.1 C.2.1 hd hv (h H locs ls hP hS hl)
theorem w_iload_n (C : Cx K Z Y) {k : Fin 4} (hd : decode Z.1 pc = .ok (.iload_n k, 1)) (j : Nat) {x : Int32} (hj : lv[j]? = some ((k : Nat), .int x)) (h : Wp K Z Y Q M (pc + 1) lv (.int x :: st)) : Wp K Z Y Q M pc lv st :=
  fun H locs ls hP hS hl => lv_iload_n C.1 C.2.1 hd rfl (lv_at hl j hj) (h H locs ls hP hS hl)
theorem w_iload (C : Cx K Z Y) {i : Nat} (hd : decode Z.1 pc = .ok (.iload i, 2)) (j : Nat) {x : Int32} (hj : lv[j]? = some (i, .int x)) (h : Wp K Z Y Q M (pc + 2) lv (.int x :: st)) : Wp K Z Y Q M pc lv st :=
  fun H locs ls hP hS hl => lv_iload C.1 C.2.1 hd (lv_at hl j hj) (h H locs ls hP hS hl)
theorem w_aload_n (C : Cx K Z Y) {k : Fin 4} (hd : decode Z.1 pc = .ok (.aload_n k, 1)) (j : Nat) {x : Nat} (hj : lv[j]? = some ((k : Nat), .ref x)) (h : Wp K Z Y Q M (pc + 1) lv (.ref x :: st)) : Wp K Z Y Q M pc lv st :=
  fun H locs ls hP hS hl => lv_aload_n C.1 C.2.1 hd rfl (lv_at hl j hj) (h H locs ls hP hS hl)
theorem w_aload (C : Cx K Z Y) {i : Nat} (hd : decode Z.1 pc = .ok (.aload i, 2)) (j : Nat) {x : Nat} (hj : lv[j]? = some (i, .ref x)) (h : Wp K Z Y Q M (pc + 2) lv (.ref x :: st)) : Wp K Z Y Q M pc lv st :=
  fun H locs ls hP hS hl => lv_aload C.1 C.2.1 hd (lv_at hl j hj) (h H locs ls hP hS hl)
/-- the locals, one put: in the order of their numbers (ints and references alone) -/
def lput (i : Nat) (v : Value) : List (Nat × Value) → List (Nat × Value)
  | [] => [(i, v)]
  | q :: l => if i < q.1 then (i, v) :: q :: l else if i = q.1 then (i, v) :: l else q :: lput i v l
def lok : List (Nat × Value) → Bool
  | [] => true
  | q :: l => (q.2.category == 1) && lok l
theorem lput_mem {i : Nat} {v : Value} : ∀ {l : List (Nat × Value)} {q : Nat × Value}, l.Pairwise (fun a b => a.1 < b.1) → q ∈ lput i v l → q = (i, v) ∨ (q ∈ l ∧ q.1 ≠ i)
  | [], q, _, h => by simp [lput] at h; exact Or.inl h
  | a :: l, q, hp, h => by
    rw [List.pairwise_cons] at hp
    unfold lput at h
    split at h
    · rename_i h1
      rcases List.mem_cons.mp h with h | h
      · exact Or.inl h
      · refine Or.inr ⟨h, ?_⟩
        rcases List.mem_cons.mp h with h2 | h2
        · rw [h2]; omega
        · have := hp.1 q h2; omega
    · split at h
      · rename_i h1 h2
        rcases List.mem_cons.mp h with h | h
        · exact Or.inl h
        · refine Or.inr ⟨List.mem_cons_of_mem _ h, ?_⟩
          have := hp.1 q h; omega
      · rename_i h1 h2
        rcases List.mem_cons.mp h with h | h
        · exact Or.inr ⟨by rw [h]; exact List.mem_cons_self, by rw [h]; omega⟩
        · rcases lput_mem hp.2 h with h | h
          · exact Or.inl h
          · exact Or.inr ⟨List.mem_cons_of_mem _ h.1, h.2⟩
/-- sorted, and no value of two words -/
def lvok : List (Nat × Value) → Bool
  | [] => true
  | q :: l => (q.2.category == 1) && (l.all fun r => Nat.blt q.1 r.1) && lvok l
theorem lvok_p : ∀ {l : List (Nat × Value)}, lvok l = true → l.Pairwise (fun a b => a.1 < b.1) ∧ ∀ q ∈ l, q.2.category = 1
  | [], _ => ⟨List.Pairwise.nil, fun q h => by cases h⟩
  | a :: l, h => by
    simp only [lvok, Bool.and_eq_true, beq_iff_eq, List.all_eq_true] at h
    obtain ⟨⟨h1, h2⟩, h3⟩ := h
    obtain ⟨r1, r2⟩ := lvok_p h3
    refine ⟨List.pairwise_cons.mpr ⟨fun b hb => Nat.le_of_ble_eq_true (h2 b hb), r1⟩, fun q hq => ?_⟩
    rcases List.mem_cons.mp hq with e | e
    · rw [e]; exact h1
    · exact r2 q e
theorem lput_has {ls : Array Slot} {nL i : Nat} {v : Value} {l : List (Nat × Value)} (ho : lvok l = true) (h : lv_has ls nL ((i, v) :: l.filter (fun q => !(q.1 == i) && !(q.1 + 1 == i && q.2.category == 2)))) : lv_has ls nL (lput i v l) := by
  obtain ⟨h1, h2, h3⟩ := h
  obtain ⟨p1, p2⟩ := lvok_p ho
  refine ⟨h1, h2, fun q hq => ?_⟩
  rcases lput_mem p1 hq with e | ⟨e1, e2⟩
  · exact h3 q (by rw [e]; exact List.mem_cons_self)
  · refine h3 q (List.mem_cons_of_mem _ (List.mem_filter.mpr ⟨e1, ?_⟩))
    have := p2 q e1
    simp [e2, this]
theorem w_istore_n (C : Cx K Z Y) {k : Fin 4} (hd : decode Z.1 pc = .ok (.istore_n k, 1)) {x : Int32} {lv' : List (Nat × Value)} (hn : Nat.blt k Z.2.2.1 = true) (ho : lvok lv = true) (hl' : lput k (.int x) lv = lv') (h : Wp K Z Y Q M (pc + 1) lv' st) : Wp K Z Y Q M pc lv (.int x :: st) :=
  fun H locs ls hP hS hl => lv_istore_n C.1 C.2.1 hd rfl hl (Nat.le_of_ble_eq_true hn) rfl (fun ls' hl2 => h H locs ls' hP hS (by rw [← hl']; exact lput_has ho hl2))
theorem w_istore (C : Cx K Z Y) {k : Nat} (hd : decode Z.1 pc = .ok (.istore k, 2)) {x : Int32} {lv' : List (Nat × Value)} (hn : Nat.blt k Z.2.2.1 = true) (ho : lvok lv = true) (hl' : lput k (.int x) lv = lv') (h : Wp K Z Y Q M (pc + 2) lv' st) : Wp K Z Y Q M pc lv (.int x :: st) :=
  fun H locs ls hP hS hl => lv_istore C.1 C.2.1 hd hl (Nat.le_of_ble_eq_true hn) rfl (fun ls' hl2 => h H locs ls' hP hS (by rw [← hl']; exact lput_has ho hl2))
theorem w_iinc (C : Cx K Z Y) {k : Nat} {n : Int} (hd : decode Z.1 pc = .ok (.iinc k n, 3)) (j : Nat) {x v : Int32} {lv' : List (Nat × Value)} (hj : lv[j]? = some (k, .int x)) (hv : Int32.ofInt n = v) (hn : Nat.blt k Z.2.2.1 = true) (ho : lvok lv = true) (hl' : lput k (.int (x + v)) lv = lv') (h : Wp K Z Y Q M (pc + 3) lv' st) : Wp K Z Y Q M pc lv st :=
  fun H locs ls hP hS hl => lv_iinc C.1 C.2.1 hd hl hj (by rw [hv]) (Nat.le_of_ble_eq_true hn) rfl (fun ls' hl2 => h H locs ls' hP hS (by rw [← hl']; exact lput_has ho hl2))
/-- fewer locals are known -/
theorem w_lv {lv' : List (Nat × Value)} (ks' : List Nat) (hl' : lv_pick lv ks' = lv') (h : Wp K Z Y Q M pc lv' st) : Wp K Z Y Q M pc lv st :=
  fun H locs ls hP hS hl => h H locs ls hP hS (lv_sub hl ks' hl')
theorem w_iadd (C : Cx K Z Y) {x y : Int32} (hd : decode Z.1 pc = .ok (.iadd, 1)) (h : Wp K Z Y Q M (pc + 1) lv (.int (x + y) :: st)) : Wp K Z Y Q M pc lv (.int y :: .int x :: st) :=
  fun H locs ls hP hS hl => lv_iadd C.1 C.2.1 hd (h H locs ls hP hS hl)
theorem w_isub (C : Cx K Z Y) {x y : Int32} (hd : decode Z.1 pc = .ok (.isub, 1)) (h : Wp K Z Y Q M (pc + 1) lv (.int (x - y) :: st)) : Wp K Z Y Q M pc lv (.int y :: .int x :: st) :=
  fun H locs ls hP hS hl => lv_isub C.1 C.2.1 hd (h H locs ls hP hS hl)
theorem w_imul (C : Cx K Z Y) {x y : Int32} (hd : decode Z.1 pc = .ok (.imul, 1)) (h : Wp K Z Y Q M (pc + 1) lv (.int (x * y) :: st)) : Wp K Z Y Q M pc lv (.int y :: .int x :: st) :=
  fun H locs ls hP hS hl => lv_imul C.1 C.2.1 hd (h H locs ls hP hS hl)
theorem w_iand (C : Cx K Z Y) {x y : Int32} (hd : decode Z.1 pc = .ok (.iand, 1)) (h : Wp K Z Y Q M (pc + 1) lv (.int (x &&& y) :: st)) : Wp K Z Y Q M pc lv (.int y :: .int x :: st) :=
  fun H locs ls hP hS hl => lv_iand C.1 C.2.1 hd (h H locs ls hP hS hl)
theorem w_ior (C : Cx K Z Y) {x y : Int32} (hd : decode Z.1 pc = .ok (.ior, 1)) (h : Wp K Z Y Q M (pc + 1) lv (.int (x ||| y) :: st)) : Wp K Z Y Q M pc lv (.int y :: .int x :: st) :=
  fun H locs ls hP hS hl => lv_ior C.1 C.2.1 hd (h H locs ls hP hS hl)
theorem w_ishl (C : Cx K Z Y) {x y : Int32} (hd : decode Z.1 pc = .ok (.ishl, 1)) (h : Wp K Z Y Q M (pc + 1) lv (.int (x <<< (y &&& 31)) :: st)) : Wp K Z Y Q M pc lv (.int y :: .int x :: st) :=
  fun H locs ls hP hS hl => lv_ishl C.1 C.2.1 hd (h H locs ls hP hS hl)
theorem w_ishr (C : Cx K Z Y) {x y : Int32} (hd : decode Z.1 pc = .ok (.ishr, 1)) (h : Wp K Z Y Q M (pc + 1) lv (.int (x >>> (y &&& 31)) :: st)) : Wp K Z Y Q M pc lv (.int y :: .int x :: st) :=
  fun H locs ls hP hS hl => lv_ishr C.1 C.2.1 hd (h H locs ls hP hS hl)
/-- x >>> y -/
def ush (x y : Int32) : Int32 := (x.toUInt32 >>> (y.toUInt32 &&& Int32.toUInt32 31)).toInt32
theorem w_iushr (C : Cx K Z Y) {x y : Int32} (hd : decode Z.1 pc = .ok (.iushr, 1)) (h : Wp K Z Y Q M (pc + 1) lv (.int (ush x y) :: st)) : Wp K Z Y Q M pc lv (.int y :: .int x :: st) :=
  fun H locs ls hP hS hl => lv_iushr C.1 C.2.1 hd rfl (h H locs ls hP hS hl)
theorem w_ineg (C : Cx K Z Y) {x : Int32} (hd : decode Z.1 pc = .ok (.ineg, 1)) (h : Wp K Z Y Q M (pc + 1) lv (.int (-x) :: st)) : Wp K Z Y Q M pc lv (.int x :: st) :=
  fun H locs ls hP hS hl => lv_ineg C.1 C.2.1 hd (h H locs ls hP hS hl)
/-- x % y -/
def rmi (x y : Int32) : Int32 := x - x / y * y
theorem w_idiv (C : Cx K Z Y) {x y : Int32} (hd : decode Z.1 pc = .ok (.idiv, 1)) (hne : ¬ y = 0) (h : Wp K Z Y Q M (pc + 1) lv (.int (x / y) :: st)) : Wp K Z Y Q M pc lv (.int y :: .int x :: st) :=
  fun H locs ls hP hS hl => lv_idiv C.1 C.2.1 hd hne (h H locs ls hP hS hl)
theorem w_irem (C : Cx K Z Y) {x y : Int32} (hd : decode Z.1 pc = .ok (.irem, 1)) (hne : ¬ y = 0) (h : Wp K Z Y Q M (pc + 1) lv (.int (rmi x y) :: st)) : Wp K Z Y Q M pc lv (.int y :: .int x :: st) :=
  fun H locs ls hP hS hl => lv_irem C.1 C.2.1 hd hne (h H locs ls hP hS hl)
theorem w_i2b (C : Cx K Z Y) {x : Int32} (hd : decode Z.1 pc = .ok (.i2b, 1)) (h : Wp K Z Y Q M (pc + 1) lv (.int x.toInt8.toInt32 :: st)) : Wp K Z Y Q M pc lv (.int x :: st) :=
  fun H locs ls hP hS hl => lv_i2b C.1 C.2.1 hd rfl (h H locs ls hP hS hl)
theorem w_dup (C : Cx K Z Y) {v : Value} (hd : decode Z.1 pc = .ok (.dup, 1)) (hv : v.category = 1) (h : Wp K Z Y Q M (pc + 1) lv (v :: v :: st)) : Wp K Z Y Q M pc lv (v :: st) :=
  fun H locs ls hP hS hl => lv_dup C.1 C.2.1 hd hv (h H locs ls hP hS hl)
theorem w_pop (C : Cx K Z Y) {v : Value} (hd : decode Z.1 pc = .ok (.pop, 1)) (hv : v.category = 1) (h : Wp K Z Y Q M (pc + 1) lv st) : Wp K Z Y Q M pc lv (v :: st) :=
  fun H locs ls hP hS hl => lv_pop C.1 C.2.1 hd hv (h H locs ls hP hS hl)
theorem w_dup2 (C : Cx K Z Y) {v w : Value} (hd : decode Z.1 pc = .ok (.dup2, 1)) (hv : v.category = 1) (hw : w.category = 1) (h : Wp K Z Y Q M (pc + 1) lv (v :: w :: v :: w :: st)) : Wp K Z Y Q M pc lv (v :: w :: st) :=
  fun H locs ls hP hS hl => lv_dup2_11 C.1 C.2.1 hd hv hw (h H locs ls hP hS hl)
theorem w_goto (C : Cx K Z Y) {off : Int} (tgt : Nat) (hd : decode Z.1 pc = .ok (.goto off, 3)) (ht : (pc : Int) + off = (tgt : Int)) (h : Wp K Z Y Q M tgt lv st) : Wp K Z Y Q M pc lv st :=
  fun H locs ls hP hS hl => lv_goto C.1 C.2.1 hd ht (h H locs ls hP hS hl)
theorem w_ifeq (C : Cx K Z Y) {x : Int32} {off : Int} (tgt : Nat) (hd : decode Z.1 pc = .ok (.ifCond .eq off, 3)) (ht : (pc : Int) + off = (tgt : Int)) (kt : x = 0 → Wp K Z Y Q M tgt lv st) (kf : ¬ x = 0 → Wp K Z Y Q M (pc + 3) lv st) : Wp K Z Y Q M pc lv (.int x :: st) :=
  fun H locs ls hP hS hl => lv_if_eq C.1 C.2.1 hd ht (fun c => kt c H locs ls hP hS hl) (fun c => kf c H locs ls hP hS hl)
theorem w_ifne (C : Cx K Z Y) {x : Int32} {off : Int} (tgt : Nat) (hd : decode Z.1 pc = .ok (.ifCond .ne off, 3)) (ht : (pc : Int) + off = (tgt : Int)) (kf : x = 0 → Wp K Z Y Q M (pc + 3) lv st) (kt : ¬ x = 0 → Wp K Z Y Q M tgt lv st) : Wp K Z Y Q M pc lv (.int x :: st) :=
  fun H locs ls hP hS hl => lv_if_ne C.1 C.2.1 hd ht (fun c => kt c H locs ls hP hS hl) (fun c => kf c H locs ls hP hS hl)
theorem w_iflt (C : Cx K Z Y) {x : Int32} {off : Int} (tgt : Nat) (hd : decode Z.1 pc = .ok (.ifCond .lt off, 3)) (ht : (pc : Int) + off = (tgt : Int)) (kt : x < 0 → Wp K Z Y Q M tgt lv st) (kf : ¬ x < 0 → Wp K Z Y Q M (pc + 3) lv st) : Wp K Z Y Q M pc lv (.int x :: st) :=
  fun H locs ls hP hS hl => lv_if_lt C.1 C.2.1 hd ht (fun c => kt c H locs ls hP hS hl) (fun c => kf c H locs ls hP hS hl)
theorem w_ifge (C : Cx K Z Y) {x : Int32} {off : Int} (tgt : Nat) (hd : decode Z.1 pc = .ok (.ifCond .ge off, 3)) (ht : (pc : Int) + off = (tgt : Int)) (kt : 0 ≤ x → Wp K Z Y Q M tgt lv st) (kf : ¬ 0 ≤ x → Wp K Z Y Q M (pc + 3) lv st) : Wp K Z Y Q M pc lv (.int x :: st) :=
  fun H locs ls hP hS hl => lv_if_ge C.1 C.2.1 hd ht (fun c => kt c H locs ls hP hS hl) (fun c => kf c H locs ls hP hS hl)
theorem w_ifgt (C : Cx K Z Y) {x : Int32} {off : Int} (tgt : Nat) (hd : decode Z.1 pc = .ok (.ifCond .gt off, 3)) (ht : (pc : Int) + off = (tgt : Int)) (kt : 0 < x → Wp K Z Y Q M tgt lv st) (kf : ¬ 0 < x → Wp K Z Y Q M (pc + 3) lv st) : Wp K Z Y Q M pc lv (.int x :: st) :=
  fun H locs ls hP hS hl => lv_if_gt C.1 C.2.1 hd ht (fun c => kt c H locs ls hP hS hl) (fun c => kf c H locs ls hP hS hl)
theorem w_ifle (C : Cx K Z Y) {x : Int32} {off : Int} (tgt : Nat) (hd : decode Z.1 pc = .ok (.ifCond .le off, 3)) (ht : (pc : Int) + off = (tgt : Int)) (kt : x ≤ 0 → Wp K Z Y Q M tgt lv st) (kf : ¬ x ≤ 0 → Wp K Z Y Q M (pc + 3) lv st) : Wp K Z Y Q M pc lv (.int x :: st) :=
  fun H locs ls hP hS hl => lv_if_le C.1 C.2.1 hd ht (fun c => kt c H locs ls hP hS hl) (fun c => kf c H locs ls hP hS hl)
theorem w_iceq (C : Cx K Z Y) {x y : Int32} {off : Int} (tgt : Nat) (hd : decode Z.1 pc = .ok (.if_icmp .eq off, 3)) (ht : (pc : Int) + off = (tgt : Int)) (kt : x = y → Wp K Z Y Q M tgt lv st) (kf : ¬ x = y → Wp K Z Y Q M (pc + 3) lv st) : Wp K Z Y Q M pc lv (.int y :: .int x :: st) :=
  fun H locs ls hP hS hl => lv_icmp_eq C.1 C.2.1 hd ht (fun c => kt c H locs ls hP hS hl) (fun c => kf c H locs ls hP hS hl)
theorem w_icne (C : Cx K Z Y) {x y : Int32} {off : Int} (tgt : Nat) (hd : decode Z.1 pc = .ok (.if_icmp .ne off, 3)) (ht : (pc : Int) + off = (tgt : Int)) (kf : x = y → Wp K Z Y Q M (pc + 3) lv st) (kt : ¬ x = y → Wp K Z Y Q M tgt lv st) : Wp K Z Y Q M pc lv (.int y :: .int x :: st) :=
  fun H locs ls hP hS hl => lv_icmp_ne C.1 C.2.1 hd ht (fun c => kt c H locs ls hP hS hl) (fun c => kf c H locs ls hP hS hl)
theorem w_iclt (C : Cx K Z Y) {x y : Int32} {off : Int} (tgt : Nat) (hd : decode Z.1 pc = .ok (.if_icmp .lt off, 3)) (ht : (pc : Int) + off = (tgt : Int)) (kt : x < y → Wp K Z Y Q M tgt lv st) (kf : ¬ x < y → Wp K Z Y Q M (pc + 3) lv st) : Wp K Z Y Q M pc lv (.int y :: .int x :: st) :=
  fun H locs ls hP hS hl => lv_icmp_lt C.1 C.2.1 hd ht (fun c => kt c H locs ls hP hS hl) (fun c => kf c H locs ls hP hS hl)
theorem w_icge (C : Cx K Z Y) {x y : Int32} {off : Int} (tgt : Nat) (hd : decode Z.1 pc = .ok (.if_icmp .ge off, 3)) (ht : (pc : Int) + off = (tgt : Int)) (kt : y ≤ x → Wp K Z Y Q M tgt lv st) (kf : ¬ y ≤ x → Wp K Z Y Q M (pc + 3) lv st) : Wp K Z Y Q M pc lv (.int y :: .int x :: st) :=
  fun H locs ls hP hS hl => lv_icmp_ge C.1 C.2.1 hd ht (fun c => kt c H locs ls hP hS hl) (fun c => kf c H locs ls hP hS hl)
theorem w_icgt (C : Cx K Z Y) {x y : Int32} {off : Int} (tgt : Nat) (hd : decode Z.1 pc = .ok (.if_icmp .gt off, 3)) (ht : (pc : Int) + off = (tgt : Int)) (kt : y < x → Wp K Z Y Q M tgt lv st) (kf : ¬ y < x → Wp K Z Y Q M (pc + 3) lv st) : Wp K Z Y Q M pc lv (.int y :: .int x :: st) :=
  fun H locs ls hP hS hl => lv_icmp_gt C.1 C.2.1 hd ht (fun c => kt c H locs ls hP hS hl) (fun c => kf c H locs ls hP hS hl)
theorem w_icle (C : Cx K Z Y) {x y : Int32} {off : Int} (tgt : Nat) (hd : decode Z.1 pc = .ok (.if_icmp .le off, 3)) (ht : (pc : Int) + off = (tgt : Int)) (kt : x ≤ y → Wp K Z Y Q M tgt lv st) (kf : ¬ x ≤ y → Wp K Z Y Q M (pc + 3) lv st) : Wp K Z Y Q M pc lv (.int y :: .int x :: st) :=
  fun H locs ls hP hS hl => lv_icmp_le C.1 C.2.1 hd ht (fun c => kt c H locs ls hP hS hl) (fun c => kf c H locs ls hP hS hl)
/-- tableswitch from lo on: the number's own road -/
theorem w_swIn (C : Cx K Z Y) {x v : Int32} {dflt lo hi off : Int} {offs : Array Int} {len : Nat} (tgt : Nat) (hd : decode Z.1 pc = .ok (.tableswitch dflt lo hi offs, len)) (hx : x = v) (h1 : ¬ v.toInt < lo) (h2 : ¬ hi < v.toInt) (ho : offs[(v.toInt - lo).toNat]? = some off) (ht : (pc : Int) + off = (tgt : Int)) (h : Wp K Z Y Q M tgt lv st) : Wp K Z Y Q M pc lv (.int x :: st) :=
  fun H locs ls hP hS hl => by subst hx; exact lv_tableIn C.1 C.2.1 hd h1 h2 ho ht (h H locs ls hP hS hl)
theorem w_swOut (C : Cx K Z Y) {x : Int32} {dflt lo hi : Int} {offs : Array Int} {len : Nat} (tgt : Nat) (hd : decode Z.1 pc = .ok (.tableswitch dflt lo hi offs, len)) (ho : x.toInt < lo ∨ hi < x.toInt) (ht : (pc : Int) + dflt = (tgt : Int)) (h : Wp K Z Y Q M tgt lv st) : Wp K Z Y Q M pc lv (.int x :: st) :=
  fun H locs ls hP hS hl => lv_tableOut C.1 C.2.1 hd ho ht (h H locs ls hP hS hl)
/-- links of a field: its class's number, its slot -/
def FL (own : String) (idx ci i : Nat) : Prop := ∃ (Cn : String) (T : u_T) (N : Nat), vwCl[ci]? = some (Cn, T, N) ∧ i < N ∧ (∀ w ∈ u_ws Cn T N, w ∈ gw) ∧ (Cond.fieldLink own idx (T i).1 (T i).2.1 (T i).2.2.1 ∈ gw ∨ ∃ host, Cond.fieldLinkNest own idx (T i).1 (T i).2.1 (T i).2.2.1 host ∈ nw)
def FP (own : String) (idx ci i : Nat) (ty : FieldType) : Prop := ∃ (Cn : String) (T : u_T) (N : Nat) (ty0 : Nat → FieldType), vwCl[ci]? = some (Cn, T, N) ∧ i < N ∧ (∀ w ∈ u_ws Cn T N, w ∈ gw) ∧ (Cond.fieldLink own idx (T i).1 (T i).2.1 (T i).2.2.1 ∈ gw ∨ ∃ host, Cond.fieldLinkNest own idx (T i).1 (T i).2.1 (T i).2.2.1 host ∈ nw) ∧
  (∀ k, k < N → parseFieldDescriptor (T k).2.2.1 = some (ty0 k)) ∧ (∀ a, a < N → ∀ b, b < N → a ≠ b → (T a).2.1 ≠ (T b).2.1) ∧ (T i).2.2.2 = false ∧ parseFieldDescriptor (T i).2.2.1 = some ty
theorem w_get (C : Cx K Z Y) {idx ci i k : Nat} {fs : List (Option Nat)} (hd : decode Z.1 pc = .ok (.getfield idx, 3)) (hF : FL Z.2.1 idx ci i) (hk : Y.1[k]? = some (.inr (ci, fs))) {v : Value} (hv : (fvl Y M k fs)[i]? = some v) (h : Wp K Z Y Q M (pc + 3) lv (v :: st)) : Wp K Z Y Q M pc lv (.ref (adr Y k) :: st) := by
  intro H locs ls hP hS hl
  obtain ⟨Cn, T, N, hc, hi, hin, hlk⟩ := hF
  rcases hlk with hlk | ⟨host, hlk⟩
  · exact va_get (C := Cn) (T := T) (N := N) C.1 C.2.1 C.2.2.2.2.1 hin C.2.2.2.1 C.2.2.2.2.2.2.1 hP k (wsO_at hk) hc i hi (C.2.2.2.2.1 _ hlk) (fun _ h9 => h9) hv hd (h H locs ls hP hS hl)
  · exact va_getN (C := Cn) (T := T) (N := N) C.1 C.2.1 C.2.2.2.2.1 hin C.2.2.2.1 C.2.2.2.2.2.2.1 hP k (wsO_at hk) hc i hi (va_Nw.use rfl (C.2.2.2.2.2.1.1 _ hlk)) (fun _ h9 => h9) hv hd (h H locs ls hP hS hl)
theorem w_getI (C : Cx K Z Y) {idx ci i k : Nat} {fs : List (Option Nat)} (hd : decode Z.1 pc = .ok (.getfield idx, 3)) (hF : FL Z.2.1 idx ci i) (hk : Y.1[k]? = some (.inr (ci, fs))) (hv : fs[i]? = some none) (h : Wp K Z Y Q M (pc + 3) lv (.int (M k i) :: st)) : Wp K Z Y Q M pc lv (.ref (adr Y k) :: st) :=
  w_get C hd hF hk (by simp [fvl, List.getElem?_mapIdx, hv]) h
theorem w_getR (C : Cx K Z Y) {idx ci i k j : Nat} {fs : List (Option Nat)} (hd : decode Z.1 pc = .ok (.getfield idx, 3)) (hF : FL Z.2.1 idx ci i) (hk : Y.1[k]? = some (.inr (ci, fs))) (hv : fs[i]? = some (some j)) (h : Wp K Z Y Q M (pc + 3) lv (.ref (adr Y j) :: st)) : Wp K Z Y Q M pc lv (.ref (adr Y k) :: st) :=
  w_get C hd hF hk (by simp [fvl, List.getElem?_mapIdx, hv]) h
theorem fvl_len {k : Nat} {fs : List (Option Nat)} : (fvl Y M k fs).length = fs.length := by simp [fvl]
theorem w_put (C : Cx K Z Y) {idx ci i k : Nat} {fs : List (Option Nat)} {ty : FieldType} {x : Int32} (hd : decode Z.1 pc = .ok (.putfield idx, 3)) (hF : FP Z.2.1 idx ci i ty) (hk : Y.1[k]? = some (.inr (ci, fs))) (hv : fs[i]? = some none) (hn : narrow ty (.int x) = .int x) (hfit : fits ty (.int x) = true) (h : Wp K Z Y Q (mset M k i x) (pc + 3) lv st) : Wp K Z Y Q M pc lv (.int x :: .ref (adr Y k) :: st) := by
  intro H locs ls hP hS hl
  obtain ⟨Cn, T, N, ty0, hc, hi, hin, hlk, h1, h2, h3, h4⟩ := hF
  have hD := apt_D C.2.2.2.2.2.2.2.1 (ks K).heap.size M
  have hlen : i < (fvl Y M k fs).length := by rw [fvl_len]; exact (List.getElem?_eq_some_iff.mp hv).1
  rcases hlk with hlk | ⟨host, hlk⟩
  · refine va_put (C := Cn) (T := T) (N := N) C.1 C.2.1 C.2.2.2.2.1 hin ty0 h1 h2 C.2.2.2.1 C.2.2.2.2.2.2.1 hP hD hS k (wsO_at hk) hc i hi (C.2.2.2.2.1 _ hlk) (fun _ h9 => h9) h3 h4 hn hfit hlen hd (fun H1 locs1 hP1 _ hS1 => ?_)
    rw [wsO_fld hk hv] at hP1
    exact h H1 locs1 ls hP1 hS1 hl
  · refine va_putN (C := Cn) (T := T) (N := N) C.1 C.2.1 C.2.2.2.2.1 hin ty0 h1 h2 C.2.2.2.1 C.2.2.2.2.2.2.1 hP hD hS k (wsO_at hk) hc i hi (va_Nw.use rfl (C.2.2.2.2.2.1.1 _ hlk)) (fun _ h9 => h9) h3 h4 hn hfit hlen hd (fun H1 locs1 hP1 _ hS1 => ?_)
    rw [wsO_fld hk hv] at hP1
    exact h H1 locs1 ls hP1 hS1 hl
theorem w_putI (C : Cx K Z Y) {idx ci i k : Nat} {fs : List (Option Nat)} {x : Int32} (hd : decode Z.1 pc = .ok (.putfield idx, 3)) (hF : FP Z.2.1 idx ci i .int) (hk : Y.1[k]? = some (.inr (ci, fs))) (hv : fs[i]? = some none) (h : Wp K Z Y Q (mset M k i x) (pc + 3) lv st) : Wp K Z Y Q M pc lv (.int x :: .ref (adr Y k) :: st) := w_put C hd hF hk hv rfl rfl h
/-- an index in its row -/
def inb (x : Int32) (n : Nat) : Bool := decide (¬ (x < 0 ∨ n ≤ x.toNatClampNeg))
def ald (M : Mm) (k n : Nat) (x : Int32) : Option Int32 := if inb x n = true then some (M k x.toNatClampNeg) else none
def ast (M : Mm) (k n : Nat) (x v : Int32) : Option Mm := if inb x n = true then some (mset M k x.toNatClampNeg v) else none
def sld (l : List Int32) (x : Int32) : Option Int32 := if inb x l.length = true then some (l.getD x.toNatClampNeg 0) else none
theorem inb_in {x : Int32} {n : Nat} (h : inb x n = true) : vp_in x n := of_decide_eq_true (p := ¬ (x < 0 ∨ n ≤ x.toNatClampNeg)) h
theorem ald_some {k n : Nat} {x v : Int32} (h : ald M k n x = some v) : vp_in x n ∧ M k x.toNatClampNeg = v := by
  unfold ald at h
  split at h
  · rename_i hi; exact ⟨inb_in hi, Option.some.inj h⟩
  · cases h
theorem ast_some {k n : Nat} {x v : Int32} {M' : Mm} (h : ast M k n x v = some M') : vp_in x n ∧ mset M k x.toNatClampNeg v = M' := by
  unfold ast at h
  split at h
  · rename_i hi; exact ⟨inb_in hi, Option.some.inj h⟩
  · cases h
theorem sld_some {l : List Int32} {x v : Int32} (h : sld l x = some v) : vp_in x l.length ∧ l.getD x.toNatClampNeg 0 = v := by
  unfold sld at h
  split at h
  · rename_i hi; exact ⟨inb_in hi, Option.some.inj h⟩
  · cases h
theorem w_iald (C : Cx K Z Y) {k n : Nat} {x v : Int32} (hd : decode Z.1 pc = .ok (.iaload, 1)) (hk : Y.1[k]? = some (.inl (.int, n))) (he : ald M k n x = some v) (h : Wp K Z Y Q M (pc + 1) lv (.int v :: st)) : Wp K Z Y Q M pc lv (.int x :: .ref (adr Y k) :: st) := by
  intro H locs ls hP hS hl
  obtain ⟨hi, rfl⟩ := ald_some he
  exact va_iald C.1 C.2.1 C.2.2.2.2.2.2.1 hP k 0 (wsO_at hk) rfl hi hd (h H locs ls hP hS hl)
theorem w_zald (C : Cx K Z Y) {k n : Nat} {x v : Int32} (hd : decode Z.1 pc = .ok (.baload, 1)) (hk : Y.1[k]? = some (.inl (.boolean, n))) (he : ald M k n x = some v) (h : Wp K Z Y Q M (pc + 1) lv (.int v :: st)) : Wp K Z Y Q M pc lv (.int x :: .ref (adr Y k) :: st) := by
  intro H locs ls hP hS hl
  obtain ⟨hi, rfl⟩ := ald_some he
  exact va_zald C.1 C.2.1 C.2.2.2.2.2.2.1 hP k 1 (wsO_at hk) rfl hi hd (h H locs ls hP hS hl)
theorem w_bald (C : Cx K Z Y) {k n : Nat} {x v : Int32} (hd : decode Z.1 pc = .ok (.baload, 1)) (hk : Y.1[k]? = some (.inl (.byte, n))) (he : ald M k n x = some v) (h : Wp K Z Y Q M (pc + 1) lv (.int v :: st)) : Wp K Z Y Q M pc lv (.int x :: .ref (adr Y k) :: st) := by
  intro H locs ls hP hS hl
  obtain ⟨hi, rfl⟩ := ald_some he
  exact va_bald C.1 C.2.1 C.2.2.2.2.2.2.1 hP k 2 (wsO_at hk) rfl hi hd (h H locs ls hP hS hl)
theorem w_iast (C : Cx K Z Y) {k n : Nat} {x v : Int32} {M' : Mm} (hd : decode Z.1 pc = .ok (.iastore, 1)) (hk : Y.1[k]? = some (.inl (.int, n))) (he : ast M k n x v = some M') (h : Wp K Z Y Q M' (pc + 1) lv st) : Wp K Z Y Q M pc lv (.int v :: .int x :: .ref (adr Y k) :: st) := by
  intro H locs ls hP hS hl
  obtain ⟨hi, rfl⟩ := ast_some he
  refine va_iast C.1 C.2.1 C.2.2.2.2.2.2.1 hP (apt_D C.2.2.2.2.2.2.2.1 (ks K).heap.size M) hS k 0 (wsO_at hk) rfl hi hd (fun H1 locs1 hP1 _ hS1 => ?_)
  rw [wsO_arr hk, ← mset_eq] at hP1
  exact h H1 locs1 ls hP1 hS1 hl
theorem w_zast (C : Cx K Z Y) {k n : Nat} {x v : Int32} {M' : Mm} (hd : decode Z.1 pc = .ok (.bastore, 1)) (hk : Y.1[k]? = some (.inl (.boolean, n))) (he : ast M k n x (vp_nar .boolean v) = some M') (h : Wp K Z Y Q M' (pc + 1) lv st) : Wp K Z Y Q M pc lv (.int v :: .int x :: .ref (adr Y k) :: st) := by
  intro H locs ls hP hS hl
  obtain ⟨hi, rfl⟩ := ast_some he
  refine va_zast C.1 C.2.1 C.2.2.2.2.2.2.1 hP (apt_D C.2.2.2.2.2.2.2.1 (ks K).heap.size M) hS k 1 (wsO_at hk) rfl hi hd (fun H1 locs1 hP1 _ hS1 => ?_)
  rw [wsO_arr hk, ← mset_eq] at hP1
  exact h H1 locs1 ls hP1 hS1 hl
theorem w_bast (C : Cx K Z Y) {k n : Nat} {x v : Int32} {M' : Mm} (hd : decode Z.1 pc = .ok (.bastore, 1)) (hk : Y.1[k]? = some (.inl (.byte, n))) (he : ast M k n x (vp_nar .byte v) = some M') (h : Wp K Z Y Q M' (pc + 1) lv st) : Wp K Z Y Q M pc lv (.int v :: .int x :: .ref (adr Y k) :: st) := by
  intro H locs ls hP hS hl
  obtain ⟨hi, rfl⟩ := ast_some he
  refine va_bast C.1 C.2.1 C.2.2.2.2.2.2.1 hP (apt_D C.2.2.2.2.2.2.2.1 (ks K).heap.size M) hS k 2 (wsO_at hk) rfl hi hd (fun H1 locs1 hP1 _ hS1 => ?_)
  rw [wsO_arr hk, ← mset_eq] at hP1
  exact h H1 locs1 ls hP1 hS1 hl
theorem w_alenI (C : Cx K Z Y) {k n : Nat} {v : Int32} (hd : decode Z.1 pc = .ok (.arraylength, 1)) (hk : Y.1[k]? = some (.inl (.int, n))) (hv : Int32.ofNat n = v) (h : Wp K Z Y Q M (pc + 1) lv (.int v :: st)) : Wp K Z Y Q M pc lv (.ref (adr Y k) :: st) :=
  fun H locs ls hP hS hl => va_alen C.1 C.2.1 C.2.2.2.2.2.2.1 hP k 0 (wsO_at hk) rfl hv hd (h H locs ls hP hS hl)
/-- a static array -/
def SL (own : String) (idx i : Nat) : Prop := ∃ (Cn fn : String) (n : Nat) (l : List Int32), stT[i]? = some (Cn, fn, n, l) ∧ (Cond.fieldLink own idx Cn fn "[I" ∈ gw ∨ ∃ host, Cond.fieldLinkNest own idx Cn fn "[I" host ∈ nw)
theorem w_gets (C : Cx K Z Y) {idx i : Nat} (hd : decode Z.1 pc = .ok (.getstatic idx, 3)) (hF : SL Z.2.1 idx i) (h : Wp K Z Y Q M (pc + 3) lv (.ref (sta Y i) :: st)) : Wp K Z Y Q M pc lv st := by
  intro H locs ls hP hS hl
  obtain ⟨Cn, fn, n, l, hi, hlk⟩ := hF
  have hE := (C.2.2.2.2.2.2.2.2.1.1 i _ hi).1
  rcases hlk with hlk | ⟨host, hlk⟩
  · exact va_gets C.1 C.2.1 hE hS C.2.2.2.1 (C.2.2.2.2.1 _ hlk) (fun _ h9 => h9) hd (h H locs ls hP hS hl)
  · exact va_getsN C.1 C.2.1 hE hS C.2.2.2.1 (va_Nw.use rfl (C.2.2.2.2.2.1.1 _ hlk)) (fun _ h9 => h9) hd (h H locs ls hP hS hl)
theorem w_sald (C : Cx K Z Y) {i n : Nat} {Cn fn : String} {l : List Int32} {x v : Int32} (hd : decode Z.1 pc = .ok (.iaload, 1)) (hi : stT[i]? = some (Cn, fn, n, l)) (hn : l.length = n) (he : sld l x = some v) (h : Wp K Z Y Q M (pc + 1) lv (.int v :: st)) : Wp K Z Y Q M pc lv (.int x :: .ref (sta Y i) :: st) := by
  intro H locs ls hP hS hl
  obtain ⟨hx, rfl⟩ := sld_some he
  have hE := (C.2.2.2.2.2.2.2.2.1.1 i _ hi).2
  exact va_ti C.1 C.2.1 hE hS (by rw [← hn]; exact hx) rfl hd (h H locs ls hP hS hl)
end ROWS
end
section
/-! CALLS AND RETURNS of a side's methods, by contract Ct; loops -/
def Qm (K : Pk) (Y : Sx) (r : Option Int32) (M' : Mm) : State → Prop := MQ (kb K) (Qr Y (ks K).heap.size r M') (ka K) (ks K) 0 0 (AA Y (ks K).heap.size)
/-- what the tables say of a method -/
def MY (y : MethodName) (cc : ByteArray) (mL : Nat) (ret : Option FieldType) (n : Nat) : Prop := Cond.code y cc mL ret ∈ gw ∧ Cond.initialized y.cls ∈ gw ∧ (y.cls ≠ "java/lang/invoke/MethodHandle" ∧ y.cls ≠ "java/lang/invoke/VarHandle" ∧ (parseMethodDescriptor y.desc).map (fun d => d.parameters.length) = some n)
def MI (y : MethodName) : Prop := Cond.instanceMethod y ∈ gw ∧ Cond.selects y.cls y y ∈ gw
def ML (own : String) (idx : Nat) (y : MethodName) : Prop := Cond.methodLink own idx y ∈ gw ∨ ∃ host, Cond.methodLinkNest own idx y host ∈ nw
theorem gIn (y : MethodName) (cc : ByteArray) (mL : Nat) (ret : Option FieldType) (h : Cond.code y cc mL ret ∈ gw) : GoodIn gw (Cond.code y cc mL ret :: gw) := fun w hw => by
  rcases List.mem_cons.mp hw with e | e
  · rw [e]; exact ⟨h, good_of_word (gw_good h)⟩
  · exact ⟨e, good_of_word (gw_good e)⟩
theorem AA_mono {Y : Sx} {s1 s2 : Nat} (h : s1 ≤ s2) : ∀ q, AA Y s2 q → AA Y s1 q := fun q hq => hq.elim Or.inl (fun h2 => Or.inr (Nat.le_trans h h2))
section CALLS
variable {K : Pk} {Z : Zx} {Y : Sx} {Q : State → Prop} {M : Mm} {pc : Nat} {lv : List (Nat × Value)} {st : List Value}
theorem pre_blind {av : List Value} {sz : Nat} : FrameBlind (va_Pc av (Pre Y M sz)) := fun a U g mk q => by
  obtain ⟨q0, q1, q2, q3, q4, q5, q6⟩ := q
  have hA : U.vm.Alike (U.calling g mk a).vm := Vm.Alike.refl U.vm
  exact ⟨q0, q1, q2, va_K.moved (u := U) hA q3, Nst.same (u := U) (U := U.calling g mk a) rfl q4, Ext.moved hA q5, q6⟩
theorem pre_of (C : Cx K Z Y) {H : Heap} {locs : List Loc} (hP : va_P Y.2.1 vwCl (wsO Y M) H) (hS : va_S (AA Y (ks K).heap.size) (ks K).heap H locs) {U : State} (hU : U.heap = H) (hW : (ks K).WarmedH U.vm) : Pre Y M H.size U := by
  refine ⟨by rw [hU], by rw [hU]; exact hP, va_K.moved hW.alike C.2.2.2.2.2.2.1, Nst.warm hW C.2.2.2.2.2.1, ?_, C.2.2.2.2.2.2.2.1⟩
  rw [hU]
  exact Ext.moved hW.alike (((C.2.2.2.2.2.2.2.2.1).kept (fun a h1 h2 => hS.2.1 a h1 h2)).narrow (AA_mono hS.1))
/-- behind a call -/
theorem call_end {idx : Nat} {stk rest : List Value} {r : Option Int32} {M' : Mm} {H : Heap} {locs : List Loc} {ls : Array Slot} {a : Array Value} (hl : lv_has ls Z.2.2.1 lv) (hS : va_S (AA Y (ks K).heap.size) (ks K).heap H locs)
    (hr : va_Run (kp K) (kl K) (ke K) (kR K) (ks K) (km K) (ka K) (kb K) (kme K) (kc K) H locs 0 0 0 0 (F0 (km K) pc ls stk) rest (Qr Y H.size r M' a) (AA Y H.size)) (h : Wp K Z Y Q M' (pc + 3) lv ((r.map Value.int).toList ++ rest)) :
    W (kp K) (kl K) (ke K) (kR K) (ks K) (km K) (ka K) (kb K) (kme K) (kc K) H locs 0 0 Q (F0 (km K) pc ls stk) := by
  intro T hT X
  obtain ⟨v, st₀, t, T', L, h0, X', hL, e1, e2, ⟨hv, hP1, hz, hk⟩, go⟩ := hr T hT X
  cases hv
  rw [h0] at hz hk
  have hS1 : va_S (AA Y (ks K).heap.size) (ks K).heap T'.heap (locs ++ L) := by
    refine ⟨Nat.le_trans hS.1 (by rw [e1]; exact hz), fun q h1 h2 => ?_, fun q hq => ?_⟩
    · rw [e1, hk q (Nat.lt_of_lt_of_le h1 hS.1) (fun z => h2 (AA_mono hS.1 q z))]
      exact hS.2.1 q h1 h2
    · rcases List.mem_append.mp hq with h2 | h2
      · exact hS.2.2 q h2
      · exact AA_mono hS.1 _ (hL q h2)
  obtain ⟨t2, a1, b1⟩ := h T'.heap (locs ++ L) ls (by rw [e1]; exact hP1) hS1 hl T' rfl X'
  exact ⟨t2, go t2 a1, b1⟩
theorem rm_le {d d' mL : Nat} (h : Nat.blt d' d = true) (hm : Nat.ble mL 13 = true) : (rmd d').frames + 1 ≤ (rmd d).frames ∧ 8 + (mL + 11) + (rmd d').locals ≤ (rmd d).locals := by
  have h1 : d' < d := Nat.le_of_ble_eq_true h
  have h2 : mL ≤ 13 := Nat.le_of_ble_eq_true hm
  refine ⟨h1, ?_⟩
  show 8 + (mL + 11) + 32 * d' ≤ 32 * d
  omega
theorem w_callV (C : Cx K Z Y) {idx ci k n mL d : Nat} {y : MethodName} {cc : ByteArray} {ret : Option FieldType} {fs : List (Option Nat)} {T : u_T} {N : Nat} {r : Option Int32} {M' : Mm} {stk : List Value} (hd : decode Z.1 pc = .ok (.invokevirtual idx, 3)) (hy : MY y cc mL ret n) (hi : MI y) (hlk : ML Z.2.1 idx y) (hk : Y.1[k]? = some (.inr (ci, fs))) (hci : vwCl[ci]? = some (y.cls, T, N)) (hdd : Nat.blt d Z.2.2.2.1 = true) (hmm : Nat.ble mL 13 = true)
    (As : List Value) (hn : As.length = n) (hst : stk = As.reverse ++ .ref (adr Y k) :: st) (hW : (st.map fun v => v.category).sum ≤ 8) (hc : Ct (kl K) Y y cc mL ret d (.ref (adr Y k) :: As) M r M') (h : Wp K Z Y Q M' (pc + 3) lv ((r.map Value.int).toList ++ st)) : Wp K Z Y Q M pc lv stk := by
  intro H locs ls hP hS hl
  have hR : (kR K) = rmd Z.2.2.2.1 := C.2.2.2.2.2.2.2.2.2.2.1
  have hfix : CallFix (kp K) (km K) (kc K) Z.1 Z.2.2.1 (ks K) (ka K) gw Z.2.1 := ⟨C.1, C.2.1, C.2.2.1, C.2.2.2.1, C.2.2.2.2.1⟩
  have hpre : PreV (ks K) H y.cls (adr Y k) (va_Pc (.ref (adr Y k) :: As) (Pre Y M H.size)) As := ⟨pre_blind, va_recv C.2.2.2.2.2.2.1 hP hci (wsO_at hk), fun U hU hW => ⟨rfl, pre_of C hP hS hU hW⟩⟩
  have hw : (Cond.instanceMethod y).before (ka K) (ks K) = true ∧ (Cond.selects y.cls y y).before (ka K) (ks K) = true := ⟨C.2.2.2.2.1 _ hi.1, C.2.2.2.2.1 _ hi.2⟩
  rcases hlk with hlk | ⟨host, hlk⟩
  · have cw : CallW (kR K) (ks K) (ka K) Z.2.1 y.cls idx y cc mL ret (Cond.code y cc mL ret :: gw) (rmd d) 0 0 n := ⟨callB_of n C.2.2.2.2.1 (gIn y cc mL ret hy.1) rfl rfl rfl (C.2.2.2.2.1 _ hy.2.1) (C.2.2.2.2.1 _ hlk) hy.2.2 (by rw [hR]; exact rm_le hdd hmm), hw.1, hw.2⟩
    exact call_end (idx := idx) hl hS (va_runV (As := As) (rest := st) hfix (hc H.size) cw hpre rfl hn hl.1 hst (lv_room hW) hd ⟨Nat.zero_le _, Nat.zero_le _⟩) h
  · have cw : va_CN (kR K) (ks K) (ka K) Z.2.1 idx y host cc mL ret (Cond.code y cc mL ret :: gw) (rmd d) 0 0 n := va_cnB n C.2.2.2.2.1 (gIn y cc mL ret hy.1) rfl rfl rfl (C.2.2.2.2.2.1.1 _ hlk) (C.2.2.2.2.1 _ hy.2.1) hy.2.2 (by rw [hR]; exact rm_le hdd hmm)
    exact call_end (idx := idx) hl hS (va_runVN (As := As) (rest := st) hfix (hc H.size) ⟨cw, hw.1, hw.2⟩ hpre rfl hn hl.1 hst (lv_room hW) hd ⟨Nat.zero_le _, Nat.zero_le _⟩) h
theorem w_callS (C : Cx K Z Y) {idx n mL d : Nat} {y : MethodName} {cc : ByteArray} {ret : Option FieldType} {r : Option Int32} {M' : Mm} {stk : List Value} (hd : decode Z.1 pc = .ok (.invokestatic idx, 3)) (hy : MY y cc mL ret n) (hi : Cond.static y ∈ gw) (hlk : ML Z.2.1 idx y) (hdd : Nat.blt d Z.2.2.2.1 = true) (hmm : Nat.ble mL 13 = true)
    (As : List Value) (hn : As.length = n) (hst : stk = As.reverse ++ st) (hW : (st.map fun v => v.category).sum ≤ 8) (hc : Ct (kl K) Y y cc mL ret d As M r M') (h : Wp K Z Y Q M' (pc + 3) lv ((r.map Value.int).toList ++ st)) : Wp K Z Y Q M pc lv stk := by
  intro H locs ls hP hS hl
  have hR : (kR K) = rmd Z.2.2.2.1 := C.2.2.2.2.2.2.2.2.2.2.1
  have hfix : CallFix (kp K) (km K) (kc K) Z.1 Z.2.2.1 (ks K) (ka K) gw Z.2.1 := ⟨C.1, C.2.1, C.2.2.1, C.2.2.2.1, C.2.2.2.2.1⟩
  have hpre : PreS (ks K) H (va_Pc As (Pre Y M H.size)) As := ⟨pre_blind, fun U hU hW => ⟨rfl, pre_of C hP hS hU hW⟩⟩
  have hw : (Cond.static y).before (ka K) (ks K) = true := C.2.2.2.2.1 _ hi
  rcases hlk with hlk | ⟨host, hlk⟩
  · have cw : CallB (kR K) (ks K) (ka K) Z.2.1 idx y cc mL ret (Cond.code y cc mL ret :: gw) (rmd d) 0 0 n ∧ (Cond.static y).before (ka K) (ks K) = true := ⟨callB_of n C.2.2.2.2.1 (gIn y cc mL ret hy.1) rfl rfl rfl (C.2.2.2.2.1 _ hy.2.1) (C.2.2.2.2.1 _ hlk) hy.2.2 (by rw [hR]; exact rm_le hdd hmm), hw⟩
    exact call_end (idx := idx) hl hS (va_runS (As := As) (rest := st) hfix (hc H.size) cw hpre rfl hn hl.1 hst (lv_room hW) hd ⟨Nat.zero_le _, Nat.zero_le _⟩) h
  · have cw : va_CN (kR K) (ks K) (ka K) Z.2.1 idx y host cc mL ret (Cond.code y cc mL ret :: gw) (rmd d) 0 0 n := va_cnB n C.2.2.2.2.1 (gIn y cc mL ret hy.1) rfl rfl rfl (C.2.2.2.2.2.1.1 _ hlk) (C.2.2.2.2.1 _ hy.2.1) hy.2.2 (by rw [hR]; exact rm_le hdd hmm)
    exact call_end (idx := idx) hl hS (va_runSN (As := As) (rest := st) hfix (hc H.size) ⟨cw, hw, trivial⟩ hpre rfl hn hl.1 hst (lv_room hW) hd ⟨Nat.zero_le _, Nat.zero_le _⟩) h
/-- Math.max, Math.abs -/
def mmax (x y : Int32) : Int32 := if x < y then y else x
def mabs (x : Int32) : Int32 := if 0 ≤ x then x else 0 - x
def MX (own : String) (idx : Nat) : Prop := Cond.methodLink own idx Lib.Math.max.name ∈ gw ∧ Cond.static Lib.Math.max.name ∈ gw ∧ Cond.initialized "java/lang/Math" ∈ gw ∧ Cond.code Lib.Math.max.name Lib.Math.max.code 2 (some .int) ∈ gw
def MA (own : String) (idx : Nat) : Prop := Cond.methodLink own idx Lib.Math.abs.name ∈ gw ∧ Cond.static Lib.Math.abs.name ∈ gw ∧ Cond.initialized "java/lang/Math" ∈ gw ∧ Cond.code Lib.Math.abs.name Lib.Math.abs.code 1 (some .int) ∈ gw
theorem w_max (C : Cx K Z Y) {idx : Nat} {x y : Int32} (hd : decode Z.1 pc = .ok (.invokestatic idx, 3)) (hm : MX Z.2.1 idx) (hdd : Nat.blt 0 Z.2.2.2.1 = true) (hW : (st.map fun v => v.category).sum ≤ 8) (h : Wp K Z Y Q M (pc + 3) lv (.int (mmax x y) :: st)) : Wp K Z Y Q M pc lv (.int y :: .int x :: st) := by
  intro H locs ls hP hS hl
  have hR : (kR K) = rmd Z.2.2.2.1 := C.2.2.2.2.2.2.2.2.2.2.1
  have h0 : 0 < Z.2.2.2.1 := Nat.le_of_ble_eq_true hdd
  refine va_mmax C.1 C.2.1 (by rw [hl.1]; exact C.2.2.1) C.2.2.2.1 (C.2.2.2.2.1 _ hm.1) (C.2.2.2.2.1 _ hm.2.1) (C.2.2.2.2.1 _ hm.2.2.1) (C.2.2.2.2.1 _ hm.2.2.2) ?_ ?_ (Nat.zero_le _) (Nat.zero_le _) hd (h H locs ls hP hS hl)
  · rw [hR]; exact h0
  · rw [hR]
    show _ + 13 ≤ 32 * _
    omega
theorem w_abs (C : Cx K Z Y) {idx : Nat} {x : Int32} (hd : decode Z.1 pc = .ok (.invokestatic idx, 3)) (hm : MA Z.2.1 idx) (hdd : Nat.blt 0 Z.2.2.2.1 = true) (hW : (st.map fun v => v.category).sum ≤ 8) (h : Wp K Z Y Q M (pc + 3) lv (.int (mabs x) :: st)) : Wp K Z Y Q M pc lv (.int x :: st) := by
  intro H locs ls hP hS hl
  have hR : (kR K) = rmd Z.2.2.2.1 := C.2.2.2.2.2.2.2.2.2.2.1
  have h0 : 0 < Z.2.2.2.1 := Nat.le_of_ble_eq_true hdd
  refine va_mabs C.1 C.2.1 (by rw [hl.1]; exact C.2.2.1) C.2.2.2.1 (C.2.2.2.2.1 _ hm.1) (C.2.2.2.2.1 _ hm.2.1) (C.2.2.2.2.1 _ hm.2.2.1) (C.2.2.2.2.1 _ hm.2.2.2) ?_ ?_ (Nat.zero_le _) (Nat.zero_le _) hd (h H locs ls hP hS hl)
  · rw [hR]; exact h0
  · rw [hR]
    show _ + 13 ≤ 32 * _
    omega
/-- System.arraycopy(a, 0, b, 0, n) over whole int rows of n -/
def MC (own : String) (idx : Nat) : Prop := Cond.methodLink own idx arraycopyName ∈ gw ∧ Cond.native arraycopyName ∈ gw ∧ Cond.static arraycopyName ∈ gw ∧ Cond.initialized "java/lang/System" ∈ gw
theorem w_copy (C : Cx K Z Y) {idx k0 k1 n : Nat} {v : Int32} (hd : decode Z.1 pc = .ok (.invokestatic idx, 3)) (hm : MC Z.2.1 idx) (hdd : Nat.blt 0 Z.2.2.2.1 = true) (hW : (st.map fun v => v.category).sum ≤ 8) (h0 : Y.1[k0]? = some (.inl (.int, n))) (h1 : Y.1[k1]? = some (.inl (.int, n))) (hv : v = nI n) (hnn : Nat.blt n 1000 = true) (h : Wp K Z Y Q (mrow M k1 (va_cpy (M k0) (M k1) 0 0 n)) (pc + 3) lv st) : Wp K Z Y Q M pc lv (.int v :: .int 0 :: .ref (adr Y k1) :: .int 0 :: .ref (adr Y k0) :: st) := by
  intro H locs ls hP hS hl
  have hR : (kR K) = rmd Z.2.2.2.1 := C.2.2.2.2.2.2.2.2.2.2.1
  have hz : 0 < Z.2.2.2.1 := Nat.le_of_ble_eq_true hdd
  have hn : n < 2 ^ 31 := Nat.lt_trans (Nat.le_of_ble_eq_true hnn) (by decide)
  have ec : (nI n).toNatClampNeg = n := nI_clamp hn
  subst hv
  refine va_copyi (D := Y.2.1) (cl := vwCl) (ty := .int) C.1 C.2.1 (by rw [hl.1]; exact C.2.2.1) C.2.2.2.1 (C.2.2.2.2.1 _ hm.1) (C.2.2.2.2.1 _ hm.2.1) (C.2.2.2.2.1 _ hm.2.2.1) (C.2.2.2.2.1 _ hm.2.2.2) C.2.2.2.2.2.2.1 hP (apt_D C.2.2.2.2.2.2.2.1 (ks K).heap.size M) hS k0 k1 0 0 (wsO_at h0) (wsO_at h1) rfl rfl rfl (by decide) (by decide) (nI_pos hn) (by rw [ec]; show (0 : Int32).toNatClampNeg + n ≤ n; rw [sb_cl0]; omega) (by rw [ec]; show (0 : Int32).toNatClampNeg + n ≤ n; rw [sb_cl0]; omega) (fun i _ => rfl) ?_ ?_ hd (fun H1 locs1 hP1 _ hS1 => ?_)
  · rw [hR]; exact hz
  · rw [hR]
    have : nativeFrameWords "java/lang/System" "arraycopy" 5 + 11 ≤ 24 := by decide +kernel
    show _ + (_ + 11) ≤ 32 * _
    omega
  · rw [ec, sb_cl0, wsO_arr h1] at hP1
    exact h H1 locs1 ls hP1 hS1 hl
/-- returns -/
theorem w_iret (C : Cx K Z Y) {v : Int32} {q : Int32 × Mm} (hd : decode Z.1 pc = .ok (.ireturn, 1)) (hr : Z.2.2.2.2 = some .int) (h : some (v, M) = some q) : Wp K Z Y (Qm K Y (some q.1) q.2) M pc lv [.int v] := by
  intro H locs ls hP hS hl
  obtain rfl := Option.some.inj h
  exact W.iret (Qc := Qr Y (ks K).heap.size (some v) M) C.1 C.2.1 (by rw [C.2.2.2.2.2.2.2.2.2.2.2]; exact hr) (fun t ht _ => ⟨rfl, by rw [ht]; exact hP, hS.F ht⟩) hS.2.2 hd C.2.2.2.2.2.2.2.2.2.1
theorem w_zret (C : Cx K Z Y) {v : Int32} {q : Int32 × Mm} (hd : decode Z.1 pc = .ok (.ireturn, 1)) (hr : Z.2.2.2.2 = some .boolean) (hz : v &&& 1 = v) (h : some (v, M) = some q) : Wp K Z Y (Qm K Y (some q.1) q.2) M pc lv [.int v] := by
  intro H locs ls hP hS hl
  obtain rfl := Option.some.inj h
  exact W.zret (Qc := Qr Y (ks K).heap.size (some v) M) C.1 C.2.1 (by rw [C.2.2.2.2.2.2.2.2.2.2.2]; exact hr) (by show Value.int (v &&& 1) = _; rw [hz]) (fun t ht _ => ⟨rfl, by rw [ht]; exact hP, hS.F ht⟩) hS.2.2 hd C.2.2.2.2.2.2.2.2.2.1
theorem w_iretR (C : Cx K Z Y) {v q : Int32} (hd : decode Z.1 pc = .ok (.ireturn, 1)) (hr : Z.2.2.2.2 = some .int) (h : some v = some q) : Wp K Z Y (Qm K Y (some q) M) M pc lv [.int v] := w_iret (q := (q, M)) C hd hr (by rw [Option.some.inj h])
theorem w_zretR (C : Cx K Z Y) {v q : Int32} (hd : decode Z.1 pc = .ok (.ireturn, 1)) (hr : Z.2.2.2.2 = some .boolean) (hz : v &&& 1 = v) (h : some v = some q) : Wp K Z Y (Qm K Y (some q) M) M pc lv [.int v] := w_zret (q := (q, M)) C hd hr hz (by rw [Option.some.inj h])
theorem w_vret (C : Cx K Z Y) {q : Mm} (hd : decode Z.1 pc = .ok (.return_, 1)) (hr : Z.2.2.2.2 = none) (h : some M = some q) : Wp K Z Y (Qm K Y none q) M pc lv [] := by
  intro H locs ls hP hS hl
  obtain rfl := Option.some.inj h
  exact W.vret (Qc := Qr Y (ks K).heap.size none M) C.1 C.2.1 (by rw [C.2.2.2.2.2.2.2.2.2.2.2]; exact hr) (fun t ht _ => ⟨rfl, by rw [ht]; exact hP, hS.F ht⟩) hS.2.2 hd C.2.2.2.2.2.2.2.2.2.1
end CALLS
theorem Ct.of {l : Launch} {Y : Sx} {y : MethodName} {cc : ByteArray} {mL d : Nat} {ret : Option FieldType} {av : List Value} {lv : List (Nat × Value)} {M M' : Mm} {r : Option Int32} (hy : plainName y.cls = true) (hlen : Nat.ble (lg_sl av).length mL = true) (hlv : lv_args 0 av = lv) (body : ∀ K : Pk, kl K = l → Cx K (cc, y.cls, mL, d, ret) Y → Wp K (cc, y.cls, mL, d, ret) Y (Qm K Y r M') M 0 lv []) : Ct l Y y cc mL ret d av M r M' := by
  intro sz
  refine Met.ofW (cc := cc) (maxL := mL) (ret := ret) hy rfl ?_
  intro p e s m args below meth c s₁ B hml hv
  obtain ⟨rfl, hsz, hP, hK, hN, hE, hap⟩ := hv
  subst hsz
  have hts := atoms_spec (ws := Cond.code y cc mL ret :: gw) B.pre
  have hown : s.vm.findClass y.cls = some m.cls := findClass_of_methodNamed B.named
  have C : Cx (p, l, e, rmd d, s, m, av.toArray, below, meth, c) (cc, y.cls, mL, d, ret) Y := ⟨B.exec, B.bytes, hml, hown, fun w hw => hts w (List.mem_cons_of_mem _ hw), hN, hK, hap, hE, B.notSynchronized, rfl, B.returns⟩
  have hl := lv_entry av (n := mL) (Nat.le_of_ble_eq_true hlen)
  rw [lg_entry_eq]
  rw [hlv] at hl
  exact body (p, l, e, rmd d, s, m, av.toArray, below, meth, c) rfl C s.heap [] _ hP va_S.rf hl
/-- a loop: from head to head (inl), or out (inr) -/
def itr {σ ρ : Type} (step : σ → Option (σ ⊕ ρ)) : Nat → σ → Option ρ
  | 0, _ => none
  | n + 1, s => match step s with
    | none => none
    | some (.inl s') => itr step n s'
    | some (.inr r) => some r
theorem itr_W {σ ρ : Type} {step : σ → Option (σ ⊕ ρ)} (P : σ → Prop) (R : ρ → Prop) (hb : ∀ s r, step s = some r → (∀ s', r = .inl s' → P s') → (∀ x, r = .inr x → R x) → P s) : ∀ (n : Nat) (s : σ) (x : ρ), itr step n s = some x → R x → P s
  | 0, s, x, h, _ => by cases h
  | n + 1, s, x, h, hR => by
    rw [itr] at h
    cases hs : step s with
    | none => rw [hs] at h; cases h
    | some q =>
      rw [hs] at h
      cases q with
      | inl s' => exact hb s _ hs (fun s2 e => by cases e; exact itr_W P R hb n s' x h hR) (fun y e => by cases e)
      | inr r => exact hb s _ hs (fun s2 e => by cases e) (fun y e => by cases e; cases h; exact hR)
theorem ob {α β : Type} {o : Option α} {f : α → Option β} {q : β} (h : o.bind f = some q) : ∃ a, o = some a ∧ f a = some q := Option.bind_eq_some_iff.mp h
def bnd {α β : Type} (e : α) (f : α → β) : β := f e
theorem it_t {α : Type} {c : Prop} [Decidable c] {x y z : α} (h : (if c then x else y) = z) (hc : c) : x = z := by rw [if_pos hc] at h; exact h
theorem it_f {α : Type} {c : Prop} [Decidable c] {x y z : α} (h : (if c then x else y) = z) (hc : ¬ c) : y = z := by rw [if_neg hc] at h; exact h
theorem w_bnd {K : Pk} {Z : Zx} {Y : Sx} {Q : State → Prop} {M : Mm} {pc : Nat} {lv : List (Nat × Value)} {st : List Value} {α : Type} {e : Int32} {f : Int32 → Option α} {q : α} (h : bnd e f = some q) (kk : ∀ x, f x = some q → Wp K Z Y Q M pc lv (.int x :: st)) : Wp K Z Y Q M pc lv (.int e :: st) := kk e h
/-- a boolean that was computed -/
def zb (v : Int32) : Option Int32 := if v &&& 1 = v then some v else none
theorem zb_some {v r : Int32} (h : zb v = some r) : v &&& 1 = v ∧ v = r := by
  unfold zb at h
  split at h
  · rename_i hi; exact ⟨hi, Option.some.inj h⟩
  · cases h
theorem bn {α β : Type} {e : α} {f : α → β} {q : β} (h : bnd e f = q) : ∃ x, e = x ∧ f x = q := ⟨e, rfl, h⟩
section RETS
variable {K : Pk} {Z : Zx} {Y : Sx} {Q : State → Prop} {M : Mm} {pc : Nat} {lv : List (Nat × Value)} {st : List Value}
theorem w_ret (C : Cx K Z Y) {v : Int32} {q : Int32 × Mm} (hd : decode Z.1 pc = .ok (.ireturn, 1)) (hr : Z.2.2.2.2 = some .int) (h : (v, M) = q) : Wp K Z Y (Qm K Y (some q.1) q.2) M pc lv [.int v] := w_iret C hd hr (by rw [h])
theorem w_retR (C : Cx K Z Y) {v q : Int32} (hd : decode Z.1 pc = .ok (.ireturn, 1)) (hr : Z.2.2.2.2 = some .int) (h : v = q) : Wp K Z Y (Qm K Y (some q) M) M pc lv [.int v] := w_iretR C hd hr (by rw [h])
theorem w_retV (C : Cx K Z Y) {q : Mm} (hd : decode Z.1 pc = .ok (.return_, 1)) (hr : Z.2.2.2.2 = none) (h : M = q) : Wp K Z Y (Qm K Y none q) M pc lv [] := w_vret C hd hr (by rw [h])
/-- a boolean is cut to its last bit -/
theorem w_retZ (C : Cx K Z Y) {v : Int32} {q : Int32 × Mm} (hd : decode Z.1 pc = .ok (.ireturn, 1)) (hr : Z.2.2.2.2 = some .boolean) (h : (v &&& 1, M) = q) : Wp K Z Y (Qm K Y (some q.1) q.2) M pc lv [.int v] := by
  intro H locs ls hP hS hl T hT X
  subst h
  have hrt : (kme K).sig.returnType = some .boolean := by rw [C.2.2.2.2.2.2.2.2.2.2.2]; exact hr
  have hlocks : (kme K).locks = false := C.2.2.2.2.2.2.2.2.2.1
  have hx := C.1
  have hb := C.2.1
  obtain ⟨fs, hret, hrun, hended, hW, hframe⟩ := X.leave (v := some (.int (v &&& 1))) (hlocks := hlocks) (fun h => by rw [hrt] at h; cases h)
  have hmeth' : T.vm.method? (km K) = some (kme K) := X.method'
  refine ⟨T.setFrames fs, ?_, .returned (some (.int (v &&& 1))), hrun, hended, ⟨rfl, by show va_P _ _ _ T.heap; rw [hT]; exact hP, hS.F hT⟩, locs, ⟨⟨_, rfl⟩, hW, hframe⟩, hS.2.2⟩
  jvm_step X.here [X.here.top, hx, hb, hd, hmeth', hrt, narrow]
  (try refine ⟨rfl, ?_⟩); (try refine ⟨rfl, ?_⟩)
  first | (intro acts; rw [hret _ acts rfl rfl rfl]) | rw [hret _ _ rfl rfl rfl]
  exact Steps.refl _
theorem w_retZR (C : Cx K Z Y) {v q : Int32} (hd : decode Z.1 pc = .ok (.ireturn, 1)) (hr : Z.2.2.2.2 = some .boolean) (h : v &&& 1 = q) : Wp K Z Y (Qm K Y (some q) M) M pc lv [.int v] := w_retZ (q := (q, M)) C hd hr (by rw [h])
theorem w_retz (C : Cx K Z Y) {v : Int32} {q : Int32 × Mm} (hd : decode Z.1 pc = .ok (.ireturn, 1)) (hr : Z.2.2.2.2 = some .boolean) (hz : v &&& 1 = v) (h : (v, M) = q) : Wp K Z Y (Qm K Y (some q.1) q.2) M pc lv [.int v] := w_retZ C hd hr (by rw [hz]; exact h)
theorem w_retzR (C : Cx K Z Y) {v q : Int32} (hd : decode Z.1 pc = .ok (.ireturn, 1)) (hr : Z.2.2.2.2 = some .boolean) (hz : v &&& 1 = v) (h : v = q) : Wp K Z Y (Qm K Y (some q) M) M pc lv [.int v] := w_retz (q := (q, M)) C hd hr hz (by rw [h])
theorem w_putZ (C : Cx K Z Y) {idx ci i k : Nat} {fs : List (Option Nat)} {x : Int32} (hd : decode Z.1 pc = .ok (.putfield idx, 3)) (hF : FP Z.2.1 idx ci i .boolean) (hk : Y.1[k]? = some (.inr (ci, fs))) (hv : fs[i]? = some none) (hx : x = 0 ∨ x = 1) (h : Wp K Z Y Q (mset M k i x) (pc + 3) lv st) : Wp K Z Y Q M pc lv (.int x :: .ref (adr Y k) :: st) := by
  rcases hx with rfl | rfl
  · exact w_put C hd hF hk hv rfl rfl h
  · exact w_put C hd hF hk hv rfl rfl h
theorem w_ldcw (C : Cx K Z Y) {idx : Nat} {v : Int32} (hd : decode Z.1 pc = .ok (.ldc_w idx, 3)) (hc : Cond.constant Z.2.1 idx v ∈ gw) (h : Wp K Z Y Q M (pc + 3) lv (.int v :: st)) : Wp K Z Y Q M pc lv st := by
  intro H locs ls hP hS hl
  exact lv_ldcw C.1 C.2.1 C.2.2.2.1 (C.2.2.2.2.1 _ hc) hd (h H locs ls hP hS hl)
theorem w_ldcS (C : Cx K Z Y) {idx i : Nat} {tx : String} (hd : decode Z.1 pc = .ok (.ldc idx, 2)) (ho : Z.2.1 = "TruckWing$Teller") (hi : skT[i]? = some (idx, tx)) (h : Wp K Z Y Q M (pc + 2) lv (.ref (ska Y i) :: st)) : Wp K Z Y Q M pc lv st :=
  fun H locs ls hP hS hl => va_ldcS C.1 C.2.1 C.2.2.2.1 (by rw [ho]; exact C.2.2.2.2.2.1.2 i _ hi) hd (h H locs ls hP hS hl)
end RETS
section CWR
variable {K : Pk} {Z : Zx} {Y : Sx} {Q : State → Prop} {M : Mm} {pc : Nat} {lv : List (Nat × Value)} {st : List Value}
theorem w_cVi (C : Cx K Z Y) {idx ci k n mL d : Nat} {y : MethodName} {cc : ByteArray} {ret : Option FieldType} {fs : List (Option Nat)} {T : u_T} {N : Nat} {v : Int32} {M' : Mm} {stk : List Value} (hd : decode Z.1 pc = .ok (.invokevirtual idx, 3)) (hy : MY y cc mL ret n) (hi : MI y) (hlk : ML Z.2.1 idx y) (hk : Y.1[k]? = some (.inr (ci, fs))) (hci : vwCl[ci]? = some (y.cls, T, N)) (hdd : Nat.blt d Z.2.2.2.1 = true) (hmm : Nat.ble mL 13 = true)
    (As : List Value) (hn : As.length = n) (hst : stk = As.reverse ++ .ref (adr Y k) :: st) (hW : (st.map fun v => v.category).sum ≤ 8) (hc : Ct (kl K) Y y cc mL ret d (.ref (adr Y k) :: As) M (some v) M') (h : Wp K Z Y Q M' (pc + 3) lv (.int v :: st)) : Wp K Z Y Q M pc lv stk := w_callV C hd hy hi hlk hk hci hdd hmm As hn hst hW hc h
theorem w_cVv (C : Cx K Z Y) {idx ci k n mL d : Nat} {y : MethodName} {cc : ByteArray} {ret : Option FieldType} {fs : List (Option Nat)} {T : u_T} {N : Nat} {M' : Mm} {stk : List Value} (hd : decode Z.1 pc = .ok (.invokevirtual idx, 3)) (hy : MY y cc mL ret n) (hi : MI y) (hlk : ML Z.2.1 idx y) (hk : Y.1[k]? = some (.inr (ci, fs))) (hci : vwCl[ci]? = some (y.cls, T, N)) (hdd : Nat.blt d Z.2.2.2.1 = true) (hmm : Nat.ble mL 13 = true)
    (As : List Value) (hn : As.length = n) (hst : stk = As.reverse ++ .ref (adr Y k) :: st) (hW : (st.map fun v => v.category).sum ≤ 8) (hc : Ct (kl K) Y y cc mL ret d (.ref (adr Y k) :: As) M none M') (h : Wp K Z Y Q M' (pc + 3) lv st) : Wp K Z Y Q M pc lv stk := w_callV C hd hy hi hlk hk hci hdd hmm As hn hst hW hc h
theorem w_cSi (C : Cx K Z Y) {idx n mL d : Nat} {y : MethodName} {cc : ByteArray} {ret : Option FieldType} {v : Int32} {M' : Mm} {stk : List Value} (hd : decode Z.1 pc = .ok (.invokestatic idx, 3)) (hy : MY y cc mL ret n) (hi : Cond.static y ∈ gw) (hlk : ML Z.2.1 idx y) (hdd : Nat.blt d Z.2.2.2.1 = true) (hmm : Nat.ble mL 13 = true)
    (As : List Value) (hn : As.length = n) (hst : stk = As.reverse ++ st) (hW : (st.map fun v => v.category).sum ≤ 8) (hc : Ct (kl K) Y y cc mL ret d As M (some v) M') (h : Wp K Z Y Q M' (pc + 3) lv (.int v :: st)) : Wp K Z Y Q M pc lv stk := w_callS C hd hy hi hlk hdd hmm As hn hst hW hc h
end CWR
def fuel : Nat := 6000
theorem gw_sub (ws : List Cond) (ps : List Nat) (hp : ws = ps.filterMap (fun i => tables_1[i]?)) (hg : ws.all goodWord = true) : ∀ w ∈ ws, w ∈ gw := by
  intro w hw
  have h1 := List.all_eq_true.mp hg w hw
  rw [hp] at hw
  obtain ⟨i, -, hi⟩ := List.mem_filterMap.mp hw
  exact gw_mem (tb_mem i hi) h1
def isLand (Y : Sx) (b : Nat) : Prop := Y.1[b]? = some (.inr (3, [none, some (b + 1), some (b + 2)])) ∧ Y.1[b + 1]? = some (.inl (.int, 45)) ∧ Y.1[b + 2]? = some (.inl (.int, 10))
def isPlan (Y : Sx) (b : Nat) : Prop := Y.1[b]? = some (.inr (4, [none, none, some (b + 1), some (b + 2)])) ∧ Y.1[b + 1]? = some (.inl (.int, 8)) ∧ Y.1[b + 2]? = some (.inl (.int, 32))
def isFound (Y : Sx) (b : Nat) : Prop := Y.1[b]? = some (.inr (2, [none, none, none]))
def zo (v : Int32) : Option Int32 := if v = 0 ∨ v = 1 then some v else none
theorem zo_some {v x : Int32} (h : zo v = some x) : (v = 0 ∨ v = 1) ∧ v = x := by
  unfold zo at h
  split at h
  · rename_i hi; exact ⟨hi, Option.some.inj h⟩
  · cases h
/-- charAt of a constant text -/
def sca (w : Nat) (x : Int32) : Option Int32 := if inb x (skL.getD w 0) = true then some ((skB.getD w []).getD x.toNatClampNeg 0) else none
end
section
def shA : List Sd := [.inr (8, [some 1, some 4, some 7, some 17, some 29, some 31, some 39, some 40]), .inr (3, [none, some 2, some 3]), .inl (.int, 45), .inl (.int, 10), .inr (4, [none, none, some 5, some 6]), .inl (.int, 8), .inl (.int, 32), .inr (0, [some 1, some 4, some 8, none, some 10, some 11, some 12, some 13, some 14, some 15, some 16]), .inr (1, [none, some 9]), .inl (.int, 26), .inl (.int, 10), .inl (.int, 10), .inl (.int, 10), .inl (.int, 10), .inl (.int, 8), .inl (.int, 8), .inl (.int, 8), .inr (5, [some 1, none, none, none, none, none, none, some 18, some 19, some 20, some 21, some 22, some 23, some 24, some 25, some 26, some 27, some 28]), .inl (.int, 81), .inl (.int, 81), .inl (.int, 9), .inl (.boolean, 9), .inl (.int, 10), .inl (.int, 10), .inl (.int, 10), .inl (.int, 10), .inl (.int, 10), .inl (.int, 10), .inl (.int, 10), .inr (6, [none, some 30]), .inl (.int, 300), .inr (7, [some 29, some 32, some 35, some 38, none, none, none, none, none, none]), .inr (3, [none, some 33, some 34]), .inl (.int, 45), .inl (.int, 10), .inr (4, [none, none, some 36, some 37]), .inl (.int, 8), .inl (.int, 32), .inl (.int, 8), .inr (2, [none, none, none]), .inr (2, [none, none, none])]
def isA (Y : Sx) : Prop := Y.1 = shA
theorem sA_0 {Y : Sx} (h : isA Y) : Y.1[0]? = some (.inr (8, [some 1, some 4, some 7, some 17, some 29, some 31, some 39, some 40])) := by rw [h]; rfl
theorem sA_1 {Y : Sx} (h : isA Y) : Y.1[1]? = some (.inr (3, [none, some 2, some 3])) := by rw [h]; rfl
theorem sA_2 {Y : Sx} (h : isA Y) : Y.1[2]? = some (.inl (.int, 45)) := by rw [h]; rfl
theorem sA_3 {Y : Sx} (h : isA Y) : Y.1[3]? = some (.inl (.int, 10)) := by rw [h]; rfl
theorem sA_4 {Y : Sx} (h : isA Y) : Y.1[4]? = some (.inr (4, [none, none, some 5, some 6])) := by rw [h]; rfl
theorem sA_5 {Y : Sx} (h : isA Y) : Y.1[5]? = some (.inl (.int, 8)) := by rw [h]; rfl
theorem sA_6 {Y : Sx} (h : isA Y) : Y.1[6]? = some (.inl (.int, 32)) := by rw [h]; rfl
theorem sA_7 {Y : Sx} (h : isA Y) : Y.1[7]? = some (.inr (0, [some 1, some 4, some 8, none, some 10, some 11, some 12, some 13, some 14, some 15, some 16])) := by rw [h]; rfl
theorem sA_8 {Y : Sx} (h : isA Y) : Y.1[8]? = some (.inr (1, [none, some 9])) := by rw [h]; rfl
theorem sA_9 {Y : Sx} (h : isA Y) : Y.1[9]? = some (.inl (.int, 26)) := by rw [h]; rfl
theorem sA_10 {Y : Sx} (h : isA Y) : Y.1[10]? = some (.inl (.int, 10)) := by rw [h]; rfl
theorem sA_11 {Y : Sx} (h : isA Y) : Y.1[11]? = some (.inl (.int, 10)) := by rw [h]; rfl
theorem sA_12 {Y : Sx} (h : isA Y) : Y.1[12]? = some (.inl (.int, 10)) := by rw [h]; rfl
theorem sA_13 {Y : Sx} (h : isA Y) : Y.1[13]? = some (.inl (.int, 10)) := by rw [h]; rfl
theorem sA_14 {Y : Sx} (h : isA Y) : Y.1[14]? = some (.inl (.int, 8)) := by rw [h]; rfl
theorem sA_15 {Y : Sx} (h : isA Y) : Y.1[15]? = some (.inl (.int, 8)) := by rw [h]; rfl
theorem sA_16 {Y : Sx} (h : isA Y) : Y.1[16]? = some (.inl (.int, 8)) := by rw [h]; rfl
theorem sA_17 {Y : Sx} (h : isA Y) : Y.1[17]? = some (.inr (5, [some 1, none, none, none, none, none, none, some 18, some 19, some 20, some 21, some 22, some 23, some 24, some 25, some 26, some 27, some 28])) := by rw [h]; rfl
theorem sA_18 {Y : Sx} (h : isA Y) : Y.1[18]? = some (.inl (.int, 81)) := by rw [h]; rfl
theorem sA_19 {Y : Sx} (h : isA Y) : Y.1[19]? = some (.inl (.int, 81)) := by rw [h]; rfl
theorem sA_20 {Y : Sx} (h : isA Y) : Y.1[20]? = some (.inl (.int, 9)) := by rw [h]; rfl
theorem sA_21 {Y : Sx} (h : isA Y) : Y.1[21]? = some (.inl (.boolean, 9)) := by rw [h]; rfl
theorem sA_22 {Y : Sx} (h : isA Y) : Y.1[22]? = some (.inl (.int, 10)) := by rw [h]; rfl
theorem sA_23 {Y : Sx} (h : isA Y) : Y.1[23]? = some (.inl (.int, 10)) := by rw [h]; rfl
theorem sA_24 {Y : Sx} (h : isA Y) : Y.1[24]? = some (.inl (.int, 10)) := by rw [h]; rfl
theorem sA_25 {Y : Sx} (h : isA Y) : Y.1[25]? = some (.inl (.int, 10)) := by rw [h]; rfl
theorem sA_26 {Y : Sx} (h : isA Y) : Y.1[26]? = some (.inl (.int, 10)) := by rw [h]; rfl
theorem sA_27 {Y : Sx} (h : isA Y) : Y.1[27]? = some (.inl (.int, 10)) := by rw [h]; rfl
theorem sA_28 {Y : Sx} (h : isA Y) : Y.1[28]? = some (.inl (.int, 10)) := by rw [h]; rfl
theorem sA_29 {Y : Sx} (h : isA Y) : Y.1[29]? = some (.inr (6, [none, some 30])) := by rw [h]; rfl
theorem sA_30 {Y : Sx} (h : isA Y) : Y.1[30]? = some (.inl (.int, 300)) := by rw [h]; rfl
theorem sA_31 {Y : Sx} (h : isA Y) : Y.1[31]? = some (.inr (7, [some 29, some 32, some 35, some 38, none, none, none, none, none, none])) := by rw [h]; rfl
theorem sA_32 {Y : Sx} (h : isA Y) : Y.1[32]? = some (.inr (3, [none, some 33, some 34])) := by rw [h]; rfl
theorem sA_33 {Y : Sx} (h : isA Y) : Y.1[33]? = some (.inl (.int, 45)) := by rw [h]; rfl
theorem sA_34 {Y : Sx} (h : isA Y) : Y.1[34]? = some (.inl (.int, 10)) := by rw [h]; rfl
theorem sA_35 {Y : Sx} (h : isA Y) : Y.1[35]? = some (.inr (4, [none, none, some 36, some 37])) := by rw [h]; rfl
theorem sA_36 {Y : Sx} (h : isA Y) : Y.1[36]? = some (.inl (.int, 8)) := by rw [h]; rfl
theorem sA_37 {Y : Sx} (h : isA Y) : Y.1[37]? = some (.inl (.int, 32)) := by rw [h]; rfl
theorem sA_38 {Y : Sx} (h : isA Y) : Y.1[38]? = some (.inl (.int, 8)) := by rw [h]; rfl
theorem sA_39 {Y : Sx} (h : isA Y) : Y.1[39]? = some (.inr (2, [none, none, none])) := by rw [h]; rfl
theorem sA_40 {Y : Sx} (h : isA Y) : Y.1[40]? = some (.inr (2, [none, none, none])) := by rw [h]; rfl
def shB : List Sd := [.inr (9, [none, some 1, some 2, some 3, none, none, none, none, none, some 4, some 5, some 6, some 7, some 8, some 9, some 10, some 11, some 12, none, some 13, some 14, some 15, some 16, some 17, some 18, none, none]), .inl (.int, 160), .inl (.int, 160), .inl (.byte, 300), .inl (.int, 10), .inl (.int, 10), .inl (.int, 10), .inl (.int, 10), .inl (.int, 8), .inl (.int, 8), .inl (.int, 8), .inl (.boolean, 8), .inl (.int, 200), .inl (.int, 10), .inl (.int, 10), .inl (.int, 10), .inl (.int, 10), .inl (.int, 10), .inl (.boolean, 10)]
def isB (Y : Sx) : Prop := Y.1 = shB
theorem sB_0 {Y : Sx} (h : isB Y) : Y.1[0]? = some (.inr (9, [none, some 1, some 2, some 3, none, none, none, none, none, some 4, some 5, some 6, some 7, some 8, some 9, some 10, some 11, some 12, none, some 13, some 14, some 15, some 16, some 17, some 18, none, none])) := by rw [h]; rfl
theorem sB_1 {Y : Sx} (h : isB Y) : Y.1[1]? = some (.inl (.int, 160)) := by rw [h]; rfl
theorem sB_2 {Y : Sx} (h : isB Y) : Y.1[2]? = some (.inl (.int, 160)) := by rw [h]; rfl
theorem sB_3 {Y : Sx} (h : isB Y) : Y.1[3]? = some (.inl (.byte, 300)) := by rw [h]; rfl
theorem sB_4 {Y : Sx} (h : isB Y) : Y.1[4]? = some (.inl (.int, 10)) := by rw [h]; rfl
theorem sB_5 {Y : Sx} (h : isB Y) : Y.1[5]? = some (.inl (.int, 10)) := by rw [h]; rfl
theorem sB_6 {Y : Sx} (h : isB Y) : Y.1[6]? = some (.inl (.int, 10)) := by rw [h]; rfl
theorem sB_7 {Y : Sx} (h : isB Y) : Y.1[7]? = some (.inl (.int, 10)) := by rw [h]; rfl
theorem sB_8 {Y : Sx} (h : isB Y) : Y.1[8]? = some (.inl (.int, 8)) := by rw [h]; rfl
theorem sB_9 {Y : Sx} (h : isB Y) : Y.1[9]? = some (.inl (.int, 8)) := by rw [h]; rfl
theorem sB_10 {Y : Sx} (h : isB Y) : Y.1[10]? = some (.inl (.int, 8)) := by rw [h]; rfl
theorem sB_11 {Y : Sx} (h : isB Y) : Y.1[11]? = some (.inl (.boolean, 8)) := by rw [h]; rfl
theorem sB_12 {Y : Sx} (h : isB Y) : Y.1[12]? = some (.inl (.int, 200)) := by rw [h]; rfl
theorem sB_13 {Y : Sx} (h : isB Y) : Y.1[13]? = some (.inl (.int, 10)) := by rw [h]; rfl
theorem sB_14 {Y : Sx} (h : isB Y) : Y.1[14]? = some (.inl (.int, 10)) := by rw [h]; rfl
theorem sB_15 {Y : Sx} (h : isB Y) : Y.1[15]? = some (.inl (.int, 10)) := by rw [h]; rfl
theorem sB_16 {Y : Sx} (h : isB Y) : Y.1[16]? = some (.inl (.int, 10)) := by rw [h]; rfl
theorem sB_17 {Y : Sx} (h : isB Y) : Y.1[17]? = some (.inl (.int, 10)) := by rw [h]; rfl
theorem sB_18 {Y : Sx} (h : isB Y) : Y.1[18]? = some (.inl (.boolean, 10)) := by rw [h]; rfl
theorem kLand_1 {Y : Sx} (h : isA Y) : isLand Y 1 := ⟨sA_1 h, sA_2 h, sA_3 h⟩
theorem kLand_32 {Y : Sx} (h : isA Y) : isLand Y 32 := ⟨sA_32 h, sA_33 h, sA_34 h⟩
theorem kPlan_4 {Y : Sx} (h : isA Y) : isPlan Y 4 := ⟨sA_4 h, sA_5 h, sA_6 h⟩
theorem kPlan_35 {Y : Sx} (h : isA Y) : isPlan Y 35 := ⟨sA_35 h, sA_36 h, sA_37 h⟩
theorem kFound_39 {Y : Sx} (h : isA Y) : isFound Y 39 := sA_39 h
theorem kFound_40 {Y : Sx} (h : isA Y) : isFound Y 40 := sA_40 h
def stL0 : List Int32 := [50, 50, 30, 30, 99]
def stL1 : List Int32 := [1, 1, -3, -3, 0, 1, 0, 0, 0, 0]
def stL2 : List Int32 := [9, 9, 3, 3, 99, 999, 9, 9, 2, 1]
def stL3 : List Int32 := [3, 2, 0, 0, 50, 100, 1, 1, 1, 1]
def stL4 : List Int32 := [2, 5, 2, 8, 4]
set_option maxRecDepth 20000 in
theorem tb_app {w : Cond} (h : w ∈ tables_1) : w ∈ lw_tbl := List.mem_append_right _ h
set_option maxRecDepth 20000 in
theorem tb1 {w : Cond} (i : Nat) (h : tables_1_1[i]? = some w) : w ∈ lw_tbl := tb_app (List.mem_append_left _ (List.mem_of_getElem? h))
set_option maxRecDepth 20000 in
theorem tb2 {w : Cond} (i : Nat) (h : tables_1_2[i]? = some w) : w ∈ lw_tbl := tb_app (List.mem_append_right _ (List.mem_append_left _ (List.mem_of_getElem? h)))
set_option maxRecDepth 20000 in
theorem tb3 {w : Cond} (i : Nat) (h : tables_1_3[i]? = some w) : w ∈ lw_tbl := tb_app (List.mem_append_right _ (List.mem_append_right _ (List.mem_append_left _ (List.mem_of_getElem? h))))
set_option maxRecDepth 20000 in
theorem tb4 {w : Cond} (i : Nat) (h : tables_1_4[i]? = some w) : w ∈ lw_tbl := tb_app (List.mem_append_right _ (List.mem_append_right _ (List.mem_append_right _ (List.mem_append_left _ (List.mem_of_getElem? h)))))
set_option maxRecDepth 20000 in
theorem tb5 {w : Cond} (i : Nat) (h : tables_1_5[i]? = some w) : w ∈ lw_tbl := tb_app (List.mem_append_right _ (List.mem_append_right _ (List.mem_append_right _ (List.mem_append_right _ (List.mem_append_left _ (List.mem_of_getElem? h))))))
set_option maxRecDepth 20000 in
theorem tb6 {w : Cond} (i : Nat) (h : tables_1_6[i]? = some w) : w ∈ lw_tbl := tb_app (List.mem_append_right _ (List.mem_append_right _ (List.mem_append_right _ (List.mem_append_right _ (List.mem_append_right _ (List.mem_of_getElem? h))))))
set_option maxRecDepth 20000 in
theorem sl1 {q : MethodName × Nat} (i : Nat) (h : lw_privs_1[i]? = some q) : Cond.selects q.1.cls q.1 q.1 ∈ lw_tbl := List.mem_append_left _ (List.mem_map.mpr ⟨q, (List.mem_append_left _ (List.mem_of_getElem? h)), rfl⟩)
set_option maxRecDepth 20000 in
theorem sl2 {q : MethodName × Nat} (i : Nat) (h : lw_privs_2[i]? = some q) : Cond.selects q.1.cls q.1 q.1 ∈ lw_tbl := List.mem_append_left _ (List.mem_map.mpr ⟨q, (List.mem_append_right _ (List.mem_append_left _ (List.mem_of_getElem? h))), rfl⟩)
set_option maxRecDepth 20000 in
theorem sl3 {q : MethodName × Nat} (i : Nat) (h : lw_privs_3[i]? = some q) : Cond.selects q.1.cls q.1 q.1 ∈ lw_tbl := List.mem_append_left _ (List.mem_map.mpr ⟨q, (List.mem_append_right _ (List.mem_append_right _ (List.mem_append_left _ (List.mem_of_getElem? h)))), rfl⟩)
set_option maxRecDepth 20000 in
theorem sl4 {q : MethodName × Nat} (i : Nat) (h : lw_privs_4[i]? = some q) : Cond.selects q.1.cls q.1 q.1 ∈ lw_tbl := List.mem_append_left _ (List.mem_map.mpr ⟨q, (List.mem_append_right _ (List.mem_append_right _ (List.mem_append_right _ (List.mem_append_left _ (List.mem_of_getElem? h))))), rfl⟩)
set_option maxRecDepth 20000 in
theorem sl5 {q : MethodName × Nat} (i : Nat) (h : lw_privs_5[i]? = some q) : Cond.selects q.1.cls q.1 q.1 ∈ lw_tbl := List.mem_append_left _ (List.mem_map.mpr ⟨q, (List.mem_append_right _ (List.mem_append_right _ (List.mem_append_right _ (List.mem_append_right _ (List.mem_append_left _ (List.mem_of_getElem? h)))))), rfl⟩)
set_option maxRecDepth 20000 in
theorem sl6 {q : MethodName × Nat} (i : Nat) (h : lw_privs_6[i]? = some q) : Cond.selects q.1.cls q.1 q.1 ∈ lw_tbl := List.mem_append_left _ (List.mem_map.mpr ⟨q, (List.mem_append_right _ (List.mem_append_right _ (List.mem_append_right _ (List.mem_append_right _ (List.mem_append_right _ (List.mem_append_left _ (List.mem_of_getElem? h))))))), rfl⟩)
set_option maxRecDepth 20000 in
theorem sl7 {q : MethodName × Nat} (i : Nat) (h : lw_privs_7[i]? = some q) : Cond.selects q.1.cls q.1 q.1 ∈ lw_tbl := List.mem_append_left _ (List.mem_map.mpr ⟨q, (List.mem_append_right _ (List.mem_append_right _ (List.mem_append_right _ (List.mem_append_right _ (List.mem_append_right _ (List.mem_append_right _ (List.mem_append_left _ (List.mem_of_getElem? h)))))))), rfl⟩)
set_option maxRecDepth 20000 in
theorem sl8 {q : MethodName × Nat} (i : Nat) (h : lw_privs_8[i]? = some q) : Cond.selects q.1.cls q.1 q.1 ∈ lw_tbl := List.mem_append_left _ (List.mem_map.mpr ⟨q, (List.mem_append_right _ (List.mem_append_right _ (List.mem_append_right _ (List.mem_append_right _ (List.mem_append_right _ (List.mem_append_right _ (List.mem_append_right _ (List.mem_append_left _ (List.mem_of_getElem? h))))))))), rfl⟩)
set_option maxRecDepth 20000 in
theorem sl9 {q : MethodName × Nat} (i : Nat) (h : lw_privs_9[i]? = some q) : Cond.selects q.1.cls q.1 q.1 ∈ lw_tbl := List.mem_append_left _ (List.mem_map.mpr ⟨q, (List.mem_append_right _ (List.mem_append_right _ (List.mem_append_right _ (List.mem_append_right _ (List.mem_append_right _ (List.mem_append_right _ (List.mem_append_right _ (List.mem_append_right _ (List.mem_of_getElem? h))))))))), rfl⟩)
set_option maxRecDepth 20000 in
theorem inWX0 : ∀ w ∈ u_ws RX0 TX0 11, w ∈ gw := gw_sub _ [118, 120, 122, 124, 126, 128, 130, 132, 134, 136, 138] (by decide +kernel) (by decide +kernel)
set_option maxRecDepth 20000 in
theorem inWX1 : ∀ w ∈ u_ws RX1 TX1 2, w ∈ gw := gw_sub _ [100, 102] (by decide +kernel) (by decide +kernel)
set_option maxRecDepth 20000 in
theorem inWX2 : ∀ w ∈ u_ws RX2 TX2 3, w ∈ gw := gw_sub _ [275, 277, 279] (by decide +kernel) (by decide +kernel)
set_option maxRecDepth 20000 in
theorem inWX3 : ∀ w ∈ u_ws RX3 TX3 3, w ∈ gw := gw_sub _ [52, 54, 56] (by decide +kernel) (by decide +kernel)
set_option maxRecDepth 20000 in
theorem inWX4 : ∀ w ∈ u_ws RX4 TX4 4, w ∈ gw := gw_sub _ [76, 78, 80, 82] (by decide +kernel) (by decide +kernel)
set_option maxRecDepth 20000 in
theorem inWX5 : ∀ w ∈ u_ws RX5 TX5 18, w ∈ gw := gw_sub _ [165, 167, 169, 171, 173, 175, 177, 179, 181, 183, 185, 187, 189, 191, 193, 195, 197, 199] (by decide +kernel) (by decide +kernel)
set_option maxRecDepth 20000 in
theorem inWX6 : ∀ w ∈ u_ws RX6 TX6 2, w ∈ gw := gw_sub _ [213, 215] (by decide +kernel) (by decide +kernel)
set_option maxRecDepth 20000 in
theorem inWX7 : ∀ w ∈ u_ws RX7 TX7 10, w ∈ gw := gw_sub _ [241, 243, 245, 247, 249, 251, 253, 255, 257, 259] (by decide +kernel) (by decide +kernel)
set_option maxRecDepth 20000 in
theorem inWX8 : ∀ w ∈ u_ws RX8 TX8 8, w ∈ gw := gw_sub _ [290, 292, 294, 296, 298, 300, 302, 304] (by decide +kernel) (by decide +kernel)
set_option maxRecDepth 20000 in
theorem inWX9 : ∀ w ∈ u_ws RX9 TX9 27, w ∈ gw := gw_sub _ [1009, 1011, 1013, 1015, 1017, 1019, 1021, 1023, 1025, 1027, 1029, 1031, 1033, 1035, 1037, 1039, 1041, 1043, 1045, 1047, 1049, 1051, 1053, 1055, 1057, 1059, 1061] (by decide +kernel) (by decide +kernel)
set_option maxRecDepth 20000 in
theorem f_X8_10 : FL RX8 10 8 0 := ⟨RX8, TX8, 8, rfl, by decide, inWX8, Or.inl (gw_mem (tb2 42 rfl) rfl)⟩
set_option maxRecDepth 20000 in
theorem f_X8_19 : FL RX8 19 8 1 := ⟨RX8, TX8, 8, rfl, by decide, inWX8, Or.inl (gw_mem (tb2 43 rfl) rfl)⟩
set_option maxRecDepth 20000 in
theorem f_X8_28 : FL RX8 28 8 2 := ⟨RX8, TX8, 8, rfl, by decide, inWX8, Or.inl (gw_mem (tb2 44 rfl) rfl)⟩
set_option maxRecDepth 20000 in
theorem f_X8_37 : FL RX8 37 8 3 := ⟨RX8, TX8, 8, rfl, by decide, inWX8, Or.inl (gw_mem (tb2 45 rfl) rfl)⟩
set_option maxRecDepth 20000 in
theorem f_X8_44 : FL RX8 44 8 4 := ⟨RX8, TX8, 8, rfl, by decide, inWX8, Or.inl (gw_mem (tb2 46 rfl) rfl)⟩
set_option maxRecDepth 20000 in
theorem f_X8_53 : FL RX8 53 8 5 := ⟨RX8, TX8, 8, rfl, by decide, inWX8, Or.inl (gw_mem (tb2 47 rfl) rfl)⟩
set_option maxRecDepth 20000 in
theorem f_X8_60 : FL RX8 60 8 6 := ⟨RX8, TX8, 8, rfl, by decide, inWX8, Or.inl (gw_mem (tb2 48 rfl) rfl)⟩
set_option maxRecDepth 20000 in
theorem f_X8_64 : FL RX8 64 8 7 := ⟨RX8, TX8, 8, rfl, by decide, inWX8, Or.inl (gw_mem (tb2 49 rfl) rfl)⟩
set_option maxRecDepth 20000 in
theorem f_X8_67 : FL RX8 67 6 0 := ⟨RX6, TX6, 2, rfl, by decide, inWX6, Or.inr ⟨"TruckWing", nw_mem (tb1 210 rfl) rfl⟩⟩
set_option maxRecDepth 20000 in
theorem f_X8_79 : FL RX8 79 7 1 := ⟨RX7, TX7, 10, rfl, by decide, inWX7, Or.inr ⟨"TruckWing", nw_mem (tb1 230 rfl) rfl⟩⟩
set_option maxRecDepth 20000 in
theorem f_X8_83 : FL RX8 83 7 2 := ⟨RX7, TX7, 10, rfl, by decide, inWX7, Or.inr ⟨"TruckWing", nw_mem (tb1 232 rfl) rfl⟩⟩
set_option maxRecDepth 20000 in
theorem f_X8_90 : FL RX8 90 7 5 := ⟨RX7, TX7, 10, rfl, by decide, inWX7, Or.inr ⟨"TruckWing", nw_mem (tb1 236 rfl) rfl⟩⟩
set_option maxRecDepth 20000 in
theorem f_X8_97 : FL RX8 97 3 0 := ⟨RX3, TX3, 3, rfl, by decide, inWX3, Or.inr ⟨"TruckWing", nw_mem (tb1 48 rfl) rfl⟩⟩
set_option maxRecDepth 20000 in
theorem f_X8_142 : FL RX8 142 4 1 := ⟨RX4, TX4, 4, rfl, by decide, inWX4, Or.inr ⟨"TruckWing", nw_mem (tb1 73 rfl) rfl⟩⟩
set_option maxRecDepth 20000 in
theorem f_X8_145 : FL RX8 145 4 0 := ⟨RX4, TX4, 4, rfl, by decide, inWX4, Or.inr ⟨"TruckWing", nw_mem (tb1 68 rfl) rfl⟩⟩
set_option maxRecDepth 20000 in
theorem f_X8_175 : FL RX8 175 0 3 := ⟨RX0, TX0, 11, rfl, by decide, inWX0, Or.inr ⟨"TruckWing", nw_mem (tb1 110 rfl) rfl⟩⟩
set_option maxRecDepth 20000 in
theorem f_X8_187 : FL RX8 187 0 2 := ⟨RX0, TX0, 11, rfl, by decide, inWX0, Or.inr ⟨"TruckWing", nw_mem (tb1 108 rfl) rfl⟩⟩
set_option maxRecDepth 20000 in
theorem f_X8_191 : FL RX8 191 1 0 := ⟨RX1, TX1, 2, rfl, by decide, inWX1, Or.inr ⟨"TruckWing", nw_mem (tb1 98 rfl) rfl⟩⟩
set_option maxRecDepth 20000 in
theorem f_X8_215 : FL RX8 215 2 1 := ⟨RX2, TX2, 3, rfl, by decide, inWX2, Or.inr ⟨"TruckWing", nw_mem (tb2 32 rfl) rfl⟩⟩
set_option maxRecDepth 20000 in
theorem f_X8_218 : FL RX8 218 2 2 := ⟨RX2, TX2, 3, rfl, by decide, inWX2, Or.inr ⟨"TruckWing", nw_mem (tb2 34 rfl) rfl⟩⟩
set_option maxRecDepth 20000 in
theorem f_X8_236 : FL RX8 236 2 0 := ⟨RX2, TX2, 3, rfl, by decide, inWX2, Or.inr ⟨"TruckWing", nw_mem (tb2 29 rfl) rfl⟩⟩
set_option maxRecDepth 20000 in
theorem f_X0_12 : FL RX0 12 0 2 := ⟨RX0, TX0, 11, rfl, by decide, inWX0, Or.inl (gw_mem (tb1 107 rfl) rfl)⟩
set_option maxRecDepth 20000 in
theorem f_X0_18 : FL RX0 18 0 4 := ⟨RX0, TX0, 11, rfl, by decide, inWX0, Or.inl (gw_mem (tb1 111 rfl) rfl)⟩
set_option maxRecDepth 20000 in
theorem f_X0_22 : FL RX0 22 0 5 := ⟨RX0, TX0, 11, rfl, by decide, inWX0, Or.inl (gw_mem (tb1 112 rfl) rfl)⟩
set_option maxRecDepth 20000 in
theorem f_X0_25 : FL RX0 25 0 6 := ⟨RX0, TX0, 11, rfl, by decide, inWX0, Or.inl (gw_mem (tb1 113 rfl) rfl)⟩
set_option maxRecDepth 20000 in
theorem f_X0_28 : FL RX0 28 0 7 := ⟨RX0, TX0, 11, rfl, by decide, inWX0, Or.inl (gw_mem (tb1 114 rfl) rfl)⟩
set_option maxRecDepth 20000 in
theorem f_X0_31 : FL RX0 31 0 8 := ⟨RX0, TX0, 11, rfl, by decide, inWX0, Or.inl (gw_mem (tb1 115 rfl) rfl)⟩
set_option maxRecDepth 20000 in
theorem f_X0_34 : FL RX0 34 0 9 := ⟨RX0, TX0, 11, rfl, by decide, inWX0, Or.inl (gw_mem (tb1 116 rfl) rfl)⟩
set_option maxRecDepth 20000 in
theorem f_X0_37 : FL RX0 37 0 10 := ⟨RX0, TX0, 11, rfl, by decide, inWX0, Or.inl (gw_mem (tb1 117 rfl) rfl)⟩
set_option maxRecDepth 20000 in
theorem f_X0_40 : FL RX0 40 0 0 := ⟨RX0, TX0, 11, rfl, by decide, inWX0, Or.inl (gw_mem (tb1 105 rfl) rfl)⟩
set_option maxRecDepth 20000 in
theorem f_X0_44 : FL RX0 44 0 1 := ⟨RX0, TX0, 11, rfl, by decide, inWX0, Or.inl (gw_mem (tb1 106 rfl) rfl)⟩
set_option maxRecDepth 20000 in
theorem f_X0_52 : FL RX0 52 0 3 := ⟨RX0, TX0, 11, rfl, by decide, inWX0, Or.inl (gw_mem (tb1 109 rfl) rfl)⟩
set_option maxRecDepth 20000 in
theorem f_X0_77 : FL RX0 77 4 1 := ⟨RX4, TX4, 4, rfl, by decide, inWX4, Or.inr ⟨"TruckWing", nw_mem (tb1 72 rfl) rfl⟩⟩
set_option maxRecDepth 20000 in
theorem f_X0_98 : FL RX0 98 4 0 := ⟨RX4, TX4, 4, rfl, by decide, inWX4, Or.inr ⟨"TruckWing", nw_mem (tb1 67 rfl) rfl⟩⟩
set_option maxRecDepth 20000 in
theorem f_X0_104 : FL RX0 104 3 0 := ⟨RX3, TX3, 3, rfl, by decide, inWX3, Or.inr ⟨"TruckWing", nw_mem (tb1 49 rfl) rfl⟩⟩
set_option maxRecDepth 20000 in
theorem f_X1_11 : FL RX1 11 1 1 := ⟨RX1, TX1, 2, rfl, by decide, inWX1, Or.inl (gw_mem (tb1 99 rfl) rfl)⟩
set_option maxRecDepth 20000 in
theorem f_X1_15 : FL RX1 15 1 0 := ⟨RX1, TX1, 2, rfl, by decide, inWX1, Or.inl (gw_mem (tb1 97 rfl) rfl)⟩
set_option maxRecDepth 20000 in
theorem f_X3_9 : FL RX3 9 3 1 := ⟨RX3, TX3, 3, rfl, by decide, inWX3, Or.inl (gw_mem (tb1 50 rfl) rfl)⟩
set_option maxRecDepth 20000 in
theorem f_X3_23 : FL RX3 23 3 2 := ⟨RX3, TX3, 3, rfl, by decide, inWX3, Or.inl (gw_mem (tb1 51 rfl) rfl)⟩
set_option maxRecDepth 20000 in
theorem f_X3_35 : FL RX3 35 3 0 := ⟨RX3, TX3, 3, rfl, by decide, inWX3, Or.inl (gw_mem (tb1 46 rfl) rfl)⟩
set_option maxRecDepth 20000 in
theorem f_X4_9 : FL RX4 9 4 2 := ⟨RX4, TX4, 4, rfl, by decide, inWX4, Or.inl (gw_mem (tb1 74 rfl) rfl)⟩
set_option maxRecDepth 20000 in
theorem f_X4_15 : FL RX4 15 4 3 := ⟨RX4, TX4, 4, rfl, by decide, inWX4, Or.inl (gw_mem (tb1 75 rfl) rfl)⟩
set_option maxRecDepth 20000 in
theorem f_X4_18 : FL RX4 18 4 0 := ⟨RX4, TX4, 4, rfl, by decide, inWX4, Or.inl (gw_mem (tb1 66 rfl) rfl)⟩
set_option maxRecDepth 20000 in
theorem f_X4_22 : FL RX4 22 4 1 := ⟨RX4, TX4, 4, rfl, by decide, inWX4, Or.inl (gw_mem (tb1 70 rfl) rfl)⟩
set_option maxRecDepth 20000 in
theorem f_X5_9 : FL RX5 9 5 7 := ⟨RX5, TX5, 18, rfl, by decide, inWX5, Or.inl (gw_mem (tb1 154 rfl) rfl)⟩
set_option maxRecDepth 20000 in
theorem f_X5_15 : FL RX5 15 5 8 := ⟨RX5, TX5, 18, rfl, by decide, inWX5, Or.inl (gw_mem (tb1 155 rfl) rfl)⟩
set_option maxRecDepth 20000 in
theorem f_X5_18 : FL RX5 18 5 9 := ⟨RX5, TX5, 18, rfl, by decide, inWX5, Or.inl (gw_mem (tb1 156 rfl) rfl)⟩
set_option maxRecDepth 20000 in
theorem f_X5_21 : FL RX5 21 5 10 := ⟨RX5, TX5, 18, rfl, by decide, inWX5, Or.inl (gw_mem (tb1 157 rfl) rfl)⟩
set_option maxRecDepth 20000 in
theorem f_X5_25 : FL RX5 25 5 11 := ⟨RX5, TX5, 18, rfl, by decide, inWX5, Or.inl (gw_mem (tb1 158 rfl) rfl)⟩
set_option maxRecDepth 20000 in
theorem f_X5_28 : FL RX5 28 5 12 := ⟨RX5, TX5, 18, rfl, by decide, inWX5, Or.inl (gw_mem (tb1 159 rfl) rfl)⟩
set_option maxRecDepth 20000 in
theorem f_X5_31 : FL RX5 31 5 13 := ⟨RX5, TX5, 18, rfl, by decide, inWX5, Or.inl (gw_mem (tb1 160 rfl) rfl)⟩
set_option maxRecDepth 20000 in
theorem f_X5_34 : FL RX5 34 5 14 := ⟨RX5, TX5, 18, rfl, by decide, inWX5, Or.inl (gw_mem (tb1 161 rfl) rfl)⟩
set_option maxRecDepth 20000 in
theorem f_X5_37 : FL RX5 37 5 15 := ⟨RX5, TX5, 18, rfl, by decide, inWX5, Or.inl (gw_mem (tb1 162 rfl) rfl)⟩
set_option maxRecDepth 20000 in
theorem f_X5_40 : FL RX5 40 5 16 := ⟨RX5, TX5, 18, rfl, by decide, inWX5, Or.inl (gw_mem (tb1 163 rfl) rfl)⟩
set_option maxRecDepth 20000 in
theorem f_X5_43 : FL RX5 43 5 17 := ⟨RX5, TX5, 18, rfl, by decide, inWX5, Or.inl (gw_mem (tb1 164 rfl) rfl)⟩
set_option maxRecDepth 20000 in
theorem f_X5_46 : FL RX5 46 5 0 := ⟨RX5, TX5, 18, rfl, by decide, inWX5, Or.inl (gw_mem (tb1 147 rfl) rfl)⟩
set_option maxRecDepth 20000 in
theorem f_X5_50 : FL RX5 50 3 0 := ⟨RX3, TX3, 3, rfl, by decide, inWX3, Or.inr ⟨"TruckWing", nw_mem (tb1 45 rfl) rfl⟩⟩
set_option maxRecDepth 20000 in
theorem f_X5_56 : FL RX5 56 5 6 := ⟨RX5, TX5, 18, rfl, by decide, inWX5, Or.inl (gw_mem (tb1 153 rfl) rfl)⟩
set_option maxRecDepth 20000 in
theorem f_X5_63 : FL RX5 63 5 1 := ⟨RX5, TX5, 18, rfl, by decide, inWX5, Or.inl (gw_mem (tb1 148 rfl) rfl)⟩
set_option maxRecDepth 20000 in
theorem f_X5_70 : FL RX5 70 5 2 := ⟨RX5, TX5, 18, rfl, by decide, inWX5, Or.inl (gw_mem (tb1 149 rfl) rfl)⟩
set_option maxRecDepth 20000 in
theorem f_X5_73 : FL RX5 73 5 3 := ⟨RX5, TX5, 18, rfl, by decide, inWX5, Or.inl (gw_mem (tb1 150 rfl) rfl)⟩
set_option maxRecDepth 20000 in
theorem f_X5_76 : FL RX5 76 5 4 := ⟨RX5, TX5, 18, rfl, by decide, inWX5, Or.inl (gw_mem (tb1 151 rfl) rfl)⟩
set_option maxRecDepth 20000 in
theorem f_X5_79 : FL RX5 79 5 5 := ⟨RX5, TX5, 18, rfl, by decide, inWX5, Or.inl (gw_mem (tb1 152 rfl) rfl)⟩
set_option maxRecDepth 20000 in
theorem f_X5_164 : FL RX5 164 2 1 := ⟨RX2, TX2, 3, rfl, by decide, inWX2, Or.inr ⟨"TruckWing", nw_mem (tb2 31 rfl) rfl⟩⟩
set_option maxRecDepth 20000 in
theorem f_X5_182 : FL RX5 182 4 0 := ⟨RX4, TX4, 4, rfl, by decide, inWX4, Or.inr ⟨"TruckWing", nw_mem (tb1 69 rfl) rfl⟩⟩
set_option maxRecDepth 20000 in
theorem f_X6_9 : FL RX6 9 6 1 := ⟨RX6, TX6, 2, rfl, by decide, inWX6, Or.inl (gw_mem (tb1 212 rfl) rfl)⟩
set_option maxRecDepth 20000 in
theorem f_X6_15 : FL RX6 15 6 0 := ⟨RX6, TX6, 2, rfl, by decide, inWX6, Or.inl (gw_mem (tb1 209 rfl) rfl)⟩
set_option maxRecDepth 20000 in
theorem f_X7_12 : FL RX7 12 7 1 := ⟨RX7, TX7, 10, rfl, by decide, inWX7, Or.inl (gw_mem (tb1 229 rfl) rfl)⟩
set_option maxRecDepth 20000 in
theorem f_X7_21 : FL RX7 21 7 2 := ⟨RX7, TX7, 10, rfl, by decide, inWX7, Or.inl (gw_mem (tb1 231 rfl) rfl)⟩
set_option maxRecDepth 20000 in
theorem f_X7_25 : FL RX7 25 7 3 := ⟨RX7, TX7, 10, rfl, by decide, inWX7, Or.inl (gw_mem (tb1 233 rfl) rfl)⟩
set_option maxRecDepth 20000 in
theorem f_X7_29 : FL RX7 29 7 0 := ⟨RX7, TX7, 10, rfl, by decide, inWX7, Or.inl (gw_mem (tb1 228 rfl) rfl)⟩
set_option maxRecDepth 20000 in
theorem f_X7_44 : FL RX7 44 7 8 := ⟨RX7, TX7, 10, rfl, by decide, inWX7, Or.inl (gw_mem (tb1 239 rfl) rfl)⟩
set_option maxRecDepth 20000 in
theorem f_X7_50 : FL RX7 50 7 6 := ⟨RX7, TX7, 10, rfl, by decide, inWX7, Or.inl (gw_mem (tb1 237 rfl) rfl)⟩
set_option maxRecDepth 20000 in
theorem f_X7_82 : FL RX7 82 3 0 := ⟨RX3, TX3, 3, rfl, by decide, inWX3, Or.inr ⟨"TruckWing", nw_mem (tb1 47 rfl) rfl⟩⟩
set_option maxRecDepth 20000 in
theorem f_X7_85 : FL RX7 85 4 1 := ⟨RX4, TX4, 4, rfl, by decide, inWX4, Or.inr ⟨"TruckWing", nw_mem (tb1 71 rfl) rfl⟩⟩
set_option maxRecDepth 20000 in
theorem f_X7_88 : FL RX7 88 7 4 := ⟨RX7, TX7, 10, rfl, by decide, inWX7, Or.inl (gw_mem (tb1 234 rfl) rfl)⟩
set_option maxRecDepth 20000 in
theorem f_X7_94 : FL RX7 94 7 9 := ⟨RX7, TX7, 10, rfl, by decide, inWX7, Or.inl (gw_mem (tb2 0 rfl) rfl)⟩
set_option maxRecDepth 20000 in
theorem f_X7_140 : FL RX7 140 7 7 := ⟨RX7, TX7, 10, rfl, by decide, inWX7, Or.inl (gw_mem (tb1 238 rfl) rfl)⟩
set_option maxRecDepth 20000 in
theorem f_X7_143 : FL RX7 143 6 0 := ⟨RX6, TX6, 2, rfl, by decide, inWX6, Or.inr ⟨"TruckWing", nw_mem (tb1 211 rfl) rfl⟩⟩
set_option maxRecDepth 20000 in
theorem f_X9_7 : FL RX9 7 9 1 := ⟨RX9, TX9, 27, rfl, by decide, inWX9, Or.inl (gw_mem (tb5 23 rfl) rfl)⟩
set_option maxRecDepth 20000 in
theorem f_X9_13 : FL RX9 13 9 2 := ⟨RX9, TX9, 27, rfl, by decide, inWX9, Or.inl (gw_mem (tb5 24 rfl) rfl)⟩
set_option maxRecDepth 20000 in
theorem f_X9_16 : FL RX9 16 9 3 := ⟨RX9, TX9, 27, rfl, by decide, inWX9, Or.inl (gw_mem (tb5 25 rfl) rfl)⟩
set_option maxRecDepth 20000 in
theorem f_X9_20 : FL RX9 20 9 9 := ⟨RX9, TX9, 27, rfl, by decide, inWX9, Or.inl (gw_mem (tb5 31 rfl) rfl)⟩
set_option maxRecDepth 20000 in
theorem f_X9_23 : FL RX9 23 9 10 := ⟨RX9, TX9, 27, rfl, by decide, inWX9, Or.inl (gw_mem (tb5 32 rfl) rfl)⟩
set_option maxRecDepth 20000 in
theorem f_X9_26 : FL RX9 26 9 11 := ⟨RX9, TX9, 27, rfl, by decide, inWX9, Or.inl (gw_mem (tb5 33 rfl) rfl)⟩
set_option maxRecDepth 20000 in
theorem f_X9_29 : FL RX9 29 9 12 := ⟨RX9, TX9, 27, rfl, by decide, inWX9, Or.inl (gw_mem (tb5 34 rfl) rfl)⟩
set_option maxRecDepth 20000 in
theorem f_X9_32 : FL RX9 32 9 13 := ⟨RX9, TX9, 27, rfl, by decide, inWX9, Or.inl (gw_mem (tb5 35 rfl) rfl)⟩
set_option maxRecDepth 20000 in
theorem f_X9_35 : FL RX9 35 9 14 := ⟨RX9, TX9, 27, rfl, by decide, inWX9, Or.inl (gw_mem (tb5 36 rfl) rfl)⟩
set_option maxRecDepth 20000 in
theorem f_X9_38 : FL RX9 38 9 15 := ⟨RX9, TX9, 27, rfl, by decide, inWX9, Or.inl (gw_mem (tb5 37 rfl) rfl)⟩
set_option maxRecDepth 20000 in
theorem f_X9_41 : FL RX9 41 9 16 := ⟨RX9, TX9, 27, rfl, by decide, inWX9, Or.inl (gw_mem (tb5 38 rfl) rfl)⟩
set_option maxRecDepth 20000 in
theorem f_X9_45 : FL RX9 45 9 17 := ⟨RX9, TX9, 27, rfl, by decide, inWX9, Or.inl (gw_mem (tb5 39 rfl) rfl)⟩
set_option maxRecDepth 20000 in
theorem f_X9_48 : FL RX9 48 9 19 := ⟨RX9, TX9, 27, rfl, by decide, inWX9, Or.inl (gw_mem (tb5 41 rfl) rfl)⟩
set_option maxRecDepth 20000 in
theorem f_X9_51 : FL RX9 51 9 20 := ⟨RX9, TX9, 27, rfl, by decide, inWX9, Or.inl (gw_mem (tb5 42 rfl) rfl)⟩
set_option maxRecDepth 20000 in
theorem f_X9_54 : FL RX9 54 9 21 := ⟨RX9, TX9, 27, rfl, by decide, inWX9, Or.inl (gw_mem (tb5 43 rfl) rfl)⟩
set_option maxRecDepth 20000 in
theorem f_X9_57 : FL RX9 57 9 22 := ⟨RX9, TX9, 27, rfl, by decide, inWX9, Or.inl (gw_mem (tb5 44 rfl) rfl)⟩
set_option maxRecDepth 20000 in
theorem f_X9_60 : FL RX9 60 9 23 := ⟨RX9, TX9, 27, rfl, by decide, inWX9, Or.inl (gw_mem (tb5 45 rfl) rfl)⟩
set_option maxRecDepth 20000 in
theorem f_X9_63 : FL RX9 63 9 24 := ⟨RX9, TX9, 27, rfl, by decide, inWX9, Or.inl (gw_mem (tb5 46 rfl) rfl)⟩
set_option maxRecDepth 20000 in
theorem f_X9_66 : FL RX9 66 9 0 := ⟨RX9, TX9, 27, rfl, by decide, inWX9, Or.inl (gw_mem (tb5 22 rfl) rfl)⟩
set_option maxRecDepth 20000 in
theorem f_X9_125 : FL RX9 125 9 4 := ⟨RX9, TX9, 27, rfl, by decide, inWX9, Or.inl (gw_mem (tb5 26 rfl) rfl)⟩
set_option maxRecDepth 20000 in
theorem f_X9_143 : FL RX9 143 9 7 := ⟨RX9, TX9, 27, rfl, by decide, inWX9, Or.inl (gw_mem (tb5 29 rfl) rfl)⟩
set_option maxRecDepth 20000 in
theorem f_X9_146 : FL RX9 146 9 6 := ⟨RX9, TX9, 27, rfl, by decide, inWX9, Or.inl (gw_mem (tb5 28 rfl) rfl)⟩
set_option maxRecDepth 20000 in
theorem f_X9_149 : FL RX9 149 9 5 := ⟨RX9, TX9, 27, rfl, by decide, inWX9, Or.inl (gw_mem (tb5 27 rfl) rfl)⟩
set_option maxRecDepth 20000 in
theorem f_X9_155 : FL RX9 155 9 8 := ⟨RX9, TX9, 27, rfl, by decide, inWX9, Or.inl (gw_mem (tb5 30 rfl) rfl)⟩
set_option maxRecDepth 20000 in
theorem f_X9_199 : FL RX9 199 9 18 := ⟨RX9, TX9, 27, rfl, by decide, inWX9, Or.inl (gw_mem (tb5 40 rfl) rfl)⟩
set_option maxRecDepth 20000 in
theorem f_X9_248 : FL RX9 248 9 25 := ⟨RX9, TX9, 27, rfl, by decide, inWX9, Or.inl (gw_mem (tb5 47 rfl) rfl)⟩
set_option maxRecDepth 20000 in
theorem f_X9_254 : FL RX9 254 9 26 := ⟨RX9, TX9, 27, rfl, by decide, inWX9, Or.inl (gw_mem (tb5 48 rfl) rfl)⟩
set_option maxRecDepth 20000 in
theorem fp_X8_67 : FP RX8 67 6 0 .int := ⟨RX6, TX6, 2, tyX6, rfl, by decide, inWX6, Or.inr ⟨"TruckWing", nw_mem (tb1 210 rfl) rfl⟩, tyX6_ok, nmX6, rfl, by decide +kernel⟩
set_option maxRecDepth 20000 in
theorem fp_X8_97 : FP RX8 97 3 0 .int := ⟨RX3, TX3, 3, tyX3, rfl, by decide, inWX3, Or.inr ⟨"TruckWing", nw_mem (tb1 48 rfl) rfl⟩, tyX3_ok, nmX3, rfl, by decide +kernel⟩
set_option maxRecDepth 20000 in
theorem fp_X8_142 : FP RX8 142 4 1 .int := ⟨RX4, TX4, 4, tyX4, rfl, by decide, inWX4, Or.inr ⟨"TruckWing", nw_mem (tb1 73 rfl) rfl⟩, tyX4_ok, nmX4, rfl, by decide +kernel⟩
set_option maxRecDepth 20000 in
theorem fp_X8_145 : FP RX8 145 4 0 .int := ⟨RX4, TX4, 4, tyX4, rfl, by decide, inWX4, Or.inr ⟨"TruckWing", nw_mem (tb1 68 rfl) rfl⟩, tyX4_ok, nmX4, rfl, by decide +kernel⟩
set_option maxRecDepth 20000 in
theorem fp_X8_236 : FP RX8 236 2 0 .boolean := ⟨RX2, TX2, 3, tyX2, rfl, by decide, inWX2, Or.inr ⟨"TruckWing", nw_mem (tb2 29 rfl) rfl⟩, tyX2_ok, nmX2, rfl, by decide +kernel⟩
set_option maxRecDepth 20000 in
theorem fp_X0_52 : FP RX0 52 0 3 .int := ⟨RX0, TX0, 11, tyX0, rfl, by decide, inWX0, Or.inl (gw_mem (tb1 109 rfl) rfl), tyX0_ok, nmX0, rfl, by decide +kernel⟩
set_option maxRecDepth 20000 in
theorem fp_X1_15 : FP RX1 15 1 0 .int := ⟨RX1, TX1, 2, tyX1, rfl, by decide, inWX1, Or.inl (gw_mem (tb1 97 rfl) rfl), tyX1_ok, nmX1, rfl, by decide +kernel⟩
set_option maxRecDepth 20000 in
theorem fp_X2_7 : FP RX2 7 2 0 .boolean := ⟨RX2, TX2, 3, tyX2, rfl, by decide, inWX2, Or.inl (gw_mem (tb2 28 rfl) rfl), tyX2_ok, nmX2, rfl, by decide +kernel⟩
set_option maxRecDepth 20000 in
theorem fp_X2_13 : FP RX2 13 2 1 .int := ⟨RX2, TX2, 3, tyX2, rfl, by decide, inWX2, Or.inl (gw_mem (tb2 30 rfl) rfl), tyX2_ok, nmX2, rfl, by decide +kernel⟩
set_option maxRecDepth 20000 in
theorem fp_X2_17 : FP RX2 17 2 2 .int := ⟨RX2, TX2, 3, tyX2, rfl, by decide, inWX2, Or.inl (gw_mem (tb2 33 rfl) rfl), tyX2_ok, nmX2, rfl, by decide +kernel⟩
set_option maxRecDepth 20000 in
theorem fp_X3_35 : FP RX3 35 3 0 .int := ⟨RX3, TX3, 3, tyX3, rfl, by decide, inWX3, Or.inl (gw_mem (tb1 46 rfl) rfl), tyX3_ok, nmX3, rfl, by decide +kernel⟩
set_option maxRecDepth 20000 in
theorem fp_X4_18 : FP RX4 18 4 0 .int := ⟨RX4, TX4, 4, tyX4, rfl, by decide, inWX4, Or.inl (gw_mem (tb1 66 rfl) rfl), tyX4_ok, nmX4, rfl, by decide +kernel⟩
set_option maxRecDepth 20000 in
theorem fp_X4_22 : FP RX4 22 4 1 .int := ⟨RX4, TX4, 4, tyX4, rfl, by decide, inWX4, Or.inl (gw_mem (tb1 70 rfl) rfl), tyX4_ok, nmX4, rfl, by decide +kernel⟩
set_option maxRecDepth 20000 in
theorem fp_X5_56 : FP RX5 56 5 6 .int := ⟨RX5, TX5, 18, tyX5, rfl, by decide, inWX5, Or.inl (gw_mem (tb1 153 rfl) rfl), tyX5_ok, nmX5, rfl, by decide +kernel⟩
set_option maxRecDepth 20000 in
theorem fp_X5_63 : FP RX5 63 5 1 .int := ⟨RX5, TX5, 18, tyX5, rfl, by decide, inWX5, Or.inl (gw_mem (tb1 148 rfl) rfl), tyX5_ok, nmX5, rfl, by decide +kernel⟩
set_option maxRecDepth 20000 in
theorem fp_X5_70 : FP RX5 70 5 2 .int := ⟨RX5, TX5, 18, tyX5, rfl, by decide, inWX5, Or.inl (gw_mem (tb1 149 rfl) rfl), tyX5_ok, nmX5, rfl, by decide +kernel⟩
set_option maxRecDepth 20000 in
theorem fp_X5_73 : FP RX5 73 5 3 .int := ⟨RX5, TX5, 18, tyX5, rfl, by decide, inWX5, Or.inl (gw_mem (tb1 150 rfl) rfl), tyX5_ok, nmX5, rfl, by decide +kernel⟩
set_option maxRecDepth 20000 in
theorem fp_X5_76 : FP RX5 76 5 4 .int := ⟨RX5, TX5, 18, tyX5, rfl, by decide, inWX5, Or.inl (gw_mem (tb1 151 rfl) rfl), tyX5_ok, nmX5, rfl, by decide +kernel⟩
set_option maxRecDepth 20000 in
theorem fp_X5_79 : FP RX5 79 5 5 .boolean := ⟨RX5, TX5, 18, tyX5, rfl, by decide, inWX5, Or.inl (gw_mem (tb1 152 rfl) rfl), tyX5_ok, nmX5, rfl, by decide +kernel⟩
set_option maxRecDepth 20000 in
theorem fp_X6_15 : FP RX6 15 6 0 .int := ⟨RX6, TX6, 2, tyX6, rfl, by decide, inWX6, Or.inl (gw_mem (tb1 209 rfl) rfl), tyX6_ok, nmX6, rfl, by decide +kernel⟩
set_option maxRecDepth 20000 in
theorem fp_X7_40 : FP RX7 40 7 5 .int := ⟨RX7, TX7, 10, tyX7, rfl, by decide, inWX7, Or.inl (gw_mem (tb1 235 rfl) rfl), tyX7_ok, nmX7, rfl, by decide +kernel⟩
set_option maxRecDepth 20000 in
theorem fp_X7_44 : FP RX7 44 7 8 .int := ⟨RX7, TX7, 10, tyX7, rfl, by decide, inWX7, Or.inl (gw_mem (tb1 239 rfl) rfl), tyX7_ok, nmX7, rfl, by decide +kernel⟩
set_option maxRecDepth 20000 in
theorem fp_X7_50 : FP RX7 50 7 6 .int := ⟨RX7, TX7, 10, tyX7, rfl, by decide, inWX7, Or.inl (gw_mem (tb1 237 rfl) rfl), tyX7_ok, nmX7, rfl, by decide +kernel⟩
set_option maxRecDepth 20000 in
theorem fp_X7_88 : FP RX7 88 7 4 .int := ⟨RX7, TX7, 10, tyX7, rfl, by decide, inWX7, Or.inl (gw_mem (tb1 234 rfl) rfl), tyX7_ok, nmX7, rfl, by decide +kernel⟩
set_option maxRecDepth 20000 in
theorem fp_X7_94 : FP RX7 94 7 9 .int := ⟨RX7, TX7, 10, tyX7, rfl, by decide, inWX7, Or.inl (gw_mem (tb2 0 rfl) rfl), tyX7_ok, nmX7, rfl, by decide +kernel⟩
set_option maxRecDepth 20000 in
theorem fp_X7_140 : FP RX7 140 7 7 .int := ⟨RX7, TX7, 10, tyX7, rfl, by decide, inWX7, Or.inl (gw_mem (tb1 238 rfl) rfl), tyX7_ok, nmX7, rfl, by decide +kernel⟩
set_option maxRecDepth 20000 in
theorem fp_X9_66 : FP RX9 66 9 0 .int := ⟨RX9, TX9, 27, tyX9, rfl, by decide, inWX9, Or.inl (gw_mem (tb5 22 rfl) rfl), tyX9_ok, nmX9, rfl, by decide +kernel⟩
set_option maxRecDepth 20000 in
theorem fp_X9_125 : FP RX9 125 9 4 .int := ⟨RX9, TX9, 27, tyX9, rfl, by decide, inWX9, Or.inl (gw_mem (tb5 26 rfl) rfl), tyX9_ok, nmX9, rfl, by decide +kernel⟩
set_option maxRecDepth 20000 in
theorem fp_X9_143 : FP RX9 143 9 7 .int := ⟨RX9, TX9, 27, tyX9, rfl, by decide, inWX9, Or.inl (gw_mem (tb5 29 rfl) rfl), tyX9_ok, nmX9, rfl, by decide +kernel⟩
set_option maxRecDepth 20000 in
theorem fp_X9_146 : FP RX9 146 9 6 .int := ⟨RX9, TX9, 27, tyX9, rfl, by decide, inWX9, Or.inl (gw_mem (tb5 28 rfl) rfl), tyX9_ok, nmX9, rfl, by decide +kernel⟩
set_option maxRecDepth 20000 in
theorem fp_X9_149 : FP RX9 149 9 5 .int := ⟨RX9, TX9, 27, tyX9, rfl, by decide, inWX9, Or.inl (gw_mem (tb5 27 rfl) rfl), tyX9_ok, nmX9, rfl, by decide +kernel⟩
set_option maxRecDepth 20000 in
theorem fp_X9_155 : FP RX9 155 9 8 .int := ⟨RX9, TX9, 27, tyX9, rfl, by decide, inWX9, Or.inl (gw_mem (tb5 30 rfl) rfl), tyX9_ok, nmX9, rfl, by decide +kernel⟩
set_option maxRecDepth 20000 in
theorem fp_X9_199 : FP RX9 199 9 18 .int := ⟨RX9, TX9, 27, tyX9, rfl, by decide, inWX9, Or.inl (gw_mem (tb5 40 rfl) rfl), tyX9_ok, nmX9, rfl, by decide +kernel⟩
set_option maxRecDepth 20000 in
theorem fp_X9_248 : FP RX9 248 9 25 .int := ⟨RX9, TX9, 27, tyX9, rfl, by decide, inWX9, Or.inl (gw_mem (tb5 47 rfl) rfl), tyX9_ok, nmX9, rfl, by decide +kernel⟩
set_option maxRecDepth 20000 in
theorem fp_X9_254 : FP RX9 254 9 26 .int := ⟨RX9, TX9, 27, tyX9, rfl, by decide, inWX9, Or.inl (gw_mem (tb5 48 rfl) rfl), tyX9_ok, nmX9, rfl, by decide +kernel⟩
set_option maxRecDepth 20000 in
theorem g_X3_26 : SL RX3 26 0 := ⟨_, _, _, _, rfl, Or.inr ⟨"TruckWing", nw_mem (tb2 232 rfl) rfl⟩⟩
set_option maxRecDepth 20000 in
theorem g_X3_29 : SL RX3 29 1 := ⟨_, _, _, _, rfl, Or.inr ⟨"TruckWing", nw_mem (tb3 4 rfl) rfl⟩⟩
set_option maxRecDepth 20000 in
theorem g_X3_32 : SL RX3 32 2 := ⟨_, _, _, _, rfl, Or.inr ⟨"TruckWing", nw_mem (tb3 5 rfl) rfl⟩⟩
set_option maxRecDepth 20000 in
theorem g_X7_91 : SL RX7 91 4 := ⟨_, _, _, _, rfl, Or.inl (gw_mem (tb2 197 rfl) rfl)⟩
set_option maxRecDepth 20000 in
theorem g_X7_104 : SL RX7 104 1 := ⟨_, _, _, _, rfl, Or.inr ⟨"TruckWing", nw_mem (tb2 203 rfl) rfl⟩⟩
set_option maxRecDepth 20000 in
theorem g_X7_107 : SL RX7 107 2 := ⟨_, _, _, _, rfl, Or.inr ⟨"TruckWing", nw_mem (tb2 209 rfl) rfl⟩⟩
set_option maxRecDepth 20000 in
theorem g_X7_110 : SL RX7 110 0 := ⟨_, _, _, _, rfl, Or.inr ⟨"TruckWing", nw_mem (tb2 211 rfl) rfl⟩⟩
set_option maxRecDepth 20000 in
theorem k_J6_265 : Cond.constant RJ6 265 1431655765 ∈ gw := gw_mem (tb4 98 rfl) rfl
set_option maxRecDepth 20000 in
theorem k_J6_266 : Cond.constant RJ6 266 858993459 ∈ gw := gw_mem (tb4 99 rfl) rfl
set_option maxRecDepth 20000 in
theorem k_J6_267 : Cond.constant RJ6 267 252645135 ∈ gw := gw_mem (tb4 100 rfl) rfl
set_option maxRecDepth 20000 in
theorem ml_X8_71 : ML RX8 71 yX6_append := Or.inr ⟨"TruckWing", nw_mem (tb2 71 rfl) rfl⟩
set_option maxRecDepth 20000 in
theorem ml_X8_75 : ML RX8 75 yX7_read := Or.inr ⟨"TruckWing", nw_mem (tb2 83 rfl) rfl⟩
set_option maxRecDepth 20000 in
theorem ml_X8_80 : ML RX8 80 yX3_copyOf := Or.inr ⟨"TruckWing", nw_mem (tb3 22 rfl) rfl⟩
set_option maxRecDepth 20000 in
theorem ml_X8_84 : ML RX8 84 yX4_copyOf := Or.inr ⟨"TruckWing", nw_mem (tb3 23 rfl) rfl⟩
set_option maxRecDepth 20000 in
theorem ml_X8_87 : ML RX8 87 yX8_forgetSearches := Or.inl (gw_mem (tb3 24 rfl) rfl)
set_option maxRecDepth 20000 in
theorem ml_X8_93 : ML RX8 93 yX3_mayBeFact := Or.inr ⟨"TruckWing", nw_mem (tb3 37 rfl) rfl⟩
set_option maxRecDepth 20000 in
theorem ml_X8_100 : ML RX8 100 yX3_addCustomer := Or.inr ⟨"TruckWing", nw_mem (tb3 38 rfl) rfl⟩
set_option maxRecDepth 20000 in
theorem ml_X8_103 : ML RX8 103 yX3_putFact := Or.inr ⟨"TruckWing", nw_mem (tb3 39 rfl) rfl⟩
set_option maxRecDepth 20000 in
theorem ml_X8_107 : ML RX8 107 yX4_empty := Or.inr ⟨"TruckWing", nw_mem (tb3 44 rfl) rfl⟩
set_option maxRecDepth 20000 in
theorem ml_X8_110 : ML RX8 110 yX3_mayBeSetting := Or.inr ⟨"TruckWing", nw_mem (tb3 49 rfl) rfl⟩
set_option maxRecDepth 20000 in
theorem ml_X8_113 : ML RX8 113 yX3_setting := Or.inr ⟨"TruckWing", nw_mem (tb3 50 rfl) rfl⟩
set_option maxRecDepth 20000 in
theorem ml_X8_117 : ML RX8 117 yX3_putSetting := Or.inr ⟨"TruckWing", nw_mem (tb3 54 rfl) rfl⟩
set_option maxRecDepth 20000 in
theorem ml_X8_121 : ML RX8 121 yX3_isCustomer := Or.inr ⟨"TruckWing", nw_mem (tb3 59 rfl) rfl⟩
set_option maxRecDepth 20000 in
theorem ml_X8_125 : ML RX8 125 yX4_addStop := Or.inr ⟨"TruckWing", nw_mem (tb3 63 rfl) rfl⟩
set_option maxRecDepth 20000 in
theorem ml_X8_128 : ML RX8 128 yX4_stops := Or.inr ⟨"TruckWing", nw_mem (tb3 64 rfl) rfl⟩
set_option maxRecDepth 20000 in
theorem ml_X8_132 : ML RX8 132 yX4_mayBeFlyer := Or.inr ⟨"TruckWing", nw_mem (tb3 72 rfl) rfl⟩
set_option maxRecDepth 20000 in
theorem ml_X8_135 : ML RX8 135 yX4_mayBeIndex := Or.inr ⟨"TruckWing", nw_mem (tb3 75 rfl) rfl⟩
set_option maxRecDepth 20000 in
theorem ml_X8_138 : ML RX8 138 yX4_addSortie := Or.inr ⟨"TruckWing", nw_mem (tb3 78 rfl) rfl⟩
set_option maxRecDepth 20000 in
theorem ml_X8_148 : ML RX8 148 yX3_fact := Or.inr ⟨"TruckWing", nw_mem (tb3 95 rfl) rfl⟩
set_option maxRecDepth 20000 in
theorem ml_X8_152 : ML RX8 152 yX3_isPlace := Or.inr ⟨"TruckWing", nw_mem (tb3 103 rfl) rfl⟩
set_option maxRecDepth 20000 in
theorem ml_X8_155 : ML RX8 155 yX3_flight := Or.inr ⟨"TruckWing", nw_mem (tb3 104 rfl) rfl⟩
set_option maxRecDepth 20000 in
theorem ml_X8_159 : ML RX8 159 yX3_drive := Or.inr ⟨"TruckWing", nw_mem (tb3 116 rfl) rfl⟩
set_option maxRecDepth 20000 in
theorem ml_X8_162 : ML RX8 162 yX4_hasSortie := Or.inr ⟨"TruckWing", nw_mem (tb3 237 rfl) rfl⟩
set_option maxRecDepth 20000 in
theorem ml_X8_171 : ML RX8 171 yX0_look := Or.inr ⟨"TruckWing", nw_mem (tb3 124 rfl) rfl⟩
set_option maxRecDepth 20000 in
theorem ml_X8_178 : ML RX8 178 yX0_lastReady := Or.inr ⟨"TruckWing", nw_mem (tb3 221 rfl) rfl⟩
set_option maxRecDepth 20000 in
theorem ml_X8_181 : ML RX8 181 yX0_ofStop := Or.inr ⟨"TruckWing", nw_mem (tb3 229 rfl) rfl⟩
set_option maxRecDepth 20000 in
theorem ml_X8_184 : ML RX8 184 yX0_ofSortie := Or.inr ⟨"TruckWing", nw_mem (tb4 1 rfl) rfl⟩
set_option maxRecDepth 20000 in
theorem ml_X8_196 : ML RX8 196 yX1_part := Or.inr ⟨"TruckWing", nw_mem (tb4 9 rfl) rfl⟩
set_option maxRecDepth 20000 in
theorem ml_X8_197 : ML RX8 197 yX0_total := Or.inr ⟨"TruckWing", nw_mem (tb4 17 rfl) rfl⟩
set_option maxRecDepth 20000 in
theorem ml_X8_200 : ML RX8 200 yX5_readOrder := Or.inr ⟨"TruckWing", nw_mem (tb4 33 rfl) rfl⟩
set_option maxRecDepth 20000 in
theorem ml_X8_203 : ML RX8 203 yX8_fillTable := Or.inl (gw_mem (tb4 38 rfl) rfl)
set_option maxRecDepth 20000 in
theorem ml_X8_206 : ML RX8 206 yX5_lastEnd := Or.inr ⟨"TruckWing", nw_mem (tb4 105 rfl) rfl⟩
set_option maxRecDepth 20000 in
theorem ml_X8_209 : ML RX8 209 yX5_writePlan := Or.inr ⟨"TruckWing", nw_mem (tb4 113 rfl) rfl⟩
set_option maxRecDepth 20000 in
theorem ml_X8_212 : ML RX8 212 yX8_searchBest := Or.inl (gw_mem (tb4 136 rfl) rfl)
set_option maxRecDepth 20000 in
theorem ml_X8_221 : ML RX8 221 yX8_searchAlone := Or.inl (gw_mem (tb4 170 rfl) rfl)
set_option maxRecDepth 20000 in
theorem ml_X8_224 : ML RX8 224 yX8_bestWind := Or.inl (gw_mem (tb4 178 rfl) rfl)
set_option maxRecDepth 20000 in
theorem ml_X8_227 : ML RX8 227 yX8_endByWind := Or.inl (gw_mem (tb4 182 rfl) rfl)
set_option maxRecDepth 20000 in
theorem ml_X8_230 : ML RX8 230 yX5_prepare := Or.inr ⟨"TruckWing", nw_mem (tb4 42 rfl) rfl⟩
set_option maxRecDepth 20000 in
theorem ml_X8_233 : ML RX8 233 yX5_fill := Or.inr ⟨"TruckWing", nw_mem (tb4 51 rfl) rfl⟩
set_option maxRecDepth 20000 in
theorem ml_X8_240 : ML RX8 240 yX5_search := Or.inr ⟨"TruckWing", nw_mem (tb4 140 rfl) rfl⟩
set_option maxRecDepth 20000 in
theorem ml_X0_48 : ML RX0 48 yX0_wrongWithoutTimes := Or.inl (gw_mem (tb3 128 rfl) rfl)
set_option maxRecDepth 20000 in
theorem ml_X0_56 : ML RX0 56 yX0_drivePlan := Or.inl (gw_mem (tb3 173 rfl) rfl)
set_option maxRecDepth 20000 in
theorem ml_X0_59 : ML RX0 59 yX0_tooLongInAir := Or.inl (gw_mem (tb3 209 rfl) rfl)
set_option maxRecDepth 20000 in
theorem ml_X0_62 : ML RX0 62 yX0_impossibleSortie := Or.inl (gw_mem (tb3 132 rfl) rfl)
set_option maxRecDepth 20000 in
theorem ml_X0_65 : ML RX0 65 yX0_servedTooOften := Or.inl (gw_mem (tb3 145 rfl) rfl)
set_option maxRecDepth 20000 in
theorem ml_X0_68 : ML RX0 68 yX0_servedByNobody := Or.inl (gw_mem (tb3 157 rfl) rfl)
set_option maxRecDepth 20000 in
theorem ml_X0_71 : ML RX0 71 yX0_tooHeavy := Or.inl (gw_mem (tb3 161 rfl) rfl)
set_option maxRecDepth 20000 in
theorem ml_X0_74 : ML RX0 74 yX0_overlapping := Or.inl (gw_mem (tb3 169 rfl) rfl)
set_option maxRecDepth 20000 in
theorem ml_X0_82 : ML RX0 82 yX4_part := Or.inr ⟨"TruckWing", nw_mem (tb3 136 rfl) rfl⟩
set_option maxRecDepth 20000 in
theorem ml_X0_86 : ML RX0 86 yX3_setting := Or.inr ⟨"TruckWing", nw_mem (tb3 140 rfl) rfl⟩
set_option maxRecDepth 20000 in
theorem ml_X0_92 : ML RX0 92 yX4_stops := Or.inr ⟨"TruckWing", nw_mem (tb3 141 rfl) rfl⟩
set_option maxRecDepth 20000 in
theorem ml_X0_95 : ML RX0 95 yX0_told := Or.inl (gw_mem (tb3 142 rfl) rfl)
set_option maxRecDepth 20000 in
theorem ml_X0_101 : ML RX0 101 yX4_placeAt := Or.inr ⟨"TruckWing", nw_mem (tb3 153 rfl) rfl⟩
set_option maxRecDepth 20000 in
theorem ml_X0_107 : ML RX0 107 yX0_timesServed := Or.inl (gw_mem (tb3 149 rfl) rfl)
set_option maxRecDepth 20000 in
theorem ml_X0_110 : ML RX0 110 yX3_isLight := Or.inr ⟨"TruckWing", nw_mem (tb3 165 rfl) rfl⟩
set_option maxRecDepth 20000 in
theorem ml_X0_114 : ML RX0 114 yX0_air := Or.inl (gw_mem (tb3 213 rfl) rfl)
set_option maxRecDepth 20000 in
theorem ml_X0_117 : ML RX0 117 yX1_empty := Or.inr ⟨"TruckWing", nw_mem (tb3 177 rfl) rfl⟩
set_option maxRecDepth 20000 in
theorem ml_X0_120 : ML RX0 120 yX3_drive := Or.inr ⟨"TruckWing", nw_mem (tb3 181 rfl) rfl⟩
set_option maxRecDepth 20000 in
theorem ml_X0_123 : ML RX0 123 yX1_note := Or.inr ⟨"TruckWing", nw_mem (tb3 182 rfl) rfl⟩
set_option maxRecDepth 20000 in
theorem ml_X0_127 : ML RX0 127 yX3_fact := Or.inr ⟨"TruckWing", nw_mem (tb3 186 rfl) rfl⟩
set_option maxRecDepth 20000 in
theorem ml_X0_130 : ML RX0 130 yX0_catchAll := Or.inl (gw_mem (tb3 187 rfl) rfl)
set_option maxRecDepth 20000 in
theorem ml_X0_133 : ML RX0 133 yX0_launchAll := Or.inl (gw_mem (tb3 200 rfl) rfl)
set_option maxRecDepth 20000 in
theorem ml_X0_136 : ML RX0 136 yX0_nextToCatch := Or.inl (gw_mem (tb3 191 rfl) rfl)
set_option maxRecDepth 20000 in
theorem ml_X0_144 : ML RX0 144 yX0_isAhead := Or.inl (gw_mem (tb3 195 rfl) rfl)
set_option maxRecDepth 20000 in
theorem ml_X0_148 : ML RX0 148 yX0_launch := Or.inl (gw_mem (tb3 204 rfl) rfl)
set_option maxRecDepth 20000 in
theorem ml_X0_152 : ML RX0 152 yX3_flight := Or.inr ⟨"TruckWing", nw_mem (tb3 208 rfl) rfl⟩
set_option maxRecDepth 20000 in
theorem ml_X0_156 : ML RX0 156 yX0_drivenTo := Or.inl (gw_mem (tb4 21 rfl) rfl)
set_option maxRecDepth 20000 in
theorem ml_X0_159 : ML RX0 159 yX0_flownBy := Or.inl (gw_mem (tb4 25 rfl) rfl)
set_option maxRecDepth 20000 in
theorem ml_X3_45 : ML RX3 45 yX3_isPlace := Or.inl (gw_mem (tb2 225 rfl) rfl)
set_option maxRecDepth 20000 in
theorem ml_X3_49 : ML RX3 49 yX3_mayBeFact := Or.inl (gw_mem (tb2 229 rfl) rfl)
set_option maxRecDepth 20000 in
theorem ml_X3_53 : ML RX3 53 yX3_mayBeSetting := Or.inl (gw_mem (tb3 1 rfl) rfl)
set_option maxRecDepth 20000 in
theorem ml_X3_56 : ML RX3 56 yX3_fact := Or.inl (gw_mem (tb3 108 rfl) rfl)
set_option maxRecDepth 20000 in
theorem ml_X3_60 : ML RX3 60 yX3_setting := Or.inl (gw_mem (tb3 109 rfl) rfl)
set_option maxRecDepth 20000 in
theorem ml_X5_59 : ML RX5 59 yX3_isCustomer := Or.inr ⟨"TruckWing", nw_mem (tb4 37 rfl) rfl⟩
set_option maxRecDepth 20000 in
theorem ml_X5_66 : ML RX5 66 yX3_setting := Or.inr ⟨"TruckWing", nw_mem (tb4 46 rfl) rfl⟩
set_option maxRecDepth 20000 in
theorem ml_X5_83 : ML RX5 83 yX3_fact := Or.inr ⟨"TruckWing", nw_mem (tb4 47 rfl) rfl⟩
set_option maxRecDepth 20000 in
theorem ml_X5_87 : ML RX5 87 yX3_isLight := Or.inr ⟨"TruckWing", nw_mem (tb4 48 rfl) rfl⟩
set_option maxRecDepth 20000 in
theorem ml_X5_90 : ML RX5 90 yX3_drive := Or.inr ⟨"TruckWing", nw_mem (tb4 49 rfl) rfl⟩
set_option maxRecDepth 20000 in
theorem ml_X5_93 : ML RX5 93 yX3_flight := Or.inr ⟨"TruckWing", nw_mem (tb4 50 rfl) rfl⟩
set_option maxRecDepth 20000 in
theorem ml_X5_102 : ML RX5 102 yX5_beginWithVan := Or.inl (gw_mem (tb4 56 rfl) rfl)
set_option maxRecDepth 20000 in
theorem ml_X5_106 : ML RX5 106 yX5_soonest := Or.inl (gw_mem (tb4 64 rfl) rfl)
set_option maxRecDepth 20000 in
theorem ml_X5_109 : ML RX5 109 yX5_offerBlocks := Or.inl (gw_mem (tb4 68 rfl) rfl)
set_option maxRecDepth 20000 in
theorem ml_X5_113 : ML RX5 113 yX5_leg := Or.inl (gw_mem (tb4 60 rfl) rfl)
set_option maxRecDepth 20000 in
theorem ml_X5_116 : ML RX5 116 yX5_offerOne := Or.inl (gw_mem (tb4 72 rfl) rfl)
set_option maxRecDepth 20000 in
theorem ml_X5_120 : ML RX5 120 yX5_offerTwo := Or.inl (gw_mem (tb4 101 rfl) rfl)
set_option maxRecDepth 20000 in
theorem ml_X5_124 : ML RX5 124 yX5_spared := Or.inl (gw_mem (tb4 76 rfl) rfl)
set_option maxRecDepth 20000 in
theorem ml_X5_127 : ML RX5 127 yX5_trip := Or.inl (gw_mem (tb4 80 rfl) rfl)
set_option maxRecDepth 20000 in
theorem ml_X5_131 : ML RX5 131 yX5_lasts := Or.inl (gw_mem (tb4 84 rfl) rfl)
set_option maxRecDepth 20000 in
theorem ml_X5_135 : ML RX5 135 yX5_bit := Or.inl (gw_mem (tb4 88 rfl) rfl)
set_option maxRecDepth 20000 in
theorem ml_X5_138 : ML RX5 138 yX5_offer := Or.inl (gw_mem (tb4 91 rfl) rfl)
set_option maxRecDepth 20000 in
theorem ml_X5_141 : ML RX5 141 yJ6_bitCount_0f7a4 := Or.inl (gw_mem (tb4 95 rfl) rfl)
set_option maxRecDepth 20000 in
theorem ml_X5_146 : ML RX5 146 yX5_fill := Or.inl (gw_mem (tb4 144 rfl) rfl)
set_option maxRecDepth 20000 in
theorem ml_X5_149 : ML RX5 149 yX5_lastEnd := Or.inl (gw_mem (tb4 145 rfl) rfl)
set_option maxRecDepth 20000 in
theorem ml_X5_153 : ML RX5 153 yX5_orderNumber := Or.inl (gw_mem (tb4 146 rfl) rfl)
set_option maxRecDepth 20000 in
theorem ml_X5_156 : ML RX5 156 yX2_keep := Or.inr ⟨"TruckWing", nw_mem (tb4 150 rfl) rfl⟩
set_option maxRecDepth 20000 in
theorem ml_X5_161 : ML RX5 161 yX5_nextOrder := Or.inl (gw_mem (tb4 154 rfl) rfl)
set_option maxRecDepth 20000 in
theorem ml_X5_167 : ML RX5 167 yX5_swap := Or.inl (gw_mem (tb4 158 rfl) rfl)
set_option maxRecDepth 20000 in
theorem ml_X5_170 : ML RX5 170 yX5_linkBlocks := Or.inl (gw_mem (tb4 117 rfl) rfl)
set_option maxRecDepth 20000 in
theorem ml_X5_173 : ML RX5 173 yX4_empty := Or.inr ⟨"TruckWing", nw_mem (tb4 121 rfl) rfl⟩
set_option maxRecDepth 20000 in
theorem ml_X5_178 : ML RX5 178 yX5_writeBlock := Or.inl (gw_mem (tb4 122 rfl) rfl)
set_option maxRecDepth 20000 in
theorem ml_X5_185 : ML RX5 185 yX5_isFlown := Or.inl (gw_mem (tb4 126 rfl) rfl)
set_option maxRecDepth 20000 in
theorem ml_X5_188 : ML RX5 188 yX4_addStop := Or.inr ⟨"TruckWing", nw_mem (tb4 130 rfl) rfl⟩
set_option maxRecDepth 20000 in
theorem ml_X5_191 : ML RX5 191 yX4_addSortie := Or.inr ⟨"TruckWing", nw_mem (tb4 131 rfl) rfl⟩
set_option maxRecDepth 20000 in
theorem ml_X6_19 : ML RX6 19 yX6_byteAt := Or.inl (gw_mem (tb2 107 rfl) rfl)
set_option maxRecDepth 20000 in
theorem ml_X7_33 : ML RX7 33 yX3_copyOf := Or.inr ⟨"TruckWing", nw_mem (tb2 87 rfl) rfl⟩
set_option maxRecDepth 20000 in
theorem ml_X7_37 : ML RX7 37 yX4_copyOf := Or.inr ⟨"TruckWing", nw_mem (tb2 94 rfl) rfl⟩
set_option maxRecDepth 20000 in
theorem ml_X7_47 : ML RX7 47 yX7_step := Or.inl (gw_mem (tb2 99 rfl) rfl)
set_option maxRecDepth 20000 in
theorem ml_X7_53 : ML RX7 53 yX7_whatIsTold := Or.inl (gw_mem (tb2 128 rfl) rfl)
set_option maxRecDepth 20000 in
theorem ml_X7_57 : ML RX7 57 yX7_readStatement := Or.inl (gw_mem (tb2 189 rfl) rfl)
set_option maxRecDepth 20000 in
theorem ml_X7_61 : ML RX7 61 yX7_apply := Or.inl (gw_mem (tb2 213 rfl) rfl)
set_option maxRecDepth 20000 in
theorem ml_X7_67 : ML RX7 67 yX7_isWord := Or.inl (gw_mem (tb2 133 rfl) rfl)
set_option maxRecDepth 20000 in
theorem ml_X7_79 : ML RX7 79 yX7_refuse := Or.inl (gw_mem (tb2 193 rfl) rfl)
set_option maxRecDepth 20000 in
theorem ml_X7_97 : ML RX7 97 yX7_least := Or.inl (gw_mem (tb2 199 rfl) rfl)
set_option maxRecDepth 20000 in
theorem ml_X7_101 : ML RX7 101 yX7_most := Or.inl (gw_mem (tb2 205 rfl) rfl)
set_option maxRecDepth 20000 in
theorem ml_X7_113 : ML RX7 113 yX7_applyFacts := Or.inl (gw_mem (tb2 217 rfl) rfl)
set_option maxRecDepth 20000 in
theorem ml_X7_116 : ML RX7 116 yX3_addCustomer := Or.inr ⟨"TruckWing", nw_mem (tb2 233 rfl) rfl⟩
set_option maxRecDepth 20000 in
theorem ml_X7_119 : ML RX7 119 yX3_putSetting := Or.inr ⟨"TruckWing", nw_mem (tb2 237 rfl) rfl⟩
set_option maxRecDepth 20000 in
theorem ml_X7_123 : ML RX7 123 yX7_applyRow := Or.inl (gw_mem (tb3 6 rfl) rfl)
set_option maxRecDepth 20000 in
theorem ml_X7_126 : ML RX7 126 yX4_addSortie := Or.inr ⟨"TruckWing", nw_mem (tb3 18 rfl) rfl⟩
set_option maxRecDepth 20000 in
theorem ml_X7_130 : ML RX7 130 yX3_putFact := Or.inr ⟨"TruckWing", nw_mem (tb2 221 rfl) rfl⟩
set_option maxRecDepth 20000 in
theorem ml_X7_134 : ML RX7 134 yX4_empty := Or.inr ⟨"TruckWing", nw_mem (tb3 10 rfl) rfl⟩
set_option maxRecDepth 20000 in
theorem ml_X7_137 : ML RX7 137 yX4_addStop := Or.inr ⟨"TruckWing", nw_mem (tb3 14 rfl) rfl⟩
set_option maxRecDepth 20000 in
theorem ml_X7_148 : ML RX7 148 yX6_hasBlankAt := Or.inr ⟨"TruckWing", nw_mem (tb2 103 rfl) rfl⟩
set_option maxRecDepth 20000 in
theorem ml_X7_151 : ML RX7 151 yX6_byteAt := Or.inr ⟨"TruckWing", nw_mem (tb2 111 rfl) rfl⟩
set_option maxRecDepth 20000 in
theorem ml_X7_154 : ML RX7 154 yX6_hasLetterAt := Or.inr ⟨"TruckWing", nw_mem (tb2 112 rfl) rfl⟩
set_option maxRecDepth 20000 in
theorem ml_X7_157 : ML RX7 157 yX7_stepWord := Or.inl (gw_mem (tb2 116 rfl) rfl)
set_option maxRecDepth 20000 in
theorem ml_X7_160 : ML RX7 160 yX6_hasDigitAt := Or.inr ⟨"TruckWing", nw_mem (tb2 120 rfl) rfl⟩
set_option maxRecDepth 20000 in
theorem ml_X7_163 : ML RX7 163 yX7_stepInt := Or.inl (gw_mem (tb2 124 rfl) rfl)
set_option maxRecDepth 20000 in
theorem ml_X7_166 : ML RX7 166 yJ0_length_8abf5 := Or.inl (gw_mem (tb2 137 rfl) rfl)
set_option maxRecDepth 20000 in
theorem ml_X7_170 : ML RX7 170 yJ0_charAt_5068e := Or.inl (gw_mem (tb2 147 rfl) rfl)
set_option maxRecDepth 20000 in
theorem ml_X9_70 : ML RX9 70 yX9_isIn := Or.inl (gw_mem (tb5 115 rfl) rfl)
set_option maxRecDepth 20000 in
theorem ml_X9_74 : ML RX9 74 yX9_customers := Or.inl (gw_mem (tb5 118 rfl) rfl)
set_option maxRecDepth 20000 in
theorem ml_X9_78 : ML RX9 78 yX9_of := Or.inl (gw_mem (tb5 141 rfl) rfl)
set_option maxRecDepth 20000 in
theorem ml_X9_82 : ML RX9 82 yX9_placeOf := Or.inl (gw_mem (tb5 197 rfl) rfl)
set_option maxRecDepth 20000 in
theorem ml_X9_86 : ML RX9 86 yX9_size := Or.inl (gw_mem (tb5 209 rfl) rfl)
set_option maxRecDepth 20000 in
theorem ml_X9_89 : ML RX9 89 yX9_mayBe := Or.inl (gw_mem (tb5 112 rfl) rfl)
set_option maxRecDepth 20000 in
theorem ml_X9_93 : ML RX9 93 yX9_more := Or.inl (gw_mem (tb5 122 rfl) rfl)
set_option maxRecDepth 20000 in
theorem ml_X9_97 : ML RX9 97 yX9_clears := Or.inl (gw_mem (tb5 130 rfl) rfl)
set_option maxRecDepth 20000 in
theorem ml_X9_100 : ML RX9 100 yX9_maySet := Or.inl (gw_mem (tb5 138 rfl) rfl)
set_option maxRecDepth 20000 in
theorem ml_X9_103 : ML RX9 103 yX9_isCustomer := Or.inl (gw_mem (tb5 149 rfl) rfl)
set_option maxRecDepth 20000 in
theorem ml_X9_107 : ML RX9 107 yX9_stops := Or.inl (gw_mem (tb5 153 rfl) rfl)
set_option maxRecDepth 20000 in
theorem ml_X9_110 : ML RX9 110 yX9_stopsAt := Or.inl (gw_mem (tb5 157 rfl) rfl)
set_option maxRecDepth 20000 in
theorem ml_X9_114 : ML RX9 114 yX9_maySend := Or.inl (gw_mem (tb5 165 rfl) rfl)
set_option maxRecDepth 20000 in
theorem ml_X9_118 : ML RX9 118 yX9_sorties := Or.inl (gw_mem (tb5 169 rfl) rfl)
set_option maxRecDepth 20000 in
theorem ml_X9_121 : ML RX9 121 yX9_sends := Or.inl (gw_mem (tb5 173 rfl) rfl)
set_option maxRecDepth 20000 in
theorem ml_X9_128 : ML RX9 128 yX9_isPlace := Or.inl (gw_mem (tb5 193 rfl) rfl)
set_option maxRecDepth 20000 in
theorem ml_X9_131 : ML RX9 131 yX9_flight := Or.inl (gw_mem (tb5 205 rfl) rfl)
set_option maxRecDepth 20000 in
theorem ml_X9_134 : ML RX9 134 yX9_drive := Or.inl (gw_mem (tb5 212 rfl) rfl)
set_option maxRecDepth 20000 in
theorem ml_X9_137 : ML RX9 137 yX9_sortieOf := Or.inl (gw_mem (tb5 220 rfl) rfl)
set_option maxRecDepth 20000 in
theorem ml_X9_140 : ML RX9 140 yX9_put := Or.inl (gw_mem (tb5 228 rfl) rfl)
set_option maxRecDepth 20000 in
theorem ml_X9_152 : ML RX9 152 yX9_here := Or.inl (gw_mem (tb6 0 rfl) rfl)
set_option maxRecDepth 20000 in
theorem ml_X9_158 : ML RX9 158 yX9_isDigitAt := Or.inl (gw_mem (tb6 23 rfl) rfl)
set_option maxRecDepth 20000 in
theorem ml_X9_161 : ML RX9 161 yX9_fails := Or.inl (gw_mem (tb6 27 rfl) rfl)
set_option maxRecDepth 20000 in
theorem ml_X9_165 : ML RX9 165 yX9_number := Or.inl (gw_mem (tb6 19 rfl) rfl)
set_option maxRecDepth 20000 in
theorem ml_X9_168 : ML RX9 168 yX9_word := Or.inl (gw_mem (tb6 8 rfl) rfl)
set_option maxRecDepth 20000 in
theorem ml_X9_171 : ML RX9 171 yX9_letters := Or.inl (gw_mem (tb6 12 rfl) rfl)
set_option maxRecDepth 20000 in
theorem ml_X9_175 : ML RX9 175 yX9_numberOf := Or.inl (gw_mem (tb6 15 rfl) rfl)
set_option maxRecDepth 20000 in
theorem ml_X9_178 : ML RX9 178 yX9_numberIn := Or.inl (gw_mem (tb6 31 rfl) rfl)
set_option maxRecDepth 20000 in
theorem ml_X9_181 : ML RX9 181 yX9_rowGoesOn := Or.inl (gw_mem (tb6 35 rfl) rfl)
set_option maxRecDepth 20000 in
theorem ml_X9_184 : ML RX9 184 yX9_statement := Or.inl (gw_mem (tb6 4 rfl) rfl)
set_option maxRecDepth 20000 in
theorem ml_X9_187 : ML RX9 187 yX9_stopAt := Or.inl (gw_mem (tb6 55 rfl) rfl)
set_option maxRecDepth 20000 in
theorem ml_X9_190 : ML RX9 190 yX9_servedBy := Or.inl (gw_mem (tb6 51 rfl) rfl)
set_option maxRecDepth 20000 in
theorem ml_X9_193 : ML RX9 193 yX9_isLight := Or.inl (gw_mem (tb6 59 rfl) rfl)
set_option maxRecDepth 20000 in
theorem ml_X9_196 : ML RX9 196 yX9_crosses := Or.inl (gw_mem (tb6 63 rfl) rfl)
set_option maxRecDepth 20000 in
theorem ml_X9_202 : ML RX9 202 yX9_happens := Or.inl (gw_mem (tb6 71 rfl) rfl)
set_option maxRecDepth 20000 in
theorem ml_X9_205 : ML RX9 205 yX9_wrongPlan := Or.inl (gw_mem (tb6 47 rfl) rfl)
set_option maxRecDepth 20000 in
theorem ml_X9_208 : ML RX9 208 yX9_service := Or.inl (gw_mem (tb6 75 rfl) rfl)
set_option maxRecDepth 20000 in
theorem ml_X9_211 : ML RX9 211 yX9_nextCaught := Or.inl (gw_mem (tb6 79 rfl) rfl)
set_option maxRecDepth 20000 in
theorem ml_X9_214 : ML RX9 214 yX9_launches := Or.inl (gw_mem (tb6 83 rfl) rfl)
set_option maxRecDepth 20000 in
theorem ml_X9_217 : ML RX9 217 yX9_sorts := Or.inl (gw_mem (tb6 87 rfl) rfl)
set_option maxRecDepth 20000 in
theorem ml_X9_220 : ML RX9 220 yX9_isAhead := Or.inl (gw_mem (tb6 91 rfl) rfl)
set_option maxRecDepth 20000 in
theorem ml_X9_223 : ML RX9 223 yX9_goes := Or.inl (gw_mem (tb6 67 rfl) rfl)
set_option maxRecDepth 20000 in
theorem ml_X9_227 : ML RX9 227 yX9_airOf := Or.inl (gw_mem (tb6 95 rfl) rfl)
set_option maxRecDepth 20000 in
theorem ml_X9_230 : ML RX9 230 yX9_bits := Or.inl (gw_mem (tb6 131 rfl) rfl)
set_option maxRecDepth 20000 in
theorem ml_X9_233 : ML RX9 233 yX9_isLightSet := Or.inl (gw_mem (tb6 134 rfl) rfl)
set_option maxRecDepth 20000 in
theorem ml_X9_236 : ML RX9 236 yX9_lasts := Or.inl (gw_mem (tb6 138 rfl) rfl)
set_option maxRecDepth 20000 in
theorem ml_X9_239 : ML RX9 239 yX9_lays := Or.inl (gw_mem (tb6 123 rfl) rfl)
set_option maxRecDepth 20000 in
theorem ml_X9_242 : ML RX9 242 yX9_splits := Or.inl (gw_mem (tb6 127 rfl) rfl)
set_option maxRecDepth 20000 in
theorem ml_X9_245 : ML RX9 245 yX9_swaps := Or.inl (gw_mem (tb6 162 rfl) rfl)
set_option maxRecDepth 20000 in
theorem ml_X9_251 : ML RX9 251 yX9_told := Or.inl (gw_mem (tb6 154 rfl) rfl)
set_option maxRecDepth 20000 in
theorem ml_X9_257 : ML RX9 257 yX9_goesOn := Or.inl (gw_mem (tb6 158 rfl) rfl)
set_option maxRecDepth 20000 in
theorem ml_X9_260 : ML RX9 260 yX9_seeks := Or.inl (gw_mem (tb6 150 rfl) rfl)
set_option maxRecDepth 20000 in
theorem ml_X9_263 : ML RX9 263 yX9_splitBy := Or.inl (gw_mem (tb6 178 rfl) rfl)
set_option maxRecDepth 20000 in
theorem mmax_X0_139 : MX RX0 139 := ⟨gw_mem (tb3 199 rfl) rfl, gw_mem (tb3 114 rfl) rfl, gw_mem (tb1 16 rfl) rfl, gw_mem (tb3 115 rfl) rfl⟩
set_option maxRecDepth 20000 in
theorem mcopy_X3_39 : MC RX3 39 := ⟨gw_mem (tb2 91 rfl) rfl, gw_mem (tb2 93 rfl) rfl, gw_mem (tb2 92 rfl) rfl, gw_mem (tb1 11 rfl) rfl⟩
set_option maxRecDepth 20000 in
theorem mabs_X3_64 : MA RX3 64 := ⟨gw_mem (tb3 110 rfl) rfl, gw_mem (tb3 111 rfl) rfl, gw_mem (tb1 16 rfl) rfl, gw_mem (tb3 112 rfl) rfl⟩
set_option maxRecDepth 20000 in
theorem mmax_X3_69 : MX RX3 69 := ⟨gw_mem (tb3 113 rfl) rfl, gw_mem (tb3 114 rfl) rfl, gw_mem (tb1 16 rfl) rfl, gw_mem (tb3 115 rfl) rfl⟩
set_option maxRecDepth 20000 in
theorem mcopy_X4_25 : MC RX4 25 := ⟨gw_mem (tb2 98 rfl) rfl, gw_mem (tb2 93 rfl) rfl, gw_mem (tb2 92 rfl) rfl, gw_mem (tb1 11 rfl) rfl⟩
set_option maxRecDepth 20000 in
theorem mmax_X5_97 : MX RX5 97 := ⟨gw_mem (tb4 55 rfl) rfl, gw_mem (tb3 114 rfl) rfl, gw_mem (tb1 16 rfl) rfl, gw_mem (tb3 115 rfl) rfl⟩
set_option maxRecDepth 20000 in
theorem my_J6_bitCount_0f7a4 : MY yJ6_bitCount_0f7a4 cJ6_bitCount_0f7a4 1 (some .int) 1 := ⟨gw_mem (tb4 97 rfl) rfl, gw_mem (tb1 21 rfl) rfl, by decide +kernel⟩
set_option maxRecDepth 20000 in
theorem ms_J6_bitCount_0f7a4 : Cond.static yJ6_bitCount_0f7a4 ∈ gw := gw_mem (tb4 96 rfl) rfl
set_option maxRecDepth 20000 in
theorem my_X0_air : MY yX0_air cX0_air 2 (some .int) 1 := ⟨gw_mem (tb3 216 rfl) rfl, gw_mem (tb1 4 rfl) rfl, by decide +kernel⟩
set_option maxRecDepth 20000 in
theorem mi_X0_air : MI yX0_air := ⟨gw_mem (tb3 215 rfl) rfl, gw_mem (sl4 6 rfl) rfl⟩
set_option maxRecDepth 20000 in
theorem my_X0_catchAll : MY yX0_catchAll cX0_catchAll 6 (some .int) 2 := ⟨gw_mem (tb3 190 rfl) rfl, gw_mem (tb1 4 rfl) rfl, by decide +kernel⟩
set_option maxRecDepth 20000 in
theorem mi_X0_catchAll : MI yX0_catchAll := ⟨gw_mem (tb3 189 rfl) rfl, gw_mem (sl4 0 rfl) rfl⟩
set_option maxRecDepth 20000 in
theorem my_X0_drivePlan : MY yX0_drivePlan cX0_drivePlan 4 none 0 := ⟨gw_mem (tb3 176 rfl) rfl, gw_mem (tb1 4 rfl) rfl, by decide +kernel⟩
set_option maxRecDepth 20000 in
theorem mi_X0_drivePlan : MI yX0_drivePlan := ⟨gw_mem (tb3 175 rfl) rfl, gw_mem (sl3 13 rfl) rfl⟩
set_option maxRecDepth 20000 in
theorem my_X0_drivenTo : MY yX0_drivenTo cX0_drivenTo 2 (some .int) 1 := ⟨gw_mem (tb4 24 rfl) rfl, gw_mem (tb1 4 rfl) rfl, by decide +kernel⟩
set_option maxRecDepth 20000 in
theorem mi_X0_drivenTo : MI yX0_drivenTo := ⟨gw_mem (tb4 23 rfl) rfl, gw_mem (sl4 13 rfl) rfl⟩
set_option maxRecDepth 20000 in
theorem my_X0_flownBy : MY yX0_flownBy cX0_flownBy 2 (some .int) 1 := ⟨gw_mem (tb4 28 rfl) rfl, gw_mem (tb1 4 rfl) rfl, by decide +kernel⟩
set_option maxRecDepth 20000 in
theorem mi_X0_flownBy : MI yX0_flownBy := ⟨gw_mem (tb4 27 rfl) rfl, gw_mem (sl4 14 rfl) rfl⟩
set_option maxRecDepth 20000 in
theorem my_X0_impossibleSortie : MY yX0_impossibleSortie cX0_impossibleSortie 4 (some .int) 0 := ⟨gw_mem (tb3 135 rfl) rfl, gw_mem (tb1 4 rfl) rfl, by decide +kernel⟩
set_option maxRecDepth 20000 in
theorem mi_X0_impossibleSortie : MI yX0_impossibleSortie := ⟨gw_mem (tb3 134 rfl) rfl, gw_mem (sl3 4 rfl) rfl⟩
set_option maxRecDepth 20000 in
theorem my_X0_isAhead : MY yX0_isAhead cX0_isAhead 3 (some .boolean) 2 := ⟨gw_mem (tb3 198 rfl) rfl, gw_mem (tb1 4 rfl) rfl, by decide +kernel⟩
set_option maxRecDepth 20000 in
theorem mi_X0_isAhead : MI yX0_isAhead := ⟨gw_mem (tb3 197 rfl) rfl, gw_mem (sl4 2 rfl) rfl⟩
set_option maxRecDepth 20000 in
theorem my_X0_lastReady : MY yX0_lastReady cX0_lastReady 1 (some .int) 0 := ⟨gw_mem (tb3 224 rfl) rfl, gw_mem (tb1 4 rfl) rfl, by decide +kernel⟩
set_option maxRecDepth 20000 in
theorem mi_X0_lastReady : MI yX0_lastReady := ⟨gw_mem (tb3 223 rfl) rfl, gw_mem (sl4 7 rfl) rfl⟩
set_option maxRecDepth 20000 in
theorem my_X0_launch : MY yX0_launch cX0_launch 10 none 2 := ⟨gw_mem (tb3 207 rfl) rfl, gw_mem (tb1 4 rfl) rfl, by decide +kernel⟩
set_option maxRecDepth 20000 in
theorem mi_X0_launch : MI yX0_launch := ⟨gw_mem (tb3 206 rfl) rfl, gw_mem (sl4 4 rfl) rfl⟩
set_option maxRecDepth 20000 in
theorem my_X0_launchAll : MY yX0_launchAll cX0_launchAll 6 (some .int) 2 := ⟨gw_mem (tb3 203 rfl) rfl, gw_mem (tb1 4 rfl) rfl, by decide +kernel⟩
set_option maxRecDepth 20000 in
theorem mi_X0_launchAll : MI yX0_launchAll := ⟨gw_mem (tb3 202 rfl) rfl, gw_mem (sl4 3 rfl) rfl⟩
set_option maxRecDepth 20000 in
theorem my_X0_look : MY yX0_look cX0_look 1 (some .boolean) 0 := ⟨gw_mem (tb3 127 rfl) rfl, gw_mem (tb1 4 rfl) rfl, by decide +kernel⟩
set_option maxRecDepth 20000 in
theorem mi_X0_look : MI yX0_look := ⟨gw_mem (tb3 126 rfl) rfl, gw_mem (sl3 2 rfl) rfl⟩
set_option maxRecDepth 20000 in
theorem my_X0_nextToCatch : MY yX0_nextToCatch cX0_nextToCatch 4 (some .int) 1 := ⟨gw_mem (tb3 194 rfl) rfl, gw_mem (tb1 4 rfl) rfl, by decide +kernel⟩
set_option maxRecDepth 20000 in
theorem mi_X0_nextToCatch : MI yX0_nextToCatch := ⟨gw_mem (tb3 193 rfl) rfl, gw_mem (sl4 1 rfl) rfl⟩
set_option maxRecDepth 20000 in
theorem my_X0_ofSortie : MY yX0_ofSortie cX0_ofSortie 3 (some .int) 2 := ⟨gw_mem (tb4 4 rfl) rfl, gw_mem (tb1 4 rfl) rfl, by decide +kernel⟩
set_option maxRecDepth 20000 in
theorem mi_X0_ofSortie : MI yX0_ofSortie := ⟨gw_mem (tb4 3 rfl) rfl, gw_mem (sl4 10 rfl) rfl⟩
set_option maxRecDepth 20000 in
theorem my_X0_ofStop : MY yX0_ofStop cX0_ofStop 3 (some .int) 2 := ⟨gw_mem (tb3 232 rfl) rfl, gw_mem (tb1 4 rfl) rfl, by decide +kernel⟩
set_option maxRecDepth 20000 in
theorem mi_X0_ofStop : MI yX0_ofStop := ⟨gw_mem (tb3 231 rfl) rfl, gw_mem (sl4 8 rfl) rfl⟩
set_option maxRecDepth 20000 in
theorem my_X0_overlapping : MY yX0_overlapping cX0_overlapping 3 (some .int) 0 := ⟨gw_mem (tb3 172 rfl) rfl, gw_mem (tb1 4 rfl) rfl, by decide +kernel⟩
set_option maxRecDepth 20000 in
theorem mi_X0_overlapping : MI yX0_overlapping := ⟨gw_mem (tb3 171 rfl) rfl, gw_mem (sl3 12 rfl) rfl⟩
set_option maxRecDepth 20000 in
theorem my_X0_servedByNobody : MY yX0_servedByNobody cX0_servedByNobody 2 (some .int) 0 := ⟨gw_mem (tb3 160 rfl) rfl, gw_mem (tb1 4 rfl) rfl, by decide +kernel⟩
set_option maxRecDepth 20000 in
theorem mi_X0_servedByNobody : MI yX0_servedByNobody := ⟨gw_mem (tb3 159 rfl) rfl, gw_mem (sl3 9 rfl) rfl⟩
set_option maxRecDepth 20000 in
theorem my_X0_servedTooOften : MY yX0_servedTooOften cX0_servedTooOften 2 (some .int) 0 := ⟨gw_mem (tb3 148 rfl) rfl, gw_mem (tb1 4 rfl) rfl, by decide +kernel⟩
set_option maxRecDepth 20000 in
theorem mi_X0_servedTooOften : MI yX0_servedTooOften := ⟨gw_mem (tb3 147 rfl) rfl, gw_mem (sl3 6 rfl) rfl⟩
set_option maxRecDepth 20000 in
theorem my_X0_timesServed : MY yX0_timesServed cX0_timesServed 4 (some .int) 1 := ⟨gw_mem (tb3 152 rfl) rfl, gw_mem (tb1 4 rfl) rfl, by decide +kernel⟩
set_option maxRecDepth 20000 in
theorem mi_X0_timesServed : MI yX0_timesServed := ⟨gw_mem (tb3 151 rfl) rfl, gw_mem (sl3 7 rfl) rfl⟩
set_option maxRecDepth 20000 in
theorem my_X0_told : MY yX0_told cX0_told 2 (some .int) 2 := ⟨gw_mem (tb3 144 rfl) rfl, gw_mem (tb1 4 rfl) rfl, by decide +kernel⟩
set_option maxRecDepth 20000 in
theorem ms_X0_told : Cond.static yX0_told ∈ gw := gw_mem (tb3 143 rfl) rfl
set_option maxRecDepth 20000 in
theorem my_X0_tooHeavy : MY yX0_tooHeavy cX0_tooHeavy 2 (some .int) 0 := ⟨gw_mem (tb3 164 rfl) rfl, gw_mem (tb1 4 rfl) rfl, by decide +kernel⟩
set_option maxRecDepth 20000 in
theorem mi_X0_tooHeavy : MI yX0_tooHeavy := ⟨gw_mem (tb3 163 rfl) rfl, gw_mem (sl3 10 rfl) rfl⟩
set_option maxRecDepth 20000 in
theorem my_X0_tooLongInAir : MY yX0_tooLongInAir cX0_tooLongInAir 2 (some .int) 0 := ⟨gw_mem (tb3 212 rfl) rfl, gw_mem (tb1 4 rfl) rfl, by decide +kernel⟩
set_option maxRecDepth 20000 in
theorem mi_X0_tooLongInAir : MI yX0_tooLongInAir := ⟨gw_mem (tb3 211 rfl) rfl, gw_mem (sl4 5 rfl) rfl⟩
set_option maxRecDepth 20000 in
theorem my_X0_total : MY yX0_total cX0_total 4 (some .int) 1 := ⟨gw_mem (tb4 20 rfl) rfl, gw_mem (tb1 4 rfl) rfl, by decide +kernel⟩
set_option maxRecDepth 20000 in
theorem mi_X0_total : MI yX0_total := ⟨gw_mem (tb4 19 rfl) rfl, gw_mem (sl4 12 rfl) rfl⟩
set_option maxRecDepth 20000 in
theorem my_X0_wrongWithoutTimes : MY yX0_wrongWithoutTimes cX0_wrongWithoutTimes 2 (some .int) 0 := ⟨gw_mem (tb3 131 rfl) rfl, gw_mem (tb1 4 rfl) rfl, by decide +kernel⟩
set_option maxRecDepth 20000 in
theorem mi_X0_wrongWithoutTimes : MI yX0_wrongWithoutTimes := ⟨gw_mem (tb3 130 rfl) rfl, gw_mem (sl3 3 rfl) rfl⟩
set_option maxRecDepth 20000 in
theorem my_X1_empty : MY yX1_empty cX1_empty 1 none 0 := ⟨gw_mem (tb3 180 rfl) rfl, gw_mem (tb1 5 rfl) rfl, by decide +kernel⟩
set_option maxRecDepth 20000 in
theorem mi_X1_empty : MI yX1_empty := ⟨gw_mem (tb3 179 rfl) rfl, gw_mem (sl3 14 rfl) rfl⟩
set_option maxRecDepth 20000 in
theorem my_X1_note : MY yX1_note cX1_note 7 none 4 := ⟨gw_mem (tb3 185 rfl) rfl, gw_mem (tb1 5 rfl) rfl, by decide +kernel⟩
set_option maxRecDepth 20000 in
theorem mi_X1_note : MI yX1_note := ⟨gw_mem (tb3 184 rfl) rfl, gw_mem (sl3 15 rfl) rfl⟩
set_option maxRecDepth 20000 in
theorem my_X1_part : MY yX1_part cX1_part 4 (some .int) 2 := ⟨gw_mem (tb4 12 rfl) rfl, gw_mem (tb1 5 rfl) rfl, by decide +kernel⟩
set_option maxRecDepth 20000 in
theorem mi_X1_part : MI yX1_part := ⟨gw_mem (tb4 11 rfl) rfl, gw_mem (sl4 11 rfl) rfl⟩
set_option maxRecDepth 20000 in
theorem my_X2_keep : MY yX2_keep cX2_keep 3 none 2 := ⟨gw_mem (tb4 153 rfl) rfl, gw_mem (tb1 9 rfl) rfl, by decide +kernel⟩
set_option maxRecDepth 20000 in
theorem mi_X2_keep : MI yX2_keep := ⟨gw_mem (tb4 152 rfl) rfl, gw_mem (sl6 5 rfl) rfl⟩
set_option maxRecDepth 20000 in
theorem my_X3_addCustomer : MY yX3_addCustomer cX3_addCustomer 1 none 0 := ⟨gw_mem (tb2 236 rfl) rfl, gw_mem (tb1 2 rfl) rfl, by decide +kernel⟩
set_option maxRecDepth 20000 in
theorem mi_X3_addCustomer : MI yX3_addCustomer := ⟨gw_mem (tb2 235 rfl) rfl, gw_mem (sl2 5 rfl) rfl⟩
set_option maxRecDepth 20000 in
theorem my_X3_copyOf : MY yX3_copyOf cX3_copyOf 2 none 1 := ⟨gw_mem (tb2 90 rfl) rfl, gw_mem (tb1 2 rfl) rfl, by decide +kernel⟩
set_option maxRecDepth 20000 in
theorem mi_X3_copyOf : MI yX3_copyOf := ⟨gw_mem (tb2 89 rfl) rfl, gw_mem (sl1 2 rfl) rfl⟩
set_option maxRecDepth 20000 in
theorem my_X3_drive : MY yX3_drive cX3_drive 5 (some .int) 2 := ⟨gw_mem (tb3 119 rfl) rfl, gw_mem (tb1 2 rfl) rfl, by decide +kernel⟩
set_option maxRecDepth 20000 in
theorem mi_X3_drive : MI yX3_drive := ⟨gw_mem (tb3 118 rfl) rfl, gw_mem (sl3 1 rfl) rfl⟩
set_option maxRecDepth 20000 in
theorem my_X3_fact : MY yX3_fact cX3_fact 4 (some .int) 2 := ⟨gw_mem (tb3 98 rfl) rfl, gw_mem (tb1 2 rfl) rfl, by decide +kernel⟩
set_option maxRecDepth 20000 in
theorem mi_X3_fact : MI yX3_fact := ⟨gw_mem (tb3 97 rfl) rfl, gw_mem (sl2 15 rfl) rfl⟩
set_option maxRecDepth 20000 in
theorem my_X3_flight : MY yX3_flight cX3_flight 8 (some .int) 4 := ⟨gw_mem (tb3 107 rfl) rfl, gw_mem (tb1 2 rfl) rfl, by decide +kernel⟩
set_option maxRecDepth 20000 in
theorem mi_X3_flight : MI yX3_flight := ⟨gw_mem (tb3 106 rfl) rfl, gw_mem (sl3 0 rfl) rfl⟩
set_option maxRecDepth 20000 in
theorem my_X3_isCustomer : MY yX3_isCustomer cX3_isCustomer 2 (some .boolean) 1 := ⟨gw_mem (tb3 62 rfl) rfl, gw_mem (tb1 2 rfl) rfl, by decide +kernel⟩
set_option maxRecDepth 20000 in
theorem mi_X3_isCustomer : MI yX3_isCustomer := ⟨gw_mem (tb3 61 rfl) rfl, gw_mem (sl2 13 rfl) rfl⟩
set_option maxRecDepth 20000 in
theorem my_X3_isLight : MY yX3_isLight cX3_isLight 2 (some .boolean) 1 := ⟨gw_mem (tb3 168 rfl) rfl, gw_mem (tb1 2 rfl) rfl, by decide +kernel⟩
set_option maxRecDepth 20000 in
theorem mi_X3_isLight : MI yX3_isLight := ⟨gw_mem (tb3 167 rfl) rfl, gw_mem (sl3 11 rfl) rfl⟩
set_option maxRecDepth 20000 in
theorem my_X3_isPlace : MY yX3_isPlace cX3_isPlace 2 (some .boolean) 1 := ⟨gw_mem (tb2 228 rfl) rfl, gw_mem (tb1 2 rfl) rfl, by decide +kernel⟩
set_option maxRecDepth 20000 in
theorem mi_X3_isPlace : MI yX3_isPlace := ⟨gw_mem (tb2 227 rfl) rfl, gw_mem (sl2 4 rfl) rfl⟩
set_option maxRecDepth 20000 in
theorem my_X3_mayBeFact : MY yX3_mayBeFact cX3_mayBeFact 2 (some .boolean) 2 := ⟨gw_mem (tb2 231 rfl) rfl, gw_mem (tb1 2 rfl) rfl, by decide +kernel⟩
set_option maxRecDepth 20000 in
theorem ms_X3_mayBeFact : Cond.static yX3_mayBeFact ∈ gw := gw_mem (tb2 230 rfl) rfl
set_option maxRecDepth 20000 in
theorem my_X3_mayBeSetting : MY yX3_mayBeSetting cX3_mayBeSetting 2 (some .boolean) 2 := ⟨gw_mem (tb3 3 rfl) rfl, gw_mem (tb1 2 rfl) rfl, by decide +kernel⟩
set_option maxRecDepth 20000 in
theorem ms_X3_mayBeSetting : Cond.static yX3_mayBeSetting ∈ gw := gw_mem (tb3 2 rfl) rfl
set_option maxRecDepth 20000 in
theorem my_X3_putFact : MY yX3_putFact cX3_putFact 4 none 3 := ⟨gw_mem (tb2 224 rfl) rfl, gw_mem (tb1 2 rfl) rfl, by decide +kernel⟩
set_option maxRecDepth 20000 in
theorem mi_X3_putFact : MI yX3_putFact := ⟨gw_mem (tb2 223 rfl) rfl, gw_mem (sl2 3 rfl) rfl⟩
set_option maxRecDepth 20000 in
theorem my_X3_putSetting : MY yX3_putSetting cX3_putSetting 3 none 2 := ⟨gw_mem (tb3 0 rfl) rfl, gw_mem (tb1 2 rfl) rfl, by decide +kernel⟩
set_option maxRecDepth 20000 in
theorem mi_X3_putSetting : MI yX3_putSetting := ⟨gw_mem (tb2 239 rfl) rfl, gw_mem (sl2 6 rfl) rfl⟩
set_option maxRecDepth 20000 in
theorem my_X3_setting : MY yX3_setting cX3_setting 2 (some .int) 1 := ⟨gw_mem (tb3 53 rfl) rfl, gw_mem (tb1 2 rfl) rfl, by decide +kernel⟩
set_option maxRecDepth 20000 in
theorem mi_X3_setting : MI yX3_setting := ⟨gw_mem (tb3 52 rfl) rfl, gw_mem (sl2 12 rfl) rfl⟩
set_option maxRecDepth 20000 in
theorem my_X4_addSortie : MY yX4_addSortie cX4_addSortie 6 (some .boolean) 4 := ⟨gw_mem (tb3 21 rfl) rfl, gw_mem (tb1 3 rfl) rfl, by decide +kernel⟩
set_option maxRecDepth 20000 in
theorem mi_X4_addSortie : MI yX4_addSortie := ⟨gw_mem (tb3 20 rfl) rfl, gw_mem (sl2 10 rfl) rfl⟩
set_option maxRecDepth 20000 in
theorem my_X4_addStop : MY yX4_addStop cX4_addStop 2 (some .boolean) 1 := ⟨gw_mem (tb3 17 rfl) rfl, gw_mem (tb1 3 rfl) rfl, by decide +kernel⟩
set_option maxRecDepth 20000 in
theorem mi_X4_addStop : MI yX4_addStop := ⟨gw_mem (tb3 16 rfl) rfl, gw_mem (sl2 9 rfl) rfl⟩
set_option maxRecDepth 20000 in
theorem my_X4_copyOf : MY yX4_copyOf cX4_copyOf 2 none 1 := ⟨gw_mem (tb2 97 rfl) rfl, gw_mem (tb1 3 rfl) rfl, by decide +kernel⟩
set_option maxRecDepth 20000 in
theorem mi_X4_copyOf : MI yX4_copyOf := ⟨gw_mem (tb2 96 rfl) rfl, gw_mem (sl1 3 rfl) rfl⟩
set_option maxRecDepth 20000 in
theorem my_X4_empty : MY yX4_empty cX4_empty 1 none 0 := ⟨gw_mem (tb3 13 rfl) rfl, gw_mem (tb1 3 rfl) rfl, by decide +kernel⟩
set_option maxRecDepth 20000 in
theorem mi_X4_empty : MI yX4_empty := ⟨gw_mem (tb3 12 rfl) rfl, gw_mem (sl2 8 rfl) rfl⟩
set_option maxRecDepth 20000 in
theorem my_X4_hasSortie : MY yX4_hasSortie cX4_hasSortie 2 (some .boolean) 1 := ⟨gw_mem (tb4 0 rfl) rfl, gw_mem (tb1 3 rfl) rfl, by decide +kernel⟩
set_option maxRecDepth 20000 in
theorem mi_X4_hasSortie : MI yX4_hasSortie := ⟨gw_mem (tb3 239 rfl) rfl, gw_mem (sl4 9 rfl) rfl⟩
set_option maxRecDepth 20000 in
theorem my_X4_mayBeFlyer : MY yX4_mayBeFlyer cX4_mayBeFlyer 1 (some .boolean) 1 := ⟨gw_mem (tb3 74 rfl) rfl, gw_mem (tb1 3 rfl) rfl, by decide +kernel⟩
set_option maxRecDepth 20000 in
theorem ms_X4_mayBeFlyer : Cond.static yX4_mayBeFlyer ∈ gw := gw_mem (tb3 73 rfl) rfl
set_option maxRecDepth 20000 in
theorem my_X4_mayBeIndex : MY yX4_mayBeIndex cX4_mayBeIndex 1 (some .boolean) 1 := ⟨gw_mem (tb3 77 rfl) rfl, gw_mem (tb1 3 rfl) rfl, by decide +kernel⟩
set_option maxRecDepth 20000 in
theorem ms_X4_mayBeIndex : Cond.static yX4_mayBeIndex ∈ gw := gw_mem (tb3 76 rfl) rfl
set_option maxRecDepth 20000 in
theorem my_X4_part : MY yX4_part cX4_part 4 (some .int) 2 := ⟨gw_mem (tb3 139 rfl) rfl, gw_mem (tb1 3 rfl) rfl, by decide +kernel⟩
set_option maxRecDepth 20000 in
theorem mi_X4_part : MI yX4_part := ⟨gw_mem (tb3 138 rfl) rfl, gw_mem (sl3 5 rfl) rfl⟩
set_option maxRecDepth 20000 in
theorem my_X4_placeAt : MY yX4_placeAt cX4_placeAt 2 (some .int) 1 := ⟨gw_mem (tb3 156 rfl) rfl, gw_mem (tb1 3 rfl) rfl, by decide +kernel⟩
set_option maxRecDepth 20000 in
theorem mi_X4_placeAt : MI yX4_placeAt := ⟨gw_mem (tb3 155 rfl) rfl, gw_mem (sl3 8 rfl) rfl⟩
set_option maxRecDepth 20000 in
theorem my_X4_stops : MY yX4_stops cX4_stops 1 (some .int) 0 := ⟨gw_mem (tb3 67 rfl) rfl, gw_mem (tb1 3 rfl) rfl, by decide +kernel⟩
set_option maxRecDepth 20000 in
theorem mi_X4_stops : MI yX4_stops := ⟨gw_mem (tb3 66 rfl) rfl, gw_mem (sl2 14 rfl) rfl⟩
set_option maxRecDepth 20000 in
theorem my_X5_beginWithVan : MY yX5_beginWithVan cX5_beginWithVan 3 none 1 := ⟨gw_mem (tb4 59 rfl) rfl, gw_mem (tb1 6 rfl) rfl, by decide +kernel⟩
set_option maxRecDepth 20000 in
theorem mi_X5_beginWithVan : MI yX5_beginWithVan := ⟨gw_mem (tb4 58 rfl) rfl, gw_mem (sl5 3 rfl) rfl⟩
set_option maxRecDepth 20000 in
theorem my_X5_bit : MY yX5_bit cX5_bit 2 (some .int) 2 := ⟨gw_mem (tb4 90 rfl) rfl, gw_mem (tb1 6 rfl) rfl, by decide +kernel⟩
set_option maxRecDepth 20000 in
theorem ms_X5_bit : Cond.static yX5_bit ∈ gw := gw_mem (tb4 89 rfl) rfl
set_option maxRecDepth 20000 in
theorem my_X5_fill : MY yX5_fill cX5_fill 4 none 1 := ⟨gw_mem (tb4 54 rfl) rfl, gw_mem (tb1 6 rfl) rfl, by decide +kernel⟩
set_option maxRecDepth 20000 in
theorem mi_X5_fill : MI yX5_fill := ⟨gw_mem (tb4 53 rfl) rfl, gw_mem (sl5 2 rfl) rfl⟩
set_option maxRecDepth 20000 in
theorem my_X5_isFlown : MY yX5_isFlown cX5_isFlown 4 (some .boolean) 3 := ⟨gw_mem (tb4 129 rfl) rfl, gw_mem (tb1 6 rfl) rfl, by decide +kernel⟩
set_option maxRecDepth 20000 in
theorem mi_X5_isFlown : MI yX5_isFlown := ⟨gw_mem (tb4 128 rfl) rfl, gw_mem (sl6 1 rfl) rfl⟩
set_option maxRecDepth 20000 in
theorem my_X5_lastEnd : MY yX5_lastEnd cX5_lastEnd 1 (some .int) 0 := ⟨gw_mem (tb4 108 rfl) rfl, gw_mem (tb1 6 rfl) rfl, by decide +kernel⟩
set_option maxRecDepth 20000 in
theorem mi_X5_lastEnd : MI yX5_lastEnd := ⟨gw_mem (tb4 107 rfl) rfl, gw_mem (sl5 13 rfl) rfl⟩
set_option maxRecDepth 20000 in
theorem my_X5_lasts : MY yX5_lasts cX5_lasts 4 (some .boolean) 3 := ⟨gw_mem (tb4 87 rfl) rfl, gw_mem (tb1 6 rfl) rfl, by decide +kernel⟩
set_option maxRecDepth 20000 in
theorem mi_X5_lasts : MI yX5_lasts := ⟨gw_mem (tb4 86 rfl) rfl, gw_mem (sl5 10 rfl) rfl⟩
set_option maxRecDepth 20000 in
theorem my_X5_leg : MY yX5_leg cX5_leg 3 (some .int) 2 := ⟨gw_mem (tb4 63 rfl) rfl, gw_mem (tb1 6 rfl) rfl, by decide +kernel⟩
set_option maxRecDepth 20000 in
theorem mi_X5_leg : MI yX5_leg := ⟨gw_mem (tb4 62 rfl) rfl, gw_mem (sl5 4 rfl) rfl⟩
set_option maxRecDepth 20000 in
theorem my_X5_linkBlocks : MY yX5_linkBlocks cX5_linkBlocks 3 none 0 := ⟨gw_mem (tb4 120 rfl) rfl, gw_mem (tb1 6 rfl) rfl, by decide +kernel⟩
set_option maxRecDepth 20000 in
theorem mi_X5_linkBlocks : MI yX5_linkBlocks := ⟨gw_mem (tb4 119 rfl) rfl, gw_mem (sl5 15 rfl) rfl⟩
set_option maxRecDepth 20000 in
theorem my_X5_nextOrder : MY yX5_nextOrder cX5_nextOrder 5 (some .int) 0 := ⟨gw_mem (tb4 157 rfl) rfl, gw_mem (tb1 6 rfl) rfl, by decide +kernel⟩
set_option maxRecDepth 20000 in
theorem mi_X5_nextOrder : MI yX5_nextOrder := ⟨gw_mem (tb4 156 rfl) rfl, gw_mem (sl6 6 rfl) rfl⟩
set_option maxRecDepth 20000 in
theorem my_X5_offer : MY yX5_offer cX5_offer 7 none 4 := ⟨gw_mem (tb4 94 rfl) rfl, gw_mem (tb1 6 rfl) rfl, by decide +kernel⟩
set_option maxRecDepth 20000 in
theorem mi_X5_offer : MI yX5_offer := ⟨gw_mem (tb4 93 rfl) rfl, gw_mem (sl5 11 rfl) rfl⟩
set_option maxRecDepth 20000 in
theorem my_X5_offerBlocks : MY yX5_offerBlocks cX5_offerBlocks 5 none 2 := ⟨gw_mem (tb4 71 rfl) rfl, gw_mem (tb1 6 rfl) rfl, by decide +kernel⟩
set_option maxRecDepth 20000 in
theorem mi_X5_offerBlocks : MI yX5_offerBlocks := ⟨gw_mem (tb4 70 rfl) rfl, gw_mem (sl5 6 rfl) rfl⟩
set_option maxRecDepth 20000 in
theorem my_X5_offerOne : MY yX5_offerOne cX5_offerOne 7 none 3 := ⟨gw_mem (tb4 75 rfl) rfl, gw_mem (tb1 6 rfl) rfl, by decide +kernel⟩
set_option maxRecDepth 20000 in
theorem mi_X5_offerOne : MI yX5_offerOne := ⟨gw_mem (tb4 74 rfl) rfl, gw_mem (sl5 7 rfl) rfl⟩
set_option maxRecDepth 20000 in
theorem my_X5_offerTwo : MY yX5_offerTwo cX5_offerTwo 11 none 4 := ⟨gw_mem (tb4 104 rfl) rfl, gw_mem (tb1 6 rfl) rfl, by decide +kernel⟩
set_option maxRecDepth 20000 in
theorem mi_X5_offerTwo : MI yX5_offerTwo := ⟨gw_mem (tb4 103 rfl) rfl, gw_mem (sl5 12 rfl) rfl⟩
set_option maxRecDepth 20000 in
theorem my_X5_orderNumber : MY yX5_orderNumber cX5_orderNumber 3 (some .int) 0 := ⟨gw_mem (tb4 149 rfl) rfl, gw_mem (tb1 6 rfl) rfl, by decide +kernel⟩
set_option maxRecDepth 20000 in
theorem mi_X5_orderNumber : MI yX5_orderNumber := ⟨gw_mem (tb4 148 rfl) rfl, gw_mem (sl6 4 rfl) rfl⟩
set_option maxRecDepth 20000 in
theorem my_X5_prepare : MY yX5_prepare cX5_prepare 6 none 3 := ⟨gw_mem (tb4 45 rfl) rfl, gw_mem (tb1 6 rfl) rfl, by decide +kernel⟩
set_option maxRecDepth 20000 in
theorem mi_X5_prepare : MI yX5_prepare := ⟨gw_mem (tb4 44 rfl) rfl, gw_mem (sl5 1 rfl) rfl⟩
set_option maxRecDepth 20000 in
theorem my_X5_readOrder : MY yX5_readOrder cX5_readOrder 6 (some .boolean) 1 := ⟨gw_mem (tb4 36 rfl) rfl, gw_mem (tb1 6 rfl) rfl, by decide +kernel⟩
set_option maxRecDepth 20000 in
theorem mi_X5_readOrder : MI yX5_readOrder := ⟨gw_mem (tb4 35 rfl) rfl, gw_mem (sl4 15 rfl) rfl⟩
set_option maxRecDepth 20000 in
theorem my_X5_search : MY yX5_search cX5_search 4 none 1 := ⟨gw_mem (tb4 143 rfl) rfl, gw_mem (tb1 6 rfl) rfl, by decide +kernel⟩
set_option maxRecDepth 20000 in
theorem mi_X5_search : MI yX5_search := ⟨gw_mem (tb4 142 rfl) rfl, gw_mem (sl6 3 rfl) rfl⟩
set_option maxRecDepth 20000 in
theorem my_X5_soonest : MY yX5_soonest cX5_soonest 3 (some .int) 2 := ⟨gw_mem (tb4 67 rfl) rfl, gw_mem (tb1 6 rfl) rfl, by decide +kernel⟩
set_option maxRecDepth 20000 in
theorem mi_X5_soonest : MI yX5_soonest := ⟨gw_mem (tb4 66 rfl) rfl, gw_mem (sl5 5 rfl) rfl⟩
set_option maxRecDepth 20000 in
theorem my_X5_spared : MY yX5_spared cX5_spared 4 (some .int) 2 := ⟨gw_mem (tb4 79 rfl) rfl, gw_mem (tb1 6 rfl) rfl, by decide +kernel⟩
set_option maxRecDepth 20000 in
theorem mi_X5_spared : MI yX5_spared := ⟨gw_mem (tb4 78 rfl) rfl, gw_mem (sl5 8 rfl) rfl⟩
set_option maxRecDepth 20000 in
theorem my_X5_swap : MY yX5_swap cX5_swap 4 none 2 := ⟨gw_mem (tb4 161 rfl) rfl, gw_mem (tb1 6 rfl) rfl, by decide +kernel⟩
set_option maxRecDepth 20000 in
theorem mi_X5_swap : MI yX5_swap := ⟨gw_mem (tb4 160 rfl) rfl, gw_mem (sl6 7 rfl) rfl⟩
set_option maxRecDepth 20000 in
theorem my_X5_trip : MY yX5_trip cX5_trip 5 (some .int) 3 := ⟨gw_mem (tb4 83 rfl) rfl, gw_mem (tb1 6 rfl) rfl, by decide +kernel⟩
set_option maxRecDepth 20000 in
theorem mi_X5_trip : MI yX5_trip := ⟨gw_mem (tb4 82 rfl) rfl, gw_mem (sl5 9 rfl) rfl⟩
set_option maxRecDepth 20000 in
theorem my_X5_writeBlock : MY yX5_writeBlock cX5_writeBlock 8 none 3 := ⟨gw_mem (tb4 125 rfl) rfl, gw_mem (tb1 6 rfl) rfl, by decide +kernel⟩
set_option maxRecDepth 20000 in
theorem mi_X5_writeBlock : MI yX5_writeBlock := ⟨gw_mem (tb4 124 rfl) rfl, gw_mem (sl6 0 rfl) rfl⟩
set_option maxRecDepth 20000 in
theorem my_X5_writePlan : MY yX5_writePlan cX5_writePlan 3 none 1 := ⟨gw_mem (tb4 116 rfl) rfl, gw_mem (tb1 6 rfl) rfl, by decide +kernel⟩
set_option maxRecDepth 20000 in
theorem mi_X5_writePlan : MI yX5_writePlan := ⟨gw_mem (tb4 115 rfl) rfl, gw_mem (sl5 14 rfl) rfl⟩
set_option maxRecDepth 20000 in
theorem my_X6_append : MY yX6_append cX6_append 3 none 1 := ⟨gw_mem (tb2 74 rfl) rfl, gw_mem (tb1 7 rfl) rfl, by decide +kernel⟩
set_option maxRecDepth 20000 in
theorem mi_X6_append : MI yX6_append := ⟨gw_mem (tb2 73 rfl) rfl, gw_mem (sl1 0 rfl) rfl⟩
set_option maxRecDepth 20000 in
theorem my_X6_byteAt : MY yX6_byteAt cX6_byteAt 2 (some .int) 1 := ⟨gw_mem (tb2 110 rfl) rfl, gw_mem (tb1 7 rfl) rfl, by decide +kernel⟩
set_option maxRecDepth 20000 in
theorem mi_X6_byteAt : MI yX6_byteAt := ⟨gw_mem (tb2 109 rfl) rfl, gw_mem (sl1 6 rfl) rfl⟩
set_option maxRecDepth 20000 in
theorem my_X6_hasBlankAt : MY yX6_hasBlankAt cX6_hasBlankAt 2 (some .boolean) 1 := ⟨gw_mem (tb2 106 rfl) rfl, gw_mem (tb1 7 rfl) rfl, by decide +kernel⟩
set_option maxRecDepth 20000 in
theorem mi_X6_hasBlankAt : MI yX6_hasBlankAt := ⟨gw_mem (tb2 105 rfl) rfl, gw_mem (sl1 5 rfl) rfl⟩
set_option maxRecDepth 20000 in
theorem my_X6_hasDigitAt : MY yX6_hasDigitAt cX6_hasDigitAt 2 (some .boolean) 1 := ⟨gw_mem (tb2 123 rfl) rfl, gw_mem (tb1 7 rfl) rfl, by decide +kernel⟩
set_option maxRecDepth 20000 in
theorem mi_X6_hasDigitAt : MI yX6_hasDigitAt := ⟨gw_mem (tb2 122 rfl) rfl, gw_mem (sl1 9 rfl) rfl⟩
set_option maxRecDepth 20000 in
theorem my_X6_hasLetterAt : MY yX6_hasLetterAt cX6_hasLetterAt 2 (some .boolean) 1 := ⟨gw_mem (tb2 115 rfl) rfl, gw_mem (tb1 7 rfl) rfl, by decide +kernel⟩
set_option maxRecDepth 20000 in
theorem mi_X6_hasLetterAt : MI yX6_hasLetterAt := ⟨gw_mem (tb2 114 rfl) rfl, gw_mem (sl1 7 rfl) rfl⟩
set_option maxRecDepth 20000 in
theorem my_X7_apply : MY yX7_apply cX7_apply 2 none 1 := ⟨gw_mem (tb2 216 rfl) rfl, gw_mem (tb1 8 rfl) rfl, by decide +kernel⟩
set_option maxRecDepth 20000 in
theorem mi_X7_apply : MI yX7_apply := ⟨gw_mem (tb2 215 rfl) rfl, gw_mem (sl2 1 rfl) rfl⟩
set_option maxRecDepth 20000 in
theorem my_X7_applyFacts : MY yX7_applyFacts cX7_applyFacts 3 none 1 := ⟨gw_mem (tb2 220 rfl) rfl, gw_mem (tb1 8 rfl) rfl, by decide +kernel⟩
set_option maxRecDepth 20000 in
theorem mi_X7_applyFacts : MI yX7_applyFacts := ⟨gw_mem (tb2 219 rfl) rfl, gw_mem (sl2 2 rfl) rfl⟩
set_option maxRecDepth 20000 in
theorem my_X7_applyRow : MY yX7_applyRow cX7_applyRow 2 none 0 := ⟨gw_mem (tb3 9 rfl) rfl, gw_mem (tb1 8 rfl) rfl, by decide +kernel⟩
set_option maxRecDepth 20000 in
theorem mi_X7_applyRow : MI yX7_applyRow := ⟨gw_mem (tb3 8 rfl) rfl, gw_mem (sl2 7 rfl) rfl⟩
set_option maxRecDepth 20000 in
theorem my_X7_isWord : MY yX7_isWord cX7_isWord 3 (some .boolean) 1 := ⟨gw_mem (tb2 136 rfl) rfl, gw_mem (tb1 8 rfl) rfl, by decide +kernel⟩
set_option maxRecDepth 20000 in
theorem mi_X7_isWord : MI yX7_isWord := ⟨gw_mem (tb2 135 rfl) rfl, gw_mem (sl1 12 rfl) rfl⟩
set_option maxRecDepth 20000 in
theorem my_X7_least : MY yX7_least cX7_least 2 (some .int) 1 := ⟨gw_mem (tb2 202 rfl) rfl, gw_mem (tb1 8 rfl) rfl, by decide +kernel⟩
set_option maxRecDepth 20000 in
theorem mi_X7_least : MI yX7_least := ⟨gw_mem (tb2 201 rfl) rfl, gw_mem (sl1 15 rfl) rfl⟩
set_option maxRecDepth 20000 in
theorem my_X7_most : MY yX7_most cX7_most 2 (some .int) 1 := ⟨gw_mem (tb2 208 rfl) rfl, gw_mem (tb1 8 rfl) rfl, by decide +kernel⟩
set_option maxRecDepth 20000 in
theorem mi_X7_most : MI yX7_most := ⟨gw_mem (tb2 207 rfl) rfl, gw_mem (sl2 0 rfl) rfl⟩
set_option maxRecDepth 20000 in
theorem my_X7_read : MY yX7_read cX7_read 5 (some .int) 2 := ⟨gw_mem (tb2 86 rfl) rfl, gw_mem (tb1 8 rfl) rfl, by decide +kernel⟩
set_option maxRecDepth 20000 in
theorem mi_X7_read : MI yX7_read := ⟨gw_mem (tb2 85 rfl) rfl, gw_mem (sl1 1 rfl) rfl⟩
set_option maxRecDepth 20000 in
theorem my_X7_readStatement : MY yX7_readStatement cX7_readStatement 3 (some .boolean) 1 := ⟨gw_mem (tb2 192 rfl) rfl, gw_mem (tb1 8 rfl) rfl, by decide +kernel⟩
set_option maxRecDepth 20000 in
theorem mi_X7_readStatement : MI yX7_readStatement := ⟨gw_mem (tb2 191 rfl) rfl, gw_mem (sl1 13 rfl) rfl⟩
set_option maxRecDepth 20000 in
theorem my_X7_refuse : MY yX7_refuse cX7_refuse 2 (some .boolean) 1 := ⟨gw_mem (tb2 196 rfl) rfl, gw_mem (tb1 8 rfl) rfl, by decide +kernel⟩
set_option maxRecDepth 20000 in
theorem mi_X7_refuse : MI yX7_refuse := ⟨gw_mem (tb2 195 rfl) rfl, gw_mem (sl1 14 rfl) rfl⟩
set_option maxRecDepth 20000 in
theorem my_X7_step : MY yX7_step cX7_step 1 none 0 := ⟨gw_mem (tb2 102 rfl) rfl, gw_mem (tb1 8 rfl) rfl, by decide +kernel⟩
set_option maxRecDepth 20000 in
theorem mi_X7_step : MI yX7_step := ⟨gw_mem (tb2 101 rfl) rfl, gw_mem (sl1 4 rfl) rfl⟩
set_option maxRecDepth 20000 in
theorem my_X7_stepInt : MY yX7_stepInt cX7_stepInt 5 none 2 := ⟨gw_mem (tb2 127 rfl) rfl, gw_mem (tb1 8 rfl) rfl, by decide +kernel⟩
set_option maxRecDepth 20000 in
theorem mi_X7_stepInt : MI yX7_stepInt := ⟨gw_mem (tb2 126 rfl) rfl, gw_mem (sl1 10 rfl) rfl⟩
set_option maxRecDepth 20000 in
theorem my_X7_stepWord : MY yX7_stepWord cX7_stepWord 1 none 0 := ⟨gw_mem (tb2 119 rfl) rfl, gw_mem (tb1 8 rfl) rfl, by decide +kernel⟩
set_option maxRecDepth 20000 in
theorem mi_X7_stepWord : MI yX7_stepWord := ⟨gw_mem (tb2 118 rfl) rfl, gw_mem (sl1 8 rfl) rfl⟩
set_option maxRecDepth 20000 in
theorem my_X7_whatIsTold : MY yX7_whatIsTold cX7_whatIsTold 1 (some .int) 0 := ⟨gw_mem (tb2 131 rfl) rfl, gw_mem (tb1 8 rfl) rfl, by decide +kernel⟩
set_option maxRecDepth 20000 in
theorem mi_X7_whatIsTold : MI yX7_whatIsTold := ⟨gw_mem (tb2 130 rfl) rfl, gw_mem (sl1 11 rfl) rfl⟩
set_option maxRecDepth 20000 in
theorem my_X8_bestWind : MY yX8_bestWind cX8_bestWind 5 (some .int) 0 := ⟨gw_mem (tb4 181 rfl) rfl, gw_mem (tb1 1 rfl) rfl, by decide +kernel⟩
set_option maxRecDepth 20000 in
theorem mi_X8_bestWind : MI yX8_bestWind := ⟨gw_mem (tb4 180 rfl) rfl, gw_mem (sl6 9 rfl) rfl⟩
set_option maxRecDepth 20000 in
theorem my_X8_endByWind : MY yX8_endByWind cX8_endByWind 2 (some .int) 1 := ⟨gw_mem (tb4 185 rfl) rfl, gw_mem (tb1 1 rfl) rfl, by decide +kernel⟩
set_option maxRecDepth 20000 in
theorem mi_X8_endByWind : MI yX8_endByWind := ⟨gw_mem (tb4 184 rfl) rfl, gw_mem (sl6 10 rfl) rfl⟩
set_option maxRecDepth 20000 in
theorem my_X8_fillTable : MY yX8_fillTable cX8_fillTable 1 none 0 := ⟨gw_mem (tb4 41 rfl) rfl, gw_mem (tb1 1 rfl) rfl, by decide +kernel⟩
set_option maxRecDepth 20000 in
theorem mi_X8_fillTable : MI yX8_fillTable := ⟨gw_mem (tb4 40 rfl) rfl, gw_mem (sl5 0 rfl) rfl⟩
set_option maxRecDepth 20000 in
theorem my_X8_forgetSearches : MY yX8_forgetSearches cX8_forgetSearches 1 none 0 := ⟨gw_mem (tb3 27 rfl) rfl, gw_mem (tb1 1 rfl) rfl, by decide +kernel⟩
set_option maxRecDepth 20000 in
theorem mi_X8_forgetSearches : MI yX8_forgetSearches := ⟨gw_mem (tb3 26 rfl) rfl, gw_mem (sl2 11 rfl) rfl⟩
set_option maxRecDepth 20000 in
theorem my_X8_searchAlone : MY yX8_searchAlone cX8_searchAlone 1 none 0 := ⟨gw_mem (tb4 173 rfl) rfl, gw_mem (tb1 1 rfl) rfl, by decide +kernel⟩
set_option maxRecDepth 20000 in
theorem mi_X8_searchAlone : MI yX8_searchAlone := ⟨gw_mem (tb4 172 rfl) rfl, gw_mem (sl6 8 rfl) rfl⟩
set_option maxRecDepth 20000 in
theorem my_X8_searchBest : MY yX8_searchBest cX8_searchBest 1 none 0 := ⟨gw_mem (tb4 139 rfl) rfl, gw_mem (tb1 1 rfl) rfl, by decide +kernel⟩
set_option maxRecDepth 20000 in
theorem mi_X8_searchBest : MI yX8_searchBest := ⟨gw_mem (tb4 138 rfl) rfl, gw_mem (sl6 2 rfl) rfl⟩
set_option maxRecDepth 20000 in
theorem my_X9_airOf : MY yX9_airOf cX9_airOf 2 (some .int) 1 := ⟨gw_mem (tb6 98 rfl) rfl, gw_mem (tb1 10 rfl) rfl, by decide +kernel⟩
set_option maxRecDepth 20000 in
theorem mi_X9_airOf : MI yX9_airOf := ⟨gw_mem (tb6 97 rfl) rfl, gw_mem (sl9 1 rfl) rfl⟩
set_option maxRecDepth 20000 in
theorem my_X9_bits : MY yX9_bits cX9_bits 3 (some .int) 1 := ⟨gw_mem (tb6 133 rfl) rfl, gw_mem (tb1 10 rfl) rfl, by decide +kernel⟩
set_option maxRecDepth 20000 in
theorem ms_X9_bits : Cond.static yX9_bits ∈ gw := gw_mem (tb6 132 rfl) rfl
set_option maxRecDepth 20000 in
theorem my_X9_clears : MY yX9_clears cX9_clears 1 none 0 := ⟨gw_mem (tb5 133 rfl) rfl, gw_mem (tb1 10 rfl) rfl, by decide +kernel⟩
set_option maxRecDepth 20000 in
theorem mi_X9_clears : MI yX9_clears := ⟨gw_mem (tb5 132 rfl) rfl, gw_mem (sl6 14 rfl) rfl⟩
set_option maxRecDepth 20000 in
theorem my_X9_crosses : MY yX9_crosses cX9_crosses 3 (some .boolean) 1 := ⟨gw_mem (tb6 66 rfl) rfl, gw_mem (tb1 10 rfl) rfl, by decide +kernel⟩
set_option maxRecDepth 20000 in
theorem mi_X9_crosses : MI yX9_crosses := ⟨gw_mem (tb6 65 rfl) rfl, gw_mem (sl8 9 rfl) rfl⟩
set_option maxRecDepth 20000 in
theorem my_X9_customers : MY yX9_customers cX9_customers 1 (some .int) 0 := ⟨gw_mem (tb5 121 rfl) rfl, gw_mem (tb1 10 rfl) rfl, by decide +kernel⟩
set_option maxRecDepth 20000 in
theorem mi_X9_customers : MI yX9_customers := ⟨gw_mem (tb5 120 rfl) rfl, gw_mem (sl6 12 rfl) rfl⟩
set_option maxRecDepth 20000 in
theorem my_X9_drive : MY yX9_drive cX9_drive 3 (some .int) 2 := ⟨gw_mem (tb5 215 rfl) rfl, gw_mem (tb1 10 rfl) rfl, by decide +kernel⟩
set_option maxRecDepth 20000 in
theorem mi_X9_drive : MI yX9_drive := ⟨gw_mem (tb5 214 rfl) rfl, gw_mem (sl7 9 rfl) rfl⟩
set_option maxRecDepth 20000 in
theorem my_X9_fails : MY yX9_fails cX9_fails 3 none 2 := ⟨gw_mem (tb6 30 rfl) rfl, gw_mem (tb1 10 rfl) rfl, by decide +kernel⟩
set_option maxRecDepth 20000 in
theorem mi_X9_fails : MI yX9_fails := ⟨gw_mem (tb6 29 rfl) rfl, gw_mem (sl8 2 rfl) rfl⟩
set_option maxRecDepth 20000 in
theorem my_X9_flight : MY yX9_flight cX9_flight 7 (some .int) 2 := ⟨gw_mem (tb5 208 rfl) rfl, gw_mem (tb1 10 rfl) rfl, by decide +kernel⟩
set_option maxRecDepth 20000 in
theorem mi_X9_flight : MI yX9_flight := ⟨gw_mem (tb5 207 rfl) rfl, gw_mem (sl7 8 rfl) rfl⟩
set_option maxRecDepth 20000 in
theorem my_X9_goes : MY yX9_goes cX9_goes 5 (some .boolean) 0 := ⟨gw_mem (tb6 70 rfl) rfl, gw_mem (tb1 10 rfl) rfl, by decide +kernel⟩
set_option maxRecDepth 20000 in
theorem mi_X9_goes : MI yX9_goes := ⟨gw_mem (tb6 69 rfl) rfl, gw_mem (sl8 10 rfl) rfl⟩
set_option maxRecDepth 20000 in
theorem my_X9_goesOn : MY yX9_goesOn cX9_goesOn 6 (some .boolean) 0 := ⟨gw_mem (tb6 161 rfl) rfl, gw_mem (tb1 10 rfl) rfl, by decide +kernel⟩
set_option maxRecDepth 20000 in
theorem mi_X9_goesOn : MI yX9_goesOn := ⟨gw_mem (tb6 160 rfl) rfl, gw_mem (sl9 8 rfl) rfl⟩
set_option maxRecDepth 20000 in
theorem my_X9_happens : MY yX9_happens cX9_happens 6 none 4 := ⟨gw_mem (tb6 74 rfl) rfl, gw_mem (tb1 10 rfl) rfl, by decide +kernel⟩
set_option maxRecDepth 20000 in
theorem mi_X9_happens : MI yX9_happens := ⟨gw_mem (tb6 73 rfl) rfl, gw_mem (sl8 11 rfl) rfl⟩
set_option maxRecDepth 20000 in
theorem my_X9_here : MY yX9_here cX9_here 1 (some .int) 0 := ⟨gw_mem (tb6 3 rfl) rfl, gw_mem (tb1 10 rfl) rfl, by decide +kernel⟩
set_option maxRecDepth 20000 in
theorem mi_X9_here : MI yX9_here := ⟨gw_mem (tb6 2 rfl) rfl, gw_mem (sl7 12 rfl) rfl⟩
set_option maxRecDepth 20000 in
theorem my_X9_isAhead : MY yX9_isAhead cX9_isAhead 4 (some .boolean) 2 := ⟨gw_mem (tb6 94 rfl) rfl, gw_mem (tb1 10 rfl) rfl, by decide +kernel⟩
set_option maxRecDepth 20000 in
theorem mi_X9_isAhead : MI yX9_isAhead := ⟨gw_mem (tb6 93 rfl) rfl, gw_mem (sl9 0 rfl) rfl⟩
set_option maxRecDepth 20000 in
theorem my_X9_isCustomer : MY yX9_isCustomer cX9_isCustomer 2 (some .boolean) 1 := ⟨gw_mem (tb5 152 rfl) rfl, gw_mem (tb1 10 rfl) rfl, by decide +kernel⟩
set_option maxRecDepth 20000 in
theorem mi_X9_isCustomer : MI yX9_isCustomer := ⟨gw_mem (tb5 151 rfl) rfl, gw_mem (sl7 0 rfl) rfl⟩
set_option maxRecDepth 20000 in
theorem my_X9_isDigitAt : MY yX9_isDigitAt cX9_isDigitAt 2 (some .boolean) 1 := ⟨gw_mem (tb6 26 rfl) rfl, gw_mem (tb1 10 rfl) rfl, by decide +kernel⟩
set_option maxRecDepth 20000 in
theorem mi_X9_isDigitAt : MI yX9_isDigitAt := ⟨gw_mem (tb6 25 rfl) rfl, gw_mem (sl8 1 rfl) rfl⟩
set_option maxRecDepth 20000 in
theorem my_X9_isIn : MY yX9_isIn cX9_isIn 3 (some .boolean) 3 := ⟨gw_mem (tb5 117 rfl) rfl, gw_mem (tb1 10 rfl) rfl, by decide +kernel⟩
set_option maxRecDepth 20000 in
theorem ms_X9_isIn : Cond.static yX9_isIn ∈ gw := gw_mem (tb5 116 rfl) rfl
set_option maxRecDepth 20000 in
theorem my_X9_isLight : MY yX9_isLight cX9_isLight 2 (some .boolean) 1 := ⟨gw_mem (tb6 62 rfl) rfl, gw_mem (tb1 10 rfl) rfl, by decide +kernel⟩
set_option maxRecDepth 20000 in
theorem mi_X9_isLight : MI yX9_isLight := ⟨gw_mem (tb6 61 rfl) rfl, gw_mem (sl8 8 rfl) rfl⟩
set_option maxRecDepth 20000 in
theorem my_X9_isLightSet : MY yX9_isLightSet cX9_isLightSet 4 (some .boolean) 2 := ⟨gw_mem (tb6 137 rfl) rfl, gw_mem (tb1 10 rfl) rfl, by decide +kernel⟩
set_option maxRecDepth 20000 in
theorem mi_X9_isLightSet : MI yX9_isLightSet := ⟨gw_mem (tb6 136 rfl) rfl, gw_mem (sl9 4 rfl) rfl⟩
set_option maxRecDepth 20000 in
theorem my_X9_isPlace : MY yX9_isPlace cX9_isPlace 2 (some .boolean) 1 := ⟨gw_mem (tb5 196 rfl) rfl, gw_mem (tb1 10 rfl) rfl, by decide +kernel⟩
set_option maxRecDepth 20000 in
theorem mi_X9_isPlace : MI yX9_isPlace := ⟨gw_mem (tb5 195 rfl) rfl, gw_mem (sl7 6 rfl) rfl⟩
set_option maxRecDepth 20000 in
theorem my_X9_lasts : MY yX9_lasts cX9_lasts 12 (some .int) 3 := ⟨gw_mem (tb6 141 rfl) rfl, gw_mem (tb1 10 rfl) rfl, by decide +kernel⟩
set_option maxRecDepth 20000 in
theorem mi_X9_lasts : MI yX9_lasts := ⟨gw_mem (tb6 140 rfl) rfl, gw_mem (sl9 5 rfl) rfl⟩
set_option maxRecDepth 20000 in
theorem my_X9_launches : MY yX9_launches cX9_launches 8 (some .int) 2 := ⟨gw_mem (tb6 86 rfl) rfl, gw_mem (tb1 10 rfl) rfl, by decide +kernel⟩
set_option maxRecDepth 20000 in
theorem mi_X9_launches : MI yX9_launches := ⟨gw_mem (tb6 85 rfl) rfl, gw_mem (sl8 14 rfl) rfl⟩
set_option maxRecDepth 20000 in
theorem my_X9_lays : MY yX9_lays cX9_lays 7 (some .boolean) 1 := ⟨gw_mem (tb6 126 rfl) rfl, gw_mem (tb1 10 rfl) rfl, by decide +kernel⟩
set_option maxRecDepth 20000 in
theorem mi_X9_lays : MI yX9_lays := ⟨gw_mem (tb6 125 rfl) rfl, gw_mem (sl9 2 rfl) rfl⟩
set_option maxRecDepth 20000 in
theorem my_X9_letters : MY yX9_letters cX9_letters 3 (some .int) 3 := ⟨gw_mem (tb6 14 rfl) rfl, gw_mem (tb1 10 rfl) rfl, by decide +kernel⟩
set_option maxRecDepth 20000 in
theorem ms_X9_letters : Cond.static yX9_letters ∈ gw := gw_mem (tb6 13 rfl) rfl
set_option maxRecDepth 20000 in
theorem my_X9_mayBe : MY yX9_mayBe cX9_mayBe 2 (some .boolean) 2 := ⟨gw_mem (tb5 114 rfl) rfl, gw_mem (tb1 10 rfl) rfl, by decide +kernel⟩
set_option maxRecDepth 20000 in
theorem ms_X9_mayBe : Cond.static yX9_mayBe ∈ gw := gw_mem (tb5 113 rfl) rfl
set_option maxRecDepth 20000 in
theorem my_X9_maySend : MY yX9_maySend cX9_maySend 5 (some .boolean) 4 := ⟨gw_mem (tb5 168 rfl) rfl, gw_mem (tb1 10 rfl) rfl, by decide +kernel⟩
set_option maxRecDepth 20000 in
theorem mi_X9_maySend : MI yX9_maySend := ⟨gw_mem (tb5 167 rfl) rfl, gw_mem (sl7 3 rfl) rfl⟩
set_option maxRecDepth 20000 in
theorem my_X9_maySet : MY yX9_maySet cX9_maySet 2 (some .boolean) 2 := ⟨gw_mem (tb5 140 rfl) rfl, gw_mem (tb1 10 rfl) rfl, by decide +kernel⟩
set_option maxRecDepth 20000 in
theorem ms_X9_maySet : Cond.static yX9_maySet ∈ gw := gw_mem (tb5 139 rfl) rfl
set_option maxRecDepth 20000 in
theorem my_X9_more : MY yX9_more cX9_more 7 none 5 := ⟨gw_mem (tb5 125 rfl) rfl, gw_mem (tb1 10 rfl) rfl, by decide +kernel⟩
set_option maxRecDepth 20000 in
theorem mi_X9_more : MI yX9_more := ⟨gw_mem (tb5 124 rfl) rfl, gw_mem (sl6 13 rfl) rfl⟩
set_option maxRecDepth 20000 in
theorem my_X9_nextCaught : MY yX9_nextCaught cX9_nextCaught 5 (some .int) 1 := ⟨gw_mem (tb6 82 rfl) rfl, gw_mem (tb1 10 rfl) rfl, by decide +kernel⟩
set_option maxRecDepth 20000 in
theorem mi_X9_nextCaught : MI yX9_nextCaught := ⟨gw_mem (tb6 81 rfl) rfl, gw_mem (sl8 13 rfl) rfl⟩
set_option maxRecDepth 20000 in
theorem my_X9_number : MY yX9_number cX9_number 5 (some .int) 0 := ⟨gw_mem (tb6 22 rfl) rfl, gw_mem (tb1 10 rfl) rfl, by decide +kernel⟩
set_option maxRecDepth 20000 in
theorem mi_X9_number : MI yX9_number := ⟨gw_mem (tb6 21 rfl) rfl, gw_mem (sl8 0 rfl) rfl⟩
set_option maxRecDepth 20000 in
theorem my_X9_numberIn : MY yX9_numberIn cX9_numberIn 4 (some .int) 2 := ⟨gw_mem (tb6 34 rfl) rfl, gw_mem (tb1 10 rfl) rfl, by decide +kernel⟩
set_option maxRecDepth 20000 in
theorem mi_X9_numberIn : MI yX9_numberIn := ⟨gw_mem (tb6 33 rfl) rfl, gw_mem (sl8 3 rfl) rfl⟩
set_option maxRecDepth 20000 in
theorem my_X9_numberOf : MY yX9_numberOf cX9_numberOf 3 (some .int) 1 := ⟨gw_mem (tb6 18 rfl) rfl, gw_mem (tb1 10 rfl) rfl, by decide +kernel⟩
set_option maxRecDepth 20000 in
theorem mi_X9_numberOf : MI yX9_numberOf := ⟨gw_mem (tb6 17 rfl) rfl, gw_mem (sl7 15 rfl) rfl⟩
set_option maxRecDepth 20000 in
theorem my_X9_of : MY yX9_of cX9_of 2 (some .int) 1 := ⟨gw_mem (tb5 144 rfl) rfl, gw_mem (tb1 10 rfl) rfl, by decide +kernel⟩
set_option maxRecDepth 20000 in
theorem mi_X9_of : MI yX9_of := ⟨gw_mem (tb5 143 rfl) rfl, gw_mem (sl6 15 rfl) rfl⟩
set_option maxRecDepth 20000 in
theorem my_X9_placeOf : MY yX9_placeOf cX9_placeOf 3 (some .int) 2 := ⟨gw_mem (tb5 200 rfl) rfl, gw_mem (tb1 10 rfl) rfl, by decide +kernel⟩
set_option maxRecDepth 20000 in
theorem mi_X9_placeOf : MI yX9_placeOf := ⟨gw_mem (tb5 199 rfl) rfl, gw_mem (sl7 7 rfl) rfl⟩
set_option maxRecDepth 20000 in
theorem my_X9_put : MY yX9_put cX9_put 3 none 1 := ⟨gw_mem (tb5 231 rfl) rfl, gw_mem (tb1 10 rfl) rfl, by decide +kernel⟩
set_option maxRecDepth 20000 in
theorem mi_X9_put : MI yX9_put := ⟨gw_mem (tb5 230 rfl) rfl, gw_mem (sl7 11 rfl) rfl⟩
set_option maxRecDepth 20000 in
theorem my_X9_rowGoesOn : MY yX9_rowGoesOn cX9_rowGoesOn 2 none 0 := ⟨gw_mem (tb6 38 rfl) rfl, gw_mem (tb1 10 rfl) rfl, by decide +kernel⟩
set_option maxRecDepth 20000 in
theorem mi_X9_rowGoesOn : MI yX9_rowGoesOn := ⟨gw_mem (tb6 37 rfl) rfl, gw_mem (sl8 4 rfl) rfl⟩
set_option maxRecDepth 20000 in
theorem my_X9_seeks : MY yX9_seeks cX9_seeks 3 none 1 := ⟨gw_mem (tb6 153 rfl) rfl, gw_mem (tb1 10 rfl) rfl, by decide +kernel⟩
set_option maxRecDepth 20000 in
theorem mi_X9_seeks : MI yX9_seeks := ⟨gw_mem (tb6 152 rfl) rfl, gw_mem (sl9 6 rfl) rfl⟩
set_option maxRecDepth 20000 in
theorem my_X9_sends : MY yX9_sends cX9_sends 6 none 4 := ⟨gw_mem (tb5 176 rfl) rfl, gw_mem (tb1 10 rfl) rfl, by decide +kernel⟩
set_option maxRecDepth 20000 in
theorem mi_X9_sends : MI yX9_sends := ⟨gw_mem (tb5 175 rfl) rfl, gw_mem (sl7 5 rfl) rfl⟩
set_option maxRecDepth 20000 in
theorem my_X9_servedBy : MY yX9_servedBy cX9_servedBy 4 (some .int) 1 := ⟨gw_mem (tb6 54 rfl) rfl, gw_mem (tb1 10 rfl) rfl, by decide +kernel⟩
set_option maxRecDepth 20000 in
theorem mi_X9_servedBy : MI yX9_servedBy := ⟨gw_mem (tb6 53 rfl) rfl, gw_mem (sl8 6 rfl) rfl⟩
set_option maxRecDepth 20000 in
theorem my_X9_service : MY yX9_service cX9_service 2 (some .int) 1 := ⟨gw_mem (tb6 78 rfl) rfl, gw_mem (tb1 10 rfl) rfl, by decide +kernel⟩
set_option maxRecDepth 20000 in
theorem mi_X9_service : MI yX9_service := ⟨gw_mem (tb6 77 rfl) rfl, gw_mem (sl8 12 rfl) rfl⟩
set_option maxRecDepth 20000 in
theorem my_X9_size : MY yX9_size cX9_size 1 (some .int) 1 := ⟨gw_mem (tb5 211 rfl) rfl, gw_mem (tb1 10 rfl) rfl, by decide +kernel⟩
set_option maxRecDepth 20000 in
theorem ms_X9_size : Cond.static yX9_size ∈ gw := gw_mem (tb5 210 rfl) rfl
set_option maxRecDepth 20000 in
theorem my_X9_sortieOf : MY yX9_sortieOf cX9_sortieOf 3 (some .int) 2 := ⟨gw_mem (tb5 223 rfl) rfl, gw_mem (tb1 10 rfl) rfl, by decide +kernel⟩
set_option maxRecDepth 20000 in
theorem mi_X9_sortieOf : MI yX9_sortieOf := ⟨gw_mem (tb5 222 rfl) rfl, gw_mem (sl7 10 rfl) rfl⟩
set_option maxRecDepth 20000 in
theorem my_X9_sorties : MY yX9_sorties cX9_sorties 1 (some .int) 0 := ⟨gw_mem (tb5 172 rfl) rfl, gw_mem (tb1 10 rfl) rfl, by decide +kernel⟩
set_option maxRecDepth 20000 in
theorem mi_X9_sorties : MI yX9_sorties := ⟨gw_mem (tb5 171 rfl) rfl, gw_mem (sl7 4 rfl) rfl⟩
set_option maxRecDepth 20000 in
theorem my_X9_sorts : MY yX9_sorts cX9_sorts 5 none 0 := ⟨gw_mem (tb6 90 rfl) rfl, gw_mem (tb1 10 rfl) rfl, by decide +kernel⟩
set_option maxRecDepth 20000 in
theorem mi_X9_sorts : MI yX9_sorts := ⟨gw_mem (tb6 89 rfl) rfl, gw_mem (sl8 15 rfl) rfl⟩
set_option maxRecDepth 20000 in
theorem my_X9_splitBy : MY yX9_splitBy cX9_splitBy 5 (some .int) 1 := ⟨gw_mem (tb6 181 rfl) rfl, gw_mem (tb1 10 rfl) rfl, by decide +kernel⟩
set_option maxRecDepth 20000 in
theorem mi_X9_splitBy : MI yX9_splitBy := ⟨gw_mem (tb6 180 rfl) rfl, gw_mem (sl9 10 rfl) rfl⟩
set_option maxRecDepth 20000 in
theorem my_X9_splits : MY yX9_splits cX9_splits 10 (some .int) 1 := ⟨gw_mem (tb6 130 rfl) rfl, gw_mem (tb1 10 rfl) rfl, by decide +kernel⟩
set_option maxRecDepth 20000 in
theorem mi_X9_splits : MI yX9_splits := ⟨gw_mem (tb6 129 rfl) rfl, gw_mem (sl9 3 rfl) rfl⟩
set_option maxRecDepth 20000 in
theorem my_X9_statement : MY yX9_statement cX9_statement 7 none 0 := ⟨gw_mem (tb6 7 rfl) rfl, gw_mem (tb1 10 rfl) rfl, by decide +kernel⟩
set_option maxRecDepth 20000 in
theorem mi_X9_statement : MI yX9_statement := ⟨gw_mem (tb6 6 rfl) rfl, gw_mem (sl7 13 rfl) rfl⟩
set_option maxRecDepth 20000 in
theorem my_X9_stopAt : MY yX9_stopAt cX9_stopAt 2 (some .int) 1 := ⟨gw_mem (tb6 58 rfl) rfl, gw_mem (tb1 10 rfl) rfl, by decide +kernel⟩
set_option maxRecDepth 20000 in
theorem mi_X9_stopAt : MI yX9_stopAt := ⟨gw_mem (tb6 57 rfl) rfl, gw_mem (sl8 7 rfl) rfl⟩
set_option maxRecDepth 20000 in
theorem my_X9_stops : MY yX9_stops cX9_stops 1 (some .int) 0 := ⟨gw_mem (tb5 156 rfl) rfl, gw_mem (tb1 10 rfl) rfl, by decide +kernel⟩
set_option maxRecDepth 20000 in
theorem mi_X9_stops : MI yX9_stops := ⟨gw_mem (tb5 155 rfl) rfl, gw_mem (sl7 1 rfl) rfl⟩
set_option maxRecDepth 20000 in
theorem my_X9_stopsAt : MY yX9_stopsAt cX9_stopsAt 2 none 1 := ⟨gw_mem (tb5 160 rfl) rfl, gw_mem (tb1 10 rfl) rfl, by decide +kernel⟩
set_option maxRecDepth 20000 in
theorem mi_X9_stopsAt : MI yX9_stopsAt := ⟨gw_mem (tb5 159 rfl) rfl, gw_mem (sl7 2 rfl) rfl⟩
set_option maxRecDepth 20000 in
theorem my_X9_swaps : MY yX9_swaps cX9_swaps 4 none 2 := ⟨gw_mem (tb6 165 rfl) rfl, gw_mem (tb1 10 rfl) rfl, by decide +kernel⟩
set_option maxRecDepth 20000 in
theorem mi_X9_swaps : MI yX9_swaps := ⟨gw_mem (tb6 164 rfl) rfl, gw_mem (sl9 9 rfl) rfl⟩
set_option maxRecDepth 20000 in
theorem my_X9_told : MY yX9_told cX9_told 3 (some .int) 0 := ⟨gw_mem (tb6 157 rfl) rfl, gw_mem (tb1 10 rfl) rfl, by decide +kernel⟩
set_option maxRecDepth 20000 in
theorem mi_X9_told : MI yX9_told := ⟨gw_mem (tb6 156 rfl) rfl, gw_mem (sl9 7 rfl) rfl⟩
set_option maxRecDepth 20000 in
theorem my_X9_word : MY yX9_word cX9_word 3 (some .int) 0 := ⟨gw_mem (tb6 11 rfl) rfl, gw_mem (tb1 10 rfl) rfl, by decide +kernel⟩
set_option maxRecDepth 20000 in
theorem mi_X9_word : MI yX9_word := ⟨gw_mem (tb6 10 rfl) rfl, gw_mem (sl7 14 rfl) rfl⟩
set_option maxRecDepth 20000 in
theorem my_X9_wrongPlan : MY yX9_wrongPlan cX9_wrongPlan 2 (some .int) 0 := ⟨gw_mem (tb6 50 rfl) rfl, gw_mem (tb1 10 rfl) rfl, by decide +kernel⟩
set_option maxRecDepth 20000 in
theorem mi_X9_wrongPlan : MI yX9_wrongPlan := ⟨gw_mem (tb6 49 rfl) rfl, gw_mem (sl8 5 rfl) rfl⟩
end
section
theorem dX3_addCustomer_0 : decode cX3_addCustomer 0 = .ok (.aload_n 0, 1) := by decide +kernel
theorem dX3_addCustomer_1 : decode cX3_addCustomer 1 = .ok (.getfield 35, 3) := by decide +kernel
theorem dX3_addCustomer_4 : decode cX3_addCustomer 4 = .ok (.bipush 8, 2) := by decide +kernel
theorem dX3_addCustomer_6 : decode cX3_addCustomer 6 = .ok (.if_icmp .ge 13, 3) := by decide +kernel
theorem dX3_addCustomer_9 : decode cX3_addCustomer 9 = .ok (.aload_n 0, 1) := by decide +kernel
theorem dX3_addCustomer_10 : decode cX3_addCustomer 10 = .ok (.dup, 1) := by decide +kernel
theorem dX3_addCustomer_11 : decode cX3_addCustomer 11 = .ok (.getfield 35, 3) := by decide +kernel
theorem dX3_addCustomer_14 : decode cX3_addCustomer 14 = .ok (.iconst 1, 1) := by decide +kernel
theorem dX3_addCustomer_15 : decode cX3_addCustomer 15 = .ok (.iadd, 1) := by decide +kernel
theorem dX3_addCustomer_16 : decode cX3_addCustomer 16 = .ok (.putfield 35, 3) := by decide +kernel
theorem dX3_addCustomer_19 : decode cX3_addCustomer 19 = .ok (.return_, 1) := by decide +kernel
def pX3_addCustomer (b : Nat) (M : Mm) : Mm :=
if 8 ≤ (M b 0) then
(M)
else
(bnd (mset M b 0 ((M b 0) + 1)) fun M1 =>
M1)
abbrev zX3_addCustomer : Zx := (cX3_addCustomer, RX3, 1, 0, none)
set_option maxRecDepth 100000 in
set_option maxHeartbeats 4000000 in
theorem tX3_addCustomer {l : Launch} {Y : Sx} {M : Mm} {b : Nat} {q : Mm} (h_b : isLand Y b) (h : pX3_addCustomer b M = q) : Ct l Y yX3_addCustomer cX3_addCustomer 1 none 0 [.ref (adr Y b)] M none q := by
  refine Ct.of (by decide) rfl (lv := [(0, .ref (adr Y b))]) rfl ?_
  intro K hkl C
  change Cx K zX3_addCustomer Y at C
  subst hkl
  unfold pX3_addCustomer at h
  show Wp K zX3_addCustomer Y (Qm K Y none q) M 0 [(0, .ref (adr Y b))] []
  refine w_aload_n C (pc := 0) dX3_addCustomer_0 0 rfl ?_
  refine w_getI C (pc := 1) dX3_addCustomer_1 f_X3_35 h_b.1 rfl ?_
  refine w_bipush C (pc := 4) dX3_addCustomer_4 (v := 8) (by decide) ?_
  refine w_icge C (pc := 6) 19 dX3_addCustomer_6 (by decide) (fun c => ?_) (fun c => ?_)
  · have h := it_t h c
    exact w_retV C (pc := 19) dX3_addCustomer_19 rfl h
  · have h := it_f h c
    refine w_aload_n C (pc := 9) dX3_addCustomer_9 0 rfl ?_
    refine w_dup C (pc := 10) dX3_addCustomer_10 rfl ?_
    refine w_getI C (pc := 11) dX3_addCustomer_11 f_X3_35 h_b.1 rfl ?_
    refine w_iconst C (pc := 14) dX3_addCustomer_14 (v := 1) (by decide) ?_
    refine w_iadd C (pc := 15) dX3_addCustomer_15 ?_
    obtain ⟨M1, e2, h⟩ := bn h
    refine w_putI C (pc := 16) dX3_addCustomer_16 fp_X3_35 h_b.1 rfl ?_
    rw [e2]
    exact w_retV C (pc := 19) dX3_addCustomer_19 rfl h
theorem dX3_copyOf_0 : decode cX3_copyOf 0 = .ok (.aload_n 0, 1) := by decide +kernel
theorem dX3_copyOf_1 : decode cX3_copyOf 1 = .ok (.aload_n 1, 1) := by decide +kernel
theorem dX3_copyOf_2 : decode cX3_copyOf 2 = .ok (.getfield 35, 3) := by decide +kernel
theorem dX3_copyOf_5 : decode cX3_copyOf 5 = .ok (.putfield 35, 3) := by decide +kernel
theorem dX3_copyOf_8 : decode cX3_copyOf 8 = .ok (.aload_n 1, 1) := by decide +kernel
theorem dX3_copyOf_9 : decode cX3_copyOf 9 = .ok (.getfield 9, 3) := by decide +kernel
theorem dX3_copyOf_12 : decode cX3_copyOf 12 = .ok (.iconst 0, 1) := by decide +kernel
theorem dX3_copyOf_13 : decode cX3_copyOf 13 = .ok (.aload_n 0, 1) := by decide +kernel
theorem dX3_copyOf_14 : decode cX3_copyOf 14 = .ok (.getfield 9, 3) := by decide +kernel
theorem dX3_copyOf_17 : decode cX3_copyOf 17 = .ok (.iconst 0, 1) := by decide +kernel
theorem dX3_copyOf_18 : decode cX3_copyOf 18 = .ok (.aload_n 0, 1) := by decide +kernel
theorem dX3_copyOf_19 : decode cX3_copyOf 19 = .ok (.getfield 9, 3) := by decide +kernel
theorem dX3_copyOf_22 : decode cX3_copyOf 22 = .ok (.arraylength, 1) := by decide +kernel
theorem dX3_copyOf_23 : decode cX3_copyOf 23 = .ok (.invokestatic 39, 3) := by decide +kernel
theorem dX3_copyOf_26 : decode cX3_copyOf 26 = .ok (.aload_n 1, 1) := by decide +kernel
theorem dX3_copyOf_27 : decode cX3_copyOf 27 = .ok (.getfield 23, 3) := by decide +kernel
theorem dX3_copyOf_30 : decode cX3_copyOf 30 = .ok (.iconst 0, 1) := by decide +kernel
theorem dX3_copyOf_31 : decode cX3_copyOf 31 = .ok (.aload_n 0, 1) := by decide +kernel
theorem dX3_copyOf_32 : decode cX3_copyOf 32 = .ok (.getfield 23, 3) := by decide +kernel
theorem dX3_copyOf_35 : decode cX3_copyOf 35 = .ok (.iconst 0, 1) := by decide +kernel
theorem dX3_copyOf_36 : decode cX3_copyOf 36 = .ok (.aload_n 0, 1) := by decide +kernel
theorem dX3_copyOf_37 : decode cX3_copyOf 37 = .ok (.getfield 23, 3) := by decide +kernel
theorem dX3_copyOf_40 : decode cX3_copyOf 40 = .ok (.arraylength, 1) := by decide +kernel
theorem dX3_copyOf_41 : decode cX3_copyOf 41 = .ok (.invokestatic 39, 3) := by decide +kernel
theorem dX3_copyOf_44 : decode cX3_copyOf 44 = .ok (.return_, 1) := by decide +kernel
def pX3_copyOf (b : Nat) (o : Nat) (M : Mm) : Mm :=
bnd (mset M b 0 (M o 0)) fun M1 =>
bnd (mrow M1 (b + 1) (va_cpy (M1 (o + 1)) (M1 (b + 1)) 0 0 45)) fun M3 =>
bnd (mrow M3 (b + 2) (va_cpy (M3 (o + 2)) (M3 (b + 2)) 0 0 10)) fun M5 =>
M5
abbrev zX3_copyOf : Zx := (cX3_copyOf, RX3, 2, 1, none)
set_option maxRecDepth 100000 in
set_option maxHeartbeats 4000000 in
theorem tX3_copyOf {l : Launch} {Y : Sx} {M : Mm} {b : Nat} {o : Nat} {q : Mm} (h_b : isLand Y b) (h_o : isLand Y o) (h : pX3_copyOf b o M = q) : Ct l Y yX3_copyOf cX3_copyOf 2 none 1 [.ref (adr Y b), .ref (adr Y o)] M none q := by
  refine Ct.of (by decide) rfl (lv := [(0, .ref (adr Y b)), (1, .ref (adr Y o))]) rfl ?_
  intro K hkl C
  change Cx K zX3_copyOf Y at C
  subst hkl
  unfold pX3_copyOf at h
  show Wp K zX3_copyOf Y (Qm K Y none q) M 0 [(0, .ref (adr Y b)), (1, .ref (adr Y o))] []
  refine w_aload_n C (pc := 0) dX3_copyOf_0 0 rfl ?_
  refine w_aload_n C (pc := 1) dX3_copyOf_1 1 rfl ?_
  refine w_getI C (pc := 2) dX3_copyOf_2 f_X3_35 h_o.1 rfl ?_
  obtain ⟨M1, e2, h⟩ := bn h
  refine w_putI C (pc := 5) dX3_copyOf_5 fp_X3_35 h_b.1 rfl ?_
  rw [e2]
  refine w_aload_n C (pc := 8) dX3_copyOf_8 1 rfl ?_
  refine w_getR C (pc := 9) dX3_copyOf_9 f_X3_9 h_o.1 rfl ?_
  refine w_iconst C (pc := 12) dX3_copyOf_12 (v := 0) (by decide) ?_
  refine w_aload_n C (pc := 13) dX3_copyOf_13 0 rfl ?_
  refine w_getR C (pc := 14) dX3_copyOf_14 f_X3_9 h_b.1 rfl ?_
  refine w_iconst C (pc := 17) dX3_copyOf_17 (v := 0) (by decide) ?_
  refine w_aload_n C (pc := 18) dX3_copyOf_18 0 rfl ?_
  refine w_getR C (pc := 19) dX3_copyOf_19 f_X3_9 h_b.1 rfl ?_
  refine w_alenI C (pc := 22) dX3_copyOf_22 h_b.2.1 (v := 45) (by decide) ?_
  obtain ⟨M3, e4, h⟩ := bn h
  refine w_copy C (pc := 23) dX3_copyOf_23 mcopy_X3_39 rfl (Nat.le_of_ble_eq_true rfl) h_o.2.1 h_b.2.1 rfl rfl ?_
  rw [e4]
  refine w_aload_n C (pc := 26) dX3_copyOf_26 1 rfl ?_
  refine w_getR C (pc := 27) dX3_copyOf_27 f_X3_23 h_o.1 rfl ?_
  refine w_iconst C (pc := 30) dX3_copyOf_30 (v := 0) (by decide) ?_
  refine w_aload_n C (pc := 31) dX3_copyOf_31 0 rfl ?_
  refine w_getR C (pc := 32) dX3_copyOf_32 f_X3_23 h_b.1 rfl ?_
  refine w_iconst C (pc := 35) dX3_copyOf_35 (v := 0) (by decide) ?_
  refine w_aload_n C (pc := 36) dX3_copyOf_36 0 rfl ?_
  refine w_getR C (pc := 37) dX3_copyOf_37 f_X3_23 h_b.1 rfl ?_
  refine w_alenI C (pc := 40) dX3_copyOf_40 h_b.2.2 (v := 10) (by decide) ?_
  obtain ⟨M5, e6, h⟩ := bn h
  refine w_copy C (pc := 41) dX3_copyOf_41 mcopy_X3_39 rfl (Nat.le_of_ble_eq_true rfl) h_o.2.2 h_b.2.2 rfl rfl ?_
  rw [e6]
  exact w_retV C (pc := 44) dX3_copyOf_44 rfl h
theorem dX3_fact_0 : decode cX3_fact 0 = .ok (.iload_n 1, 1) := by decide +kernel
theorem dX3_fact_1 : decode cX3_fact 1 = .ok (.ifCond .lt 24, 3) := by decide +kernel
theorem dX3_fact_4 : decode cX3_fact 4 = .ok (.iload_n 1, 1) := by decide +kernel
theorem dX3_fact_5 : decode cX3_fact 5 = .ok (.aload_n 0, 1) := by decide +kernel
theorem dX3_fact_6 : decode cX3_fact 6 = .ok (.getfield 35, 3) := by decide +kernel
theorem dX3_fact_9 : decode cX3_fact 9 = .ok (.if_icmp .gt 16, 3) := by decide +kernel
theorem dX3_fact_12 : decode cX3_fact 12 = .ok (.iload_n 2, 1) := by decide +kernel
theorem dX3_fact_13 : decode cX3_fact 13 = .ok (.ifCond .lt 12, 3) := by decide +kernel
theorem dX3_fact_16 : decode cX3_fact 16 = .ok (.iload_n 2, 1) := by decide +kernel
theorem dX3_fact_17 : decode cX3_fact 17 = .ok (.iconst 5, 1) := by decide +kernel
theorem dX3_fact_18 : decode cX3_fact 18 = .ok (.if_icmp .ge 7, 3) := by decide +kernel
theorem dX3_fact_21 : decode cX3_fact 21 = .ok (.iconst 1, 1) := by decide +kernel
theorem dX3_fact_22 : decode cX3_fact 22 = .ok (.goto 4, 3) := by decide +kernel
theorem dX3_fact_25 : decode cX3_fact 25 = .ok (.iconst 0, 1) := by decide +kernel
theorem dX3_fact_26 : decode cX3_fact 26 = .ok (.istore_n 3, 1) := by decide +kernel
theorem dX3_fact_27 : decode cX3_fact 27 = .ok (.iload_n 3, 1) := by decide +kernel
theorem dX3_fact_28 : decode cX3_fact 28 = .ok (.ifCond .eq 16, 3) := by decide +kernel
theorem dX3_fact_31 : decode cX3_fact 31 = .ok (.aload_n 0, 1) := by decide +kernel
theorem dX3_fact_32 : decode cX3_fact 32 = .ok (.getfield 9, 3) := by decide +kernel
theorem dX3_fact_35 : decode cX3_fact 35 = .ok (.iload_n 1, 1) := by decide +kernel
theorem dX3_fact_36 : decode cX3_fact 36 = .ok (.iconst 5, 1) := by decide +kernel
theorem dX3_fact_37 : decode cX3_fact 37 = .ok (.imul, 1) := by decide +kernel
theorem dX3_fact_38 : decode cX3_fact 38 = .ok (.iload_n 2, 1) := by decide +kernel
theorem dX3_fact_39 : decode cX3_fact 39 = .ok (.iadd, 1) := by decide +kernel
theorem dX3_fact_40 : decode cX3_fact 40 = .ok (.iaload, 1) := by decide +kernel
theorem dX3_fact_41 : decode cX3_fact 41 = .ok (.goto 4, 3) := by decide +kernel
theorem dX3_fact_44 : decode cX3_fact 44 = .ok (.iconst (-1), 1) := by decide +kernel
theorem dX3_fact_45 : decode cX3_fact 45 = .ok (.ireturn, 1) := by decide +kernel
def pX3_fact (b : Nat) (x1 : Int32) (x2 : Int32) (M : Mm) : Option (Int32) :=
if x1 < 0 then
(some (-1))
else
(if (M b 0) < x1 then
(some (-1))
else
(if x2 < 0 then
(some (-1))
else
(if 5 ≤ x2 then
(some (-1))
else
((ald M (b + 1) 45 ((x1 * 5) + x2)).bind fun v1 =>
some v1))))
abbrev zX3_fact : Zx := (cX3_fact, RX3, 4, 0, (some .int))
set_option maxRecDepth 100000 in
set_option maxHeartbeats 4000000 in
theorem tX3_fact {l : Launch} {Y : Sx} {M : Mm} {b : Nat} {x1 : Int32} {x2 : Int32} {q : Int32} (h_b : isLand Y b) (h : pX3_fact b x1 x2 M = some q) : Ct l Y yX3_fact cX3_fact 4 (some .int) 0 [.ref (adr Y b), .int x1, .int x2] M (some q) M := by
  refine Ct.of (by decide) rfl (lv := [(0, .ref (adr Y b)), (1, .int x1), (2, .int x2)]) rfl ?_
  intro K hkl C
  change Cx K zX3_fact Y at C
  subst hkl
  unfold pX3_fact at h
  show Wp K zX3_fact Y (Qm K Y (some q) M) M 0 [(0, .ref (adr Y b)), (1, .int x1), (2, .int x2)] []
  refine w_iload_n C (pc := 0) dX3_fact_0 1 rfl ?_
  refine w_iflt C (pc := 1) 25 dX3_fact_1 (by decide) (fun c => ?_) (fun c => ?_)
  · have h := it_t h c
    refine w_iconst C (pc := 25) dX3_fact_25 (v := 0) (by decide) ?_
    refine w_istore_n C (pc := 26) dX3_fact_26 (lv' := [(0, .ref (adr Y b)), (1, .int x1), (2, .int x2), (3, .int 0)]) rfl rfl rfl ?_
    refine w_iload_n C (pc := 27) dX3_fact_27 3 rfl ?_
    refine w_ifeq C (pc := 28) 44 dX3_fact_28 (by decide) (fun c => ?_) (fun c => ?_)
    · skip
      refine w_iconst C (pc := 44) dX3_fact_44 (v := (-1)) (by decide) ?_
      exact w_retR C (pc := 45) dX3_fact_45 rfl (Option.some.inj h)
    · exact absurd (by decide) c
  · have h := it_f h c
    refine w_iload_n C (pc := 4) dX3_fact_4 1 rfl ?_
    refine w_aload_n C (pc := 5) dX3_fact_5 0 rfl ?_
    refine w_getI C (pc := 6) dX3_fact_6 f_X3_35 h_b.1 rfl ?_
    refine w_icgt C (pc := 9) 25 dX3_fact_9 (by decide) (fun c => ?_) (fun c => ?_)
    · have h := it_t h c
      refine w_iconst C (pc := 25) dX3_fact_25 (v := 0) (by decide) ?_
      refine w_istore_n C (pc := 26) dX3_fact_26 (lv' := [(0, .ref (adr Y b)), (1, .int x1), (2, .int x2), (3, .int 0)]) rfl rfl rfl ?_
      refine w_iload_n C (pc := 27) dX3_fact_27 3 rfl ?_
      refine w_ifeq C (pc := 28) 44 dX3_fact_28 (by decide) (fun c => ?_) (fun c => ?_)
      · skip
        refine w_iconst C (pc := 44) dX3_fact_44 (v := (-1)) (by decide) ?_
        exact w_retR C (pc := 45) dX3_fact_45 rfl (Option.some.inj h)
      · exact absurd (by decide) c
    · have h := it_f h c
      refine w_iload_n C (pc := 12) dX3_fact_12 2 rfl ?_
      refine w_iflt C (pc := 13) 25 dX3_fact_13 (by decide) (fun c => ?_) (fun c => ?_)
      · have h := it_t h c
        refine w_iconst C (pc := 25) dX3_fact_25 (v := 0) (by decide) ?_
        refine w_istore_n C (pc := 26) dX3_fact_26 (lv' := [(0, .ref (adr Y b)), (1, .int x1), (2, .int x2), (3, .int 0)]) rfl rfl rfl ?_
        refine w_iload_n C (pc := 27) dX3_fact_27 3 rfl ?_
        refine w_ifeq C (pc := 28) 44 dX3_fact_28 (by decide) (fun c => ?_) (fun c => ?_)
        · skip
          refine w_iconst C (pc := 44) dX3_fact_44 (v := (-1)) (by decide) ?_
          exact w_retR C (pc := 45) dX3_fact_45 rfl (Option.some.inj h)
        · exact absurd (by decide) c
      · have h := it_f h c
        refine w_iload_n C (pc := 16) dX3_fact_16 2 rfl ?_
        refine w_iconst C (pc := 17) dX3_fact_17 (v := 5) (by decide) ?_
        refine w_icge C (pc := 18) 25 dX3_fact_18 (by decide) (fun c => ?_) (fun c => ?_)
        · have h := it_t h c
          refine w_iconst C (pc := 25) dX3_fact_25 (v := 0) (by decide) ?_
          refine w_istore_n C (pc := 26) dX3_fact_26 (lv' := [(0, .ref (adr Y b)), (1, .int x1), (2, .int x2), (3, .int 0)]) rfl rfl rfl ?_
          refine w_iload_n C (pc := 27) dX3_fact_27 3 rfl ?_
          refine w_ifeq C (pc := 28) 44 dX3_fact_28 (by decide) (fun c => ?_) (fun c => ?_)
          · skip
            refine w_iconst C (pc := 44) dX3_fact_44 (v := (-1)) (by decide) ?_
            exact w_retR C (pc := 45) dX3_fact_45 rfl (Option.some.inj h)
          · exact absurd (by decide) c
        · have h := it_f h c
          refine w_iconst C (pc := 21) dX3_fact_21 (v := 1) (by decide) ?_
          refine w_goto C (pc := 22) 26 dX3_fact_22 (by decide) ?_
          refine w_istore_n C (pc := 26) dX3_fact_26 (lv' := [(0, .ref (adr Y b)), (1, .int x1), (2, .int x2), (3, .int 1)]) rfl rfl rfl ?_
          refine w_iload_n C (pc := 27) dX3_fact_27 3 rfl ?_
          refine w_ifeq C (pc := 28) 44 dX3_fact_28 (by decide) (fun c => ?_) (fun c => ?_)
          · exact absurd c (by decide)
          · skip
            refine w_aload_n C (pc := 31) dX3_fact_31 0 rfl ?_
            refine w_getR C (pc := 32) dX3_fact_32 f_X3_9 h_b.1 rfl ?_
            refine w_iload_n C (pc := 35) dX3_fact_35 1 rfl ?_
            refine w_iconst C (pc := 36) dX3_fact_36 (v := 5) (by decide) ?_
            refine w_imul C (pc := 37) dX3_fact_37 ?_
            refine w_iload_n C (pc := 38) dX3_fact_38 2 rfl ?_
            refine w_iadd C (pc := 39) dX3_fact_39 ?_
            obtain ⟨v1, e2, h⟩ := ob h
            refine w_iald C (pc := 40) dX3_fact_40 h_b.2.1 e2 ?_
            refine w_goto C (pc := 41) 45 dX3_fact_41 (by decide) ?_
            exact w_retR C (pc := 45) dX3_fact_45 rfl (Option.some.inj h)
theorem dX3_setting_0 : decode cX3_setting 0 = .ok (.iload_n 1, 1) := by decide +kernel
theorem dX3_setting_1 : decode cX3_setting 1 = .ok (.ifCond .lt 18, 3) := by decide +kernel
theorem dX3_setting_4 : decode cX3_setting 4 = .ok (.iload_n 1, 1) := by decide +kernel
theorem dX3_setting_5 : decode cX3_setting 5 = .ok (.bipush 10, 2) := by decide +kernel
theorem dX3_setting_7 : decode cX3_setting 7 = .ok (.if_icmp .ge 12, 3) := by decide +kernel
theorem dX3_setting_10 : decode cX3_setting 10 = .ok (.aload_n 0, 1) := by decide +kernel
theorem dX3_setting_11 : decode cX3_setting 11 = .ok (.getfield 23, 3) := by decide +kernel
theorem dX3_setting_14 : decode cX3_setting 14 = .ok (.iload_n 1, 1) := by decide +kernel
theorem dX3_setting_15 : decode cX3_setting 15 = .ok (.iaload, 1) := by decide +kernel
theorem dX3_setting_16 : decode cX3_setting 16 = .ok (.goto 4, 3) := by decide +kernel
theorem dX3_setting_19 : decode cX3_setting 19 = .ok (.iconst (-1), 1) := by decide +kernel
theorem dX3_setting_20 : decode cX3_setting 20 = .ok (.ireturn, 1) := by decide +kernel
def pX3_setting (b : Nat) (x1 : Int32) (M : Mm) : Option (Int32) :=
if x1 < 0 then
(some (-1))
else
(if 10 ≤ x1 then
(some (-1))
else
((ald M (b + 2) 10 x1).bind fun v1 =>
some v1))
abbrev zX3_setting : Zx := (cX3_setting, RX3, 2, 0, (some .int))
set_option maxRecDepth 100000 in
set_option maxHeartbeats 4000000 in
theorem tX3_setting {l : Launch} {Y : Sx} {M : Mm} {b : Nat} {x1 : Int32} {q : Int32} (h_b : isLand Y b) (h : pX3_setting b x1 M = some q) : Ct l Y yX3_setting cX3_setting 2 (some .int) 0 [.ref (adr Y b), .int x1] M (some q) M := by
  refine Ct.of (by decide) rfl (lv := [(0, .ref (adr Y b)), (1, .int x1)]) rfl ?_
  intro K hkl C
  change Cx K zX3_setting Y at C
  subst hkl
  unfold pX3_setting at h
  show Wp K zX3_setting Y (Qm K Y (some q) M) M 0 [(0, .ref (adr Y b)), (1, .int x1)] []
  refine w_iload_n C (pc := 0) dX3_setting_0 1 rfl ?_
  refine w_iflt C (pc := 1) 19 dX3_setting_1 (by decide) (fun c => ?_) (fun c => ?_)
  · have h := it_t h c
    refine w_iconst C (pc := 19) dX3_setting_19 (v := (-1)) (by decide) ?_
    exact w_retR C (pc := 20) dX3_setting_20 rfl (Option.some.inj h)
  · have h := it_f h c
    refine w_iload_n C (pc := 4) dX3_setting_4 1 rfl ?_
    refine w_bipush C (pc := 5) dX3_setting_5 (v := 10) (by decide) ?_
    refine w_icge C (pc := 7) 19 dX3_setting_7 (by decide) (fun c => ?_) (fun c => ?_)
    · have h := it_t h c
      refine w_iconst C (pc := 19) dX3_setting_19 (v := (-1)) (by decide) ?_
      exact w_retR C (pc := 20) dX3_setting_20 rfl (Option.some.inj h)
    · have h := it_f h c
      refine w_aload_n C (pc := 10) dX3_setting_10 0 rfl ?_
      refine w_getR C (pc := 11) dX3_setting_11 f_X3_23 h_b.1 rfl ?_
      refine w_iload_n C (pc := 14) dX3_setting_14 1 rfl ?_
      obtain ⟨v1, e2, h⟩ := ob h
      refine w_iald C (pc := 15) dX3_setting_15 h_b.2.2 e2 ?_
      refine w_goto C (pc := 16) 20 dX3_setting_16 (by decide) ?_
      exact w_retR C (pc := 20) dX3_setting_20 rfl (Option.some.inj h)
theorem dX3_drive_0 : decode cX3_drive 0 = .ok (.aload_n 0, 1) := by decide +kernel
theorem dX3_drive_1 : decode cX3_drive 1 = .ok (.iload_n 2, 1) := by decide +kernel
theorem dX3_drive_2 : decode cX3_drive 2 = .ok (.iconst 0, 1) := by decide +kernel
theorem dX3_drive_3 : decode cX3_drive 3 = .ok (.invokevirtual 56, 3) := by decide +kernel
theorem dX3_drive_6 : decode cX3_drive 6 = .ok (.aload_n 0, 1) := by decide +kernel
theorem dX3_drive_7 : decode cX3_drive 7 = .ok (.iload_n 1, 1) := by decide +kernel
theorem dX3_drive_8 : decode cX3_drive 8 = .ok (.iconst 0, 1) := by decide +kernel
theorem dX3_drive_9 : decode cX3_drive 9 = .ok (.invokevirtual 56, 3) := by decide +kernel
theorem dX3_drive_12 : decode cX3_drive 12 = .ok (.isub, 1) := by decide +kernel
theorem dX3_drive_13 : decode cX3_drive 13 = .ok (.invokestatic 64, 3) := by decide +kernel
theorem dX3_drive_16 : decode cX3_drive 16 = .ok (.istore_n 3, 1) := by decide +kernel
theorem dX3_drive_17 : decode cX3_drive 17 = .ok (.aload_n 0, 1) := by decide +kernel
theorem dX3_drive_18 : decode cX3_drive 18 = .ok (.iload_n 2, 1) := by decide +kernel
theorem dX3_drive_19 : decode cX3_drive 19 = .ok (.iconst 1, 1) := by decide +kernel
theorem dX3_drive_20 : decode cX3_drive 20 = .ok (.invokevirtual 56, 3) := by decide +kernel
theorem dX3_drive_23 : decode cX3_drive 23 = .ok (.aload_n 0, 1) := by decide +kernel
theorem dX3_drive_24 : decode cX3_drive 24 = .ok (.iload_n 1, 1) := by decide +kernel
theorem dX3_drive_25 : decode cX3_drive 25 = .ok (.iconst 1, 1) := by decide +kernel
theorem dX3_drive_26 : decode cX3_drive 26 = .ok (.invokevirtual 56, 3) := by decide +kernel
theorem dX3_drive_29 : decode cX3_drive 29 = .ok (.isub, 1) := by decide +kernel
theorem dX3_drive_30 : decode cX3_drive 30 = .ok (.invokestatic 64, 3) := by decide +kernel
theorem dX3_drive_33 : decode cX3_drive 33 = .ok (.istore 4, 2) := by decide +kernel
theorem dX3_drive_35 : decode cX3_drive 35 = .ok (.aload_n 0, 1) := by decide +kernel
theorem dX3_drive_36 : decode cX3_drive 36 = .ok (.iconst 0, 1) := by decide +kernel
theorem dX3_drive_37 : decode cX3_drive 37 = .ok (.invokevirtual 60, 3) := by decide +kernel
theorem dX3_drive_40 : decode cX3_drive 40 = .ok (.iload_n 3, 1) := by decide +kernel
theorem dX3_drive_41 : decode cX3_drive 41 = .ok (.iload 4, 2) := by decide +kernel
theorem dX3_drive_43 : decode cX3_drive 43 = .ok (.iadd, 1) := by decide +kernel
theorem dX3_drive_44 : decode cX3_drive 44 = .ok (.imul, 1) := by decide +kernel
theorem dX3_drive_45 : decode cX3_drive 45 = .ok (.ireturn, 1) := by decide +kernel
def pX3_drive (b : Nat) (x1 : Int32) (x2 : Int32) (M : Mm) : Option (Int32) :=
(pX3_fact b x2 0 M).bind fun v1 =>
(pX3_fact b x1 0 M).bind fun v3 =>
bnd (mabs (v1 - v3)) fun v5 =>
(pX3_fact b x2 1 M).bind fun v6 =>
(pX3_fact b x1 1 M).bind fun v8 =>
bnd (mabs (v6 - v8)) fun v10 =>
(pX3_setting b 0 M).bind fun v11 =>
some (v11 * (v5 + v10))
abbrev zX3_drive : Zx := (cX3_drive, RX3, 5, 1, (some .int))
set_option maxRecDepth 100000 in
set_option maxHeartbeats 4000000 in
theorem tX3_drive {l : Launch} {Y : Sx} {M : Mm} {b : Nat} {x1 : Int32} {x2 : Int32} {q : Int32} (h_b : isLand Y b) (h : pX3_drive b x1 x2 M = some q) : Ct l Y yX3_drive cX3_drive 5 (some .int) 1 [.ref (adr Y b), .int x1, .int x2] M (some q) M := by
  refine Ct.of (by decide) rfl (lv := [(0, .ref (adr Y b)), (1, .int x1), (2, .int x2)]) rfl ?_
  intro K hkl C
  change Cx K zX3_drive Y at C
  subst hkl
  unfold pX3_drive at h
  show Wp K zX3_drive Y (Qm K Y (some q) M) M 0 [(0, .ref (adr Y b)), (1, .int x1), (2, .int x2)] []
  refine w_aload_n C (pc := 0) dX3_drive_0 0 rfl ?_
  refine w_iload_n C (pc := 1) dX3_drive_1 2 rfl ?_
  refine w_iconst C (pc := 2) dX3_drive_2 (v := 0) (by decide) ?_
  obtain ⟨v1, e2, h⟩ := ob h
  refine w_cVi C (pc := 3) dX3_drive_3 my_X3_fact mi_X3_fact ml_X3_56 h_b.1 rfl rfl rfl [.int x2, .int 0] rfl rfl (Nat.le_of_ble_eq_true rfl) (tX3_fact h_b e2) ?_
  refine w_aload_n C (pc := 6) dX3_drive_6 0 rfl ?_
  refine w_iload_n C (pc := 7) dX3_drive_7 1 rfl ?_
  refine w_iconst C (pc := 8) dX3_drive_8 (v := 0) (by decide) ?_
  obtain ⟨v3, e4, h⟩ := ob h
  refine w_cVi C (pc := 9) dX3_drive_9 my_X3_fact mi_X3_fact ml_X3_56 h_b.1 rfl rfl rfl [.int x1, .int 0] rfl rfl (Nat.le_of_ble_eq_true rfl) (tX3_fact h_b e4) ?_
  refine w_isub C (pc := 12) dX3_drive_12 ?_
  refine w_abs C (pc := 13) dX3_drive_13 mabs_X3_64 rfl (Nat.le_of_ble_eq_true rfl) ?_
  refine w_bnd h (fun v5 h => ?_)
  refine w_istore_n C (pc := 16) dX3_drive_16 (lv' := [(0, .ref (adr Y b)), (1, .int x1), (2, .int x2), (3, .int v5)]) rfl rfl rfl ?_
  refine w_aload_n C (pc := 17) dX3_drive_17 0 rfl ?_
  refine w_iload_n C (pc := 18) dX3_drive_18 2 rfl ?_
  refine w_iconst C (pc := 19) dX3_drive_19 (v := 1) (by decide) ?_
  obtain ⟨v6, e7, h⟩ := ob h
  refine w_cVi C (pc := 20) dX3_drive_20 my_X3_fact mi_X3_fact ml_X3_56 h_b.1 rfl rfl rfl [.int x2, .int 1] rfl rfl (Nat.le_of_ble_eq_true rfl) (tX3_fact h_b e7) ?_
  refine w_aload_n C (pc := 23) dX3_drive_23 0 rfl ?_
  refine w_iload_n C (pc := 24) dX3_drive_24 1 rfl ?_
  refine w_iconst C (pc := 25) dX3_drive_25 (v := 1) (by decide) ?_
  obtain ⟨v8, e9, h⟩ := ob h
  refine w_cVi C (pc := 26) dX3_drive_26 my_X3_fact mi_X3_fact ml_X3_56 h_b.1 rfl rfl rfl [.int x1, .int 1] rfl rfl (Nat.le_of_ble_eq_true rfl) (tX3_fact h_b e9) ?_
  refine w_isub C (pc := 29) dX3_drive_29 ?_
  refine w_abs C (pc := 30) dX3_drive_30 mabs_X3_64 rfl (Nat.le_of_ble_eq_true rfl) ?_
  refine w_bnd h (fun v10 h => ?_)
  refine w_istore C (pc := 33) dX3_drive_33 (lv' := [(0, .ref (adr Y b)), (1, .int x1), (2, .int x2), (3, .int v5), (4, .int v10)]) rfl rfl rfl ?_
  refine w_aload_n C (pc := 35) dX3_drive_35 0 rfl ?_
  refine w_iconst C (pc := 36) dX3_drive_36 (v := 0) (by decide) ?_
  obtain ⟨v11, e12, h⟩ := ob h
  refine w_cVi C (pc := 37) dX3_drive_37 my_X3_setting mi_X3_setting ml_X3_60 h_b.1 rfl rfl rfl [.int 0] rfl rfl (Nat.le_of_ble_eq_true rfl) (tX3_setting h_b e12) ?_
  refine w_iload_n C (pc := 40) dX3_drive_40 3 rfl ?_
  refine w_iload C (pc := 41) dX3_drive_41 4 rfl ?_
  refine w_iadd C (pc := 43) dX3_drive_43 ?_
  refine w_imul C (pc := 44) dX3_drive_44 ?_
  exact w_retR C (pc := 45) dX3_drive_45 rfl (Option.some.inj h)
theorem dX3_flight_0 : decode cX3_flight 0 = .ok (.iload_n 1, 1) := by decide +kernel
theorem dX3_flight_1 : decode cX3_flight 1 = .ok (.iload_n 2, 1) := by decide +kernel
theorem dX3_flight_2 : decode cX3_flight 2 = .ok (.if_icmp .ne 5, 3) := by decide +kernel
theorem dX3_flight_5 : decode cX3_flight 5 = .ok (.iconst 0, 1) := by decide +kernel
theorem dX3_flight_6 : decode cX3_flight 6 = .ok (.ireturn, 1) := by decide +kernel
theorem dX3_flight_7 : decode cX3_flight 7 = .ok (.aload_n 0, 1) := by decide +kernel
theorem dX3_flight_8 : decode cX3_flight 8 = .ok (.iload_n 2, 1) := by decide +kernel
theorem dX3_flight_9 : decode cX3_flight 9 = .ok (.iconst 0, 1) := by decide +kernel
theorem dX3_flight_10 : decode cX3_flight 10 = .ok (.invokevirtual 56, 3) := by decide +kernel
theorem dX3_flight_13 : decode cX3_flight 13 = .ok (.aload_n 0, 1) := by decide +kernel
theorem dX3_flight_14 : decode cX3_flight 14 = .ok (.iload_n 1, 1) := by decide +kernel
theorem dX3_flight_15 : decode cX3_flight 15 = .ok (.iconst 0, 1) := by decide +kernel
theorem dX3_flight_16 : decode cX3_flight 16 = .ok (.invokevirtual 56, 3) := by decide +kernel
theorem dX3_flight_19 : decode cX3_flight 19 = .ok (.isub, 1) := by decide +kernel
theorem dX3_flight_20 : decode cX3_flight 20 = .ok (.istore 5, 2) := by decide +kernel
theorem dX3_flight_22 : decode cX3_flight 22 = .ok (.aload_n 0, 1) := by decide +kernel
theorem dX3_flight_23 : decode cX3_flight 23 = .ok (.iload_n 2, 1) := by decide +kernel
theorem dX3_flight_24 : decode cX3_flight 24 = .ok (.iconst 1, 1) := by decide +kernel
theorem dX3_flight_25 : decode cX3_flight 25 = .ok (.invokevirtual 56, 3) := by decide +kernel
theorem dX3_flight_28 : decode cX3_flight 28 = .ok (.aload_n 0, 1) := by decide +kernel
theorem dX3_flight_29 : decode cX3_flight 29 = .ok (.iload_n 1, 1) := by decide +kernel
theorem dX3_flight_30 : decode cX3_flight 30 = .ok (.iconst 1, 1) := by decide +kernel
theorem dX3_flight_31 : decode cX3_flight 31 = .ok (.invokevirtual 56, 3) := by decide +kernel
theorem dX3_flight_34 : decode cX3_flight 34 = .ok (.isub, 1) := by decide +kernel
theorem dX3_flight_35 : decode cX3_flight 35 = .ok (.istore 6, 2) := by decide +kernel
theorem dX3_flight_37 : decode cX3_flight 37 = .ok (.aload_n 0, 1) := by decide +kernel
theorem dX3_flight_38 : decode cX3_flight 38 = .ok (.iconst 1, 1) := by decide +kernel
theorem dX3_flight_39 : decode cX3_flight 39 = .ok (.invokevirtual 60, 3) := by decide +kernel
theorem dX3_flight_42 : decode cX3_flight 42 = .ok (.iload 5, 2) := by decide +kernel
theorem dX3_flight_44 : decode cX3_flight 44 = .ok (.invokestatic 64, 3) := by decide +kernel
theorem dX3_flight_47 : decode cX3_flight 47 = .ok (.iload 6, 2) := by decide +kernel
theorem dX3_flight_49 : decode cX3_flight 49 = .ok (.invokestatic 64, 3) := by decide +kernel
theorem dX3_flight_52 : decode cX3_flight 52 = .ok (.invokestatic 69, 3) := by decide +kernel
theorem dX3_flight_55 : decode cX3_flight 55 = .ok (.imul, 1) := by decide +kernel
theorem dX3_flight_56 : decode cX3_flight 56 = .ok (.istore 7, 2) := by decide +kernel
theorem dX3_flight_58 : decode cX3_flight 58 = .ok (.iconst 1, 1) := by decide +kernel
theorem dX3_flight_59 : decode cX3_flight 59 = .ok (.iload 7, 2) := by decide +kernel
theorem dX3_flight_61 : decode cX3_flight 61 = .ok (.iload_n 3, 1) := by decide +kernel
theorem dX3_flight_62 : decode cX3_flight 62 = .ok (.iload 5, 2) := by decide +kernel
theorem dX3_flight_64 : decode cX3_flight 64 = .ok (.imul, 1) := by decide +kernel
theorem dX3_flight_65 : decode cX3_flight 65 = .ok (.isub, 1) := by decide +kernel
theorem dX3_flight_66 : decode cX3_flight 66 = .ok (.iload 4, 2) := by decide +kernel
theorem dX3_flight_68 : decode cX3_flight 68 = .ok (.iload 6, 2) := by decide +kernel
theorem dX3_flight_70 : decode cX3_flight 70 = .ok (.imul, 1) := by decide +kernel
theorem dX3_flight_71 : decode cX3_flight 71 = .ok (.isub, 1) := by decide +kernel
theorem dX3_flight_72 : decode cX3_flight 72 = .ok (.invokestatic 69, 3) := by decide +kernel
theorem dX3_flight_75 : decode cX3_flight 75 = .ok (.ireturn, 1) := by decide +kernel
def pX3_flight (b : Nat) (x1 : Int32) (x2 : Int32) (x3 : Int32) (x4 : Int32) (M : Mm) : Option (Int32) :=
if x1 = x2 then
(some 0)
else
((pX3_fact b x2 0 M).bind fun v1 =>
(pX3_fact b x1 0 M).bind fun v3 =>
bnd (v1 - v3) fun v5 =>
(pX3_fact b x2 1 M).bind fun v6 =>
(pX3_fact b x1 1 M).bind fun v8 =>
bnd (v6 - v8) fun v10 =>
(pX3_setting b 1 M).bind fun v11 =>
bnd (v11 * (mmax (mabs v5) (mabs v10))) fun v13 =>
some (mmax 1 ((v13 - (x3 * v5)) - (x4 * v10))))
abbrev zX3_flight : Zx := (cX3_flight, RX3, 8, 1, (some .int))
set_option maxRecDepth 100000 in
set_option maxHeartbeats 4000000 in
theorem tX3_flight {l : Launch} {Y : Sx} {M : Mm} {b : Nat} {x1 : Int32} {x2 : Int32} {x3 : Int32} {x4 : Int32} {q : Int32} (h_b : isLand Y b) (h : pX3_flight b x1 x2 x3 x4 M = some q) : Ct l Y yX3_flight cX3_flight 8 (some .int) 1 [.ref (adr Y b), .int x1, .int x2, .int x3, .int x4] M (some q) M := by
  refine Ct.of (by decide) rfl (lv := [(0, .ref (adr Y b)), (1, .int x1), (2, .int x2), (3, .int x3), (4, .int x4)]) rfl ?_
  intro K hkl C
  change Cx K zX3_flight Y at C
  subst hkl
  unfold pX3_flight at h
  show Wp K zX3_flight Y (Qm K Y (some q) M) M 0 [(0, .ref (adr Y b)), (1, .int x1), (2, .int x2), (3, .int x3), (4, .int x4)] []
  refine w_iload_n C (pc := 0) dX3_flight_0 1 rfl ?_
  refine w_iload_n C (pc := 1) dX3_flight_1 2 rfl ?_
  refine w_icne C (pc := 2) 7 dX3_flight_2 (by decide) (fun c => ?_) (fun c => ?_)
  · have h := it_t h c
    refine w_iconst C (pc := 5) dX3_flight_5 (v := 0) (by decide) ?_
    exact w_retR C (pc := 6) dX3_flight_6 rfl (Option.some.inj h)
  · have h := it_f h c
    refine w_aload_n C (pc := 7) dX3_flight_7 0 rfl ?_
    refine w_iload_n C (pc := 8) dX3_flight_8 2 rfl ?_
    refine w_iconst C (pc := 9) dX3_flight_9 (v := 0) (by decide) ?_
    obtain ⟨v1, e2, h⟩ := ob h
    refine w_cVi C (pc := 10) dX3_flight_10 my_X3_fact mi_X3_fact ml_X3_56 h_b.1 rfl rfl rfl [.int x2, .int 0] rfl rfl (Nat.le_of_ble_eq_true rfl) (tX3_fact h_b e2) ?_
    refine w_aload_n C (pc := 13) dX3_flight_13 0 rfl ?_
    refine w_iload_n C (pc := 14) dX3_flight_14 1 rfl ?_
    refine w_iconst C (pc := 15) dX3_flight_15 (v := 0) (by decide) ?_
    obtain ⟨v3, e4, h⟩ := ob h
    refine w_cVi C (pc := 16) dX3_flight_16 my_X3_fact mi_X3_fact ml_X3_56 h_b.1 rfl rfl rfl [.int x1, .int 0] rfl rfl (Nat.le_of_ble_eq_true rfl) (tX3_fact h_b e4) ?_
    refine w_isub C (pc := 19) dX3_flight_19 ?_
    refine w_bnd h (fun v5 h => ?_)
    refine w_istore C (pc := 20) dX3_flight_20 (lv' := [(0, .ref (adr Y b)), (1, .int x1), (2, .int x2), (3, .int x3), (4, .int x4), (5, .int v5)]) rfl rfl rfl ?_
    refine w_aload_n C (pc := 22) dX3_flight_22 0 rfl ?_
    refine w_iload_n C (pc := 23) dX3_flight_23 2 rfl ?_
    refine w_iconst C (pc := 24) dX3_flight_24 (v := 1) (by decide) ?_
    obtain ⟨v6, e7, h⟩ := ob h
    refine w_cVi C (pc := 25) dX3_flight_25 my_X3_fact mi_X3_fact ml_X3_56 h_b.1 rfl rfl rfl [.int x2, .int 1] rfl rfl (Nat.le_of_ble_eq_true rfl) (tX3_fact h_b e7) ?_
    refine w_aload_n C (pc := 28) dX3_flight_28 0 rfl ?_
    refine w_iload_n C (pc := 29) dX3_flight_29 1 rfl ?_
    refine w_iconst C (pc := 30) dX3_flight_30 (v := 1) (by decide) ?_
    obtain ⟨v8, e9, h⟩ := ob h
    refine w_cVi C (pc := 31) dX3_flight_31 my_X3_fact mi_X3_fact ml_X3_56 h_b.1 rfl rfl rfl [.int x1, .int 1] rfl rfl (Nat.le_of_ble_eq_true rfl) (tX3_fact h_b e9) ?_
    refine w_isub C (pc := 34) dX3_flight_34 ?_
    refine w_bnd h (fun v10 h => ?_)
    refine w_istore C (pc := 35) dX3_flight_35 (lv' := [(0, .ref (adr Y b)), (1, .int x1), (2, .int x2), (3, .int x3), (4, .int x4), (5, .int v5), (6, .int v10)]) rfl rfl rfl ?_
    refine w_aload_n C (pc := 37) dX3_flight_37 0 rfl ?_
    refine w_iconst C (pc := 38) dX3_flight_38 (v := 1) (by decide) ?_
    obtain ⟨v11, e12, h⟩ := ob h
    refine w_cVi C (pc := 39) dX3_flight_39 my_X3_setting mi_X3_setting ml_X3_60 h_b.1 rfl rfl rfl [.int 1] rfl rfl (Nat.le_of_ble_eq_true rfl) (tX3_setting h_b e12) ?_
    refine w_iload C (pc := 42) dX3_flight_42 5 rfl ?_
    refine w_abs C (pc := 44) dX3_flight_44 mabs_X3_64 rfl (Nat.le_of_ble_eq_true rfl) ?_
    refine w_iload C (pc := 47) dX3_flight_47 6 rfl ?_
    refine w_abs C (pc := 49) dX3_flight_49 mabs_X3_64 rfl (Nat.le_of_ble_eq_true rfl) ?_
    refine w_max C (pc := 52) dX3_flight_52 mmax_X3_69 rfl (Nat.le_of_ble_eq_true rfl) ?_
    refine w_imul C (pc := 55) dX3_flight_55 ?_
    refine w_bnd h (fun v13 h => ?_)
    refine w_istore C (pc := 56) dX3_flight_56 (lv' := [(0, .ref (adr Y b)), (1, .int x1), (2, .int x2), (3, .int x3), (4, .int x4), (5, .int v5), (6, .int v10), (7, .int v13)]) rfl rfl rfl ?_
    refine w_iconst C (pc := 58) dX3_flight_58 (v := 1) (by decide) ?_
    refine w_iload C (pc := 59) dX3_flight_59 7 rfl ?_
    refine w_iload_n C (pc := 61) dX3_flight_61 3 rfl ?_
    refine w_iload C (pc := 62) dX3_flight_62 5 rfl ?_
    refine w_imul C (pc := 64) dX3_flight_64 ?_
    refine w_isub C (pc := 65) dX3_flight_65 ?_
    refine w_iload C (pc := 66) dX3_flight_66 4 rfl ?_
    refine w_iload C (pc := 68) dX3_flight_68 6 rfl ?_
    refine w_imul C (pc := 70) dX3_flight_70 ?_
    refine w_isub C (pc := 71) dX3_flight_71 ?_
    refine w_max C (pc := 72) dX3_flight_72 mmax_X3_69 rfl (Nat.le_of_ble_eq_true rfl) ?_
    exact w_retR C (pc := 75) dX3_flight_75 rfl (Option.some.inj h)
theorem dX3_isCustomer_0 : decode cX3_isCustomer 0 = .ok (.iload_n 1, 1) := by decide +kernel
theorem dX3_isCustomer_1 : decode cX3_isCustomer 1 = .ok (.iconst 1, 1) := by decide +kernel
theorem dX3_isCustomer_2 : decode cX3_isCustomer 2 = .ok (.if_icmp .lt 15, 3) := by decide +kernel
theorem dX3_isCustomer_5 : decode cX3_isCustomer 5 = .ok (.iload_n 1, 1) := by decide +kernel
theorem dX3_isCustomer_6 : decode cX3_isCustomer 6 = .ok (.aload_n 0, 1) := by decide +kernel
theorem dX3_isCustomer_7 : decode cX3_isCustomer 7 = .ok (.getfield 35, 3) := by decide +kernel
theorem dX3_isCustomer_10 : decode cX3_isCustomer 10 = .ok (.if_icmp .gt 7, 3) := by decide +kernel
theorem dX3_isCustomer_13 : decode cX3_isCustomer 13 = .ok (.iconst 1, 1) := by decide +kernel
theorem dX3_isCustomer_14 : decode cX3_isCustomer 14 = .ok (.goto 4, 3) := by decide +kernel
theorem dX3_isCustomer_17 : decode cX3_isCustomer 17 = .ok (.iconst 0, 1) := by decide +kernel
theorem dX3_isCustomer_18 : decode cX3_isCustomer 18 = .ok (.ireturn, 1) := by decide +kernel
def pX3_isCustomer (b : Nat) (x1 : Int32) (M : Mm) : Int32 :=
if x1 < 1 then
(0)
else
(if (M b 0) < x1 then
(0)
else
(1))
abbrev zX3_isCustomer : Zx := (cX3_isCustomer, RX3, 2, 0, (some .boolean))
set_option maxRecDepth 100000 in
set_option maxHeartbeats 4000000 in
theorem tX3_isCustomer {l : Launch} {Y : Sx} {M : Mm} {b : Nat} {x1 : Int32} {q : Int32} (h_b : isLand Y b) (h : pX3_isCustomer b x1 M = q) : Ct l Y yX3_isCustomer cX3_isCustomer 2 (some .boolean) 0 [.ref (adr Y b), .int x1] M (some q) M := by
  refine Ct.of (by decide) rfl (lv := [(0, .ref (adr Y b)), (1, .int x1)]) rfl ?_
  intro K hkl C
  change Cx K zX3_isCustomer Y at C
  subst hkl
  unfold pX3_isCustomer at h
  show Wp K zX3_isCustomer Y (Qm K Y (some q) M) M 0 [(0, .ref (adr Y b)), (1, .int x1)] []
  refine w_iload_n C (pc := 0) dX3_isCustomer_0 1 rfl ?_
  refine w_iconst C (pc := 1) dX3_isCustomer_1 (v := 1) (by decide) ?_
  refine w_iclt C (pc := 2) 17 dX3_isCustomer_2 (by decide) (fun c => ?_) (fun c => ?_)
  · have h := it_t h c
    refine w_iconst C (pc := 17) dX3_isCustomer_17 (v := 0) (by decide) ?_
    exact w_retzR C (pc := 18) dX3_isCustomer_18 rfl (by decide) h
  · have h := it_f h c
    refine w_iload_n C (pc := 5) dX3_isCustomer_5 1 rfl ?_
    refine w_aload_n C (pc := 6) dX3_isCustomer_6 0 rfl ?_
    refine w_getI C (pc := 7) dX3_isCustomer_7 f_X3_35 h_b.1 rfl ?_
    refine w_icgt C (pc := 10) 17 dX3_isCustomer_10 (by decide) (fun c => ?_) (fun c => ?_)
    · have h := it_t h c
      refine w_iconst C (pc := 17) dX3_isCustomer_17 (v := 0) (by decide) ?_
      exact w_retzR C (pc := 18) dX3_isCustomer_18 rfl (by decide) h
    · have h := it_f h c
      refine w_iconst C (pc := 13) dX3_isCustomer_13 (v := 1) (by decide) ?_
      refine w_goto C (pc := 14) 18 dX3_isCustomer_14 (by decide) ?_
      exact w_retzR C (pc := 18) dX3_isCustomer_18 rfl (by decide) h
theorem dX3_isLight_0 : decode cX3_isLight 0 = .ok (.aload_n 0, 1) := by decide +kernel
theorem dX3_isLight_1 : decode cX3_isLight 1 = .ok (.iload_n 1, 1) := by decide +kernel
theorem dX3_isLight_2 : decode cX3_isLight 2 = .ok (.iconst 4, 1) := by decide +kernel
theorem dX3_isLight_3 : decode cX3_isLight 3 = .ok (.invokevirtual 56, 3) := by decide +kernel
theorem dX3_isLight_6 : decode cX3_isLight 6 = .ok (.aload_n 0, 1) := by decide +kernel
theorem dX3_isLight_7 : decode cX3_isLight 7 = .ok (.iconst 4, 1) := by decide +kernel
theorem dX3_isLight_8 : decode cX3_isLight 8 = .ok (.invokevirtual 60, 3) := by decide +kernel
theorem dX3_isLight_11 : decode cX3_isLight 11 = .ok (.if_icmp .gt 7, 3) := by decide +kernel
theorem dX3_isLight_14 : decode cX3_isLight 14 = .ok (.iconst 1, 1) := by decide +kernel
theorem dX3_isLight_15 : decode cX3_isLight 15 = .ok (.goto 4, 3) := by decide +kernel
theorem dX3_isLight_18 : decode cX3_isLight 18 = .ok (.iconst 0, 1) := by decide +kernel
theorem dX3_isLight_19 : decode cX3_isLight 19 = .ok (.ireturn, 1) := by decide +kernel
def pX3_isLight (b : Nat) (x1 : Int32) (M : Mm) : Option (Int32) :=
(pX3_fact b x1 4 M).bind fun v1 =>
(pX3_setting b 4 M).bind fun v3 =>
if v3 < v1 then
(some 0)
else
(some 1)
abbrev zX3_isLight : Zx := (cX3_isLight, RX3, 2, 1, (some .boolean))
set_option maxRecDepth 100000 in
set_option maxHeartbeats 4000000 in
theorem tX3_isLight {l : Launch} {Y : Sx} {M : Mm} {b : Nat} {x1 : Int32} {q : Int32} (h_b : isLand Y b) (h : pX3_isLight b x1 M = some q) : Ct l Y yX3_isLight cX3_isLight 2 (some .boolean) 1 [.ref (adr Y b), .int x1] M (some q) M := by
  refine Ct.of (by decide) rfl (lv := [(0, .ref (adr Y b)), (1, .int x1)]) rfl ?_
  intro K hkl C
  change Cx K zX3_isLight Y at C
  subst hkl
  unfold pX3_isLight at h
  show Wp K zX3_isLight Y (Qm K Y (some q) M) M 0 [(0, .ref (adr Y b)), (1, .int x1)] []
  refine w_aload_n C (pc := 0) dX3_isLight_0 0 rfl ?_
  refine w_iload_n C (pc := 1) dX3_isLight_1 1 rfl ?_
  refine w_iconst C (pc := 2) dX3_isLight_2 (v := 4) (by decide) ?_
  obtain ⟨v1, e2, h⟩ := ob h
  refine w_cVi C (pc := 3) dX3_isLight_3 my_X3_fact mi_X3_fact ml_X3_56 h_b.1 rfl rfl rfl [.int x1, .int 4] rfl rfl (Nat.le_of_ble_eq_true rfl) (tX3_fact h_b e2) ?_
  refine w_aload_n C (pc := 6) dX3_isLight_6 0 rfl ?_
  refine w_iconst C (pc := 7) dX3_isLight_7 (v := 4) (by decide) ?_
  obtain ⟨v3, e4, h⟩ := ob h
  refine w_cVi C (pc := 8) dX3_isLight_8 my_X3_setting mi_X3_setting ml_X3_60 h_b.1 rfl rfl rfl [.int 4] rfl rfl (Nat.le_of_ble_eq_true rfl) (tX3_setting h_b e4) ?_
  refine w_icgt C (pc := 11) 18 dX3_isLight_11 (by decide) (fun c => ?_) (fun c => ?_)
  · have h := it_t h c
    refine w_iconst C (pc := 18) dX3_isLight_18 (v := 0) (by decide) ?_
    exact w_retzR C (pc := 19) dX3_isLight_19 rfl (by decide) (Option.some.inj h)
  · have h := it_f h c
    refine w_iconst C (pc := 14) dX3_isLight_14 (v := 1) (by decide) ?_
    refine w_goto C (pc := 15) 19 dX3_isLight_15 (by decide) ?_
    exact w_retzR C (pc := 19) dX3_isLight_19 rfl (by decide) (Option.some.inj h)
theorem dX3_isPlace_0 : decode cX3_isPlace 0 = .ok (.iload_n 1, 1) := by decide +kernel
theorem dX3_isPlace_1 : decode cX3_isPlace 1 = .ok (.ifCond .lt 15, 3) := by decide +kernel
theorem dX3_isPlace_4 : decode cX3_isPlace 4 = .ok (.iload_n 1, 1) := by decide +kernel
theorem dX3_isPlace_5 : decode cX3_isPlace 5 = .ok (.aload_n 0, 1) := by decide +kernel
theorem dX3_isPlace_6 : decode cX3_isPlace 6 = .ok (.getfield 35, 3) := by decide +kernel
theorem dX3_isPlace_9 : decode cX3_isPlace 9 = .ok (.if_icmp .gt 7, 3) := by decide +kernel
theorem dX3_isPlace_12 : decode cX3_isPlace 12 = .ok (.iconst 1, 1) := by decide +kernel
theorem dX3_isPlace_13 : decode cX3_isPlace 13 = .ok (.goto 4, 3) := by decide +kernel
theorem dX3_isPlace_16 : decode cX3_isPlace 16 = .ok (.iconst 0, 1) := by decide +kernel
theorem dX3_isPlace_17 : decode cX3_isPlace 17 = .ok (.ireturn, 1) := by decide +kernel
def pX3_isPlace (b : Nat) (x1 : Int32) (M : Mm) : Int32 :=
if x1 < 0 then
(0)
else
(if (M b 0) < x1 then
(0)
else
(1))
abbrev zX3_isPlace : Zx := (cX3_isPlace, RX3, 2, 0, (some .boolean))
set_option maxRecDepth 100000 in
set_option maxHeartbeats 4000000 in
theorem tX3_isPlace {l : Launch} {Y : Sx} {M : Mm} {b : Nat} {x1 : Int32} {q : Int32} (h_b : isLand Y b) (h : pX3_isPlace b x1 M = q) : Ct l Y yX3_isPlace cX3_isPlace 2 (some .boolean) 0 [.ref (adr Y b), .int x1] M (some q) M := by
  refine Ct.of (by decide) rfl (lv := [(0, .ref (adr Y b)), (1, .int x1)]) rfl ?_
  intro K hkl C
  change Cx K zX3_isPlace Y at C
  subst hkl
  unfold pX3_isPlace at h
  show Wp K zX3_isPlace Y (Qm K Y (some q) M) M 0 [(0, .ref (adr Y b)), (1, .int x1)] []
  refine w_iload_n C (pc := 0) dX3_isPlace_0 1 rfl ?_
  refine w_iflt C (pc := 1) 16 dX3_isPlace_1 (by decide) (fun c => ?_) (fun c => ?_)
  · have h := it_t h c
    refine w_iconst C (pc := 16) dX3_isPlace_16 (v := 0) (by decide) ?_
    exact w_retzR C (pc := 17) dX3_isPlace_17 rfl (by decide) h
  · have h := it_f h c
    refine w_iload_n C (pc := 4) dX3_isPlace_4 1 rfl ?_
    refine w_aload_n C (pc := 5) dX3_isPlace_5 0 rfl ?_
    refine w_getI C (pc := 6) dX3_isPlace_6 f_X3_35 h_b.1 rfl ?_
    refine w_icgt C (pc := 9) 16 dX3_isPlace_9 (by decide) (fun c => ?_) (fun c => ?_)
    · have h := it_t h c
      refine w_iconst C (pc := 16) dX3_isPlace_16 (v := 0) (by decide) ?_
      exact w_retzR C (pc := 17) dX3_isPlace_17 rfl (by decide) h
    · have h := it_f h c
      refine w_iconst C (pc := 12) dX3_isPlace_12 (v := 1) (by decide) ?_
      refine w_goto C (pc := 13) 17 dX3_isPlace_13 (by decide) ?_
      exact w_retzR C (pc := 17) dX3_isPlace_17 rfl (by decide) h
theorem dX3_mayBeFact_0 : decode cX3_mayBeFact 0 = .ok (.iload_n 0, 1) := by decide +kernel
theorem dX3_mayBeFact_1 : decode cX3_mayBeFact 1 = .ok (.ifCond .lt 25, 3) := by decide +kernel
theorem dX3_mayBeFact_4 : decode cX3_mayBeFact 4 = .ok (.iload_n 0, 1) := by decide +kernel
theorem dX3_mayBeFact_5 : decode cX3_mayBeFact 5 = .ok (.iconst 5, 1) := by decide +kernel
theorem dX3_mayBeFact_6 : decode cX3_mayBeFact 6 = .ok (.if_icmp .ge 20, 3) := by decide +kernel
theorem dX3_mayBeFact_9 : decode cX3_mayBeFact 9 = .ok (.iload_n 1, 1) := by decide +kernel
theorem dX3_mayBeFact_10 : decode cX3_mayBeFact 10 = .ok (.ifCond .lt 16, 3) := by decide +kernel
theorem dX3_mayBeFact_13 : decode cX3_mayBeFact 13 = .ok (.iload_n 1, 1) := by decide +kernel
theorem dX3_mayBeFact_14 : decode cX3_mayBeFact 14 = .ok (.getstatic 26, 3) := by decide +kernel
theorem dX3_mayBeFact_17 : decode cX3_mayBeFact 17 = .ok (.iload_n 0, 1) := by decide +kernel
theorem dX3_mayBeFact_18 : decode cX3_mayBeFact 18 = .ok (.iaload, 1) := by decide +kernel
theorem dX3_mayBeFact_19 : decode cX3_mayBeFact 19 = .ok (.if_icmp .gt 7, 3) := by decide +kernel
theorem dX3_mayBeFact_22 : decode cX3_mayBeFact 22 = .ok (.iconst 1, 1) := by decide +kernel
theorem dX3_mayBeFact_23 : decode cX3_mayBeFact 23 = .ok (.goto 4, 3) := by decide +kernel
theorem dX3_mayBeFact_26 : decode cX3_mayBeFact 26 = .ok (.iconst 0, 1) := by decide +kernel
theorem dX3_mayBeFact_27 : decode cX3_mayBeFact 27 = .ok (.ireturn, 1) := by decide +kernel
def pX3_mayBeFact (x0 : Int32) (x1 : Int32) (M : Mm) : Option (Int32) :=
if x0 < 0 then
(some 0)
else
(if 5 ≤ x0 then
(some 0)
else
(if x1 < 0 then
(some 0)
else
((sld stL0 x0).bind fun v1 =>
if v1 < x1 then
(some 0)
else
(some 1))))
abbrev zX3_mayBeFact : Zx := (cX3_mayBeFact, RX3, 2, 0, (some .boolean))
set_option maxRecDepth 100000 in
set_option maxHeartbeats 4000000 in
theorem tX3_mayBeFact {l : Launch} {Y : Sx} {M : Mm} {x0 : Int32} {x1 : Int32} {q : Int32} (h : pX3_mayBeFact x0 x1 M = some q) : Ct l Y yX3_mayBeFact cX3_mayBeFact 2 (some .boolean) 0 [.int x0, .int x1] M (some q) M := by
  refine Ct.of (by decide) rfl (lv := [(0, .int x0), (1, .int x1)]) rfl ?_
  intro K hkl C
  change Cx K zX3_mayBeFact Y at C
  subst hkl
  unfold pX3_mayBeFact at h
  show Wp K zX3_mayBeFact Y (Qm K Y (some q) M) M 0 [(0, .int x0), (1, .int x1)] []
  refine w_iload_n C (pc := 0) dX3_mayBeFact_0 0 rfl ?_
  refine w_iflt C (pc := 1) 26 dX3_mayBeFact_1 (by decide) (fun c => ?_) (fun c => ?_)
  · have h := it_t h c
    refine w_iconst C (pc := 26) dX3_mayBeFact_26 (v := 0) (by decide) ?_
    exact w_retzR C (pc := 27) dX3_mayBeFact_27 rfl (by decide) (Option.some.inj h)
  · have h := it_f h c
    refine w_iload_n C (pc := 4) dX3_mayBeFact_4 0 rfl ?_
    refine w_iconst C (pc := 5) dX3_mayBeFact_5 (v := 5) (by decide) ?_
    refine w_icge C (pc := 6) 26 dX3_mayBeFact_6 (by decide) (fun c => ?_) (fun c => ?_)
    · have h := it_t h c
      refine w_iconst C (pc := 26) dX3_mayBeFact_26 (v := 0) (by decide) ?_
      exact w_retzR C (pc := 27) dX3_mayBeFact_27 rfl (by decide) (Option.some.inj h)
    · have h := it_f h c
      refine w_iload_n C (pc := 9) dX3_mayBeFact_9 1 rfl ?_
      refine w_iflt C (pc := 10) 26 dX3_mayBeFact_10 (by decide) (fun c => ?_) (fun c => ?_)
      · have h := it_t h c
        refine w_iconst C (pc := 26) dX3_mayBeFact_26 (v := 0) (by decide) ?_
        exact w_retzR C (pc := 27) dX3_mayBeFact_27 rfl (by decide) (Option.some.inj h)
      · have h := it_f h c
        refine w_iload_n C (pc := 13) dX3_mayBeFact_13 1 rfl ?_
        refine w_gets C (pc := 14) dX3_mayBeFact_14 g_X3_26 ?_
        refine w_iload_n C (pc := 17) dX3_mayBeFact_17 0 rfl ?_
        obtain ⟨v1, e2, h⟩ := ob h
        refine w_sald C (pc := 18) dX3_mayBeFact_18 (l := stL0) rfl rfl e2 ?_
        refine w_icgt C (pc := 19) 26 dX3_mayBeFact_19 (by decide) (fun c => ?_) (fun c => ?_)
        · have h := it_t h c
          refine w_iconst C (pc := 26) dX3_mayBeFact_26 (v := 0) (by decide) ?_
          exact w_retzR C (pc := 27) dX3_mayBeFact_27 rfl (by decide) (Option.some.inj h)
        · have h := it_f h c
          refine w_iconst C (pc := 22) dX3_mayBeFact_22 (v := 1) (by decide) ?_
          refine w_goto C (pc := 23) 27 dX3_mayBeFact_23 (by decide) ?_
          exact w_retzR C (pc := 27) dX3_mayBeFact_27 rfl (by decide) (Option.some.inj h)
theorem dX3_mayBeSetting_0 : decode cX3_mayBeSetting 0 = .ok (.iload_n 0, 1) := by decide +kernel
theorem dX3_mayBeSetting_1 : decode cX3_mayBeSetting 1 = .ok (.ifCond .lt 31, 3) := by decide +kernel
theorem dX3_mayBeSetting_4 : decode cX3_mayBeSetting 4 = .ok (.iload_n 0, 1) := by decide +kernel
theorem dX3_mayBeSetting_5 : decode cX3_mayBeSetting 5 = .ok (.bipush 10, 2) := by decide +kernel
theorem dX3_mayBeSetting_7 : decode cX3_mayBeSetting 7 = .ok (.if_icmp .ge 25, 3) := by decide +kernel
theorem dX3_mayBeSetting_10 : decode cX3_mayBeSetting 10 = .ok (.iload_n 1, 1) := by decide +kernel
theorem dX3_mayBeSetting_11 : decode cX3_mayBeSetting 11 = .ok (.getstatic 29, 3) := by decide +kernel
theorem dX3_mayBeSetting_14 : decode cX3_mayBeSetting 14 = .ok (.iload_n 0, 1) := by decide +kernel
theorem dX3_mayBeSetting_15 : decode cX3_mayBeSetting 15 = .ok (.iaload, 1) := by decide +kernel
theorem dX3_mayBeSetting_16 : decode cX3_mayBeSetting 16 = .ok (.if_icmp .lt 16, 3) := by decide +kernel
theorem dX3_mayBeSetting_19 : decode cX3_mayBeSetting 19 = .ok (.iload_n 1, 1) := by decide +kernel
theorem dX3_mayBeSetting_20 : decode cX3_mayBeSetting 20 = .ok (.getstatic 32, 3) := by decide +kernel
theorem dX3_mayBeSetting_23 : decode cX3_mayBeSetting 23 = .ok (.iload_n 0, 1) := by decide +kernel
theorem dX3_mayBeSetting_24 : decode cX3_mayBeSetting 24 = .ok (.iaload, 1) := by decide +kernel
theorem dX3_mayBeSetting_25 : decode cX3_mayBeSetting 25 = .ok (.if_icmp .gt 7, 3) := by decide +kernel
theorem dX3_mayBeSetting_28 : decode cX3_mayBeSetting 28 = .ok (.iconst 1, 1) := by decide +kernel
theorem dX3_mayBeSetting_29 : decode cX3_mayBeSetting 29 = .ok (.goto 4, 3) := by decide +kernel
theorem dX3_mayBeSetting_32 : decode cX3_mayBeSetting 32 = .ok (.iconst 0, 1) := by decide +kernel
theorem dX3_mayBeSetting_33 : decode cX3_mayBeSetting 33 = .ok (.ireturn, 1) := by decide +kernel
def pX3_mayBeSetting (x0 : Int32) (x1 : Int32) (M : Mm) : Option (Int32) :=
if x0 < 0 then
(some 0)
else
(if 10 ≤ x0 then
(some 0)
else
((sld stL1 x0).bind fun v1 =>
if x1 < v1 then
(some 0)
else
((sld stL2 x0).bind fun v3 =>
if v3 < x1 then
(some 0)
else
(some 1))))
abbrev zX3_mayBeSetting : Zx := (cX3_mayBeSetting, RX3, 2, 0, (some .boolean))
set_option maxRecDepth 100000 in
set_option maxHeartbeats 4000000 in
theorem tX3_mayBeSetting {l : Launch} {Y : Sx} {M : Mm} {x0 : Int32} {x1 : Int32} {q : Int32} (h : pX3_mayBeSetting x0 x1 M = some q) : Ct l Y yX3_mayBeSetting cX3_mayBeSetting 2 (some .boolean) 0 [.int x0, .int x1] M (some q) M := by
  refine Ct.of (by decide) rfl (lv := [(0, .int x0), (1, .int x1)]) rfl ?_
  intro K hkl C
  change Cx K zX3_mayBeSetting Y at C
  subst hkl
  unfold pX3_mayBeSetting at h
  show Wp K zX3_mayBeSetting Y (Qm K Y (some q) M) M 0 [(0, .int x0), (1, .int x1)] []
  refine w_iload_n C (pc := 0) dX3_mayBeSetting_0 0 rfl ?_
  refine w_iflt C (pc := 1) 32 dX3_mayBeSetting_1 (by decide) (fun c => ?_) (fun c => ?_)
  · have h := it_t h c
    refine w_iconst C (pc := 32) dX3_mayBeSetting_32 (v := 0) (by decide) ?_
    exact w_retzR C (pc := 33) dX3_mayBeSetting_33 rfl (by decide) (Option.some.inj h)
  · have h := it_f h c
    refine w_iload_n C (pc := 4) dX3_mayBeSetting_4 0 rfl ?_
    refine w_bipush C (pc := 5) dX3_mayBeSetting_5 (v := 10) (by decide) ?_
    refine w_icge C (pc := 7) 32 dX3_mayBeSetting_7 (by decide) (fun c => ?_) (fun c => ?_)
    · have h := it_t h c
      refine w_iconst C (pc := 32) dX3_mayBeSetting_32 (v := 0) (by decide) ?_
      exact w_retzR C (pc := 33) dX3_mayBeSetting_33 rfl (by decide) (Option.some.inj h)
    · have h := it_f h c
      refine w_iload_n C (pc := 10) dX3_mayBeSetting_10 1 rfl ?_
      refine w_gets C (pc := 11) dX3_mayBeSetting_11 g_X3_29 ?_
      refine w_iload_n C (pc := 14) dX3_mayBeSetting_14 0 rfl ?_
      obtain ⟨v1, e2, h⟩ := ob h
      refine w_sald C (pc := 15) dX3_mayBeSetting_15 (l := stL1) rfl rfl e2 ?_
      refine w_iclt C (pc := 16) 32 dX3_mayBeSetting_16 (by decide) (fun c => ?_) (fun c => ?_)
      · have h := it_t h c
        refine w_iconst C (pc := 32) dX3_mayBeSetting_32 (v := 0) (by decide) ?_
        exact w_retzR C (pc := 33) dX3_mayBeSetting_33 rfl (by decide) (Option.some.inj h)
      · have h := it_f h c
        refine w_iload_n C (pc := 19) dX3_mayBeSetting_19 1 rfl ?_
        refine w_gets C (pc := 20) dX3_mayBeSetting_20 g_X3_32 ?_
        refine w_iload_n C (pc := 23) dX3_mayBeSetting_23 0 rfl ?_
        obtain ⟨v3, e4, h⟩ := ob h
        refine w_sald C (pc := 24) dX3_mayBeSetting_24 (l := stL2) rfl rfl e4 ?_
        refine w_icgt C (pc := 25) 32 dX3_mayBeSetting_25 (by decide) (fun c => ?_) (fun c => ?_)
        · have h := it_t h c
          refine w_iconst C (pc := 32) dX3_mayBeSetting_32 (v := 0) (by decide) ?_
          exact w_retzR C (pc := 33) dX3_mayBeSetting_33 rfl (by decide) (Option.some.inj h)
        · have h := it_f h c
          refine w_iconst C (pc := 28) dX3_mayBeSetting_28 (v := 1) (by decide) ?_
          refine w_goto C (pc := 29) 33 dX3_mayBeSetting_29 (by decide) ?_
          exact w_retzR C (pc := 33) dX3_mayBeSetting_33 rfl (by decide) (Option.some.inj h)
theorem dX3_putFact_0 : decode cX3_putFact 0 = .ok (.aload_n 0, 1) := by decide +kernel
theorem dX3_putFact_1 : decode cX3_putFact 1 = .ok (.iload_n 1, 1) := by decide +kernel
theorem dX3_putFact_2 : decode cX3_putFact 2 = .ok (.invokevirtual 45, 3) := by decide +kernel
theorem dX3_putFact_5 : decode cX3_putFact 5 = .ok (.ifCond .eq 22, 3) := by decide +kernel
theorem dX3_putFact_8 : decode cX3_putFact 8 = .ok (.iload_n 2, 1) := by decide +kernel
theorem dX3_putFact_9 : decode cX3_putFact 9 = .ok (.iload_n 3, 1) := by decide +kernel
theorem dX3_putFact_10 : decode cX3_putFact 10 = .ok (.invokestatic 49, 3) := by decide +kernel
theorem dX3_putFact_13 : decode cX3_putFact 13 = .ok (.ifCond .eq 14, 3) := by decide +kernel
theorem dX3_putFact_16 : decode cX3_putFact 16 = .ok (.aload_n 0, 1) := by decide +kernel
theorem dX3_putFact_17 : decode cX3_putFact 17 = .ok (.getfield 9, 3) := by decide +kernel
theorem dX3_putFact_20 : decode cX3_putFact 20 = .ok (.iload_n 1, 1) := by decide +kernel
theorem dX3_putFact_21 : decode cX3_putFact 21 = .ok (.iconst 5, 1) := by decide +kernel
theorem dX3_putFact_22 : decode cX3_putFact 22 = .ok (.imul, 1) := by decide +kernel
theorem dX3_putFact_23 : decode cX3_putFact 23 = .ok (.iload_n 2, 1) := by decide +kernel
theorem dX3_putFact_24 : decode cX3_putFact 24 = .ok (.iadd, 1) := by decide +kernel
theorem dX3_putFact_25 : decode cX3_putFact 25 = .ok (.iload_n 3, 1) := by decide +kernel
theorem dX3_putFact_26 : decode cX3_putFact 26 = .ok (.iastore, 1) := by decide +kernel
theorem dX3_putFact_27 : decode cX3_putFact 27 = .ok (.return_, 1) := by decide +kernel
def pX3_putFact (b : Nat) (x1 : Int32) (x2 : Int32) (x3 : Int32) (M : Mm) : Option (Mm) :=
if (pX3_isPlace b x1 M) = 0 then
(some M)
else
((pX3_mayBeFact x2 x3 M).bind fun v1 =>
if v1 = 0 then
(some M)
else
((ast M (b + 1) 45 ((x1 * 5) + x2) x3).bind fun M3 =>
some M3))
abbrev zX3_putFact : Zx := (cX3_putFact, RX3, 4, 1, none)
set_option maxRecDepth 100000 in
set_option maxHeartbeats 4000000 in
theorem tX3_putFact {l : Launch} {Y : Sx} {M : Mm} {b : Nat} {x1 : Int32} {x2 : Int32} {x3 : Int32} {q : Mm} (h_b : isLand Y b) (h : pX3_putFact b x1 x2 x3 M = some q) : Ct l Y yX3_putFact cX3_putFact 4 none 1 [.ref (adr Y b), .int x1, .int x2, .int x3] M none q := by
  refine Ct.of (by decide) rfl (lv := [(0, .ref (adr Y b)), (1, .int x1), (2, .int x2), (3, .int x3)]) rfl ?_
  intro K hkl C
  change Cx K zX3_putFact Y at C
  subst hkl
  unfold pX3_putFact at h
  show Wp K zX3_putFact Y (Qm K Y none q) M 0 [(0, .ref (adr Y b)), (1, .int x1), (2, .int x2), (3, .int x3)] []
  refine w_aload_n C (pc := 0) dX3_putFact_0 0 rfl ?_
  refine w_iload_n C (pc := 1) dX3_putFact_1 1 rfl ?_
  refine w_cVi C (pc := 2) dX3_putFact_2 my_X3_isPlace mi_X3_isPlace ml_X3_45 h_b.1 rfl rfl rfl [.int x1] rfl rfl (Nat.le_of_ble_eq_true rfl) (tX3_isPlace h_b rfl) ?_
  refine w_ifeq C (pc := 5) 27 dX3_putFact_5 (by decide) (fun c => ?_) (fun c => ?_)
  · have h := it_t h c
    exact w_retV C (pc := 27) dX3_putFact_27 rfl (Option.some.inj h)
  · have h := it_f h c
    refine w_iload_n C (pc := 8) dX3_putFact_8 2 rfl ?_
    refine w_iload_n C (pc := 9) dX3_putFact_9 3 rfl ?_
    obtain ⟨v1, e2, h⟩ := ob h
    refine w_cSi C (pc := 10) dX3_putFact_10 my_X3_mayBeFact ms_X3_mayBeFact ml_X3_49 rfl rfl [.int x2, .int x3] rfl rfl (Nat.le_of_ble_eq_true rfl) (tX3_mayBeFact  e2) ?_
    refine w_ifeq C (pc := 13) 27 dX3_putFact_13 (by decide) (fun c => ?_) (fun c => ?_)
    · have h := it_t h c
      exact w_retV C (pc := 27) dX3_putFact_27 rfl (Option.some.inj h)
    · have h := it_f h c
      refine w_aload_n C (pc := 16) dX3_putFact_16 0 rfl ?_
      refine w_getR C (pc := 17) dX3_putFact_17 f_X3_9 h_b.1 rfl ?_
      refine w_iload_n C (pc := 20) dX3_putFact_20 1 rfl ?_
      refine w_iconst C (pc := 21) dX3_putFact_21 (v := 5) (by decide) ?_
      refine w_imul C (pc := 22) dX3_putFact_22 ?_
      refine w_iload_n C (pc := 23) dX3_putFact_23 2 rfl ?_
      refine w_iadd C (pc := 24) dX3_putFact_24 ?_
      refine w_iload_n C (pc := 25) dX3_putFact_25 3 rfl ?_
      obtain ⟨M3, e4, h⟩ := ob h
      refine w_iast C (pc := 26) dX3_putFact_26 h_b.2.1 e4 ?_
      exact w_retV C (pc := 27) dX3_putFact_27 rfl (Option.some.inj h)
theorem dX3_putSetting_0 : decode cX3_putSetting 0 = .ok (.iload_n 1, 1) := by decide +kernel
theorem dX3_putSetting_1 : decode cX3_putSetting 1 = .ok (.iload_n 2, 1) := by decide +kernel
theorem dX3_putSetting_2 : decode cX3_putSetting 2 = .ok (.invokestatic 53, 3) := by decide +kernel
theorem dX3_putSetting_5 : decode cX3_putSetting 5 = .ok (.ifCond .eq 10, 3) := by decide +kernel
theorem dX3_putSetting_8 : decode cX3_putSetting 8 = .ok (.aload_n 0, 1) := by decide +kernel
theorem dX3_putSetting_9 : decode cX3_putSetting 9 = .ok (.getfield 23, 3) := by decide +kernel
theorem dX3_putSetting_12 : decode cX3_putSetting 12 = .ok (.iload_n 1, 1) := by decide +kernel
theorem dX3_putSetting_13 : decode cX3_putSetting 13 = .ok (.iload_n 2, 1) := by decide +kernel
theorem dX3_putSetting_14 : decode cX3_putSetting 14 = .ok (.iastore, 1) := by decide +kernel
theorem dX3_putSetting_15 : decode cX3_putSetting 15 = .ok (.return_, 1) := by decide +kernel
def pX3_putSetting (b : Nat) (x1 : Int32) (x2 : Int32) (M : Mm) : Option (Mm) :=
(pX3_mayBeSetting x1 x2 M).bind fun v1 =>
if v1 = 0 then
(some M)
else
((ast M (b + 2) 10 x1 x2).bind fun M3 =>
some M3)
abbrev zX3_putSetting : Zx := (cX3_putSetting, RX3, 3, 1, none)
set_option maxRecDepth 100000 in
set_option maxHeartbeats 4000000 in
theorem tX3_putSetting {l : Launch} {Y : Sx} {M : Mm} {b : Nat} {x1 : Int32} {x2 : Int32} {q : Mm} (h_b : isLand Y b) (h : pX3_putSetting b x1 x2 M = some q) : Ct l Y yX3_putSetting cX3_putSetting 3 none 1 [.ref (adr Y b), .int x1, .int x2] M none q := by
  refine Ct.of (by decide) rfl (lv := [(0, .ref (adr Y b)), (1, .int x1), (2, .int x2)]) rfl ?_
  intro K hkl C
  change Cx K zX3_putSetting Y at C
  subst hkl
  unfold pX3_putSetting at h
  show Wp K zX3_putSetting Y (Qm K Y none q) M 0 [(0, .ref (adr Y b)), (1, .int x1), (2, .int x2)] []
  refine w_iload_n C (pc := 0) dX3_putSetting_0 1 rfl ?_
  refine w_iload_n C (pc := 1) dX3_putSetting_1 2 rfl ?_
  obtain ⟨v1, e2, h⟩ := ob h
  refine w_cSi C (pc := 2) dX3_putSetting_2 my_X3_mayBeSetting ms_X3_mayBeSetting ml_X3_53 rfl rfl [.int x1, .int x2] rfl rfl (Nat.le_of_ble_eq_true rfl) (tX3_mayBeSetting  e2) ?_
  refine w_ifeq C (pc := 5) 15 dX3_putSetting_5 (by decide) (fun c => ?_) (fun c => ?_)
  · have h := it_t h c
    exact w_retV C (pc := 15) dX3_putSetting_15 rfl (Option.some.inj h)
  · have h := it_f h c
    refine w_aload_n C (pc := 8) dX3_putSetting_8 0 rfl ?_
    refine w_getR C (pc := 9) dX3_putSetting_9 f_X3_23 h_b.1 rfl ?_
    refine w_iload_n C (pc := 12) dX3_putSetting_12 1 rfl ?_
    refine w_iload_n C (pc := 13) dX3_putSetting_13 2 rfl ?_
    obtain ⟨M3, e4, h⟩ := ob h
    refine w_iast C (pc := 14) dX3_putSetting_14 h_b.2.2 e4 ?_
    exact w_retV C (pc := 15) dX3_putSetting_15 rfl (Option.some.inj h)
end
section
theorem dX4_addSortie_0 : decode cX4_addSortie 0 = .ok (.aload_n 0, 1) := by decide +kernel
theorem dX4_addSortie_1 : decode cX4_addSortie 1 = .ok (.getfield 22, 3) := by decide +kernel
theorem dX4_addSortie_4 : decode cX4_addSortie 4 = .ok (.bipush 8, 2) := by decide +kernel
theorem dX4_addSortie_6 : decode cX4_addSortie 6 = .ok (.if_icmp .lt 5, 3) := by decide +kernel
theorem dX4_addSortie_9 : decode cX4_addSortie 9 = .ok (.iconst 0, 1) := by decide +kernel
theorem dX4_addSortie_10 : decode cX4_addSortie 10 = .ok (.ireturn, 1) := by decide +kernel
theorem dX4_addSortie_11 : decode cX4_addSortie 11 = .ok (.aload_n 0, 1) := by decide +kernel
theorem dX4_addSortie_12 : decode cX4_addSortie 12 = .ok (.getfield 22, 3) := by decide +kernel
theorem dX4_addSortie_15 : decode cX4_addSortie 15 = .ok (.iconst 4, 1) := by decide +kernel
theorem dX4_addSortie_16 : decode cX4_addSortie 16 = .ok (.imul, 1) := by decide +kernel
theorem dX4_addSortie_17 : decode cX4_addSortie 17 = .ok (.istore 5, 2) := by decide +kernel
theorem dX4_addSortie_19 : decode cX4_addSortie 19 = .ok (.aload_n 0, 1) := by decide +kernel
theorem dX4_addSortie_20 : decode cX4_addSortie 20 = .ok (.getfield 15, 3) := by decide +kernel
theorem dX4_addSortie_23 : decode cX4_addSortie 23 = .ok (.iload 5, 2) := by decide +kernel
theorem dX4_addSortie_25 : decode cX4_addSortie 25 = .ok (.iconst 0, 1) := by decide +kernel
theorem dX4_addSortie_26 : decode cX4_addSortie 26 = .ok (.iadd, 1) := by decide +kernel
theorem dX4_addSortie_27 : decode cX4_addSortie 27 = .ok (.iload_n 1, 1) := by decide +kernel
theorem dX4_addSortie_28 : decode cX4_addSortie 28 = .ok (.iastore, 1) := by decide +kernel
theorem dX4_addSortie_29 : decode cX4_addSortie 29 = .ok (.aload_n 0, 1) := by decide +kernel
theorem dX4_addSortie_30 : decode cX4_addSortie 30 = .ok (.getfield 15, 3) := by decide +kernel
theorem dX4_addSortie_33 : decode cX4_addSortie 33 = .ok (.iload 5, 2) := by decide +kernel
theorem dX4_addSortie_35 : decode cX4_addSortie 35 = .ok (.iconst 1, 1) := by decide +kernel
theorem dX4_addSortie_36 : decode cX4_addSortie 36 = .ok (.iadd, 1) := by decide +kernel
theorem dX4_addSortie_37 : decode cX4_addSortie 37 = .ok (.iload_n 2, 1) := by decide +kernel
theorem dX4_addSortie_38 : decode cX4_addSortie 38 = .ok (.iastore, 1) := by decide +kernel
theorem dX4_addSortie_39 : decode cX4_addSortie 39 = .ok (.aload_n 0, 1) := by decide +kernel
theorem dX4_addSortie_40 : decode cX4_addSortie 40 = .ok (.getfield 15, 3) := by decide +kernel
theorem dX4_addSortie_43 : decode cX4_addSortie 43 = .ok (.iload 5, 2) := by decide +kernel
theorem dX4_addSortie_45 : decode cX4_addSortie 45 = .ok (.iconst 2, 1) := by decide +kernel
theorem dX4_addSortie_46 : decode cX4_addSortie 46 = .ok (.iadd, 1) := by decide +kernel
theorem dX4_addSortie_47 : decode cX4_addSortie 47 = .ok (.iload_n 3, 1) := by decide +kernel
theorem dX4_addSortie_48 : decode cX4_addSortie 48 = .ok (.iastore, 1) := by decide +kernel
theorem dX4_addSortie_49 : decode cX4_addSortie 49 = .ok (.aload_n 0, 1) := by decide +kernel
theorem dX4_addSortie_50 : decode cX4_addSortie 50 = .ok (.getfield 15, 3) := by decide +kernel
theorem dX4_addSortie_53 : decode cX4_addSortie 53 = .ok (.iload 5, 2) := by decide +kernel
theorem dX4_addSortie_55 : decode cX4_addSortie 55 = .ok (.iconst 3, 1) := by decide +kernel
theorem dX4_addSortie_56 : decode cX4_addSortie 56 = .ok (.iadd, 1) := by decide +kernel
theorem dX4_addSortie_57 : decode cX4_addSortie 57 = .ok (.iload 4, 2) := by decide +kernel
theorem dX4_addSortie_59 : decode cX4_addSortie 59 = .ok (.iastore, 1) := by decide +kernel
theorem dX4_addSortie_60 : decode cX4_addSortie 60 = .ok (.aload_n 0, 1) := by decide +kernel
theorem dX4_addSortie_61 : decode cX4_addSortie 61 = .ok (.dup, 1) := by decide +kernel
theorem dX4_addSortie_62 : decode cX4_addSortie 62 = .ok (.getfield 22, 3) := by decide +kernel
theorem dX4_addSortie_65 : decode cX4_addSortie 65 = .ok (.iconst 1, 1) := by decide +kernel
theorem dX4_addSortie_66 : decode cX4_addSortie 66 = .ok (.iadd, 1) := by decide +kernel
theorem dX4_addSortie_67 : decode cX4_addSortie 67 = .ok (.putfield 22, 3) := by decide +kernel
theorem dX4_addSortie_70 : decode cX4_addSortie 70 = .ok (.iconst 1, 1) := by decide +kernel
theorem dX4_addSortie_71 : decode cX4_addSortie 71 = .ok (.ireturn, 1) := by decide +kernel
def pX4_addSortie (b : Nat) (x1 : Int32) (x2 : Int32) (x3 : Int32) (x4 : Int32) (M : Mm) : Option (Int32 × Mm) :=
if (M b 1) < 8 then
(bnd ((M b 1) * 4) fun v1 =>
(ast M (b + 2) 32 (v1 + 0) x1).bind fun M2 =>
(ast M2 (b + 2) 32 (v1 + 1) x2).bind fun M4 =>
(ast M4 (b + 2) 32 (v1 + 2) x3).bind fun M6 =>
(ast M6 (b + 2) 32 (v1 + 3) x4).bind fun M8 =>
bnd (mset M8 b 1 ((M8 b 1) + 1)) fun M10 =>
some (1, M10))
else
(some (0, M))
abbrev zX4_addSortie : Zx := (cX4_addSortie, RX4, 6, 0, (some .boolean))
set_option maxRecDepth 100000 in
set_option maxHeartbeats 4000000 in
theorem tX4_addSortie {l : Launch} {Y : Sx} {M : Mm} {b : Nat} {x1 : Int32} {x2 : Int32} {x3 : Int32} {x4 : Int32} {q : Int32 × Mm} (h_b : isPlan Y b) (h : pX4_addSortie b x1 x2 x3 x4 M = some q) : Ct l Y yX4_addSortie cX4_addSortie 6 (some .boolean) 0 [.ref (adr Y b), .int x1, .int x2, .int x3, .int x4] M (some q.1) q.2 := by
  refine Ct.of (by decide) rfl (lv := [(0, .ref (adr Y b)), (1, .int x1), (2, .int x2), (3, .int x3), (4, .int x4)]) rfl ?_
  intro K hkl C
  change Cx K zX4_addSortie Y at C
  subst hkl
  unfold pX4_addSortie at h
  show Wp K zX4_addSortie Y (Qm K Y (some q.1) q.2) M 0 [(0, .ref (adr Y b)), (1, .int x1), (2, .int x2), (3, .int x3), (4, .int x4)] []
  refine w_aload_n C (pc := 0) dX4_addSortie_0 0 rfl ?_
  refine w_getI C (pc := 1) dX4_addSortie_1 f_X4_22 h_b.1 rfl ?_
  refine w_bipush C (pc := 4) dX4_addSortie_4 (v := 8) (by decide) ?_
  refine w_iclt C (pc := 6) 11 dX4_addSortie_6 (by decide) (fun c => ?_) (fun c => ?_)
  · have h := it_t h c
    refine w_aload_n C (pc := 11) dX4_addSortie_11 0 rfl ?_
    refine w_getI C (pc := 12) dX4_addSortie_12 f_X4_22 h_b.1 rfl ?_
    refine w_iconst C (pc := 15) dX4_addSortie_15 (v := 4) (by decide) ?_
    refine w_imul C (pc := 16) dX4_addSortie_16 ?_
    refine w_bnd h (fun v1 h => ?_)
    refine w_istore C (pc := 17) dX4_addSortie_17 (lv' := [(0, .ref (adr Y b)), (1, .int x1), (2, .int x2), (3, .int x3), (4, .int x4), (5, .int v1)]) rfl rfl rfl ?_
    refine w_aload_n C (pc := 19) dX4_addSortie_19 0 rfl ?_
    refine w_getR C (pc := 20) dX4_addSortie_20 f_X4_15 h_b.1 rfl ?_
    refine w_iload C (pc := 23) dX4_addSortie_23 5 rfl ?_
    refine w_iconst C (pc := 25) dX4_addSortie_25 (v := 0) (by decide) ?_
    refine w_iadd C (pc := 26) dX4_addSortie_26 ?_
    refine w_iload_n C (pc := 27) dX4_addSortie_27 1 rfl ?_
    obtain ⟨M2, e3, h⟩ := ob h
    refine w_iast C (pc := 28) dX4_addSortie_28 h_b.2.2 e3 ?_
    refine w_aload_n C (pc := 29) dX4_addSortie_29 0 rfl ?_
    refine w_getR C (pc := 30) dX4_addSortie_30 f_X4_15 h_b.1 rfl ?_
    refine w_iload C (pc := 33) dX4_addSortie_33 5 rfl ?_
    refine w_iconst C (pc := 35) dX4_addSortie_35 (v := 1) (by decide) ?_
    refine w_iadd C (pc := 36) dX4_addSortie_36 ?_
    refine w_iload_n C (pc := 37) dX4_addSortie_37 2 rfl ?_
    obtain ⟨M4, e5, h⟩ := ob h
    refine w_iast C (pc := 38) dX4_addSortie_38 h_b.2.2 e5 ?_
    refine w_aload_n C (pc := 39) dX4_addSortie_39 0 rfl ?_
    refine w_getR C (pc := 40) dX4_addSortie_40 f_X4_15 h_b.1 rfl ?_
    refine w_iload C (pc := 43) dX4_addSortie_43 5 rfl ?_
    refine w_iconst C (pc := 45) dX4_addSortie_45 (v := 2) (by decide) ?_
    refine w_iadd C (pc := 46) dX4_addSortie_46 ?_
    refine w_iload_n C (pc := 47) dX4_addSortie_47 3 rfl ?_
    obtain ⟨M6, e7, h⟩ := ob h
    refine w_iast C (pc := 48) dX4_addSortie_48 h_b.2.2 e7 ?_
    refine w_aload_n C (pc := 49) dX4_addSortie_49 0 rfl ?_
    refine w_getR C (pc := 50) dX4_addSortie_50 f_X4_15 h_b.1 rfl ?_
    refine w_iload C (pc := 53) dX4_addSortie_53 5 rfl ?_
    refine w_iconst C (pc := 55) dX4_addSortie_55 (v := 3) (by decide) ?_
    refine w_iadd C (pc := 56) dX4_addSortie_56 ?_
    refine w_iload C (pc := 57) dX4_addSortie_57 4 rfl ?_
    obtain ⟨M8, e9, h⟩ := ob h
    refine w_iast C (pc := 59) dX4_addSortie_59 h_b.2.2 e9 ?_
    refine w_aload_n C (pc := 60) dX4_addSortie_60 0 rfl ?_
    refine w_dup C (pc := 61) dX4_addSortie_61 rfl ?_
    refine w_getI C (pc := 62) dX4_addSortie_62 f_X4_22 h_b.1 rfl ?_
    refine w_iconst C (pc := 65) dX4_addSortie_65 (v := 1) (by decide) ?_
    refine w_iadd C (pc := 66) dX4_addSortie_66 ?_
    obtain ⟨M10, e11, h⟩ := bn h
    refine w_putI C (pc := 67) dX4_addSortie_67 fp_X4_22 h_b.1 rfl ?_
    rw [e11]
    refine w_iconst C (pc := 70) dX4_addSortie_70 (v := 1) (by decide) ?_
    exact w_retz C (pc := 71) dX4_addSortie_71 rfl (by decide) (Option.some.inj h)
  · have h := it_f h c
    refine w_iconst C (pc := 9) dX4_addSortie_9 (v := 0) (by decide) ?_
    exact w_retz C (pc := 10) dX4_addSortie_10 rfl (by decide) (Option.some.inj h)
theorem dX4_addStop_0 : decode cX4_addStop 0 = .ok (.aload_n 0, 1) := by decide +kernel
theorem dX4_addStop_1 : decode cX4_addStop 1 = .ok (.getfield 18, 3) := by decide +kernel
theorem dX4_addStop_4 : decode cX4_addStop 4 = .ok (.bipush 8, 2) := by decide +kernel
theorem dX4_addStop_6 : decode cX4_addStop 6 = .ok (.if_icmp .lt 5, 3) := by decide +kernel
theorem dX4_addStop_9 : decode cX4_addStop 9 = .ok (.iconst 0, 1) := by decide +kernel
theorem dX4_addStop_10 : decode cX4_addStop 10 = .ok (.ireturn, 1) := by decide +kernel
theorem dX4_addStop_11 : decode cX4_addStop 11 = .ok (.aload_n 0, 1) := by decide +kernel
theorem dX4_addStop_12 : decode cX4_addStop 12 = .ok (.getfield 9, 3) := by decide +kernel
theorem dX4_addStop_15 : decode cX4_addStop 15 = .ok (.aload_n 0, 1) := by decide +kernel
theorem dX4_addStop_16 : decode cX4_addStop 16 = .ok (.getfield 18, 3) := by decide +kernel
theorem dX4_addStop_19 : decode cX4_addStop 19 = .ok (.iload_n 1, 1) := by decide +kernel
theorem dX4_addStop_20 : decode cX4_addStop 20 = .ok (.iastore, 1) := by decide +kernel
theorem dX4_addStop_21 : decode cX4_addStop 21 = .ok (.aload_n 0, 1) := by decide +kernel
theorem dX4_addStop_22 : decode cX4_addStop 22 = .ok (.dup, 1) := by decide +kernel
theorem dX4_addStop_23 : decode cX4_addStop 23 = .ok (.getfield 18, 3) := by decide +kernel
theorem dX4_addStop_26 : decode cX4_addStop 26 = .ok (.iconst 1, 1) := by decide +kernel
theorem dX4_addStop_27 : decode cX4_addStop 27 = .ok (.iadd, 1) := by decide +kernel
theorem dX4_addStop_28 : decode cX4_addStop 28 = .ok (.putfield 18, 3) := by decide +kernel
theorem dX4_addStop_31 : decode cX4_addStop 31 = .ok (.iconst 1, 1) := by decide +kernel
theorem dX4_addStop_32 : decode cX4_addStop 32 = .ok (.ireturn, 1) := by decide +kernel
def pX4_addStop (b : Nat) (x1 : Int32) (M : Mm) : Option (Int32 × Mm) :=
if (M b 0) < 8 then
((ast M (b + 1) 8 (M b 0) x1).bind fun M1 =>
bnd (mset M1 b 0 ((M1 b 0) + 1)) fun M3 =>
some (1, M3))
else
(some (0, M))
abbrev zX4_addStop : Zx := (cX4_addStop, RX4, 2, 0, (some .boolean))
set_option maxRecDepth 100000 in
set_option maxHeartbeats 4000000 in
theorem tX4_addStop {l : Launch} {Y : Sx} {M : Mm} {b : Nat} {x1 : Int32} {q : Int32 × Mm} (h_b : isPlan Y b) (h : pX4_addStop b x1 M = some q) : Ct l Y yX4_addStop cX4_addStop 2 (some .boolean) 0 [.ref (adr Y b), .int x1] M (some q.1) q.2 := by
  refine Ct.of (by decide) rfl (lv := [(0, .ref (adr Y b)), (1, .int x1)]) rfl ?_
  intro K hkl C
  change Cx K zX4_addStop Y at C
  subst hkl
  unfold pX4_addStop at h
  show Wp K zX4_addStop Y (Qm K Y (some q.1) q.2) M 0 [(0, .ref (adr Y b)), (1, .int x1)] []
  refine w_aload_n C (pc := 0) dX4_addStop_0 0 rfl ?_
  refine w_getI C (pc := 1) dX4_addStop_1 f_X4_18 h_b.1 rfl ?_
  refine w_bipush C (pc := 4) dX4_addStop_4 (v := 8) (by decide) ?_
  refine w_iclt C (pc := 6) 11 dX4_addStop_6 (by decide) (fun c => ?_) (fun c => ?_)
  · have h := it_t h c
    refine w_aload_n C (pc := 11) dX4_addStop_11 0 rfl ?_
    refine w_getR C (pc := 12) dX4_addStop_12 f_X4_9 h_b.1 rfl ?_
    refine w_aload_n C (pc := 15) dX4_addStop_15 0 rfl ?_
    refine w_getI C (pc := 16) dX4_addStop_16 f_X4_18 h_b.1 rfl ?_
    refine w_iload_n C (pc := 19) dX4_addStop_19 1 rfl ?_
    obtain ⟨M1, e2, h⟩ := ob h
    refine w_iast C (pc := 20) dX4_addStop_20 h_b.2.1 e2 ?_
    refine w_aload_n C (pc := 21) dX4_addStop_21 0 rfl ?_
    refine w_dup C (pc := 22) dX4_addStop_22 rfl ?_
    refine w_getI C (pc := 23) dX4_addStop_23 f_X4_18 h_b.1 rfl ?_
    refine w_iconst C (pc := 26) dX4_addStop_26 (v := 1) (by decide) ?_
    refine w_iadd C (pc := 27) dX4_addStop_27 ?_
    obtain ⟨M3, e4, h⟩ := bn h
    refine w_putI C (pc := 28) dX4_addStop_28 fp_X4_18 h_b.1 rfl ?_
    rw [e4]
    refine w_iconst C (pc := 31) dX4_addStop_31 (v := 1) (by decide) ?_
    exact w_retz C (pc := 32) dX4_addStop_32 rfl (by decide) (Option.some.inj h)
  · have h := it_f h c
    refine w_iconst C (pc := 9) dX4_addStop_9 (v := 0) (by decide) ?_
    exact w_retz C (pc := 10) dX4_addStop_10 rfl (by decide) (Option.some.inj h)
theorem dX4_copyOf_0 : decode cX4_copyOf 0 = .ok (.aload_n 0, 1) := by decide +kernel
theorem dX4_copyOf_1 : decode cX4_copyOf 1 = .ok (.aload_n 1, 1) := by decide +kernel
theorem dX4_copyOf_2 : decode cX4_copyOf 2 = .ok (.getfield 18, 3) := by decide +kernel
theorem dX4_copyOf_5 : decode cX4_copyOf 5 = .ok (.putfield 18, 3) := by decide +kernel
theorem dX4_copyOf_8 : decode cX4_copyOf 8 = .ok (.aload_n 0, 1) := by decide +kernel
theorem dX4_copyOf_9 : decode cX4_copyOf 9 = .ok (.aload_n 1, 1) := by decide +kernel
theorem dX4_copyOf_10 : decode cX4_copyOf 10 = .ok (.getfield 22, 3) := by decide +kernel
theorem dX4_copyOf_13 : decode cX4_copyOf 13 = .ok (.putfield 22, 3) := by decide +kernel
theorem dX4_copyOf_16 : decode cX4_copyOf 16 = .ok (.aload_n 1, 1) := by decide +kernel
theorem dX4_copyOf_17 : decode cX4_copyOf 17 = .ok (.getfield 9, 3) := by decide +kernel
theorem dX4_copyOf_20 : decode cX4_copyOf 20 = .ok (.iconst 0, 1) := by decide +kernel
theorem dX4_copyOf_21 : decode cX4_copyOf 21 = .ok (.aload_n 0, 1) := by decide +kernel
theorem dX4_copyOf_22 : decode cX4_copyOf 22 = .ok (.getfield 9, 3) := by decide +kernel
theorem dX4_copyOf_25 : decode cX4_copyOf 25 = .ok (.iconst 0, 1) := by decide +kernel
theorem dX4_copyOf_26 : decode cX4_copyOf 26 = .ok (.aload_n 0, 1) := by decide +kernel
theorem dX4_copyOf_27 : decode cX4_copyOf 27 = .ok (.getfield 9, 3) := by decide +kernel
theorem dX4_copyOf_30 : decode cX4_copyOf 30 = .ok (.arraylength, 1) := by decide +kernel
theorem dX4_copyOf_31 : decode cX4_copyOf 31 = .ok (.invokestatic 25, 3) := by decide +kernel
theorem dX4_copyOf_34 : decode cX4_copyOf 34 = .ok (.aload_n 1, 1) := by decide +kernel
theorem dX4_copyOf_35 : decode cX4_copyOf 35 = .ok (.getfield 15, 3) := by decide +kernel
theorem dX4_copyOf_38 : decode cX4_copyOf 38 = .ok (.iconst 0, 1) := by decide +kernel
theorem dX4_copyOf_39 : decode cX4_copyOf 39 = .ok (.aload_n 0, 1) := by decide +kernel
theorem dX4_copyOf_40 : decode cX4_copyOf 40 = .ok (.getfield 15, 3) := by decide +kernel
theorem dX4_copyOf_43 : decode cX4_copyOf 43 = .ok (.iconst 0, 1) := by decide +kernel
theorem dX4_copyOf_44 : decode cX4_copyOf 44 = .ok (.aload_n 0, 1) := by decide +kernel
theorem dX4_copyOf_45 : decode cX4_copyOf 45 = .ok (.getfield 15, 3) := by decide +kernel
theorem dX4_copyOf_48 : decode cX4_copyOf 48 = .ok (.arraylength, 1) := by decide +kernel
theorem dX4_copyOf_49 : decode cX4_copyOf 49 = .ok (.invokestatic 25, 3) := by decide +kernel
theorem dX4_copyOf_52 : decode cX4_copyOf 52 = .ok (.return_, 1) := by decide +kernel
def pX4_copyOf (b : Nat) (o : Nat) (M : Mm) : Mm :=
bnd (mset M b 0 (M o 0)) fun M1 =>
bnd (mset M1 b 1 (M1 o 1)) fun M3 =>
bnd (mrow M3 (b + 1) (va_cpy (M3 (o + 1)) (M3 (b + 1)) 0 0 8)) fun M5 =>
bnd (mrow M5 (b + 2) (va_cpy (M5 (o + 2)) (M5 (b + 2)) 0 0 32)) fun M7 =>
M7
abbrev zX4_copyOf : Zx := (cX4_copyOf, RX4, 2, 1, none)
set_option maxRecDepth 100000 in
set_option maxHeartbeats 4000000 in
theorem tX4_copyOf {l : Launch} {Y : Sx} {M : Mm} {b : Nat} {o : Nat} {q : Mm} (h_b : isPlan Y b) (h_o : isPlan Y o) (h : pX4_copyOf b o M = q) : Ct l Y yX4_copyOf cX4_copyOf 2 none 1 [.ref (adr Y b), .ref (adr Y o)] M none q := by
  refine Ct.of (by decide) rfl (lv := [(0, .ref (adr Y b)), (1, .ref (adr Y o))]) rfl ?_
  intro K hkl C
  change Cx K zX4_copyOf Y at C
  subst hkl
  unfold pX4_copyOf at h
  show Wp K zX4_copyOf Y (Qm K Y none q) M 0 [(0, .ref (adr Y b)), (1, .ref (adr Y o))] []
  refine w_aload_n C (pc := 0) dX4_copyOf_0 0 rfl ?_
  refine w_aload_n C (pc := 1) dX4_copyOf_1 1 rfl ?_
  refine w_getI C (pc := 2) dX4_copyOf_2 f_X4_18 h_o.1 rfl ?_
  obtain ⟨M1, e2, h⟩ := bn h
  refine w_putI C (pc := 5) dX4_copyOf_5 fp_X4_18 h_b.1 rfl ?_
  rw [e2]
  refine w_aload_n C (pc := 8) dX4_copyOf_8 0 rfl ?_
  refine w_aload_n C (pc := 9) dX4_copyOf_9 1 rfl ?_
  refine w_getI C (pc := 10) dX4_copyOf_10 f_X4_22 h_o.1 rfl ?_
  obtain ⟨M3, e4, h⟩ := bn h
  refine w_putI C (pc := 13) dX4_copyOf_13 fp_X4_22 h_b.1 rfl ?_
  rw [e4]
  refine w_aload_n C (pc := 16) dX4_copyOf_16 1 rfl ?_
  refine w_getR C (pc := 17) dX4_copyOf_17 f_X4_9 h_o.1 rfl ?_
  refine w_iconst C (pc := 20) dX4_copyOf_20 (v := 0) (by decide) ?_
  refine w_aload_n C (pc := 21) dX4_copyOf_21 0 rfl ?_
  refine w_getR C (pc := 22) dX4_copyOf_22 f_X4_9 h_b.1 rfl ?_
  refine w_iconst C (pc := 25) dX4_copyOf_25 (v := 0) (by decide) ?_
  refine w_aload_n C (pc := 26) dX4_copyOf_26 0 rfl ?_
  refine w_getR C (pc := 27) dX4_copyOf_27 f_X4_9 h_b.1 rfl ?_
  refine w_alenI C (pc := 30) dX4_copyOf_30 h_b.2.1 (v := 8) (by decide) ?_
  obtain ⟨M5, e6, h⟩ := bn h
  refine w_copy C (pc := 31) dX4_copyOf_31 mcopy_X4_25 rfl (Nat.le_of_ble_eq_true rfl) h_o.2.1 h_b.2.1 rfl rfl ?_
  rw [e6]
  refine w_aload_n C (pc := 34) dX4_copyOf_34 1 rfl ?_
  refine w_getR C (pc := 35) dX4_copyOf_35 f_X4_15 h_o.1 rfl ?_
  refine w_iconst C (pc := 38) dX4_copyOf_38 (v := 0) (by decide) ?_
  refine w_aload_n C (pc := 39) dX4_copyOf_39 0 rfl ?_
  refine w_getR C (pc := 40) dX4_copyOf_40 f_X4_15 h_b.1 rfl ?_
  refine w_iconst C (pc := 43) dX4_copyOf_43 (v := 0) (by decide) ?_
  refine w_aload_n C (pc := 44) dX4_copyOf_44 0 rfl ?_
  refine w_getR C (pc := 45) dX4_copyOf_45 f_X4_15 h_b.1 rfl ?_
  refine w_alenI C (pc := 48) dX4_copyOf_48 h_b.2.2 (v := 32) (by decide) ?_
  obtain ⟨M7, e8, h⟩ := bn h
  refine w_copy C (pc := 49) dX4_copyOf_49 mcopy_X4_25 rfl (Nat.le_of_ble_eq_true rfl) h_o.2.2 h_b.2.2 rfl rfl ?_
  rw [e8]
  exact w_retV C (pc := 52) dX4_copyOf_52 rfl h
theorem dX4_empty_0 : decode cX4_empty 0 = .ok (.aload_n 0, 1) := by decide +kernel
theorem dX4_empty_1 : decode cX4_empty 1 = .ok (.iconst 0, 1) := by decide +kernel
theorem dX4_empty_2 : decode cX4_empty 2 = .ok (.putfield 18, 3) := by decide +kernel
theorem dX4_empty_5 : decode cX4_empty 5 = .ok (.aload_n 0, 1) := by decide +kernel
theorem dX4_empty_6 : decode cX4_empty 6 = .ok (.iconst 0, 1) := by decide +kernel
theorem dX4_empty_7 : decode cX4_empty 7 = .ok (.putfield 22, 3) := by decide +kernel
theorem dX4_empty_10 : decode cX4_empty 10 = .ok (.return_, 1) := by decide +kernel
def pX4_empty (b : Nat) (M : Mm) : Mm :=
bnd (mset M b 0 0) fun M1 =>
bnd (mset M1 b 1 0) fun M3 =>
M3
abbrev zX4_empty : Zx := (cX4_empty, RX4, 1, 0, none)
set_option maxRecDepth 100000 in
set_option maxHeartbeats 4000000 in
theorem tX4_empty {l : Launch} {Y : Sx} {M : Mm} {b : Nat} {q : Mm} (h_b : isPlan Y b) (h : pX4_empty b M = q) : Ct l Y yX4_empty cX4_empty 1 none 0 [.ref (adr Y b)] M none q := by
  refine Ct.of (by decide) rfl (lv := [(0, .ref (adr Y b))]) rfl ?_
  intro K hkl C
  change Cx K zX4_empty Y at C
  subst hkl
  unfold pX4_empty at h
  show Wp K zX4_empty Y (Qm K Y none q) M 0 [(0, .ref (adr Y b))] []
  refine w_aload_n C (pc := 0) dX4_empty_0 0 rfl ?_
  refine w_iconst C (pc := 1) dX4_empty_1 (v := 0) (by decide) ?_
  obtain ⟨M1, e2, h⟩ := bn h
  refine w_putI C (pc := 2) dX4_empty_2 fp_X4_18 h_b.1 rfl ?_
  rw [e2]
  refine w_aload_n C (pc := 5) dX4_empty_5 0 rfl ?_
  refine w_iconst C (pc := 6) dX4_empty_6 (v := 0) (by decide) ?_
  obtain ⟨M3, e4, h⟩ := bn h
  refine w_putI C (pc := 7) dX4_empty_7 fp_X4_22 h_b.1 rfl ?_
  rw [e4]
  exact w_retV C (pc := 10) dX4_empty_10 rfl h
theorem dX4_hasSortie_0 : decode cX4_hasSortie 0 = .ok (.iload_n 1, 1) := by decide +kernel
theorem dX4_hasSortie_1 : decode cX4_hasSortie 1 = .ok (.ifCond .lt 15, 3) := by decide +kernel
theorem dX4_hasSortie_4 : decode cX4_hasSortie 4 = .ok (.iload_n 1, 1) := by decide +kernel
theorem dX4_hasSortie_5 : decode cX4_hasSortie 5 = .ok (.aload_n 0, 1) := by decide +kernel
theorem dX4_hasSortie_6 : decode cX4_hasSortie 6 = .ok (.getfield 22, 3) := by decide +kernel
theorem dX4_hasSortie_9 : decode cX4_hasSortie 9 = .ok (.if_icmp .ge 7, 3) := by decide +kernel
theorem dX4_hasSortie_12 : decode cX4_hasSortie 12 = .ok (.iconst 1, 1) := by decide +kernel
theorem dX4_hasSortie_13 : decode cX4_hasSortie 13 = .ok (.goto 4, 3) := by decide +kernel
theorem dX4_hasSortie_16 : decode cX4_hasSortie 16 = .ok (.iconst 0, 1) := by decide +kernel
theorem dX4_hasSortie_17 : decode cX4_hasSortie 17 = .ok (.ireturn, 1) := by decide +kernel
def pX4_hasSortie (b : Nat) (x1 : Int32) (M : Mm) : Int32 :=
if x1 < 0 then
(0)
else
(if (M b 1) ≤ x1 then
(0)
else
(1))
abbrev zX4_hasSortie : Zx := (cX4_hasSortie, RX4, 2, 0, (some .boolean))
set_option maxRecDepth 100000 in
set_option maxHeartbeats 4000000 in
theorem tX4_hasSortie {l : Launch} {Y : Sx} {M : Mm} {b : Nat} {x1 : Int32} {q : Int32} (h_b : isPlan Y b) (h : pX4_hasSortie b x1 M = q) : Ct l Y yX4_hasSortie cX4_hasSortie 2 (some .boolean) 0 [.ref (adr Y b), .int x1] M (some q) M := by
  refine Ct.of (by decide) rfl (lv := [(0, .ref (adr Y b)), (1, .int x1)]) rfl ?_
  intro K hkl C
  change Cx K zX4_hasSortie Y at C
  subst hkl
  unfold pX4_hasSortie at h
  show Wp K zX4_hasSortie Y (Qm K Y (some q) M) M 0 [(0, .ref (adr Y b)), (1, .int x1)] []
  refine w_iload_n C (pc := 0) dX4_hasSortie_0 1 rfl ?_
  refine w_iflt C (pc := 1) 16 dX4_hasSortie_1 (by decide) (fun c => ?_) (fun c => ?_)
  · have h := it_t h c
    refine w_iconst C (pc := 16) dX4_hasSortie_16 (v := 0) (by decide) ?_
    exact w_retzR C (pc := 17) dX4_hasSortie_17 rfl (by decide) h
  · have h := it_f h c
    refine w_iload_n C (pc := 4) dX4_hasSortie_4 1 rfl ?_
    refine w_aload_n C (pc := 5) dX4_hasSortie_5 0 rfl ?_
    refine w_getI C (pc := 6) dX4_hasSortie_6 f_X4_22 h_b.1 rfl ?_
    refine w_icge C (pc := 9) 16 dX4_hasSortie_9 (by decide) (fun c => ?_) (fun c => ?_)
    · have h := it_t h c
      refine w_iconst C (pc := 16) dX4_hasSortie_16 (v := 0) (by decide) ?_
      exact w_retzR C (pc := 17) dX4_hasSortie_17 rfl (by decide) h
    · have h := it_f h c
      refine w_iconst C (pc := 12) dX4_hasSortie_12 (v := 1) (by decide) ?_
      refine w_goto C (pc := 13) 17 dX4_hasSortie_13 (by decide) ?_
      exact w_retzR C (pc := 17) dX4_hasSortie_17 rfl (by decide) h
theorem dX4_mayBeFlyer_0 : decode cX4_mayBeFlyer 0 = .ok (.iload_n 0, 1) := by decide +kernel
theorem dX4_mayBeFlyer_1 : decode cX4_mayBeFlyer 1 = .ok (.ifCond .eq 8, 3) := by decide +kernel
theorem dX4_mayBeFlyer_4 : decode cX4_mayBeFlyer 4 = .ok (.iload_n 0, 1) := by decide +kernel
theorem dX4_mayBeFlyer_5 : decode cX4_mayBeFlyer 5 = .ok (.iconst 1, 1) := by decide +kernel
theorem dX4_mayBeFlyer_6 : decode cX4_mayBeFlyer 6 = .ok (.if_icmp .ne 7, 3) := by decide +kernel
theorem dX4_mayBeFlyer_9 : decode cX4_mayBeFlyer 9 = .ok (.iconst 1, 1) := by decide +kernel
theorem dX4_mayBeFlyer_10 : decode cX4_mayBeFlyer 10 = .ok (.goto 4, 3) := by decide +kernel
theorem dX4_mayBeFlyer_13 : decode cX4_mayBeFlyer 13 = .ok (.iconst 0, 1) := by decide +kernel
theorem dX4_mayBeFlyer_14 : decode cX4_mayBeFlyer 14 = .ok (.ireturn, 1) := by decide +kernel
def pX4_mayBeFlyer (x0 : Int32) : Int32 :=
if x0 = 0 then
(1)
else
(if x0 = 1 then
(1)
else
(0))
abbrev zX4_mayBeFlyer : Zx := (cX4_mayBeFlyer, RX4, 1, 0, (some .boolean))
set_option maxRecDepth 100000 in
set_option maxHeartbeats 4000000 in
theorem tX4_mayBeFlyer {l : Launch} {Y : Sx} {M : Mm} {x0 : Int32} {q : Int32} (h : pX4_mayBeFlyer x0 = q) : Ct l Y yX4_mayBeFlyer cX4_mayBeFlyer 1 (some .boolean) 0 [.int x0] M (some q) M := by
  refine Ct.of (by decide) rfl (lv := [(0, .int x0)]) rfl ?_
  intro K hkl C
  change Cx K zX4_mayBeFlyer Y at C
  subst hkl
  unfold pX4_mayBeFlyer at h
  show Wp K zX4_mayBeFlyer Y (Qm K Y (some q) M) M 0 [(0, .int x0)] []
  refine w_iload_n C (pc := 0) dX4_mayBeFlyer_0 0 rfl ?_
  refine w_ifeq C (pc := 1) 9 dX4_mayBeFlyer_1 (by decide) (fun c => ?_) (fun c => ?_)
  · have h := it_t h c
    refine w_iconst C (pc := 9) dX4_mayBeFlyer_9 (v := 1) (by decide) ?_
    refine w_goto C (pc := 10) 14 dX4_mayBeFlyer_10 (by decide) ?_
    exact w_retzR C (pc := 14) dX4_mayBeFlyer_14 rfl (by decide) h
  · have h := it_f h c
    refine w_iload_n C (pc := 4) dX4_mayBeFlyer_4 0 rfl ?_
    refine w_iconst C (pc := 5) dX4_mayBeFlyer_5 (v := 1) (by decide) ?_
    refine w_icne C (pc := 6) 13 dX4_mayBeFlyer_6 (by decide) (fun c => ?_) (fun c => ?_)
    · have h := it_t h c
      refine w_iconst C (pc := 9) dX4_mayBeFlyer_9 (v := 1) (by decide) ?_
      refine w_goto C (pc := 10) 14 dX4_mayBeFlyer_10 (by decide) ?_
      exact w_retzR C (pc := 14) dX4_mayBeFlyer_14 rfl (by decide) h
    · have h := it_f h c
      refine w_iconst C (pc := 13) dX4_mayBeFlyer_13 (v := 0) (by decide) ?_
      exact w_retzR C (pc := 14) dX4_mayBeFlyer_14 rfl (by decide) h
theorem dX4_mayBeIndex_0 : decode cX4_mayBeIndex 0 = .ok (.iload_n 0, 1) := by decide +kernel
theorem dX4_mayBeIndex_1 : decode cX4_mayBeIndex 1 = .ok (.ifCond .lt 13, 3) := by decide +kernel
theorem dX4_mayBeIndex_4 : decode cX4_mayBeIndex 4 = .ok (.iload_n 0, 1) := by decide +kernel
theorem dX4_mayBeIndex_5 : decode cX4_mayBeIndex 5 = .ok (.bipush 10, 2) := by decide +kernel
theorem dX4_mayBeIndex_7 : decode cX4_mayBeIndex 7 = .ok (.if_icmp .ge 7, 3) := by decide +kernel
theorem dX4_mayBeIndex_10 : decode cX4_mayBeIndex 10 = .ok (.iconst 1, 1) := by decide +kernel
theorem dX4_mayBeIndex_11 : decode cX4_mayBeIndex 11 = .ok (.goto 4, 3) := by decide +kernel
theorem dX4_mayBeIndex_14 : decode cX4_mayBeIndex 14 = .ok (.iconst 0, 1) := by decide +kernel
theorem dX4_mayBeIndex_15 : decode cX4_mayBeIndex 15 = .ok (.ireturn, 1) := by decide +kernel
def pX4_mayBeIndex (x0 : Int32) : Int32 :=
if x0 < 0 then
(0)
else
(if 10 ≤ x0 then
(0)
else
(1))
abbrev zX4_mayBeIndex : Zx := (cX4_mayBeIndex, RX4, 1, 0, (some .boolean))
set_option maxRecDepth 100000 in
set_option maxHeartbeats 4000000 in
theorem tX4_mayBeIndex {l : Launch} {Y : Sx} {M : Mm} {x0 : Int32} {q : Int32} (h : pX4_mayBeIndex x0 = q) : Ct l Y yX4_mayBeIndex cX4_mayBeIndex 1 (some .boolean) 0 [.int x0] M (some q) M := by
  refine Ct.of (by decide) rfl (lv := [(0, .int x0)]) rfl ?_
  intro K hkl C
  change Cx K zX4_mayBeIndex Y at C
  subst hkl
  unfold pX4_mayBeIndex at h
  show Wp K zX4_mayBeIndex Y (Qm K Y (some q) M) M 0 [(0, .int x0)] []
  refine w_iload_n C (pc := 0) dX4_mayBeIndex_0 0 rfl ?_
  refine w_iflt C (pc := 1) 14 dX4_mayBeIndex_1 (by decide) (fun c => ?_) (fun c => ?_)
  · have h := it_t h c
    refine w_iconst C (pc := 14) dX4_mayBeIndex_14 (v := 0) (by decide) ?_
    exact w_retzR C (pc := 15) dX4_mayBeIndex_15 rfl (by decide) h
  · have h := it_f h c
    refine w_iload_n C (pc := 4) dX4_mayBeIndex_4 0 rfl ?_
    refine w_bipush C (pc := 5) dX4_mayBeIndex_5 (v := 10) (by decide) ?_
    refine w_icge C (pc := 7) 14 dX4_mayBeIndex_7 (by decide) (fun c => ?_) (fun c => ?_)
    · have h := it_t h c
      refine w_iconst C (pc := 14) dX4_mayBeIndex_14 (v := 0) (by decide) ?_
      exact w_retzR C (pc := 15) dX4_mayBeIndex_15 rfl (by decide) h
    · have h := it_f h c
      refine w_iconst C (pc := 10) dX4_mayBeIndex_10 (v := 1) (by decide) ?_
      refine w_goto C (pc := 11) 15 dX4_mayBeIndex_11 (by decide) ?_
      exact w_retzR C (pc := 15) dX4_mayBeIndex_15 rfl (by decide) h
theorem dX4_part_0 : decode cX4_part 0 = .ok (.iload_n 1, 1) := by decide +kernel
theorem dX4_part_1 : decode cX4_part 1 = .ok (.ifCond .lt 24, 3) := by decide +kernel
theorem dX4_part_4 : decode cX4_part 4 = .ok (.iload_n 1, 1) := by decide +kernel
theorem dX4_part_5 : decode cX4_part 5 = .ok (.aload_n 0, 1) := by decide +kernel
theorem dX4_part_6 : decode cX4_part 6 = .ok (.getfield 22, 3) := by decide +kernel
theorem dX4_part_9 : decode cX4_part 9 = .ok (.if_icmp .ge 16, 3) := by decide +kernel
theorem dX4_part_12 : decode cX4_part 12 = .ok (.iload_n 2, 1) := by decide +kernel
theorem dX4_part_13 : decode cX4_part 13 = .ok (.ifCond .lt 12, 3) := by decide +kernel
theorem dX4_part_16 : decode cX4_part 16 = .ok (.iload_n 2, 1) := by decide +kernel
theorem dX4_part_17 : decode cX4_part 17 = .ok (.iconst 4, 1) := by decide +kernel
theorem dX4_part_18 : decode cX4_part 18 = .ok (.if_icmp .ge 7, 3) := by decide +kernel
theorem dX4_part_21 : decode cX4_part 21 = .ok (.iconst 1, 1) := by decide +kernel
theorem dX4_part_22 : decode cX4_part 22 = .ok (.goto 4, 3) := by decide +kernel
theorem dX4_part_25 : decode cX4_part 25 = .ok (.iconst 0, 1) := by decide +kernel
theorem dX4_part_26 : decode cX4_part 26 = .ok (.istore_n 3, 1) := by decide +kernel
theorem dX4_part_27 : decode cX4_part 27 = .ok (.iload_n 3, 1) := by decide +kernel
theorem dX4_part_28 : decode cX4_part 28 = .ok (.ifCond .eq 16, 3) := by decide +kernel
theorem dX4_part_31 : decode cX4_part 31 = .ok (.aload_n 0, 1) := by decide +kernel
theorem dX4_part_32 : decode cX4_part 32 = .ok (.getfield 15, 3) := by decide +kernel
theorem dX4_part_35 : decode cX4_part 35 = .ok (.iload_n 1, 1) := by decide +kernel
theorem dX4_part_36 : decode cX4_part 36 = .ok (.iconst 4, 1) := by decide +kernel
theorem dX4_part_37 : decode cX4_part 37 = .ok (.imul, 1) := by decide +kernel
theorem dX4_part_38 : decode cX4_part 38 = .ok (.iload_n 2, 1) := by decide +kernel
theorem dX4_part_39 : decode cX4_part 39 = .ok (.iadd, 1) := by decide +kernel
theorem dX4_part_40 : decode cX4_part 40 = .ok (.iaload, 1) := by decide +kernel
theorem dX4_part_41 : decode cX4_part 41 = .ok (.goto 4, 3) := by decide +kernel
theorem dX4_part_44 : decode cX4_part 44 = .ok (.iconst (-1), 1) := by decide +kernel
theorem dX4_part_45 : decode cX4_part 45 = .ok (.ireturn, 1) := by decide +kernel
def pX4_part (b : Nat) (x1 : Int32) (x2 : Int32) (M : Mm) : Option (Int32) :=
if x1 < 0 then
(some (-1))
else
(if (M b 1) ≤ x1 then
(some (-1))
else
(if x2 < 0 then
(some (-1))
else
(if 4 ≤ x2 then
(some (-1))
else
((ald M (b + 2) 32 ((x1 * 4) + x2)).bind fun v1 =>
some v1))))
abbrev zX4_part : Zx := (cX4_part, RX4, 4, 0, (some .int))
set_option maxRecDepth 100000 in
set_option maxHeartbeats 4000000 in
theorem tX4_part {l : Launch} {Y : Sx} {M : Mm} {b : Nat} {x1 : Int32} {x2 : Int32} {q : Int32} (h_b : isPlan Y b) (h : pX4_part b x1 x2 M = some q) : Ct l Y yX4_part cX4_part 4 (some .int) 0 [.ref (adr Y b), .int x1, .int x2] M (some q) M := by
  refine Ct.of (by decide) rfl (lv := [(0, .ref (adr Y b)), (1, .int x1), (2, .int x2)]) rfl ?_
  intro K hkl C
  change Cx K zX4_part Y at C
  subst hkl
  unfold pX4_part at h
  show Wp K zX4_part Y (Qm K Y (some q) M) M 0 [(0, .ref (adr Y b)), (1, .int x1), (2, .int x2)] []
  refine w_iload_n C (pc := 0) dX4_part_0 1 rfl ?_
  refine w_iflt C (pc := 1) 25 dX4_part_1 (by decide) (fun c => ?_) (fun c => ?_)
  · have h := it_t h c
    refine w_iconst C (pc := 25) dX4_part_25 (v := 0) (by decide) ?_
    refine w_istore_n C (pc := 26) dX4_part_26 (lv' := [(0, .ref (adr Y b)), (1, .int x1), (2, .int x2), (3, .int 0)]) rfl rfl rfl ?_
    refine w_iload_n C (pc := 27) dX4_part_27 3 rfl ?_
    refine w_ifeq C (pc := 28) 44 dX4_part_28 (by decide) (fun c => ?_) (fun c => ?_)
    · skip
      refine w_iconst C (pc := 44) dX4_part_44 (v := (-1)) (by decide) ?_
      exact w_retR C (pc := 45) dX4_part_45 rfl (Option.some.inj h)
    · exact absurd (by decide) c
  · have h := it_f h c
    refine w_iload_n C (pc := 4) dX4_part_4 1 rfl ?_
    refine w_aload_n C (pc := 5) dX4_part_5 0 rfl ?_
    refine w_getI C (pc := 6) dX4_part_6 f_X4_22 h_b.1 rfl ?_
    refine w_icge C (pc := 9) 25 dX4_part_9 (by decide) (fun c => ?_) (fun c => ?_)
    · have h := it_t h c
      refine w_iconst C (pc := 25) dX4_part_25 (v := 0) (by decide) ?_
      refine w_istore_n C (pc := 26) dX4_part_26 (lv' := [(0, .ref (adr Y b)), (1, .int x1), (2, .int x2), (3, .int 0)]) rfl rfl rfl ?_
      refine w_iload_n C (pc := 27) dX4_part_27 3 rfl ?_
      refine w_ifeq C (pc := 28) 44 dX4_part_28 (by decide) (fun c => ?_) (fun c => ?_)
      · skip
        refine w_iconst C (pc := 44) dX4_part_44 (v := (-1)) (by decide) ?_
        exact w_retR C (pc := 45) dX4_part_45 rfl (Option.some.inj h)
      · exact absurd (by decide) c
    · have h := it_f h c
      refine w_iload_n C (pc := 12) dX4_part_12 2 rfl ?_
      refine w_iflt C (pc := 13) 25 dX4_part_13 (by decide) (fun c => ?_) (fun c => ?_)
      · have h := it_t h c
        refine w_iconst C (pc := 25) dX4_part_25 (v := 0) (by decide) ?_
        refine w_istore_n C (pc := 26) dX4_part_26 (lv' := [(0, .ref (adr Y b)), (1, .int x1), (2, .int x2), (3, .int 0)]) rfl rfl rfl ?_
        refine w_iload_n C (pc := 27) dX4_part_27 3 rfl ?_
        refine w_ifeq C (pc := 28) 44 dX4_part_28 (by decide) (fun c => ?_) (fun c => ?_)
        · skip
          refine w_iconst C (pc := 44) dX4_part_44 (v := (-1)) (by decide) ?_
          exact w_retR C (pc := 45) dX4_part_45 rfl (Option.some.inj h)
        · exact absurd (by decide) c
      · have h := it_f h c
        refine w_iload_n C (pc := 16) dX4_part_16 2 rfl ?_
        refine w_iconst C (pc := 17) dX4_part_17 (v := 4) (by decide) ?_
        refine w_icge C (pc := 18) 25 dX4_part_18 (by decide) (fun c => ?_) (fun c => ?_)
        · have h := it_t h c
          refine w_iconst C (pc := 25) dX4_part_25 (v := 0) (by decide) ?_
          refine w_istore_n C (pc := 26) dX4_part_26 (lv' := [(0, .ref (adr Y b)), (1, .int x1), (2, .int x2), (3, .int 0)]) rfl rfl rfl ?_
          refine w_iload_n C (pc := 27) dX4_part_27 3 rfl ?_
          refine w_ifeq C (pc := 28) 44 dX4_part_28 (by decide) (fun c => ?_) (fun c => ?_)
          · skip
            refine w_iconst C (pc := 44) dX4_part_44 (v := (-1)) (by decide) ?_
            exact w_retR C (pc := 45) dX4_part_45 rfl (Option.some.inj h)
          · exact absurd (by decide) c
        · have h := it_f h c
          refine w_iconst C (pc := 21) dX4_part_21 (v := 1) (by decide) ?_
          refine w_goto C (pc := 22) 26 dX4_part_22 (by decide) ?_
          refine w_istore_n C (pc := 26) dX4_part_26 (lv' := [(0, .ref (adr Y b)), (1, .int x1), (2, .int x2), (3, .int 1)]) rfl rfl rfl ?_
          refine w_iload_n C (pc := 27) dX4_part_27 3 rfl ?_
          refine w_ifeq C (pc := 28) 44 dX4_part_28 (by decide) (fun c => ?_) (fun c => ?_)
          · exact absurd c (by decide)
          · skip
            refine w_aload_n C (pc := 31) dX4_part_31 0 rfl ?_
            refine w_getR C (pc := 32) dX4_part_32 f_X4_15 h_b.1 rfl ?_
            refine w_iload_n C (pc := 35) dX4_part_35 1 rfl ?_
            refine w_iconst C (pc := 36) dX4_part_36 (v := 4) (by decide) ?_
            refine w_imul C (pc := 37) dX4_part_37 ?_
            refine w_iload_n C (pc := 38) dX4_part_38 2 rfl ?_
            refine w_iadd C (pc := 39) dX4_part_39 ?_
            obtain ⟨v1, e2, h⟩ := ob h
            refine w_iald C (pc := 40) dX4_part_40 h_b.2.2 e2 ?_
            refine w_goto C (pc := 41) 45 dX4_part_41 (by decide) ?_
            exact w_retR C (pc := 45) dX4_part_45 rfl (Option.some.inj h)
theorem dX4_placeAt_0 : decode cX4_placeAt 0 = .ok (.iload_n 1, 1) := by decide +kernel
theorem dX4_placeAt_1 : decode cX4_placeAt 1 = .ok (.iconst 1, 1) := by decide +kernel
theorem dX4_placeAt_2 : decode cX4_placeAt 2 = .ok (.if_icmp .lt 22, 3) := by decide +kernel
theorem dX4_placeAt_5 : decode cX4_placeAt 5 = .ok (.iload_n 1, 1) := by decide +kernel
theorem dX4_placeAt_6 : decode cX4_placeAt 6 = .ok (.aload_n 0, 1) := by decide +kernel
theorem dX4_placeAt_7 : decode cX4_placeAt 7 = .ok (.getfield 18, 3) := by decide +kernel
theorem dX4_placeAt_10 : decode cX4_placeAt 10 = .ok (.if_icmp .gt 14, 3) := by decide +kernel
theorem dX4_placeAt_13 : decode cX4_placeAt 13 = .ok (.aload_n 0, 1) := by decide +kernel
theorem dX4_placeAt_14 : decode cX4_placeAt 14 = .ok (.getfield 9, 3) := by decide +kernel
theorem dX4_placeAt_17 : decode cX4_placeAt 17 = .ok (.iload_n 1, 1) := by decide +kernel
theorem dX4_placeAt_18 : decode cX4_placeAt 18 = .ok (.iconst 1, 1) := by decide +kernel
theorem dX4_placeAt_19 : decode cX4_placeAt 19 = .ok (.isub, 1) := by decide +kernel
theorem dX4_placeAt_20 : decode cX4_placeAt 20 = .ok (.iaload, 1) := by decide +kernel
theorem dX4_placeAt_21 : decode cX4_placeAt 21 = .ok (.goto 4, 3) := by decide +kernel
theorem dX4_placeAt_24 : decode cX4_placeAt 24 = .ok (.iconst 0, 1) := by decide +kernel
theorem dX4_placeAt_25 : decode cX4_placeAt 25 = .ok (.ireturn, 1) := by decide +kernel
def pX4_placeAt (b : Nat) (x1 : Int32) (M : Mm) : Option (Int32) :=
if x1 < 1 then
(some 0)
else
(if (M b 0) < x1 then
(some 0)
else
((ald M (b + 1) 8 (x1 - 1)).bind fun v1 =>
some v1))
abbrev zX4_placeAt : Zx := (cX4_placeAt, RX4, 2, 0, (some .int))
set_option maxRecDepth 100000 in
set_option maxHeartbeats 4000000 in
theorem tX4_placeAt {l : Launch} {Y : Sx} {M : Mm} {b : Nat} {x1 : Int32} {q : Int32} (h_b : isPlan Y b) (h : pX4_placeAt b x1 M = some q) : Ct l Y yX4_placeAt cX4_placeAt 2 (some .int) 0 [.ref (adr Y b), .int x1] M (some q) M := by
  refine Ct.of (by decide) rfl (lv := [(0, .ref (adr Y b)), (1, .int x1)]) rfl ?_
  intro K hkl C
  change Cx K zX4_placeAt Y at C
  subst hkl
  unfold pX4_placeAt at h
  show Wp K zX4_placeAt Y (Qm K Y (some q) M) M 0 [(0, .ref (adr Y b)), (1, .int x1)] []
  refine w_iload_n C (pc := 0) dX4_placeAt_0 1 rfl ?_
  refine w_iconst C (pc := 1) dX4_placeAt_1 (v := 1) (by decide) ?_
  refine w_iclt C (pc := 2) 24 dX4_placeAt_2 (by decide) (fun c => ?_) (fun c => ?_)
  · have h := it_t h c
    refine w_iconst C (pc := 24) dX4_placeAt_24 (v := 0) (by decide) ?_
    exact w_retR C (pc := 25) dX4_placeAt_25 rfl (Option.some.inj h)
  · have h := it_f h c
    refine w_iload_n C (pc := 5) dX4_placeAt_5 1 rfl ?_
    refine w_aload_n C (pc := 6) dX4_placeAt_6 0 rfl ?_
    refine w_getI C (pc := 7) dX4_placeAt_7 f_X4_18 h_b.1 rfl ?_
    refine w_icgt C (pc := 10) 24 dX4_placeAt_10 (by decide) (fun c => ?_) (fun c => ?_)
    · have h := it_t h c
      refine w_iconst C (pc := 24) dX4_placeAt_24 (v := 0) (by decide) ?_
      exact w_retR C (pc := 25) dX4_placeAt_25 rfl (Option.some.inj h)
    · have h := it_f h c
      refine w_aload_n C (pc := 13) dX4_placeAt_13 0 rfl ?_
      refine w_getR C (pc := 14) dX4_placeAt_14 f_X4_9 h_b.1 rfl ?_
      refine w_iload_n C (pc := 17) dX4_placeAt_17 1 rfl ?_
      refine w_iconst C (pc := 18) dX4_placeAt_18 (v := 1) (by decide) ?_
      refine w_isub C (pc := 19) dX4_placeAt_19 ?_
      obtain ⟨v1, e2, h⟩ := ob h
      refine w_iald C (pc := 20) dX4_placeAt_20 h_b.2.1 e2 ?_
      refine w_goto C (pc := 21) 25 dX4_placeAt_21 (by decide) ?_
      exact w_retR C (pc := 25) dX4_placeAt_25 rfl (Option.some.inj h)
theorem dX4_stops_0 : decode cX4_stops 0 = .ok (.aload_n 0, 1) := by decide +kernel
theorem dX4_stops_1 : decode cX4_stops 1 = .ok (.getfield 18, 3) := by decide +kernel
theorem dX4_stops_4 : decode cX4_stops 4 = .ok (.iconst 2, 1) := by decide +kernel
theorem dX4_stops_5 : decode cX4_stops 5 = .ok (.iadd, 1) := by decide +kernel
theorem dX4_stops_6 : decode cX4_stops 6 = .ok (.ireturn, 1) := by decide +kernel
def pX4_stops (b : Nat) (M : Mm) : Int32 :=
(M b 0) + 2
abbrev zX4_stops : Zx := (cX4_stops, RX4, 1, 0, (some .int))
set_option maxRecDepth 100000 in
set_option maxHeartbeats 4000000 in
theorem tX4_stops {l : Launch} {Y : Sx} {M : Mm} {b : Nat} {q : Int32} (h_b : isPlan Y b) (h : pX4_stops b M = q) : Ct l Y yX4_stops cX4_stops 1 (some .int) 0 [.ref (adr Y b)] M (some q) M := by
  refine Ct.of (by decide) rfl (lv := [(0, .ref (adr Y b))]) rfl ?_
  intro K hkl C
  change Cx K zX4_stops Y at C
  subst hkl
  unfold pX4_stops at h
  show Wp K zX4_stops Y (Qm K Y (some q) M) M 0 [(0, .ref (adr Y b))] []
  refine w_aload_n C (pc := 0) dX4_stops_0 0 rfl ?_
  refine w_getI C (pc := 1) dX4_stops_1 f_X4_18 h_b.1 rfl ?_
  refine w_iconst C (pc := 4) dX4_stops_4 (v := 2) (by decide) ?_
  refine w_iadd C (pc := 5) dX4_stops_5 ?_
  exact w_retR C (pc := 6) dX4_stops_6 rfl h
end
section
theorem dX2_keep_0 : decode cX2_keep 0 = .ok (.aload_n 0, 1) := by decide +kernel
theorem dX2_keep_1 : decode cX2_keep 1 = .ok (.iconst 1, 1) := by decide +kernel
theorem dX2_keep_2 : decode cX2_keep 2 = .ok (.putfield 7, 3) := by decide +kernel
theorem dX2_keep_5 : decode cX2_keep 5 = .ok (.aload_n 0, 1) := by decide +kernel
theorem dX2_keep_6 : decode cX2_keep 6 = .ok (.iload_n 1, 1) := by decide +kernel
theorem dX2_keep_7 : decode cX2_keep 7 = .ok (.putfield 13, 3) := by decide +kernel
theorem dX2_keep_10 : decode cX2_keep 10 = .ok (.aload_n 0, 1) := by decide +kernel
theorem dX2_keep_11 : decode cX2_keep 11 = .ok (.iload_n 2, 1) := by decide +kernel
theorem dX2_keep_12 : decode cX2_keep 12 = .ok (.putfield 17, 3) := by decide +kernel
theorem dX2_keep_15 : decode cX2_keep 15 = .ok (.return_, 1) := by decide +kernel
def pX2_keep (b : Nat) (x1 : Int32) (x2 : Int32) (M : Mm) : Mm :=
bnd (mset M b 0 1) fun M1 =>
bnd (mset M1 b 1 x1) fun M3 =>
bnd (mset M3 b 2 x2) fun M5 =>
M5
abbrev zX2_keep : Zx := (cX2_keep, RX2, 3, 0, none)
set_option maxRecDepth 100000 in
set_option maxHeartbeats 4000000 in
theorem tX2_keep {l : Launch} {Y : Sx} {M : Mm} {b : Nat} {x1 : Int32} {x2 : Int32} {q : Mm} (h_b : isFound Y b) (h : pX2_keep b x1 x2 M = q) : Ct l Y yX2_keep cX2_keep 3 none 0 [.ref (adr Y b), .int x1, .int x2] M none q := by
  refine Ct.of (by decide) rfl (lv := [(0, .ref (adr Y b)), (1, .int x1), (2, .int x2)]) rfl ?_
  intro K hkl C
  change Cx K zX2_keep Y at C
  subst hkl
  unfold pX2_keep at h
  show Wp K zX2_keep Y (Qm K Y none q) M 0 [(0, .ref (adr Y b)), (1, .int x1), (2, .int x2)] []
  refine w_aload_n C (pc := 0) dX2_keep_0 0 rfl ?_
  refine w_iconst C (pc := 1) dX2_keep_1 (v := 1) (by decide) ?_
  obtain ⟨M1, e2, h⟩ := bn h
  refine w_putZ C (pc := 2) dX2_keep_2 fp_X2_7 h_b rfl (by decide) ?_
  rw [e2]
  refine w_aload_n C (pc := 5) dX2_keep_5 0 rfl ?_
  refine w_iload_n C (pc := 6) dX2_keep_6 1 rfl ?_
  obtain ⟨M3, e4, h⟩ := bn h
  refine w_putI C (pc := 7) dX2_keep_7 fp_X2_13 h_b rfl ?_
  rw [e4]
  refine w_aload_n C (pc := 10) dX2_keep_10 0 rfl ?_
  refine w_iload_n C (pc := 11) dX2_keep_11 2 rfl ?_
  obtain ⟨M5, e6, h⟩ := bn h
  refine w_putI C (pc := 12) dX2_keep_12 fp_X2_17 h_b rfl ?_
  rw [e6]
  exact w_retV C (pc := 15) dX2_keep_15 rfl h
end
section
theorem dX6_append_0 : decode cX6_append 0 = .ok (.aload_n 0, 1) := by decide +kernel
theorem dX6_append_1 : decode cX6_append 1 = .ok (.getfield 15, 3) := by decide +kernel
theorem dX6_append_4 : decode cX6_append 4 = .ok (.iconst 4, 1) := by decide +kernel
theorem dX6_append_5 : decode cX6_append 5 = .ok (.iadd, 1) := by decide +kernel
theorem dX6_append_6 : decode cX6_append 6 = .ok (.sipush 300, 3) := by decide +kernel
theorem dX6_append_9 : decode cX6_append 9 = .ok (.if_icmp .le 4, 3) := by decide +kernel
theorem dX6_append_12 : decode cX6_append 12 = .ok (.return_, 1) := by decide +kernel
theorem dX6_append_13 : decode cX6_append 13 = .ok (.bipush 24, 2) := by decide +kernel
theorem dX6_append_15 : decode cX6_append 15 = .ok (.istore_n 2, 1) := by decide +kernel
theorem dX6_append_16 : decode cX6_append 16 = .ok (.iload_n 2, 1) := by decide +kernel
theorem dX6_append_17 : decode cX6_append 17 = .ok (.ifCond .lt 35, 3) := by decide +kernel
theorem dX6_append_20 : decode cX6_append 20 = .ok (.aload_n 0, 1) := by decide +kernel
theorem dX6_append_21 : decode cX6_append 21 = .ok (.getfield 9, 3) := by decide +kernel
theorem dX6_append_24 : decode cX6_append 24 = .ok (.aload_n 0, 1) := by decide +kernel
theorem dX6_append_25 : decode cX6_append 25 = .ok (.getfield 15, 3) := by decide +kernel
theorem dX6_append_28 : decode cX6_append 28 = .ok (.iload_n 1, 1) := by decide +kernel
theorem dX6_append_29 : decode cX6_append 29 = .ok (.iload_n 2, 1) := by decide +kernel
theorem dX6_append_30 : decode cX6_append 30 = .ok (.iushr, 1) := by decide +kernel
theorem dX6_append_31 : decode cX6_append 31 = .ok (.sipush 255, 3) := by decide +kernel
theorem dX6_append_34 : decode cX6_append 34 = .ok (.iand, 1) := by decide +kernel
theorem dX6_append_35 : decode cX6_append 35 = .ok (.iastore, 1) := by decide +kernel
theorem dX6_append_36 : decode cX6_append 36 = .ok (.aload_n 0, 1) := by decide +kernel
theorem dX6_append_37 : decode cX6_append 37 = .ok (.dup, 1) := by decide +kernel
theorem dX6_append_38 : decode cX6_append 38 = .ok (.getfield 15, 3) := by decide +kernel
theorem dX6_append_41 : decode cX6_append 41 = .ok (.iconst 1, 1) := by decide +kernel
theorem dX6_append_42 : decode cX6_append 42 = .ok (.iadd, 1) := by decide +kernel
theorem dX6_append_43 : decode cX6_append 43 = .ok (.putfield 15, 3) := by decide +kernel
theorem dX6_append_46 : decode cX6_append 46 = .ok (.iinc 2 (-8), 3) := by decide +kernel
theorem dX6_append_49 : decode cX6_append 49 = .ok (.goto (-33), 3) := by decide +kernel
theorem dX6_append_52 : decode cX6_append 52 = .ok (.return_, 1) := by decide +kernel
def pX6_append_L16 (x1 : Int32) (s : Int32 × Mm) : Option ((Int32 × Mm) ⊕ (Mm)) :=
if s.1 < 0 then
(some (Sum.inr s.2))
else
((ast s.2 30 300 (s.2 29 0) ((ush x1 s.1) &&& 255)).bind fun M1 =>
bnd (mset M1 29 0 ((M1 29 0) + 1)) fun M3 =>
some (Sum.inl (s.1 + (-8), M3)))
def pX6_append (x1 : Int32) (M : Mm) : Option (Mm) :=
if ((M 29 0) + 4) ≤ 300 then
((itr (pX6_append_L16 x1) fuel (24, M)).bind fun x5 =>
some x5)
else
(some M)
abbrev zX6_append : Zx := (cX6_append, RX6, 3, 0, none)
set_option maxRecDepth 100000 in
set_option maxHeartbeats 4000000 in
theorem tX6_append {l : Launch} {Y : Sx} {M : Mm} {x1 : Int32} {q : Mm} (hY : isA Y) (h : pX6_append x1 M = some q) : Ct l Y yX6_append cX6_append 3 none 0 [.ref (adr Y 29), .int x1] M none q := by
  refine Ct.of (by decide) rfl (lv := [(0, .ref (adr Y 29)), (1, .int x1)]) rfl ?_
  intro K hkl C
  change Cx K zX6_append Y at C
  subst hkl
  unfold pX6_append at h
  show Wp K zX6_append Y (Qm K Y none q) M 0 [(0, .ref (adr Y 29)), (1, .int x1)] []
  refine w_aload_n C (pc := 0) dX6_append_0 0 rfl ?_
  refine w_getI C (pc := 1) dX6_append_1 f_X6_15 (sA_29 hY) rfl ?_
  refine w_iconst C (pc := 4) dX6_append_4 (v := 4) (by decide) ?_
  refine w_iadd C (pc := 5) dX6_append_5 ?_
  refine w_sipush C (pc := 6) dX6_append_6 (v := 300) (by decide) ?_
  refine w_icle C (pc := 9) 13 dX6_append_9 (by decide) (fun c => ?_) (fun c => ?_)
  · have h := it_t h c
    refine w_bipush C (pc := 13) dX6_append_13 (v := 24) (by decide) ?_
    refine w_istore_n C (pc := 15) dX6_append_15 (lv' := [(0, .ref (adr Y 29)), (1, .int x1), (2, .int 24)]) rfl rfl rfl ?_
    obtain ⟨x5, e6, h⟩ := ob h
    refine itr_W (P := fun s7 => Wp K zX6_append Y (Qm K Y none q) s7.2 16 [(0, .ref (adr Y 29)), (1, .int x1), (2, .int s7.1)] []) (R := fun x5 => Wp K zX6_append Y (Qm K Y none q) x5 52 [(0, .ref (adr Y 29)), (1, .int x1)] []) ?_ fuel (24, M) x5 e6 ?_
    · intro s7 r8 h11 ki9 kx10
      unfold pX6_append_L16 at h11
      show Wp K zX6_append Y (Qm K Y none q) s7.2 16 [(0, .ref (adr Y 29)), (1, .int x1), (2, .int s7.1)] []
      refine w_iload_n C (pc := 16) dX6_append_16 2 rfl ?_
      refine w_iflt C (pc := 17) 52 dX6_append_17 (by decide) (fun c => ?_) (fun c => ?_)
      · have h11 := it_t h11 c
        obtain rfl := Option.some.inj h11
        refine w_lv [0, 1] rfl ?_
        exact kx10 _ rfl
      · have h11 := it_f h11 c
        refine w_aload_n C (pc := 20) dX6_append_20 0 rfl ?_
        refine w_getR C (pc := 21) dX6_append_21 f_X6_9 (sA_29 hY) rfl ?_
        refine w_aload_n C (pc := 24) dX6_append_24 0 rfl ?_
        refine w_getI C (pc := 25) dX6_append_25 f_X6_15 (sA_29 hY) rfl ?_
        refine w_iload_n C (pc := 28) dX6_append_28 1 rfl ?_
        refine w_iload_n C (pc := 29) dX6_append_29 2 rfl ?_
        refine w_iushr C (pc := 30) dX6_append_30 ?_
        refine w_sipush C (pc := 31) dX6_append_31 (v := 255) (by decide) ?_
        refine w_iand C (pc := 34) dX6_append_34 ?_
        obtain ⟨M12, e13, h11⟩ := ob h11
        refine w_iast C (pc := 35) dX6_append_35 (sA_30 hY) e13 ?_
        refine w_aload_n C (pc := 36) dX6_append_36 0 rfl ?_
        refine w_dup C (pc := 37) dX6_append_37 rfl ?_
        refine w_getI C (pc := 38) dX6_append_38 f_X6_15 (sA_29 hY) rfl ?_
        refine w_iconst C (pc := 41) dX6_append_41 (v := 1) (by decide) ?_
        refine w_iadd C (pc := 42) dX6_append_42 ?_
        obtain ⟨M14, e15, h11⟩ := bn h11
        refine w_putI C (pc := 43) dX6_append_43 fp_X6_15 (sA_29 hY) rfl ?_
        rw [e15]
        refine w_iinc C (pc := 46) dX6_append_46 2 rfl (v := (-8)) (lv' := [(0, .ref (adr Y 29)), (1, .int x1), (2, .int (s7.1 + (-8)))]) (by decide) rfl rfl rfl ?_
        refine w_goto C (pc := 49) 16 dX6_append_49 (by decide) ?_
        obtain rfl := Option.some.inj h11
        exact ki9 _ rfl
    · exact w_retV C (pc := 52) dX6_append_52 rfl (Option.some.inj h)
  · have h := it_f h c
    exact w_retV C (pc := 12) dX6_append_12 rfl (Option.some.inj h)
theorem dX6_byteAt_0 : decode cX6_byteAt 0 = .ok (.iload_n 1, 1) := by decide +kernel
theorem dX6_byteAt_1 : decode cX6_byteAt 1 = .ok (.ifCond .lt 20, 3) := by decide +kernel
theorem dX6_byteAt_4 : decode cX6_byteAt 4 = .ok (.iload_n 1, 1) := by decide +kernel
theorem dX6_byteAt_5 : decode cX6_byteAt 5 = .ok (.aload_n 0, 1) := by decide +kernel
theorem dX6_byteAt_6 : decode cX6_byteAt 6 = .ok (.getfield 15, 3) := by decide +kernel
theorem dX6_byteAt_9 : decode cX6_byteAt 9 = .ok (.if_icmp .ge 12, 3) := by decide +kernel
theorem dX6_byteAt_12 : decode cX6_byteAt 12 = .ok (.aload_n 0, 1) := by decide +kernel
theorem dX6_byteAt_13 : decode cX6_byteAt 13 = .ok (.getfield 9, 3) := by decide +kernel
theorem dX6_byteAt_16 : decode cX6_byteAt 16 = .ok (.iload_n 1, 1) := by decide +kernel
theorem dX6_byteAt_17 : decode cX6_byteAt 17 = .ok (.iaload, 1) := by decide +kernel
theorem dX6_byteAt_18 : decode cX6_byteAt 18 = .ok (.goto 4, 3) := by decide +kernel
theorem dX6_byteAt_21 : decode cX6_byteAt 21 = .ok (.iconst (-1), 1) := by decide +kernel
theorem dX6_byteAt_22 : decode cX6_byteAt 22 = .ok (.ireturn, 1) := by decide +kernel
def pX6_byteAt (x1 : Int32) (M : Mm) : Option (Int32) :=
if x1 < 0 then
(some (-1))
else
(if (M 29 0) ≤ x1 then
(some (-1))
else
((ald M 30 300 x1).bind fun v1 =>
some v1))
abbrev zX6_byteAt : Zx := (cX6_byteAt, RX6, 2, 0, (some .int))
set_option maxRecDepth 100000 in
set_option maxHeartbeats 4000000 in
theorem tX6_byteAt {l : Launch} {Y : Sx} {M : Mm} {x1 : Int32} {q : Int32} (hY : isA Y) (h : pX6_byteAt x1 M = some q) : Ct l Y yX6_byteAt cX6_byteAt 2 (some .int) 0 [.ref (adr Y 29), .int x1] M (some q) M := by
  refine Ct.of (by decide) rfl (lv := [(0, .ref (adr Y 29)), (1, .int x1)]) rfl ?_
  intro K hkl C
  change Cx K zX6_byteAt Y at C
  subst hkl
  unfold pX6_byteAt at h
  show Wp K zX6_byteAt Y (Qm K Y (some q) M) M 0 [(0, .ref (adr Y 29)), (1, .int x1)] []
  refine w_iload_n C (pc := 0) dX6_byteAt_0 1 rfl ?_
  refine w_iflt C (pc := 1) 21 dX6_byteAt_1 (by decide) (fun c => ?_) (fun c => ?_)
  · have h := it_t h c
    refine w_iconst C (pc := 21) dX6_byteAt_21 (v := (-1)) (by decide) ?_
    exact w_retR C (pc := 22) dX6_byteAt_22 rfl (Option.some.inj h)
  · have h := it_f h c
    refine w_iload_n C (pc := 4) dX6_byteAt_4 1 rfl ?_
    refine w_aload_n C (pc := 5) dX6_byteAt_5 0 rfl ?_
    refine w_getI C (pc := 6) dX6_byteAt_6 f_X6_15 (sA_29 hY) rfl ?_
    refine w_icge C (pc := 9) 21 dX6_byteAt_9 (by decide) (fun c => ?_) (fun c => ?_)
    · have h := it_t h c
      refine w_iconst C (pc := 21) dX6_byteAt_21 (v := (-1)) (by decide) ?_
      exact w_retR C (pc := 22) dX6_byteAt_22 rfl (Option.some.inj h)
    · have h := it_f h c
      refine w_aload_n C (pc := 12) dX6_byteAt_12 0 rfl ?_
      refine w_getR C (pc := 13) dX6_byteAt_13 f_X6_9 (sA_29 hY) rfl ?_
      refine w_iload_n C (pc := 16) dX6_byteAt_16 1 rfl ?_
      obtain ⟨v1, e2, h⟩ := ob h
      refine w_iald C (pc := 17) dX6_byteAt_17 (sA_30 hY) e2 ?_
      refine w_goto C (pc := 18) 22 dX6_byteAt_18 (by decide) ?_
      exact w_retR C (pc := 22) dX6_byteAt_22 rfl (Option.some.inj h)
theorem dX6_hasBlankAt_0 : decode cX6_hasBlankAt 0 = .ok (.aload_n 0, 1) := by decide +kernel
theorem dX6_hasBlankAt_1 : decode cX6_hasBlankAt 1 = .ok (.iload_n 1, 1) := by decide +kernel
theorem dX6_hasBlankAt_2 : decode cX6_hasBlankAt 2 = .ok (.invokevirtual 19, 3) := by decide +kernel
theorem dX6_hasBlankAt_5 : decode cX6_hasBlankAt 5 = .ok (.bipush 32, 2) := by decide +kernel
theorem dX6_hasBlankAt_7 : decode cX6_hasBlankAt 7 = .ok (.if_icmp .eq 13, 3) := by decide +kernel
theorem dX6_hasBlankAt_10 : decode cX6_hasBlankAt 10 = .ok (.aload_n 0, 1) := by decide +kernel
theorem dX6_hasBlankAt_11 : decode cX6_hasBlankAt 11 = .ok (.iload_n 1, 1) := by decide +kernel
theorem dX6_hasBlankAt_12 : decode cX6_hasBlankAt 12 = .ok (.invokevirtual 19, 3) := by decide +kernel
theorem dX6_hasBlankAt_15 : decode cX6_hasBlankAt 15 = .ok (.bipush 10, 2) := by decide +kernel
theorem dX6_hasBlankAt_17 : decode cX6_hasBlankAt 17 = .ok (.if_icmp .ne 7, 3) := by decide +kernel
theorem dX6_hasBlankAt_20 : decode cX6_hasBlankAt 20 = .ok (.iconst 1, 1) := by decide +kernel
theorem dX6_hasBlankAt_21 : decode cX6_hasBlankAt 21 = .ok (.goto 4, 3) := by decide +kernel
theorem dX6_hasBlankAt_24 : decode cX6_hasBlankAt 24 = .ok (.iconst 0, 1) := by decide +kernel
theorem dX6_hasBlankAt_25 : decode cX6_hasBlankAt 25 = .ok (.ireturn, 1) := by decide +kernel
def pX6_hasBlankAt (x1 : Int32) (M : Mm) : Option (Int32) :=
(pX6_byteAt x1 M).bind fun v1 =>
if v1 = 32 then
(some 1)
else
((pX6_byteAt x1 M).bind fun v3 =>
if v3 = 10 then
(some 1)
else
(some 0))
abbrev zX6_hasBlankAt : Zx := (cX6_hasBlankAt, RX6, 2, 1, (some .boolean))
set_option maxRecDepth 100000 in
set_option maxHeartbeats 4000000 in
theorem tX6_hasBlankAt {l : Launch} {Y : Sx} {M : Mm} {x1 : Int32} {q : Int32} (hY : isA Y) (h : pX6_hasBlankAt x1 M = some q) : Ct l Y yX6_hasBlankAt cX6_hasBlankAt 2 (some .boolean) 1 [.ref (adr Y 29), .int x1] M (some q) M := by
  refine Ct.of (by decide) rfl (lv := [(0, .ref (adr Y 29)), (1, .int x1)]) rfl ?_
  intro K hkl C
  change Cx K zX6_hasBlankAt Y at C
  subst hkl
  unfold pX6_hasBlankAt at h
  show Wp K zX6_hasBlankAt Y (Qm K Y (some q) M) M 0 [(0, .ref (adr Y 29)), (1, .int x1)] []
  refine w_aload_n C (pc := 0) dX6_hasBlankAt_0 0 rfl ?_
  refine w_iload_n C (pc := 1) dX6_hasBlankAt_1 1 rfl ?_
  obtain ⟨v1, e2, h⟩ := ob h
  refine w_cVi C (pc := 2) dX6_hasBlankAt_2 my_X6_byteAt mi_X6_byteAt ml_X6_19 (sA_29 hY) rfl rfl rfl [.int x1] rfl rfl (Nat.le_of_ble_eq_true rfl) (tX6_byteAt hY  e2) ?_
  refine w_bipush C (pc := 5) dX6_hasBlankAt_5 (v := 32) (by decide) ?_
  refine w_iceq C (pc := 7) 20 dX6_hasBlankAt_7 (by decide) (fun c => ?_) (fun c => ?_)
  · have h := it_t h c
    refine w_iconst C (pc := 20) dX6_hasBlankAt_20 (v := 1) (by decide) ?_
    refine w_goto C (pc := 21) 25 dX6_hasBlankAt_21 (by decide) ?_
    exact w_retzR C (pc := 25) dX6_hasBlankAt_25 rfl (by decide) (Option.some.inj h)
  · have h := it_f h c
    refine w_aload_n C (pc := 10) dX6_hasBlankAt_10 0 rfl ?_
    refine w_iload_n C (pc := 11) dX6_hasBlankAt_11 1 rfl ?_
    obtain ⟨v3, e4, h⟩ := ob h
    refine w_cVi C (pc := 12) dX6_hasBlankAt_12 my_X6_byteAt mi_X6_byteAt ml_X6_19 (sA_29 hY) rfl rfl rfl [.int x1] rfl rfl (Nat.le_of_ble_eq_true rfl) (tX6_byteAt hY  e4) ?_
    refine w_bipush C (pc := 15) dX6_hasBlankAt_15 (v := 10) (by decide) ?_
    refine w_icne C (pc := 17) 24 dX6_hasBlankAt_17 (by decide) (fun c => ?_) (fun c => ?_)
    · have h := it_t h c
      refine w_iconst C (pc := 20) dX6_hasBlankAt_20 (v := 1) (by decide) ?_
      refine w_goto C (pc := 21) 25 dX6_hasBlankAt_21 (by decide) ?_
      exact w_retzR C (pc := 25) dX6_hasBlankAt_25 rfl (by decide) (Option.some.inj h)
    · have h := it_f h c
      refine w_iconst C (pc := 24) dX6_hasBlankAt_24 (v := 0) (by decide) ?_
      exact w_retzR C (pc := 25) dX6_hasBlankAt_25 rfl (by decide) (Option.some.inj h)
theorem dX6_hasDigitAt_0 : decode cX6_hasDigitAt 0 = .ok (.aload_n 0, 1) := by decide +kernel
theorem dX6_hasDigitAt_1 : decode cX6_hasDigitAt 1 = .ok (.iload_n 1, 1) := by decide +kernel
theorem dX6_hasDigitAt_2 : decode cX6_hasDigitAt 2 = .ok (.invokevirtual 19, 3) := by decide +kernel
theorem dX6_hasDigitAt_5 : decode cX6_hasDigitAt 5 = .ok (.bipush 48, 2) := by decide +kernel
theorem dX6_hasDigitAt_7 : decode cX6_hasDigitAt 7 = .ok (.if_icmp .lt 17, 3) := by decide +kernel
theorem dX6_hasDigitAt_10 : decode cX6_hasDigitAt 10 = .ok (.aload_n 0, 1) := by decide +kernel
theorem dX6_hasDigitAt_11 : decode cX6_hasDigitAt 11 = .ok (.iload_n 1, 1) := by decide +kernel
theorem dX6_hasDigitAt_12 : decode cX6_hasDigitAt 12 = .ok (.invokevirtual 19, 3) := by decide +kernel
theorem dX6_hasDigitAt_15 : decode cX6_hasDigitAt 15 = .ok (.bipush 57, 2) := by decide +kernel
theorem dX6_hasDigitAt_17 : decode cX6_hasDigitAt 17 = .ok (.if_icmp .gt 7, 3) := by decide +kernel
theorem dX6_hasDigitAt_20 : decode cX6_hasDigitAt 20 = .ok (.iconst 1, 1) := by decide +kernel
theorem dX6_hasDigitAt_21 : decode cX6_hasDigitAt 21 = .ok (.goto 4, 3) := by decide +kernel
theorem dX6_hasDigitAt_24 : decode cX6_hasDigitAt 24 = .ok (.iconst 0, 1) := by decide +kernel
theorem dX6_hasDigitAt_25 : decode cX6_hasDigitAt 25 = .ok (.ireturn, 1) := by decide +kernel
def pX6_hasDigitAt (x1 : Int32) (M : Mm) : Option (Int32) :=
(pX6_byteAt x1 M).bind fun v1 =>
if v1 < 48 then
(some 0)
else
((pX6_byteAt x1 M).bind fun v3 =>
if 57 < v3 then
(some 0)
else
(some 1))
abbrev zX6_hasDigitAt : Zx := (cX6_hasDigitAt, RX6, 2, 1, (some .boolean))
set_option maxRecDepth 100000 in
set_option maxHeartbeats 4000000 in
theorem tX6_hasDigitAt {l : Launch} {Y : Sx} {M : Mm} {x1 : Int32} {q : Int32} (hY : isA Y) (h : pX6_hasDigitAt x1 M = some q) : Ct l Y yX6_hasDigitAt cX6_hasDigitAt 2 (some .boolean) 1 [.ref (adr Y 29), .int x1] M (some q) M := by
  refine Ct.of (by decide) rfl (lv := [(0, .ref (adr Y 29)), (1, .int x1)]) rfl ?_
  intro K hkl C
  change Cx K zX6_hasDigitAt Y at C
  subst hkl
  unfold pX6_hasDigitAt at h
  show Wp K zX6_hasDigitAt Y (Qm K Y (some q) M) M 0 [(0, .ref (adr Y 29)), (1, .int x1)] []
  refine w_aload_n C (pc := 0) dX6_hasDigitAt_0 0 rfl ?_
  refine w_iload_n C (pc := 1) dX6_hasDigitAt_1 1 rfl ?_
  obtain ⟨v1, e2, h⟩ := ob h
  refine w_cVi C (pc := 2) dX6_hasDigitAt_2 my_X6_byteAt mi_X6_byteAt ml_X6_19 (sA_29 hY) rfl rfl rfl [.int x1] rfl rfl (Nat.le_of_ble_eq_true rfl) (tX6_byteAt hY  e2) ?_
  refine w_bipush C (pc := 5) dX6_hasDigitAt_5 (v := 48) (by decide) ?_
  refine w_iclt C (pc := 7) 24 dX6_hasDigitAt_7 (by decide) (fun c => ?_) (fun c => ?_)
  · have h := it_t h c
    refine w_iconst C (pc := 24) dX6_hasDigitAt_24 (v := 0) (by decide) ?_
    exact w_retzR C (pc := 25) dX6_hasDigitAt_25 rfl (by decide) (Option.some.inj h)
  · have h := it_f h c
    refine w_aload_n C (pc := 10) dX6_hasDigitAt_10 0 rfl ?_
    refine w_iload_n C (pc := 11) dX6_hasDigitAt_11 1 rfl ?_
    obtain ⟨v3, e4, h⟩ := ob h
    refine w_cVi C (pc := 12) dX6_hasDigitAt_12 my_X6_byteAt mi_X6_byteAt ml_X6_19 (sA_29 hY) rfl rfl rfl [.int x1] rfl rfl (Nat.le_of_ble_eq_true rfl) (tX6_byteAt hY  e4) ?_
    refine w_bipush C (pc := 15) dX6_hasDigitAt_15 (v := 57) (by decide) ?_
    refine w_icgt C (pc := 17) 24 dX6_hasDigitAt_17 (by decide) (fun c => ?_) (fun c => ?_)
    · have h := it_t h c
      refine w_iconst C (pc := 24) dX6_hasDigitAt_24 (v := 0) (by decide) ?_
      exact w_retzR C (pc := 25) dX6_hasDigitAt_25 rfl (by decide) (Option.some.inj h)
    · have h := it_f h c
      refine w_iconst C (pc := 20) dX6_hasDigitAt_20 (v := 1) (by decide) ?_
      refine w_goto C (pc := 21) 25 dX6_hasDigitAt_21 (by decide) ?_
      exact w_retzR C (pc := 25) dX6_hasDigitAt_25 rfl (by decide) (Option.some.inj h)
theorem dX6_hasLetterAt_0 : decode cX6_hasLetterAt 0 = .ok (.aload_n 0, 1) := by decide +kernel
theorem dX6_hasLetterAt_1 : decode cX6_hasLetterAt 1 = .ok (.iload_n 1, 1) := by decide +kernel
theorem dX6_hasLetterAt_2 : decode cX6_hasLetterAt 2 = .ok (.invokevirtual 19, 3) := by decide +kernel
theorem dX6_hasLetterAt_5 : decode cX6_hasLetterAt 5 = .ok (.bipush 97, 2) := by decide +kernel
theorem dX6_hasLetterAt_7 : decode cX6_hasLetterAt 7 = .ok (.if_icmp .lt 17, 3) := by decide +kernel
theorem dX6_hasLetterAt_10 : decode cX6_hasLetterAt 10 = .ok (.aload_n 0, 1) := by decide +kernel
theorem dX6_hasLetterAt_11 : decode cX6_hasLetterAt 11 = .ok (.iload_n 1, 1) := by decide +kernel
theorem dX6_hasLetterAt_12 : decode cX6_hasLetterAt 12 = .ok (.invokevirtual 19, 3) := by decide +kernel
theorem dX6_hasLetterAt_15 : decode cX6_hasLetterAt 15 = .ok (.bipush 122, 2) := by decide +kernel
theorem dX6_hasLetterAt_17 : decode cX6_hasLetterAt 17 = .ok (.if_icmp .gt 7, 3) := by decide +kernel
theorem dX6_hasLetterAt_20 : decode cX6_hasLetterAt 20 = .ok (.iconst 1, 1) := by decide +kernel
theorem dX6_hasLetterAt_21 : decode cX6_hasLetterAt 21 = .ok (.goto 4, 3) := by decide +kernel
theorem dX6_hasLetterAt_24 : decode cX6_hasLetterAt 24 = .ok (.iconst 0, 1) := by decide +kernel
theorem dX6_hasLetterAt_25 : decode cX6_hasLetterAt 25 = .ok (.ireturn, 1) := by decide +kernel
def pX6_hasLetterAt (x1 : Int32) (M : Mm) : Option (Int32) :=
(pX6_byteAt x1 M).bind fun v1 =>
if v1 < 97 then
(some 0)
else
((pX6_byteAt x1 M).bind fun v3 =>
if 122 < v3 then
(some 0)
else
(some 1))
abbrev zX6_hasLetterAt : Zx := (cX6_hasLetterAt, RX6, 2, 1, (some .boolean))
set_option maxRecDepth 100000 in
set_option maxHeartbeats 4000000 in
theorem tX6_hasLetterAt {l : Launch} {Y : Sx} {M : Mm} {x1 : Int32} {q : Int32} (hY : isA Y) (h : pX6_hasLetterAt x1 M = some q) : Ct l Y yX6_hasLetterAt cX6_hasLetterAt 2 (some .boolean) 1 [.ref (adr Y 29), .int x1] M (some q) M := by
  refine Ct.of (by decide) rfl (lv := [(0, .ref (adr Y 29)), (1, .int x1)]) rfl ?_
  intro K hkl C
  change Cx K zX6_hasLetterAt Y at C
  subst hkl
  unfold pX6_hasLetterAt at h
  show Wp K zX6_hasLetterAt Y (Qm K Y (some q) M) M 0 [(0, .ref (adr Y 29)), (1, .int x1)] []
  refine w_aload_n C (pc := 0) dX6_hasLetterAt_0 0 rfl ?_
  refine w_iload_n C (pc := 1) dX6_hasLetterAt_1 1 rfl ?_
  obtain ⟨v1, e2, h⟩ := ob h
  refine w_cVi C (pc := 2) dX6_hasLetterAt_2 my_X6_byteAt mi_X6_byteAt ml_X6_19 (sA_29 hY) rfl rfl rfl [.int x1] rfl rfl (Nat.le_of_ble_eq_true rfl) (tX6_byteAt hY  e2) ?_
  refine w_bipush C (pc := 5) dX6_hasLetterAt_5 (v := 97) (by decide) ?_
  refine w_iclt C (pc := 7) 24 dX6_hasLetterAt_7 (by decide) (fun c => ?_) (fun c => ?_)
  · have h := it_t h c
    refine w_iconst C (pc := 24) dX6_hasLetterAt_24 (v := 0) (by decide) ?_
    exact w_retzR C (pc := 25) dX6_hasLetterAt_25 rfl (by decide) (Option.some.inj h)
  · have h := it_f h c
    refine w_aload_n C (pc := 10) dX6_hasLetterAt_10 0 rfl ?_
    refine w_iload_n C (pc := 11) dX6_hasLetterAt_11 1 rfl ?_
    obtain ⟨v3, e4, h⟩ := ob h
    refine w_cVi C (pc := 12) dX6_hasLetterAt_12 my_X6_byteAt mi_X6_byteAt ml_X6_19 (sA_29 hY) rfl rfl rfl [.int x1] rfl rfl (Nat.le_of_ble_eq_true rfl) (tX6_byteAt hY  e4) ?_
    refine w_bipush C (pc := 15) dX6_hasLetterAt_15 (v := 122) (by decide) ?_
    refine w_icgt C (pc := 17) 24 dX6_hasLetterAt_17 (by decide) (fun c => ?_) (fun c => ?_)
    · have h := it_t h c
      refine w_iconst C (pc := 24) dX6_hasLetterAt_24 (v := 0) (by decide) ?_
      exact w_retzR C (pc := 25) dX6_hasLetterAt_25 rfl (by decide) (Option.some.inj h)
    · have h := it_f h c
      refine w_iconst C (pc := 20) dX6_hasLetterAt_20 (v := 1) (by decide) ?_
      refine w_goto C (pc := 21) 25 dX6_hasLetterAt_21 (by decide) ?_
      exact w_retzR C (pc := 25) dX6_hasLetterAt_25 rfl (by decide) (Option.some.inj h)
end
section
theorem dX1_empty_0 : decode cX1_empty 0 = .ok (.aload_n 0, 1) := by decide +kernel
theorem dX1_empty_1 : decode cX1_empty 1 = .ok (.iconst 0, 1) := by decide +kernel
theorem dX1_empty_2 : decode cX1_empty 2 = .ok (.putfield 15, 3) := by decide +kernel
theorem dX1_empty_5 : decode cX1_empty 5 = .ok (.return_, 1) := by decide +kernel
def pX1_empty (M : Mm) : Mm :=
bnd (mset M 8 0 0) fun M1 =>
M1
abbrev zX1_empty : Zx := (cX1_empty, RX1, 1, 0, none)
set_option maxRecDepth 100000 in
set_option maxHeartbeats 4000000 in
theorem tX1_empty {l : Launch} {Y : Sx} {M : Mm} {q : Mm} (hY : isA Y) (h : pX1_empty M = q) : Ct l Y yX1_empty cX1_empty 1 none 0 [.ref (adr Y 8)] M none q := by
  refine Ct.of (by decide) rfl (lv := [(0, .ref (adr Y 8))]) rfl ?_
  intro K hkl C
  change Cx K zX1_empty Y at C
  subst hkl
  unfold pX1_empty at h
  show Wp K zX1_empty Y (Qm K Y none q) M 0 [(0, .ref (adr Y 8))] []
  refine w_aload_n C (pc := 0) dX1_empty_0 0 rfl ?_
  refine w_iconst C (pc := 1) dX1_empty_1 (v := 0) (by decide) ?_
  obtain ⟨M1, e2, h⟩ := bn h
  refine w_putI C (pc := 2) dX1_empty_2 fp_X1_15 (sA_8 hY) rfl ?_
  rw [e2]
  exact w_retV C (pc := 5) dX1_empty_5 rfl h
theorem dX1_note_0 : decode cX1_note 0 = .ok (.aload_n 0, 1) := by decide +kernel
theorem dX1_note_1 : decode cX1_note 1 = .ok (.getfield 15, 3) := by decide +kernel
theorem dX1_note_4 : decode cX1_note 4 = .ok (.bipush 26, 2) := by decide +kernel
theorem dX1_note_6 : decode cX1_note 6 = .ok (.if_icmp .lt 4, 3) := by decide +kernel
theorem dX1_note_9 : decode cX1_note 9 = .ok (.return_, 1) := by decide +kernel
theorem dX1_note_10 : decode cX1_note 10 = .ok (.iload_n 1, 1) := by decide +kernel
theorem dX1_note_11 : decode cX1_note 11 = .ok (.bipush 8, 2) := by decide +kernel
theorem dX1_note_13 : decode cX1_note 13 = .ok (.imul, 1) := by decide +kernel
theorem dX1_note_14 : decode cX1_note 14 = .ok (.iload_n 2, 1) := by decide +kernel
theorem dX1_note_15 : decode cX1_note 15 = .ok (.iadd, 1) := by decide +kernel
theorem dX1_note_16 : decode cX1_note 16 = .ok (.bipush 16, 2) := by decide +kernel
theorem dX1_note_18 : decode cX1_note 18 = .ok (.imul, 1) := by decide +kernel
theorem dX1_note_19 : decode cX1_note 19 = .ok (.iload_n 3, 1) := by decide +kernel
theorem dX1_note_20 : decode cX1_note 20 = .ok (.iadd, 1) := by decide +kernel
theorem dX1_note_21 : decode cX1_note 21 = .ok (.iconst 4, 1) := by decide +kernel
theorem dX1_note_22 : decode cX1_note 22 = .ok (.imul, 1) := by decide +kernel
theorem dX1_note_23 : decode cX1_note 23 = .ok (.iload 4, 2) := by decide +kernel
theorem dX1_note_25 : decode cX1_note 25 = .ok (.iadd, 1) := by decide +kernel
theorem dX1_note_26 : decode cX1_note 26 = .ok (.iconst 1, 1) := by decide +kernel
theorem dX1_note_27 : decode cX1_note 27 = .ok (.iadd, 1) := by decide +kernel
theorem dX1_note_28 : decode cX1_note 28 = .ok (.istore 5, 2) := by decide +kernel
theorem dX1_note_30 : decode cX1_note 30 = .ok (.aload_n 0, 1) := by decide +kernel
theorem dX1_note_31 : decode cX1_note 31 = .ok (.getfield 15, 3) := by decide +kernel
theorem dX1_note_34 : decode cX1_note 34 = .ok (.istore 6, 2) := by decide +kernel
theorem dX1_note_36 : decode cX1_note 36 = .ok (.iload 6, 2) := by decide +kernel
theorem dX1_note_38 : decode cX1_note 38 = .ok (.ifCond .le 39, 3) := by decide +kernel
theorem dX1_note_41 : decode cX1_note 41 = .ok (.aload_n 0, 1) := by decide +kernel
theorem dX1_note_42 : decode cX1_note 42 = .ok (.getfield 11, 3) := by decide +kernel
theorem dX1_note_45 : decode cX1_note 45 = .ok (.iload 6, 2) := by decide +kernel
theorem dX1_note_47 : decode cX1_note 47 = .ok (.iconst 1, 1) := by decide +kernel
theorem dX1_note_48 : decode cX1_note 48 = .ok (.isub, 1) := by decide +kernel
theorem dX1_note_49 : decode cX1_note 49 = .ok (.iaload, 1) := by decide +kernel
theorem dX1_note_50 : decode cX1_note 50 = .ok (.iload 5, 2) := by decide +kernel
theorem dX1_note_52 : decode cX1_note 52 = .ok (.if_icmp .le 25, 3) := by decide +kernel
theorem dX1_note_55 : decode cX1_note 55 = .ok (.aload_n 0, 1) := by decide +kernel
theorem dX1_note_56 : decode cX1_note 56 = .ok (.getfield 11, 3) := by decide +kernel
theorem dX1_note_59 : decode cX1_note 59 = .ok (.iload 6, 2) := by decide +kernel
theorem dX1_note_61 : decode cX1_note 61 = .ok (.aload_n 0, 1) := by decide +kernel
theorem dX1_note_62 : decode cX1_note 62 = .ok (.getfield 11, 3) := by decide +kernel
theorem dX1_note_65 : decode cX1_note 65 = .ok (.iload 6, 2) := by decide +kernel
theorem dX1_note_67 : decode cX1_note 67 = .ok (.iconst 1, 1) := by decide +kernel
theorem dX1_note_68 : decode cX1_note 68 = .ok (.isub, 1) := by decide +kernel
theorem dX1_note_69 : decode cX1_note 69 = .ok (.iaload, 1) := by decide +kernel
theorem dX1_note_70 : decode cX1_note 70 = .ok (.iastore, 1) := by decide +kernel
theorem dX1_note_71 : decode cX1_note 71 = .ok (.iinc 6 (-1), 3) := by decide +kernel
theorem dX1_note_74 : decode cX1_note 74 = .ok (.goto (-38), 3) := by decide +kernel
theorem dX1_note_77 : decode cX1_note 77 = .ok (.aload_n 0, 1) := by decide +kernel
theorem dX1_note_78 : decode cX1_note 78 = .ok (.getfield 11, 3) := by decide +kernel
theorem dX1_note_81 : decode cX1_note 81 = .ok (.iload 6, 2) := by decide +kernel
theorem dX1_note_83 : decode cX1_note 83 = .ok (.iload 5, 2) := by decide +kernel
theorem dX1_note_85 : decode cX1_note 85 = .ok (.iastore, 1) := by decide +kernel
theorem dX1_note_86 : decode cX1_note 86 = .ok (.aload_n 0, 1) := by decide +kernel
theorem dX1_note_87 : decode cX1_note 87 = .ok (.dup, 1) := by decide +kernel
theorem dX1_note_88 : decode cX1_note 88 = .ok (.getfield 15, 3) := by decide +kernel
theorem dX1_note_91 : decode cX1_note 91 = .ok (.iconst 1, 1) := by decide +kernel
theorem dX1_note_92 : decode cX1_note 92 = .ok (.iadd, 1) := by decide +kernel
theorem dX1_note_93 : decode cX1_note 93 = .ok (.putfield 15, 3) := by decide +kernel
theorem dX1_note_96 : decode cX1_note 96 = .ok (.return_, 1) := by decide +kernel
def pX1_note_L36 (x5 : Int32) (s : Int32 × Mm) : Option ((Int32 × Mm) ⊕ (Int32 × Mm)) :=
if s.1 ≤ 0 then
(some (Sum.inr (s.1, s.2)))
else
((ald s.2 9 26 (s.1 - 1)).bind fun v3 =>
if v3 ≤ x5 then
(some (Sum.inr (s.1, s.2)))
else
((ald s.2 9 26 (s.1 - 1)).bind fun v5 =>
(ast s.2 9 26 s.1 v5).bind fun M7 =>
some (Sum.inl (s.1 + (-1), M7))))
def pX1_note (x1 : Int32) (x2 : Int32) (x3 : Int32) (x4 : Int32) (M : Mm) : Option (Mm) :=
if (M 8 0) < 26 then
(bnd (((((((x1 * 8) + x2) * 16) + x3) * 4) + x4) + 1) fun v1 =>
bnd (M 8 0) fun v2 =>
(itr (pX1_note_L36 v1) fuel (v2, M)).bind fun x9 =>
(ast x9.2 9 26 x9.1 v1).bind fun M22 =>
bnd (mset M22 8 0 ((M22 8 0) + 1)) fun M24 =>
some M24)
else
(some M)
abbrev zX1_note : Zx := (cX1_note, RX1, 7, 0, none)
set_option maxRecDepth 100000 in
set_option maxHeartbeats 4000000 in
theorem tX1_note {l : Launch} {Y : Sx} {M : Mm} {x1 : Int32} {x2 : Int32} {x3 : Int32} {x4 : Int32} {q : Mm} (hY : isA Y) (h : pX1_note x1 x2 x3 x4 M = some q) : Ct l Y yX1_note cX1_note 7 none 0 [.ref (adr Y 8), .int x1, .int x2, .int x3, .int x4] M none q := by
  refine Ct.of (by decide) rfl (lv := [(0, .ref (adr Y 8)), (1, .int x1), (2, .int x2), (3, .int x3), (4, .int x4)]) rfl ?_
  intro K hkl C
  change Cx K zX1_note Y at C
  subst hkl
  unfold pX1_note at h
  show Wp K zX1_note Y (Qm K Y none q) M 0 [(0, .ref (adr Y 8)), (1, .int x1), (2, .int x2), (3, .int x3), (4, .int x4)] []
  refine w_aload_n C (pc := 0) dX1_note_0 0 rfl ?_
  refine w_getI C (pc := 1) dX1_note_1 f_X1_15 (sA_8 hY) rfl ?_
  refine w_bipush C (pc := 4) dX1_note_4 (v := 26) (by decide) ?_
  refine w_iclt C (pc := 6) 10 dX1_note_6 (by decide) (fun c => ?_) (fun c => ?_)
  · have h := it_t h c
    refine w_iload_n C (pc := 10) dX1_note_10 1 rfl ?_
    refine w_bipush C (pc := 11) dX1_note_11 (v := 8) (by decide) ?_
    refine w_imul C (pc := 13) dX1_note_13 ?_
    refine w_iload_n C (pc := 14) dX1_note_14 2 rfl ?_
    refine w_iadd C (pc := 15) dX1_note_15 ?_
    refine w_bipush C (pc := 16) dX1_note_16 (v := 16) (by decide) ?_
    refine w_imul C (pc := 18) dX1_note_18 ?_
    refine w_iload_n C (pc := 19) dX1_note_19 3 rfl ?_
    refine w_iadd C (pc := 20) dX1_note_20 ?_
    refine w_iconst C (pc := 21) dX1_note_21 (v := 4) (by decide) ?_
    refine w_imul C (pc := 22) dX1_note_22 ?_
    refine w_iload C (pc := 23) dX1_note_23 4 rfl ?_
    refine w_iadd C (pc := 25) dX1_note_25 ?_
    refine w_iconst C (pc := 26) dX1_note_26 (v := 1) (by decide) ?_
    refine w_iadd C (pc := 27) dX1_note_27 ?_
    refine w_bnd h (fun v1 h => ?_)
    refine w_istore C (pc := 28) dX1_note_28 (lv' := [(0, .ref (adr Y 8)), (1, .int x1), (2, .int x2), (3, .int x3), (4, .int x4), (5, .int v1)]) rfl rfl rfl ?_
    refine w_aload_n C (pc := 30) dX1_note_30 0 rfl ?_
    refine w_getI C (pc := 31) dX1_note_31 f_X1_15 (sA_8 hY) rfl ?_
    refine w_bnd h (fun v2 h => ?_)
    refine w_istore C (pc := 34) dX1_note_34 (lv' := [(0, .ref (adr Y 8)), (1, .int x1), (2, .int x2), (3, .int x3), (4, .int x4), (5, .int v1), (6, .int v2)]) rfl rfl rfl ?_
    obtain ⟨x9, e10, h⟩ := ob h
    refine itr_W (P := fun s11 => Wp K zX1_note Y (Qm K Y none q) s11.2 36 [(0, .ref (adr Y 8)), (1, .int x1), (2, .int x2), (3, .int x3), (4, .int x4), (5, .int v1), (6, .int s11.1)] []) (R := fun x9 => Wp K zX1_note Y (Qm K Y none q) x9.2 77 [(0, .ref (adr Y 8)), (1, .int x1), (2, .int x2), (3, .int x3), (4, .int x4), (5, .int v1), (6, .int x9.1)] []) ?_ fuel (v2, M) x9 e10 ?_
    · intro s11 r12 h15 ki13 kx14
      unfold pX1_note_L36 at h15
      show Wp K zX1_note Y (Qm K Y none q) s11.2 36 [(0, .ref (adr Y 8)), (1, .int x1), (2, .int x2), (3, .int x3), (4, .int x4), (5, .int v1), (6, .int s11.1)] []
      refine w_iload C (pc := 36) dX1_note_36 6 rfl ?_
      refine w_ifle C (pc := 38) 77 dX1_note_38 (by decide) (fun c => ?_) (fun c => ?_)
      · have h15 := it_t h15 c
        obtain rfl := Option.some.inj h15
        exact kx14 _ rfl
      · have h15 := it_f h15 c
        refine w_aload_n C (pc := 41) dX1_note_41 0 rfl ?_
        refine w_getR C (pc := 42) dX1_note_42 f_X1_11 (sA_8 hY) rfl ?_
        refine w_iload C (pc := 45) dX1_note_45 6 rfl ?_
        refine w_iconst C (pc := 47) dX1_note_47 (v := 1) (by decide) ?_
        refine w_isub C (pc := 48) dX1_note_48 ?_
        obtain ⟨v16, e17, h15⟩ := ob h15
        refine w_iald C (pc := 49) dX1_note_49 (sA_9 hY) e17 ?_
        refine w_iload C (pc := 50) dX1_note_50 5 rfl ?_
        refine w_icle C (pc := 52) 77 dX1_note_52 (by decide) (fun c => ?_) (fun c => ?_)
        · have h15 := it_t h15 c
          obtain rfl := Option.some.inj h15
          exact kx14 _ rfl
        · have h15 := it_f h15 c
          refine w_aload_n C (pc := 55) dX1_note_55 0 rfl ?_
          refine w_getR C (pc := 56) dX1_note_56 f_X1_11 (sA_8 hY) rfl ?_
          refine w_iload C (pc := 59) dX1_note_59 6 rfl ?_
          refine w_aload_n C (pc := 61) dX1_note_61 0 rfl ?_
          refine w_getR C (pc := 62) dX1_note_62 f_X1_11 (sA_8 hY) rfl ?_
          refine w_iload C (pc := 65) dX1_note_65 6 rfl ?_
          refine w_iconst C (pc := 67) dX1_note_67 (v := 1) (by decide) ?_
          refine w_isub C (pc := 68) dX1_note_68 ?_
          obtain ⟨v18, e19, h15⟩ := ob h15
          refine w_iald C (pc := 69) dX1_note_69 (sA_9 hY) e19 ?_
          obtain ⟨M20, e21, h15⟩ := ob h15
          refine w_iast C (pc := 70) dX1_note_70 (sA_9 hY) e21 ?_
          refine w_iinc C (pc := 71) dX1_note_71 6 rfl (v := (-1)) (lv' := [(0, .ref (adr Y 8)), (1, .int x1), (2, .int x2), (3, .int x3), (4, .int x4), (5, .int v1), (6, .int (s11.1 + (-1)))]) (by decide) rfl rfl rfl ?_
          refine w_goto C (pc := 74) 36 dX1_note_74 (by decide) ?_
          obtain rfl := Option.some.inj h15
          exact ki13 _ rfl
    · refine w_aload_n C (pc := 77) dX1_note_77 0 rfl ?_
      refine w_getR C (pc := 78) dX1_note_78 f_X1_11 (sA_8 hY) rfl ?_
      refine w_iload C (pc := 81) dX1_note_81 6 rfl ?_
      refine w_iload C (pc := 83) dX1_note_83 5 rfl ?_
      obtain ⟨M22, e23, h⟩ := ob h
      refine w_iast C (pc := 85) dX1_note_85 (sA_9 hY) e23 ?_
      refine w_aload_n C (pc := 86) dX1_note_86 0 rfl ?_
      refine w_dup C (pc := 87) dX1_note_87 rfl ?_
      refine w_getI C (pc := 88) dX1_note_88 f_X1_15 (sA_8 hY) rfl ?_
      refine w_iconst C (pc := 91) dX1_note_91 (v := 1) (by decide) ?_
      refine w_iadd C (pc := 92) dX1_note_92 ?_
      obtain ⟨M24, e25, h⟩ := bn h
      refine w_putI C (pc := 93) dX1_note_93 fp_X1_15 (sA_8 hY) rfl ?_
      rw [e25]
      exact w_retV C (pc := 96) dX1_note_96 rfl (Option.some.inj h)
  · have h := it_f h c
    exact w_retV C (pc := 9) dX1_note_9 rfl (Option.some.inj h)
theorem dX1_part_0 : decode cX1_part 0 = .ok (.iload_n 1, 1) := by decide +kernel
theorem dX1_part_1 : decode cX1_part 1 = .ok (.ifCond .lt 11, 3) := by decide +kernel
theorem dX1_part_4 : decode cX1_part 4 = .ok (.iload_n 1, 1) := by decide +kernel
theorem dX1_part_5 : decode cX1_part 5 = .ok (.aload_n 0, 1) := by decide +kernel
theorem dX1_part_6 : decode cX1_part 6 = .ok (.getfield 15, 3) := by decide +kernel
theorem dX1_part_9 : decode cX1_part 9 = .ok (.if_icmp .lt 6, 3) := by decide +kernel
theorem dX1_part_12 : decode cX1_part 12 = .ok (.bipush (-2), 2) := by decide +kernel
theorem dX1_part_14 : decode cX1_part 14 = .ok (.ireturn, 1) := by decide +kernel
theorem dX1_part_15 : decode cX1_part 15 = .ok (.aload_n 0, 1) := by decide +kernel
theorem dX1_part_16 : decode cX1_part 16 = .ok (.getfield 11, 3) := by decide +kernel
theorem dX1_part_19 : decode cX1_part 19 = .ok (.iload_n 1, 1) := by decide +kernel
theorem dX1_part_20 : decode cX1_part 20 = .ok (.iaload, 1) := by decide +kernel
theorem dX1_part_21 : decode cX1_part 21 = .ok (.istore_n 3, 1) := by decide +kernel
theorem dX1_part_22 : decode cX1_part 22 = .ok (.iload_n 2, 1) := by decide +kernel
theorem dX1_part_23 : decode cX1_part 23 = .ok (.tableswitch 56 0 3 #[29, 35, 43, 50], 29) := by decide +kernel
theorem dX1_part_52 : decode cX1_part 52 = .ok (.iload_n 3, 1) := by decide +kernel
theorem dX1_part_53 : decode cX1_part 53 = .ok (.sipush 512, 3) := by decide +kernel
theorem dX1_part_56 : decode cX1_part 56 = .ok (.idiv, 1) := by decide +kernel
theorem dX1_part_57 : decode cX1_part 57 = .ok (.ireturn, 1) := by decide +kernel
theorem dX1_part_58 : decode cX1_part 58 = .ok (.iload_n 3, 1) := by decide +kernel
theorem dX1_part_59 : decode cX1_part 59 = .ok (.bipush 64, 2) := by decide +kernel
theorem dX1_part_61 : decode cX1_part 61 = .ok (.idiv, 1) := by decide +kernel
theorem dX1_part_62 : decode cX1_part 62 = .ok (.bipush 8, 2) := by decide +kernel
theorem dX1_part_64 : decode cX1_part 64 = .ok (.irem, 1) := by decide +kernel
theorem dX1_part_65 : decode cX1_part 65 = .ok (.ireturn, 1) := by decide +kernel
theorem dX1_part_66 : decode cX1_part 66 = .ok (.iload_n 3, 1) := by decide +kernel
theorem dX1_part_67 : decode cX1_part 67 = .ok (.iconst 4, 1) := by decide +kernel
theorem dX1_part_68 : decode cX1_part 68 = .ok (.idiv, 1) := by decide +kernel
theorem dX1_part_69 : decode cX1_part 69 = .ok (.bipush 16, 2) := by decide +kernel
theorem dX1_part_71 : decode cX1_part 71 = .ok (.irem, 1) := by decide +kernel
theorem dX1_part_72 : decode cX1_part 72 = .ok (.ireturn, 1) := by decide +kernel
theorem dX1_part_73 : decode cX1_part 73 = .ok (.iload_n 3, 1) := by decide +kernel
theorem dX1_part_74 : decode cX1_part 74 = .ok (.iconst 4, 1) := by decide +kernel
theorem dX1_part_75 : decode cX1_part 75 = .ok (.irem, 1) := by decide +kernel
theorem dX1_part_76 : decode cX1_part 76 = .ok (.iconst 1, 1) := by decide +kernel
theorem dX1_part_77 : decode cX1_part 77 = .ok (.isub, 1) := by decide +kernel
theorem dX1_part_78 : decode cX1_part 78 = .ok (.ireturn, 1) := by decide +kernel
theorem dX1_part_79 : decode cX1_part 79 = .ok (.bipush (-2), 2) := by decide +kernel
theorem dX1_part_81 : decode cX1_part 81 = .ok (.ireturn, 1) := by decide +kernel
def pX1_part (x1 : Int32) (x2 : Int32) (M : Mm) : Option (Int32) :=
if x1 < 0 then
(some (-2))
else
(if x1 < (M 8 0) then
((ald M 9 26 x1).bind fun v1 =>
if x2 = 0 then
(some (v1 / 512))
else
(if x2 = 1 then
(some (rmi (v1 / 64) 8))
else
(if x2 = 2 then
(some (rmi (v1 / 4) 16))
else
(if x2 = 3 then
(some ((rmi v1 4) - 1))
else
(some (-2))))))
else
(some (-2)))
abbrev zX1_part : Zx := (cX1_part, RX1, 4, 0, (some .int))
set_option maxRecDepth 100000 in
set_option maxHeartbeats 4000000 in
theorem tX1_part {l : Launch} {Y : Sx} {M : Mm} {x1 : Int32} {x2 : Int32} {q : Int32} (hY : isA Y) (h : pX1_part x1 x2 M = some q) : Ct l Y yX1_part cX1_part 4 (some .int) 0 [.ref (adr Y 8), .int x1, .int x2] M (some q) M := by
  refine Ct.of (by decide) rfl (lv := [(0, .ref (adr Y 8)), (1, .int x1), (2, .int x2)]) rfl ?_
  intro K hkl C
  change Cx K zX1_part Y at C
  subst hkl
  unfold pX1_part at h
  show Wp K zX1_part Y (Qm K Y (some q) M) M 0 [(0, .ref (adr Y 8)), (1, .int x1), (2, .int x2)] []
  refine w_iload_n C (pc := 0) dX1_part_0 1 rfl ?_
  refine w_iflt C (pc := 1) 12 dX1_part_1 (by decide) (fun c => ?_) (fun c => ?_)
  · have h := it_t h c
    refine w_bipush C (pc := 12) dX1_part_12 (v := (-2)) (by decide) ?_
    exact w_retR C (pc := 14) dX1_part_14 rfl (Option.some.inj h)
  · have h := it_f h c
    refine w_iload_n C (pc := 4) dX1_part_4 1 rfl ?_
    refine w_aload_n C (pc := 5) dX1_part_5 0 rfl ?_
    refine w_getI C (pc := 6) dX1_part_6 f_X1_15 (sA_8 hY) rfl ?_
    refine w_iclt C (pc := 9) 15 dX1_part_9 (by decide) (fun c => ?_) (fun c => ?_)
    · have h := it_t h c
      refine w_aload_n C (pc := 15) dX1_part_15 0 rfl ?_
      refine w_getR C (pc := 16) dX1_part_16 f_X1_11 (sA_8 hY) rfl ?_
      refine w_iload_n C (pc := 19) dX1_part_19 1 rfl ?_
      obtain ⟨v1, e2, h⟩ := ob h
      refine w_iald C (pc := 20) dX1_part_20 (sA_9 hY) e2 ?_
      refine w_istore_n C (pc := 21) dX1_part_21 (lv' := [(0, .ref (adr Y 8)), (1, .int x1), (2, .int x2), (3, .int v1)]) rfl rfl rfl ?_
      refine w_iload_n C (pc := 22) dX1_part_22 2 rfl ?_
      by_cases c23_0 : x2 = 0
      · have h := it_t h c23_0
        refine w_swIn C (pc := 23) (v := 0) 52 dX1_part_23 c23_0 (by decide) (by decide) rfl (by decide) ?_
        refine w_iload_n C (pc := 52) dX1_part_52 3 rfl ?_
        refine w_sipush C (pc := 53) dX1_part_53 (v := 512) (by decide) ?_
        refine w_idiv C (pc := 56) dX1_part_56 (by decide) ?_
        exact w_retR C (pc := 57) dX1_part_57 rfl (Option.some.inj h)
      have h := it_f h c23_0
      by_cases c23_1 : x2 = 1
      · have h := it_t h c23_1
        refine w_swIn C (pc := 23) (v := 1) 58 dX1_part_23 c23_1 (by decide) (by decide) rfl (by decide) ?_
        refine w_iload_n C (pc := 58) dX1_part_58 3 rfl ?_
        refine w_bipush C (pc := 59) dX1_part_59 (v := 64) (by decide) ?_
        refine w_idiv C (pc := 61) dX1_part_61 (by decide) ?_
        refine w_bipush C (pc := 62) dX1_part_62 (v := 8) (by decide) ?_
        refine w_irem C (pc := 64) dX1_part_64 (by decide) ?_
        exact w_retR C (pc := 65) dX1_part_65 rfl (Option.some.inj h)
      have h := it_f h c23_1
      by_cases c23_2 : x2 = 2
      · have h := it_t h c23_2
        refine w_swIn C (pc := 23) (v := 2) 66 dX1_part_23 c23_2 (by decide) (by decide) rfl (by decide) ?_
        refine w_iload_n C (pc := 66) dX1_part_66 3 rfl ?_
        refine w_iconst C (pc := 67) dX1_part_67 (v := 4) (by decide) ?_
        refine w_idiv C (pc := 68) dX1_part_68 (by decide) ?_
        refine w_bipush C (pc := 69) dX1_part_69 (v := 16) (by decide) ?_
        refine w_irem C (pc := 71) dX1_part_71 (by decide) ?_
        exact w_retR C (pc := 72) dX1_part_72 rfl (Option.some.inj h)
      have h := it_f h c23_2
      by_cases c23_3 : x2 = 3
      · have h := it_t h c23_3
        refine w_swIn C (pc := 23) (v := 3) 73 dX1_part_23 c23_3 (by decide) (by decide) rfl (by decide) ?_
        refine w_iload_n C (pc := 73) dX1_part_73 3 rfl ?_
        refine w_iconst C (pc := 74) dX1_part_74 (v := 4) (by decide) ?_
        refine w_irem C (pc := 75) dX1_part_75 (by decide) ?_
        refine w_iconst C (pc := 76) dX1_part_76 (v := 1) (by decide) ?_
        refine w_isub C (pc := 77) dX1_part_77 ?_
        exact w_retR C (pc := 78) dX1_part_78 rfl (Option.some.inj h)
      have h := it_f h c23_3
      refine w_swOut C (pc := 23) 79 dX1_part_23 (by have q0 := lv_neT c23_0 (a := 0) rfl; have q1 := lv_neT c23_1 (a := 1) rfl; have q2 := lv_neT c23_2 (a := 2) rfl; have q3 := lv_neT c23_3 (a := 3) rfl; omega) (by decide) ?_
      refine w_bipush C (pc := 79) dX1_part_79 (v := (-2)) (by decide) ?_
      exact w_retR C (pc := 81) dX1_part_81 rfl (Option.some.inj h)
    · have h := it_f h c
      refine w_bipush C (pc := 12) dX1_part_12 (v := (-2)) (by decide) ?_
      exact w_retR C (pc := 14) dX1_part_14 rfl (Option.some.inj h)
end
section
theorem dJ6_bitCount_0f7a4_0 : decode cJ6_bitCount_0f7a4 0 = .ok (.iload_n 0, 1) := by decide +kernel
theorem dJ6_bitCount_0f7a4_1 : decode cJ6_bitCount_0f7a4 1 = .ok (.iload_n 0, 1) := by decide +kernel
theorem dJ6_bitCount_0f7a4_2 : decode cJ6_bitCount_0f7a4 2 = .ok (.iconst 1, 1) := by decide +kernel
theorem dJ6_bitCount_0f7a4_3 : decode cJ6_bitCount_0f7a4 3 = .ok (.iushr, 1) := by decide +kernel
theorem dJ6_bitCount_0f7a4_4 : decode cJ6_bitCount_0f7a4 4 = .ok (.ldc_w 265, 3) := by decide +kernel
theorem dJ6_bitCount_0f7a4_7 : decode cJ6_bitCount_0f7a4 7 = .ok (.iand, 1) := by decide +kernel
theorem dJ6_bitCount_0f7a4_8 : decode cJ6_bitCount_0f7a4 8 = .ok (.isub, 1) := by decide +kernel
theorem dJ6_bitCount_0f7a4_9 : decode cJ6_bitCount_0f7a4 9 = .ok (.istore_n 0, 1) := by decide +kernel
theorem dJ6_bitCount_0f7a4_10 : decode cJ6_bitCount_0f7a4 10 = .ok (.iload_n 0, 1) := by decide +kernel
theorem dJ6_bitCount_0f7a4_11 : decode cJ6_bitCount_0f7a4 11 = .ok (.ldc_w 266, 3) := by decide +kernel
theorem dJ6_bitCount_0f7a4_14 : decode cJ6_bitCount_0f7a4 14 = .ok (.iand, 1) := by decide +kernel
theorem dJ6_bitCount_0f7a4_15 : decode cJ6_bitCount_0f7a4 15 = .ok (.iload_n 0, 1) := by decide +kernel
theorem dJ6_bitCount_0f7a4_16 : decode cJ6_bitCount_0f7a4 16 = .ok (.iconst 2, 1) := by decide +kernel
theorem dJ6_bitCount_0f7a4_17 : decode cJ6_bitCount_0f7a4 17 = .ok (.iushr, 1) := by decide +kernel
theorem dJ6_bitCount_0f7a4_18 : decode cJ6_bitCount_0f7a4 18 = .ok (.ldc_w 266, 3) := by decide +kernel
theorem dJ6_bitCount_0f7a4_21 : decode cJ6_bitCount_0f7a4 21 = .ok (.iand, 1) := by decide +kernel
theorem dJ6_bitCount_0f7a4_22 : decode cJ6_bitCount_0f7a4 22 = .ok (.iadd, 1) := by decide +kernel
theorem dJ6_bitCount_0f7a4_23 : decode cJ6_bitCount_0f7a4 23 = .ok (.istore_n 0, 1) := by decide +kernel
theorem dJ6_bitCount_0f7a4_24 : decode cJ6_bitCount_0f7a4 24 = .ok (.iload_n 0, 1) := by decide +kernel
theorem dJ6_bitCount_0f7a4_25 : decode cJ6_bitCount_0f7a4 25 = .ok (.iload_n 0, 1) := by decide +kernel
theorem dJ6_bitCount_0f7a4_26 : decode cJ6_bitCount_0f7a4 26 = .ok (.iconst 4, 1) := by decide +kernel
theorem dJ6_bitCount_0f7a4_27 : decode cJ6_bitCount_0f7a4 27 = .ok (.iushr, 1) := by decide +kernel
theorem dJ6_bitCount_0f7a4_28 : decode cJ6_bitCount_0f7a4 28 = .ok (.iadd, 1) := by decide +kernel
theorem dJ6_bitCount_0f7a4_29 : decode cJ6_bitCount_0f7a4 29 = .ok (.ldc_w 267, 3) := by decide +kernel
theorem dJ6_bitCount_0f7a4_32 : decode cJ6_bitCount_0f7a4 32 = .ok (.iand, 1) := by decide +kernel
theorem dJ6_bitCount_0f7a4_33 : decode cJ6_bitCount_0f7a4 33 = .ok (.istore_n 0, 1) := by decide +kernel
theorem dJ6_bitCount_0f7a4_34 : decode cJ6_bitCount_0f7a4 34 = .ok (.iload_n 0, 1) := by decide +kernel
theorem dJ6_bitCount_0f7a4_35 : decode cJ6_bitCount_0f7a4 35 = .ok (.iload_n 0, 1) := by decide +kernel
theorem dJ6_bitCount_0f7a4_36 : decode cJ6_bitCount_0f7a4 36 = .ok (.bipush 8, 2) := by decide +kernel
theorem dJ6_bitCount_0f7a4_38 : decode cJ6_bitCount_0f7a4 38 = .ok (.iushr, 1) := by decide +kernel
theorem dJ6_bitCount_0f7a4_39 : decode cJ6_bitCount_0f7a4 39 = .ok (.iadd, 1) := by decide +kernel
theorem dJ6_bitCount_0f7a4_40 : decode cJ6_bitCount_0f7a4 40 = .ok (.istore_n 0, 1) := by decide +kernel
theorem dJ6_bitCount_0f7a4_41 : decode cJ6_bitCount_0f7a4 41 = .ok (.iload_n 0, 1) := by decide +kernel
theorem dJ6_bitCount_0f7a4_42 : decode cJ6_bitCount_0f7a4 42 = .ok (.iload_n 0, 1) := by decide +kernel
theorem dJ6_bitCount_0f7a4_43 : decode cJ6_bitCount_0f7a4 43 = .ok (.bipush 16, 2) := by decide +kernel
theorem dJ6_bitCount_0f7a4_45 : decode cJ6_bitCount_0f7a4 45 = .ok (.iushr, 1) := by decide +kernel
theorem dJ6_bitCount_0f7a4_46 : decode cJ6_bitCount_0f7a4 46 = .ok (.iadd, 1) := by decide +kernel
theorem dJ6_bitCount_0f7a4_47 : decode cJ6_bitCount_0f7a4 47 = .ok (.istore_n 0, 1) := by decide +kernel
theorem dJ6_bitCount_0f7a4_48 : decode cJ6_bitCount_0f7a4 48 = .ok (.iload_n 0, 1) := by decide +kernel
theorem dJ6_bitCount_0f7a4_49 : decode cJ6_bitCount_0f7a4 49 = .ok (.bipush 63, 2) := by decide +kernel
theorem dJ6_bitCount_0f7a4_51 : decode cJ6_bitCount_0f7a4 51 = .ok (.iand, 1) := by decide +kernel
theorem dJ6_bitCount_0f7a4_52 : decode cJ6_bitCount_0f7a4 52 = .ok (.ireturn, 1) := by decide +kernel
def pJ6_bitCount_0f7a4 (x0 : Int32) : Int32 :=
bnd (x0 - ((ush x0 1) &&& 1431655765)) fun v1 =>
bnd ((v1 &&& 858993459) + ((ush v1 2) &&& 858993459)) fun v2 =>
bnd ((v2 + (ush v2 4)) &&& 252645135) fun v3 =>
bnd (v3 + (ush v3 8)) fun v4 =>
bnd (v4 + (ush v4 16)) fun v5 =>
v5 &&& 63
abbrev zJ6_bitCount_0f7a4 : Zx := (cJ6_bitCount_0f7a4, RJ6, 1, 0, (some .int))
set_option maxRecDepth 100000 in
set_option maxHeartbeats 4000000 in
theorem tJ6_bitCount_0f7a4 {l : Launch} {Y : Sx} {M : Mm} {x0 : Int32} {q : Int32} (h : pJ6_bitCount_0f7a4 x0 = q) : Ct l Y yJ6_bitCount_0f7a4 cJ6_bitCount_0f7a4 1 (some .int) 0 [.int x0] M (some q) M := by
  refine Ct.of (by decide) rfl (lv := [(0, .int x0)]) rfl ?_
  intro K hkl C
  change Cx K zJ6_bitCount_0f7a4 Y at C
  subst hkl
  unfold pJ6_bitCount_0f7a4 at h
  show Wp K zJ6_bitCount_0f7a4 Y (Qm K Y (some q) M) M 0 [(0, .int x0)] []
  refine w_iload_n C (pc := 0) dJ6_bitCount_0f7a4_0 0 rfl ?_
  refine w_iload_n C (pc := 1) dJ6_bitCount_0f7a4_1 0 rfl ?_
  refine w_iconst C (pc := 2) dJ6_bitCount_0f7a4_2 (v := 1) (by decide) ?_
  refine w_iushr C (pc := 3) dJ6_bitCount_0f7a4_3 ?_
  refine w_ldcw C (pc := 4) dJ6_bitCount_0f7a4_4 k_J6_265 ?_
  refine w_iand C (pc := 7) dJ6_bitCount_0f7a4_7 ?_
  refine w_isub C (pc := 8) dJ6_bitCount_0f7a4_8 ?_
  refine w_bnd h (fun v1 h => ?_)
  refine w_istore_n C (pc := 9) dJ6_bitCount_0f7a4_9 (lv' := [(0, .int v1)]) rfl rfl rfl ?_
  refine w_iload_n C (pc := 10) dJ6_bitCount_0f7a4_10 0 rfl ?_
  refine w_ldcw C (pc := 11) dJ6_bitCount_0f7a4_11 k_J6_266 ?_
  refine w_iand C (pc := 14) dJ6_bitCount_0f7a4_14 ?_
  refine w_iload_n C (pc := 15) dJ6_bitCount_0f7a4_15 0 rfl ?_
  refine w_iconst C (pc := 16) dJ6_bitCount_0f7a4_16 (v := 2) (by decide) ?_
  refine w_iushr C (pc := 17) dJ6_bitCount_0f7a4_17 ?_
  refine w_ldcw C (pc := 18) dJ6_bitCount_0f7a4_18 k_J6_266 ?_
  refine w_iand C (pc := 21) dJ6_bitCount_0f7a4_21 ?_
  refine w_iadd C (pc := 22) dJ6_bitCount_0f7a4_22 ?_
  refine w_bnd h (fun v2 h => ?_)
  refine w_istore_n C (pc := 23) dJ6_bitCount_0f7a4_23 (lv' := [(0, .int v2)]) rfl rfl rfl ?_
  refine w_iload_n C (pc := 24) dJ6_bitCount_0f7a4_24 0 rfl ?_
  refine w_iload_n C (pc := 25) dJ6_bitCount_0f7a4_25 0 rfl ?_
  refine w_iconst C (pc := 26) dJ6_bitCount_0f7a4_26 (v := 4) (by decide) ?_
  refine w_iushr C (pc := 27) dJ6_bitCount_0f7a4_27 ?_
  refine w_iadd C (pc := 28) dJ6_bitCount_0f7a4_28 ?_
  refine w_ldcw C (pc := 29) dJ6_bitCount_0f7a4_29 k_J6_267 ?_
  refine w_iand C (pc := 32) dJ6_bitCount_0f7a4_32 ?_
  refine w_bnd h (fun v3 h => ?_)
  refine w_istore_n C (pc := 33) dJ6_bitCount_0f7a4_33 (lv' := [(0, .int v3)]) rfl rfl rfl ?_
  refine w_iload_n C (pc := 34) dJ6_bitCount_0f7a4_34 0 rfl ?_
  refine w_iload_n C (pc := 35) dJ6_bitCount_0f7a4_35 0 rfl ?_
  refine w_bipush C (pc := 36) dJ6_bitCount_0f7a4_36 (v := 8) (by decide) ?_
  refine w_iushr C (pc := 38) dJ6_bitCount_0f7a4_38 ?_
  refine w_iadd C (pc := 39) dJ6_bitCount_0f7a4_39 ?_
  refine w_bnd h (fun v4 h => ?_)
  refine w_istore_n C (pc := 40) dJ6_bitCount_0f7a4_40 (lv' := [(0, .int v4)]) rfl rfl rfl ?_
  refine w_iload_n C (pc := 41) dJ6_bitCount_0f7a4_41 0 rfl ?_
  refine w_iload_n C (pc := 42) dJ6_bitCount_0f7a4_42 0 rfl ?_
  refine w_bipush C (pc := 43) dJ6_bitCount_0f7a4_43 (v := 16) (by decide) ?_
  refine w_iushr C (pc := 45) dJ6_bitCount_0f7a4_45 ?_
  refine w_iadd C (pc := 46) dJ6_bitCount_0f7a4_46 ?_
  refine w_bnd h (fun v5 h => ?_)
  refine w_istore_n C (pc := 47) dJ6_bitCount_0f7a4_47 (lv' := [(0, .int v5)]) rfl rfl rfl ?_
  refine w_iload_n C (pc := 48) dJ6_bitCount_0f7a4_48 0 rfl ?_
  refine w_bipush C (pc := 49) dJ6_bitCount_0f7a4_49 (v := 63) (by decide) ?_
  refine w_iand C (pc := 51) dJ6_bitCount_0f7a4_51 ?_
  exact w_retR C (pc := 52) dJ6_bitCount_0f7a4_52 rfl h
end
section
theorem dX0_air_0 : decode cX0_air 0 = .ok (.aload_n 0, 1) := by decide +kernel
theorem dX0_air_1 : decode cX0_air 1 = .ok (.getfield 40, 3) := by decide +kernel
theorem dX0_air_4 : decode cX0_air 4 = .ok (.bipush 9, 2) := by decide +kernel
theorem dX0_air_6 : decode cX0_air 6 = .ok (.invokevirtual 86, 3) := by decide +kernel
theorem dX0_air_9 : decode cX0_air 9 = .ok (.iconst 1, 1) := by decide +kernel
theorem dX0_air_10 : decode cX0_air 10 = .ok (.if_icmp .ne 12, 3) := by decide +kernel
theorem dX0_air_13 : decode cX0_air 13 = .ok (.aload_n 0, 1) := by decide +kernel
theorem dX0_air_14 : decode cX0_air 14 = .ok (.getfield 37, 3) := by decide +kernel
theorem dX0_air_17 : decode cX0_air 17 = .ok (.iload_n 1, 1) := by decide +kernel
theorem dX0_air_18 : decode cX0_air 18 = .ok (.iaload, 1) := by decide +kernel
theorem dX0_air_19 : decode cX0_air 19 = .ok (.goto 9, 3) := by decide +kernel
theorem dX0_air_22 : decode cX0_air 22 = .ok (.aload_n 0, 1) := by decide +kernel
theorem dX0_air_23 : decode cX0_air 23 = .ok (.getfield 34, 3) := by decide +kernel
theorem dX0_air_26 : decode cX0_air 26 = .ok (.iload_n 1, 1) := by decide +kernel
theorem dX0_air_27 : decode cX0_air 27 = .ok (.iaload, 1) := by decide +kernel
theorem dX0_air_28 : decode cX0_air 28 = .ok (.aload_n 0, 1) := by decide +kernel
theorem dX0_air_29 : decode cX0_air 29 = .ok (.getfield 31, 3) := by decide +kernel
theorem dX0_air_32 : decode cX0_air 32 = .ok (.iload_n 1, 1) := by decide +kernel
theorem dX0_air_33 : decode cX0_air 33 = .ok (.iaload, 1) := by decide +kernel
theorem dX0_air_34 : decode cX0_air 34 = .ok (.isub, 1) := by decide +kernel
theorem dX0_air_35 : decode cX0_air 35 = .ok (.ireturn, 1) := by decide +kernel
def pX0_air (x1 : Int32) (M : Mm) : Option (Int32) :=
(pX3_setting 1 9 M).bind fun v1 =>
if v1 = 1 then
((ald M 16 8 x1).bind fun v3 =>
(ald M 14 8 x1).bind fun v5 =>
some (v3 - v5))
else
((ald M 15 8 x1).bind fun v7 =>
(ald M 14 8 x1).bind fun v9 =>
some (v7 - v9))
abbrev zX0_air : Zx := (cX0_air, RX0, 2, 1, (some .int))
set_option maxRecDepth 100000 in
set_option maxHeartbeats 4000000 in
theorem tX0_air {l : Launch} {Y : Sx} {M : Mm} {x1 : Int32} {q : Int32} (hY : isA Y) (h : pX0_air x1 M = some q) : Ct l Y yX0_air cX0_air 2 (some .int) 1 [.ref (adr Y 7), .int x1] M (some q) M := by
  refine Ct.of (by decide) rfl (lv := [(0, .ref (adr Y 7)), (1, .int x1)]) rfl ?_
  intro K hkl C
  change Cx K zX0_air Y at C
  subst hkl
  unfold pX0_air at h
  show Wp K zX0_air Y (Qm K Y (some q) M) M 0 [(0, .ref (adr Y 7)), (1, .int x1)] []
  refine w_aload_n C (pc := 0) dX0_air_0 0 rfl ?_
  refine w_getR C (pc := 1) dX0_air_1 f_X0_40 (sA_7 hY) rfl ?_
  refine w_bipush C (pc := 4) dX0_air_4 (v := 9) (by decide) ?_
  obtain ⟨v1, e2, h⟩ := ob h
  refine w_cVi C (pc := 6) dX0_air_6 my_X3_setting mi_X3_setting ml_X0_86 (sA_1 hY) rfl rfl rfl [.int 9] rfl rfl (Nat.le_of_ble_eq_true rfl) (tX3_setting (kLand_1 hY) e2) ?_
  refine w_iconst C (pc := 9) dX0_air_9 (v := 1) (by decide) ?_
  refine w_icne C (pc := 10) 22 dX0_air_10 (by decide) (fun c => ?_) (fun c => ?_)
  · have h := it_t h c
    refine w_aload_n C (pc := 13) dX0_air_13 0 rfl ?_
    refine w_getR C (pc := 14) dX0_air_14 f_X0_37 (sA_7 hY) rfl ?_
    refine w_iload_n C (pc := 17) dX0_air_17 1 rfl ?_
    obtain ⟨v3, e4, h⟩ := ob h
    refine w_iald C (pc := 18) dX0_air_18 (sA_16 hY) e4 ?_
    refine w_goto C (pc := 19) 28 dX0_air_19 (by decide) ?_
    refine w_aload_n C (pc := 28) dX0_air_28 0 rfl ?_
    refine w_getR C (pc := 29) dX0_air_29 f_X0_31 (sA_7 hY) rfl ?_
    refine w_iload_n C (pc := 32) dX0_air_32 1 rfl ?_
    obtain ⟨v5, e6, h⟩ := ob h
    refine w_iald C (pc := 33) dX0_air_33 (sA_14 hY) e6 ?_
    refine w_isub C (pc := 34) dX0_air_34 ?_
    exact w_retR C (pc := 35) dX0_air_35 rfl (Option.some.inj h)
  · have h := it_f h c
    refine w_aload_n C (pc := 22) dX0_air_22 0 rfl ?_
    refine w_getR C (pc := 23) dX0_air_23 f_X0_34 (sA_7 hY) rfl ?_
    refine w_iload_n C (pc := 26) dX0_air_26 1 rfl ?_
    obtain ⟨v7, e8, h⟩ := ob h
    refine w_iald C (pc := 27) dX0_air_27 (sA_15 hY) e8 ?_
    refine w_aload_n C (pc := 28) dX0_air_28 0 rfl ?_
    refine w_getR C (pc := 29) dX0_air_29 f_X0_31 (sA_7 hY) rfl ?_
    refine w_iload_n C (pc := 32) dX0_air_32 1 rfl ?_
    obtain ⟨v9, e10, h⟩ := ob h
    refine w_iald C (pc := 33) dX0_air_33 (sA_14 hY) e10 ?_
    refine w_isub C (pc := 34) dX0_air_34 ?_
    exact w_retR C (pc := 35) dX0_air_35 rfl (Option.some.inj h)
theorem dX0_isAhead_0 : decode cX0_isAhead 0 = .ok (.aload_n 0, 1) := by decide +kernel
theorem dX0_isAhead_1 : decode cX0_isAhead 1 = .ok (.getfield 34, 3) := by decide +kernel
theorem dX0_isAhead_4 : decode cX0_isAhead 4 = .ok (.iload_n 1, 1) := by decide +kernel
theorem dX0_isAhead_5 : decode cX0_isAhead 5 = .ok (.iaload, 1) := by decide +kernel
theorem dX0_isAhead_6 : decode cX0_isAhead 6 = .ok (.aload_n 0, 1) := by decide +kernel
theorem dX0_isAhead_7 : decode cX0_isAhead 7 = .ok (.getfield 34, 3) := by decide +kernel
theorem dX0_isAhead_10 : decode cX0_isAhead 10 = .ok (.iload_n 2, 1) := by decide +kernel
theorem dX0_isAhead_11 : decode cX0_isAhead 11 = .ok (.iaload, 1) := by decide +kernel
theorem dX0_isAhead_12 : decode cX0_isAhead 12 = .ok (.if_icmp .eq 24, 3) := by decide +kernel
theorem dX0_isAhead_15 : decode cX0_isAhead 15 = .ok (.aload_n 0, 1) := by decide +kernel
theorem dX0_isAhead_16 : decode cX0_isAhead 16 = .ok (.getfield 34, 3) := by decide +kernel
theorem dX0_isAhead_19 : decode cX0_isAhead 19 = .ok (.iload_n 1, 1) := by decide +kernel
theorem dX0_isAhead_20 : decode cX0_isAhead 20 = .ok (.iaload, 1) := by decide +kernel
theorem dX0_isAhead_21 : decode cX0_isAhead 21 = .ok (.aload_n 0, 1) := by decide +kernel
theorem dX0_isAhead_22 : decode cX0_isAhead 22 = .ok (.getfield 34, 3) := by decide +kernel
theorem dX0_isAhead_25 : decode cX0_isAhead 25 = .ok (.iload_n 2, 1) := by decide +kernel
theorem dX0_isAhead_26 : decode cX0_isAhead 26 = .ok (.iaload, 1) := by decide +kernel
theorem dX0_isAhead_27 : decode cX0_isAhead 27 = .ok (.if_icmp .ge 7, 3) := by decide +kernel
theorem dX0_isAhead_30 : decode cX0_isAhead 30 = .ok (.iconst 1, 1) := by decide +kernel
theorem dX0_isAhead_31 : decode cX0_isAhead 31 = .ok (.goto 4, 3) := by decide +kernel
theorem dX0_isAhead_34 : decode cX0_isAhead 34 = .ok (.iconst 0, 1) := by decide +kernel
theorem dX0_isAhead_35 : decode cX0_isAhead 35 = .ok (.ireturn, 1) := by decide +kernel
theorem dX0_isAhead_36 : decode cX0_isAhead 36 = .ok (.aload_n 0, 1) := by decide +kernel
theorem dX0_isAhead_37 : decode cX0_isAhead 37 = .ok (.getfield 44, 3) := by decide +kernel
theorem dX0_isAhead_40 : decode cX0_isAhead 40 = .ok (.iload_n 1, 1) := by decide +kernel
theorem dX0_isAhead_41 : decode cX0_isAhead 41 = .ok (.iconst 0, 1) := by decide +kernel
theorem dX0_isAhead_42 : decode cX0_isAhead 42 = .ok (.invokevirtual 82, 3) := by decide +kernel
theorem dX0_isAhead_45 : decode cX0_isAhead 45 = .ok (.aload_n 0, 1) := by decide +kernel
theorem dX0_isAhead_46 : decode cX0_isAhead 46 = .ok (.getfield 44, 3) := by decide +kernel
theorem dX0_isAhead_49 : decode cX0_isAhead 49 = .ok (.iload_n 2, 1) := by decide +kernel
theorem dX0_isAhead_50 : decode cX0_isAhead 50 = .ok (.iconst 0, 1) := by decide +kernel
theorem dX0_isAhead_51 : decode cX0_isAhead 51 = .ok (.invokevirtual 82, 3) := by decide +kernel
theorem dX0_isAhead_54 : decode cX0_isAhead 54 = .ok (.if_icmp .ge 7, 3) := by decide +kernel
theorem dX0_isAhead_57 : decode cX0_isAhead 57 = .ok (.iconst 1, 1) := by decide +kernel
theorem dX0_isAhead_58 : decode cX0_isAhead 58 = .ok (.goto 4, 3) := by decide +kernel
theorem dX0_isAhead_61 : decode cX0_isAhead 61 = .ok (.iconst 0, 1) := by decide +kernel
theorem dX0_isAhead_62 : decode cX0_isAhead 62 = .ok (.ireturn, 1) := by decide +kernel
def pX0_isAhead (x1 : Int32) (x2 : Int32) (M : Mm) : Option (Int32) :=
(ald M 15 8 x1).bind fun v1 =>
(ald M 15 8 x2).bind fun v3 =>
if v1 = v3 then
((pX4_part 4 x1 0 M).bind fun v5 =>
(pX4_part 4 x2 0 M).bind fun v7 =>
if v7 ≤ v5 then
(some 0)
else
(some 1))
else
((ald M 15 8 x1).bind fun v9 =>
(ald M 15 8 x2).bind fun v11 =>
if v11 ≤ v9 then
(some 0)
else
(some 1))
abbrev zX0_isAhead : Zx := (cX0_isAhead, RX0, 3, 1, (some .boolean))
set_option maxRecDepth 100000 in
set_option maxHeartbeats 4000000 in
theorem tX0_isAhead {l : Launch} {Y : Sx} {M : Mm} {x1 : Int32} {x2 : Int32} {q : Int32} (hY : isA Y) (h : pX0_isAhead x1 x2 M = some q) : Ct l Y yX0_isAhead cX0_isAhead 3 (some .boolean) 1 [.ref (adr Y 7), .int x1, .int x2] M (some q) M := by
  refine Ct.of (by decide) rfl (lv := [(0, .ref (adr Y 7)), (1, .int x1), (2, .int x2)]) rfl ?_
  intro K hkl C
  change Cx K zX0_isAhead Y at C
  subst hkl
  unfold pX0_isAhead at h
  show Wp K zX0_isAhead Y (Qm K Y (some q) M) M 0 [(0, .ref (adr Y 7)), (1, .int x1), (2, .int x2)] []
  refine w_aload_n C (pc := 0) dX0_isAhead_0 0 rfl ?_
  refine w_getR C (pc := 1) dX0_isAhead_1 f_X0_34 (sA_7 hY) rfl ?_
  refine w_iload_n C (pc := 4) dX0_isAhead_4 1 rfl ?_
  obtain ⟨v1, e2, h⟩ := ob h
  refine w_iald C (pc := 5) dX0_isAhead_5 (sA_15 hY) e2 ?_
  refine w_aload_n C (pc := 6) dX0_isAhead_6 0 rfl ?_
  refine w_getR C (pc := 7) dX0_isAhead_7 f_X0_34 (sA_7 hY) rfl ?_
  refine w_iload_n C (pc := 10) dX0_isAhead_10 2 rfl ?_
  obtain ⟨v3, e4, h⟩ := ob h
  refine w_iald C (pc := 11) dX0_isAhead_11 (sA_15 hY) e4 ?_
  refine w_iceq C (pc := 12) 36 dX0_isAhead_12 (by decide) (fun c => ?_) (fun c => ?_)
  · have h := it_t h c
    refine w_aload_n C (pc := 36) dX0_isAhead_36 0 rfl ?_
    refine w_getR C (pc := 37) dX0_isAhead_37 f_X0_44 (sA_7 hY) rfl ?_
    refine w_iload_n C (pc := 40) dX0_isAhead_40 1 rfl ?_
    refine w_iconst C (pc := 41) dX0_isAhead_41 (v := 0) (by decide) ?_
    obtain ⟨v5, e6, h⟩ := ob h
    refine w_cVi C (pc := 42) dX0_isAhead_42 my_X4_part mi_X4_part ml_X0_82 (sA_4 hY) rfl rfl rfl [.int x1, .int 0] rfl rfl (Nat.le_of_ble_eq_true rfl) (tX4_part (kPlan_4 hY) e6) ?_
    refine w_aload_n C (pc := 45) dX0_isAhead_45 0 rfl ?_
    refine w_getR C (pc := 46) dX0_isAhead_46 f_X0_44 (sA_7 hY) rfl ?_
    refine w_iload_n C (pc := 49) dX0_isAhead_49 2 rfl ?_
    refine w_iconst C (pc := 50) dX0_isAhead_50 (v := 0) (by decide) ?_
    obtain ⟨v7, e8, h⟩ := ob h
    refine w_cVi C (pc := 51) dX0_isAhead_51 my_X4_part mi_X4_part ml_X0_82 (sA_4 hY) rfl rfl rfl [.int x2, .int 0] rfl rfl (Nat.le_of_ble_eq_true rfl) (tX4_part (kPlan_4 hY) e8) ?_
    refine w_icge C (pc := 54) 61 dX0_isAhead_54 (by decide) (fun c => ?_) (fun c => ?_)
    · have h := it_t h c
      refine w_iconst C (pc := 61) dX0_isAhead_61 (v := 0) (by decide) ?_
      exact w_retzR C (pc := 62) dX0_isAhead_62 rfl (by decide) (Option.some.inj h)
    · have h := it_f h c
      refine w_iconst C (pc := 57) dX0_isAhead_57 (v := 1) (by decide) ?_
      refine w_goto C (pc := 58) 62 dX0_isAhead_58 (by decide) ?_
      exact w_retzR C (pc := 62) dX0_isAhead_62 rfl (by decide) (Option.some.inj h)
  · have h := it_f h c
    refine w_aload_n C (pc := 15) dX0_isAhead_15 0 rfl ?_
    refine w_getR C (pc := 16) dX0_isAhead_16 f_X0_34 (sA_7 hY) rfl ?_
    refine w_iload_n C (pc := 19) dX0_isAhead_19 1 rfl ?_
    obtain ⟨v9, e10, h⟩ := ob h
    refine w_iald C (pc := 20) dX0_isAhead_20 (sA_15 hY) e10 ?_
    refine w_aload_n C (pc := 21) dX0_isAhead_21 0 rfl ?_
    refine w_getR C (pc := 22) dX0_isAhead_22 f_X0_34 (sA_7 hY) rfl ?_
    refine w_iload_n C (pc := 25) dX0_isAhead_25 2 rfl ?_
    obtain ⟨v11, e12, h⟩ := ob h
    refine w_iald C (pc := 26) dX0_isAhead_26 (sA_15 hY) e12 ?_
    refine w_icge C (pc := 27) 34 dX0_isAhead_27 (by decide) (fun c => ?_) (fun c => ?_)
    · have h := it_t h c
      refine w_iconst C (pc := 34) dX0_isAhead_34 (v := 0) (by decide) ?_
      exact w_retzR C (pc := 35) dX0_isAhead_35 rfl (by decide) (Option.some.inj h)
    · have h := it_f h c
      refine w_iconst C (pc := 30) dX0_isAhead_30 (v := 1) (by decide) ?_
      refine w_goto C (pc := 31) 35 dX0_isAhead_31 (by decide) ?_
      exact w_retzR C (pc := 35) dX0_isAhead_35 rfl (by decide) (Option.some.inj h)
theorem dX0_nextToCatch_0 : decode cX0_nextToCatch 0 = .ok (.iconst (-1), 1) := by decide +kernel
theorem dX0_nextToCatch_1 : decode cX0_nextToCatch 1 = .ok (.istore_n 2, 1) := by decide +kernel
theorem dX0_nextToCatch_2 : decode cX0_nextToCatch 2 = .ok (.iconst 0, 1) := by decide +kernel
theorem dX0_nextToCatch_3 : decode cX0_nextToCatch 3 = .ok (.istore_n 3, 1) := by decide +kernel
theorem dX0_nextToCatch_4 : decode cX0_nextToCatch 4 = .ok (.iload_n 3, 1) := by decide +kernel
theorem dX0_nextToCatch_5 : decode cX0_nextToCatch 5 = .ok (.aload_n 0, 1) := by decide +kernel
theorem dX0_nextToCatch_6 : decode cX0_nextToCatch 6 = .ok (.getfield 44, 3) := by decide +kernel
theorem dX0_nextToCatch_9 : decode cX0_nextToCatch 9 = .ok (.getfield 77, 3) := by decide +kernel
theorem dX0_nextToCatch_12 : decode cX0_nextToCatch 12 = .ok (.if_icmp .ge 48, 3) := by decide +kernel
theorem dX0_nextToCatch_15 : decode cX0_nextToCatch 15 = .ok (.aload_n 0, 1) := by decide +kernel
theorem dX0_nextToCatch_16 : decode cX0_nextToCatch 16 = .ok (.getfield 44, 3) := by decide +kernel
theorem dX0_nextToCatch_19 : decode cX0_nextToCatch 19 = .ok (.iload_n 3, 1) := by decide +kernel
theorem dX0_nextToCatch_20 : decode cX0_nextToCatch 20 = .ok (.iconst 3, 1) := by decide +kernel
theorem dX0_nextToCatch_21 : decode cX0_nextToCatch 21 = .ok (.invokevirtual 82, 3) := by decide +kernel
theorem dX0_nextToCatch_24 : decode cX0_nextToCatch 24 = .ok (.iload_n 1, 1) := by decide +kernel
theorem dX0_nextToCatch_25 : decode cX0_nextToCatch 25 = .ok (.if_icmp .ne 29, 3) := by decide +kernel
theorem dX0_nextToCatch_28 : decode cX0_nextToCatch 28 = .ok (.aload_n 0, 1) := by decide +kernel
theorem dX0_nextToCatch_29 : decode cX0_nextToCatch 29 = .ok (.getfield 37, 3) := by decide +kernel
theorem dX0_nextToCatch_32 : decode cX0_nextToCatch 32 = .ok (.iload_n 3, 1) := by decide +kernel
theorem dX0_nextToCatch_33 : decode cX0_nextToCatch 33 = .ok (.iaload, 1) := by decide +kernel
theorem dX0_nextToCatch_34 : decode cX0_nextToCatch 34 = .ok (.iconst (-1), 1) := by decide +kernel
theorem dX0_nextToCatch_35 : decode cX0_nextToCatch 35 = .ok (.if_icmp .ne 19, 3) := by decide +kernel
theorem dX0_nextToCatch_38 : decode cX0_nextToCatch 38 = .ok (.iload_n 2, 1) := by decide +kernel
theorem dX0_nextToCatch_39 : decode cX0_nextToCatch 39 = .ok (.iconst (-1), 1) := by decide +kernel
theorem dX0_nextToCatch_40 : decode cX0_nextToCatch 40 = .ok (.if_icmp .eq 12, 3) := by decide +kernel
theorem dX0_nextToCatch_43 : decode cX0_nextToCatch 43 = .ok (.aload_n 0, 1) := by decide +kernel
theorem dX0_nextToCatch_44 : decode cX0_nextToCatch 44 = .ok (.iload_n 3, 1) := by decide +kernel
theorem dX0_nextToCatch_45 : decode cX0_nextToCatch 45 = .ok (.iload_n 2, 1) := by decide +kernel
theorem dX0_nextToCatch_46 : decode cX0_nextToCatch 46 = .ok (.invokevirtual 144, 3) := by decide +kernel
theorem dX0_nextToCatch_49 : decode cX0_nextToCatch 49 = .ok (.ifCond .eq 5, 3) := by decide +kernel
theorem dX0_nextToCatch_52 : decode cX0_nextToCatch 52 = .ok (.iload_n 3, 1) := by decide +kernel
theorem dX0_nextToCatch_53 : decode cX0_nextToCatch 53 = .ok (.istore_n 2, 1) := by decide +kernel
theorem dX0_nextToCatch_54 : decode cX0_nextToCatch 54 = .ok (.iinc 3 1, 3) := by decide +kernel
theorem dX0_nextToCatch_57 : decode cX0_nextToCatch 57 = .ok (.goto (-53), 3) := by decide +kernel
theorem dX0_nextToCatch_60 : decode cX0_nextToCatch 60 = .ok (.iload_n 2, 1) := by decide +kernel
theorem dX0_nextToCatch_61 : decode cX0_nextToCatch 61 = .ok (.ireturn, 1) := by decide +kernel
def pX0_nextToCatch_L4 (x1 : Int32) (M : Mm) (s : Int32 × Int32) : Option ((Int32 × Int32) ⊕ (Int32)) :=
if (M 4 1) ≤ s.2 then
(some (Sum.inr s.1))
else
((pX4_part 4 s.2 3 M).bind fun v1 =>
if v1 = x1 then
((ald M 16 8 s.2).bind fun v3 =>
if v3 = (-1) then
(if s.1 = (-1) then
(bnd (s.2) fun v5 =>
some (Sum.inl (v5, s.2 + 1)))
else
((pX0_isAhead s.2 s.1 M).bind fun v6 =>
if v6 = 0 then
(some (Sum.inl (s.1, s.2 + 1)))
else
(bnd (s.2) fun v8 =>
some (Sum.inl (v8, s.2 + 1)))))
else
(some (Sum.inl (s.1, s.2 + 1))))
else
(some (Sum.inl (s.1, s.2 + 1))))
def pX0_nextToCatch (x1 : Int32) (M : Mm) : Option (Int32) :=
(itr (pX0_nextToCatch_L4 x1 M) fuel ((-1), 0)).bind fun x9 =>
some x9
abbrev zX0_nextToCatch : Zx := (cX0_nextToCatch, RX0, 4, 2, (some .int))
set_option maxRecDepth 100000 in
set_option maxHeartbeats 4000000 in
theorem tX0_nextToCatch {l : Launch} {Y : Sx} {M : Mm} {x1 : Int32} {q : Int32} (hY : isA Y) (h : pX0_nextToCatch x1 M = some q) : Ct l Y yX0_nextToCatch cX0_nextToCatch 4 (some .int) 2 [.ref (adr Y 7), .int x1] M (some q) M := by
  refine Ct.of (by decide) rfl (lv := [(0, .ref (adr Y 7)), (1, .int x1)]) rfl ?_
  intro K hkl C
  change Cx K zX0_nextToCatch Y at C
  subst hkl
  unfold pX0_nextToCatch at h
  show Wp K zX0_nextToCatch Y (Qm K Y (some q) M) M 0 [(0, .ref (adr Y 7)), (1, .int x1)] []
  refine w_iconst C (pc := 0) dX0_nextToCatch_0 (v := (-1)) (by decide) ?_
  refine w_istore_n C (pc := 1) dX0_nextToCatch_1 (lv' := [(0, .ref (adr Y 7)), (1, .int x1), (2, .int (-1))]) rfl rfl rfl ?_
  refine w_iconst C (pc := 2) dX0_nextToCatch_2 (v := 0) (by decide) ?_
  refine w_istore_n C (pc := 3) dX0_nextToCatch_3 (lv' := [(0, .ref (adr Y 7)), (1, .int x1), (2, .int (-1)), (3, .int 0)]) rfl rfl rfl ?_
  obtain ⟨x9, e10, h⟩ := ob h
  refine itr_W (P := fun s11 => Wp K zX0_nextToCatch Y (Qm K Y (some q) M) M 4 [(0, .ref (adr Y 7)), (1, .int x1), (2, .int s11.1), (3, .int s11.2)] []) (R := fun x9 => Wp K zX0_nextToCatch Y (Qm K Y (some q) M) M 60 [(0, .ref (adr Y 7)), (1, .int x1), (2, .int x9)] []) ?_ fuel ((-1), 0) x9 e10 ?_
  · intro s11 r12 h15 ki13 kx14
    unfold pX0_nextToCatch_L4 at h15
    show Wp K zX0_nextToCatch Y (Qm K Y (some q) M) M 4 [(0, .ref (adr Y 7)), (1, .int x1), (2, .int s11.1), (3, .int s11.2)] []
    refine w_iload_n C (pc := 4) dX0_nextToCatch_4 3 rfl ?_
    refine w_aload_n C (pc := 5) dX0_nextToCatch_5 0 rfl ?_
    refine w_getR C (pc := 6) dX0_nextToCatch_6 f_X0_44 (sA_7 hY) rfl ?_
    refine w_getI C (pc := 9) dX0_nextToCatch_9 f_X0_77 (sA_4 hY) rfl ?_
    refine w_icge C (pc := 12) 60 dX0_nextToCatch_12 (by decide) (fun c => ?_) (fun c => ?_)
    · have h15 := it_t h15 c
      obtain rfl := Option.some.inj h15
      refine w_lv [0, 1, 2] rfl ?_
      exact kx14 _ rfl
    · have h15 := it_f h15 c
      refine w_aload_n C (pc := 15) dX0_nextToCatch_15 0 rfl ?_
      refine w_getR C (pc := 16) dX0_nextToCatch_16 f_X0_44 (sA_7 hY) rfl ?_
      refine w_iload_n C (pc := 19) dX0_nextToCatch_19 3 rfl ?_
      refine w_iconst C (pc := 20) dX0_nextToCatch_20 (v := 3) (by decide) ?_
      obtain ⟨v16, e17, h15⟩ := ob h15
      refine w_cVi C (pc := 21) dX0_nextToCatch_21 my_X4_part mi_X4_part ml_X0_82 (sA_4 hY) rfl rfl rfl [.int s11.2, .int 3] rfl rfl (Nat.le_of_ble_eq_true rfl) (tX4_part (kPlan_4 hY) e17) ?_
      refine w_iload_n C (pc := 24) dX0_nextToCatch_24 1 rfl ?_
      refine w_icne C (pc := 25) 54 dX0_nextToCatch_25 (by decide) (fun c => ?_) (fun c => ?_)
      · have h15 := it_t h15 c
        refine w_aload_n C (pc := 28) dX0_nextToCatch_28 0 rfl ?_
        refine w_getR C (pc := 29) dX0_nextToCatch_29 f_X0_37 (sA_7 hY) rfl ?_
        refine w_iload_n C (pc := 32) dX0_nextToCatch_32 3 rfl ?_
        obtain ⟨v18, e19, h15⟩ := ob h15
        refine w_iald C (pc := 33) dX0_nextToCatch_33 (sA_16 hY) e19 ?_
        refine w_iconst C (pc := 34) dX0_nextToCatch_34 (v := (-1)) (by decide) ?_
        refine w_icne C (pc := 35) 54 dX0_nextToCatch_35 (by decide) (fun c => ?_) (fun c => ?_)
        · have h15 := it_t h15 c
          refine w_iload_n C (pc := 38) dX0_nextToCatch_38 2 rfl ?_
          refine w_iconst C (pc := 39) dX0_nextToCatch_39 (v := (-1)) (by decide) ?_
          refine w_iceq C (pc := 40) 52 dX0_nextToCatch_40 (by decide) (fun c => ?_) (fun c => ?_)
          · have h15 := it_t h15 c
            refine w_iload_n C (pc := 52) dX0_nextToCatch_52 3 rfl ?_
            refine w_bnd h15 (fun v20 h15 => ?_)
            refine w_istore_n C (pc := 53) dX0_nextToCatch_53 (lv' := [(0, .ref (adr Y 7)), (1, .int x1), (2, .int v20), (3, .int s11.2)]) rfl rfl rfl ?_
            refine w_iinc C (pc := 54) dX0_nextToCatch_54 3 rfl (v := 1) (lv' := [(0, .ref (adr Y 7)), (1, .int x1), (2, .int v20), (3, .int (s11.2 + 1))]) (by decide) rfl rfl rfl ?_
            refine w_goto C (pc := 57) 4 dX0_nextToCatch_57 (by decide) ?_
            obtain rfl := Option.some.inj h15
            exact ki13 _ rfl
          · have h15 := it_f h15 c
            refine w_aload_n C (pc := 43) dX0_nextToCatch_43 0 rfl ?_
            refine w_iload_n C (pc := 44) dX0_nextToCatch_44 3 rfl ?_
            refine w_iload_n C (pc := 45) dX0_nextToCatch_45 2 rfl ?_
            obtain ⟨v21, e22, h15⟩ := ob h15
            refine w_cVi C (pc := 46) dX0_nextToCatch_46 my_X0_isAhead mi_X0_isAhead ml_X0_144 (sA_7 hY) rfl rfl rfl [.int s11.2, .int s11.1] rfl rfl (Nat.le_of_ble_eq_true rfl) (tX0_isAhead hY  e22) ?_
            refine w_ifeq C (pc := 49) 54 dX0_nextToCatch_49 (by decide) (fun c => ?_) (fun c => ?_)
            · have h15 := it_t h15 c
              refine w_iinc C (pc := 54) dX0_nextToCatch_54 3 rfl (v := 1) (lv' := [(0, .ref (adr Y 7)), (1, .int x1), (2, .int s11.1), (3, .int (s11.2 + 1))]) (by decide) rfl rfl rfl ?_
              refine w_goto C (pc := 57) 4 dX0_nextToCatch_57 (by decide) ?_
              obtain rfl := Option.some.inj h15
              exact ki13 _ rfl
            · have h15 := it_f h15 c
              refine w_iload_n C (pc := 52) dX0_nextToCatch_52 3 rfl ?_
              refine w_bnd h15 (fun v23 h15 => ?_)
              refine w_istore_n C (pc := 53) dX0_nextToCatch_53 (lv' := [(0, .ref (adr Y 7)), (1, .int x1), (2, .int v23), (3, .int s11.2)]) rfl rfl rfl ?_
              refine w_iinc C (pc := 54) dX0_nextToCatch_54 3 rfl (v := 1) (lv' := [(0, .ref (adr Y 7)), (1, .int x1), (2, .int v23), (3, .int (s11.2 + 1))]) (by decide) rfl rfl rfl ?_
              refine w_goto C (pc := 57) 4 dX0_nextToCatch_57 (by decide) ?_
              obtain rfl := Option.some.inj h15
              exact ki13 _ rfl
        · have h15 := it_f h15 c
          refine w_iinc C (pc := 54) dX0_nextToCatch_54 3 rfl (v := 1) (lv' := [(0, .ref (adr Y 7)), (1, .int x1), (2, .int s11.1), (3, .int (s11.2 + 1))]) (by decide) rfl rfl rfl ?_
          refine w_goto C (pc := 57) 4 dX0_nextToCatch_57 (by decide) ?_
          obtain rfl := Option.some.inj h15
          exact ki13 _ rfl
      · have h15 := it_f h15 c
        refine w_iinc C (pc := 54) dX0_nextToCatch_54 3 rfl (v := 1) (lv' := [(0, .ref (adr Y 7)), (1, .int x1), (2, .int s11.1), (3, .int (s11.2 + 1))]) (by decide) rfl rfl rfl ?_
        refine w_goto C (pc := 57) 4 dX0_nextToCatch_57 (by decide) ?_
        obtain rfl := Option.some.inj h15
        exact ki13 _ rfl
  · refine w_iload_n C (pc := 60) dX0_nextToCatch_60 2 rfl ?_
    exact w_retR C (pc := 61) dX0_nextToCatch_61 rfl (Option.some.inj h)
theorem dX0_catchAll_0 : decode cX0_catchAll 0 = .ok (.iload_n 2, 1) := by decide +kernel
theorem dX0_catchAll_1 : decode cX0_catchAll 1 = .ok (.istore_n 3, 1) := by decide +kernel
theorem dX0_catchAll_2 : decode cX0_catchAll 2 = .ok (.aload_n 0, 1) := by decide +kernel
theorem dX0_catchAll_3 : decode cX0_catchAll 3 = .ok (.getfield 28, 3) := by decide +kernel
theorem dX0_catchAll_6 : decode cX0_catchAll 6 = .ok (.iload_n 1, 1) := by decide +kernel
theorem dX0_catchAll_7 : decode cX0_catchAll 7 = .ok (.iconst 0, 1) := by decide +kernel
theorem dX0_catchAll_8 : decode cX0_catchAll 8 = .ok (.iastore, 1) := by decide +kernel
theorem dX0_catchAll_9 : decode cX0_catchAll 9 = .ok (.iconst 0, 1) := by decide +kernel
theorem dX0_catchAll_10 : decode cX0_catchAll 10 = .ok (.istore 4, 2) := by decide +kernel
theorem dX0_catchAll_12 : decode cX0_catchAll 12 = .ok (.iload 4, 2) := by decide +kernel
theorem dX0_catchAll_14 : decode cX0_catchAll 14 = .ok (.aload_n 0, 1) := by decide +kernel
theorem dX0_catchAll_15 : decode cX0_catchAll 15 = .ok (.getfield 44, 3) := by decide +kernel
theorem dX0_catchAll_18 : decode cX0_catchAll 18 = .ok (.getfield 77, 3) := by decide +kernel
theorem dX0_catchAll_21 : decode cX0_catchAll 21 = .ok (.if_icmp .ge 105, 3) := by decide +kernel
theorem dX0_catchAll_24 : decode cX0_catchAll 24 = .ok (.aload_n 0, 1) := by decide +kernel
theorem dX0_catchAll_25 : decode cX0_catchAll 25 = .ok (.iload_n 1, 1) := by decide +kernel
theorem dX0_catchAll_26 : decode cX0_catchAll 26 = .ok (.invokevirtual 136, 3) := by decide +kernel
theorem dX0_catchAll_29 : decode cX0_catchAll 29 = .ok (.istore 5, 2) := by decide +kernel
theorem dX0_catchAll_31 : decode cX0_catchAll 31 = .ok (.iload 5, 2) := by decide +kernel
theorem dX0_catchAll_33 : decode cX0_catchAll 33 = .ok (.iconst (-1), 1) := by decide +kernel
theorem dX0_catchAll_34 : decode cX0_catchAll 34 = .ok (.if_icmp .ne 5, 3) := by decide +kernel
theorem dX0_catchAll_37 : decode cX0_catchAll 37 = .ok (.iload_n 3, 1) := by decide +kernel
theorem dX0_catchAll_38 : decode cX0_catchAll 38 = .ok (.ireturn, 1) := by decide +kernel
theorem dX0_catchAll_39 : decode cX0_catchAll 39 = .ok (.aload_n 0, 1) := by decide +kernel
theorem dX0_catchAll_40 : decode cX0_catchAll 40 = .ok (.getfield 37, 3) := by decide +kernel
theorem dX0_catchAll_43 : decode cX0_catchAll 43 = .ok (.iload 5, 2) := by decide +kernel
theorem dX0_catchAll_45 : decode cX0_catchAll 45 = .ok (.iload_n 3, 1) := by decide +kernel
theorem dX0_catchAll_46 : decode cX0_catchAll 46 = .ok (.aload_n 0, 1) := by decide +kernel
theorem dX0_catchAll_47 : decode cX0_catchAll 47 = .ok (.getfield 34, 3) := by decide +kernel
theorem dX0_catchAll_50 : decode cX0_catchAll 50 = .ok (.iload 5, 2) := by decide +kernel
theorem dX0_catchAll_52 : decode cX0_catchAll 52 = .ok (.iaload, 1) := by decide +kernel
theorem dX0_catchAll_53 : decode cX0_catchAll 53 = .ok (.invokestatic 139, 3) := by decide +kernel
theorem dX0_catchAll_56 : decode cX0_catchAll 56 = .ok (.iastore, 1) := by decide +kernel
theorem dX0_catchAll_57 : decode cX0_catchAll 57 = .ok (.aload_n 0, 1) := by decide +kernel
theorem dX0_catchAll_58 : decode cX0_catchAll 58 = .ok (.getfield 28, 3) := by decide +kernel
theorem dX0_catchAll_61 : decode cX0_catchAll 61 = .ok (.iload_n 1, 1) := by decide +kernel
theorem dX0_catchAll_62 : decode cX0_catchAll 62 = .ok (.dup2, 1) := by decide +kernel
theorem dX0_catchAll_63 : decode cX0_catchAll 63 = .ok (.iaload, 1) := by decide +kernel
theorem dX0_catchAll_64 : decode cX0_catchAll 64 = .ok (.aload_n 0, 1) := by decide +kernel
theorem dX0_catchAll_65 : decode cX0_catchAll 65 = .ok (.getfield 37, 3) := by decide +kernel
theorem dX0_catchAll_68 : decode cX0_catchAll 68 = .ok (.iload 5, 2) := by decide +kernel
theorem dX0_catchAll_70 : decode cX0_catchAll 70 = .ok (.iaload, 1) := by decide +kernel
theorem dX0_catchAll_71 : decode cX0_catchAll 71 = .ok (.iload_n 3, 1) := by decide +kernel
theorem dX0_catchAll_72 : decode cX0_catchAll 72 = .ok (.isub, 1) := by decide +kernel
theorem dX0_catchAll_73 : decode cX0_catchAll 73 = .ok (.iadd, 1) := by decide +kernel
theorem dX0_catchAll_74 : decode cX0_catchAll 74 = .ok (.iastore, 1) := by decide +kernel
theorem dX0_catchAll_75 : decode cX0_catchAll 75 = .ok (.aload_n 0, 1) := by decide +kernel
theorem dX0_catchAll_76 : decode cX0_catchAll 76 = .ok (.getfield 37, 3) := by decide +kernel
theorem dX0_catchAll_79 : decode cX0_catchAll 79 = .ok (.iload 5, 2) := by decide +kernel
theorem dX0_catchAll_81 : decode cX0_catchAll 81 = .ok (.iaload, 1) := by decide +kernel
theorem dX0_catchAll_82 : decode cX0_catchAll 82 = .ok (.aload_n 0, 1) := by decide +kernel
theorem dX0_catchAll_83 : decode cX0_catchAll 83 = .ok (.getfield 40, 3) := by decide +kernel
theorem dX0_catchAll_86 : decode cX0_catchAll 86 = .ok (.bipush 7, 2) := by decide +kernel
theorem dX0_catchAll_88 : decode cX0_catchAll 88 = .ok (.invokevirtual 86, 3) := by decide +kernel
theorem dX0_catchAll_91 : decode cX0_catchAll 91 = .ok (.iadd, 1) := by decide +kernel
theorem dX0_catchAll_92 : decode cX0_catchAll 92 = .ok (.istore_n 3, 1) := by decide +kernel
theorem dX0_catchAll_93 : decode cX0_catchAll 93 = .ok (.aload_n 0, 1) := by decide +kernel
theorem dX0_catchAll_94 : decode cX0_catchAll 94 = .ok (.getfield 12, 3) := by decide +kernel
theorem dX0_catchAll_97 : decode cX0_catchAll 97 = .ok (.iload_n 3, 1) := by decide +kernel
theorem dX0_catchAll_98 : decode cX0_catchAll 98 = .ok (.iconst 2, 1) := by decide +kernel
theorem dX0_catchAll_99 : decode cX0_catchAll 99 = .ok (.aload_n 0, 1) := by decide +kernel
theorem dX0_catchAll_100 : decode cX0_catchAll 100 = .ok (.getfield 44, 3) := by decide +kernel
theorem dX0_catchAll_103 : decode cX0_catchAll 103 = .ok (.iload_n 1, 1) := by decide +kernel
theorem dX0_catchAll_104 : decode cX0_catchAll 104 = .ok (.invokevirtual 101, 3) := by decide +kernel
theorem dX0_catchAll_107 : decode cX0_catchAll 107 = .ok (.aload_n 0, 1) := by decide +kernel
theorem dX0_catchAll_108 : decode cX0_catchAll 108 = .ok (.getfield 44, 3) := by decide +kernel
theorem dX0_catchAll_111 : decode cX0_catchAll 111 = .ok (.iload 5, 2) := by decide +kernel
theorem dX0_catchAll_113 : decode cX0_catchAll 113 = .ok (.iconst 0, 1) := by decide +kernel
theorem dX0_catchAll_114 : decode cX0_catchAll 114 = .ok (.invokevirtual 82, 3) := by decide +kernel
theorem dX0_catchAll_117 : decode cX0_catchAll 117 = .ok (.invokevirtual 123, 3) := by decide +kernel
theorem dX0_catchAll_120 : decode cX0_catchAll 120 = .ok (.iinc 4 1, 3) := by decide +kernel
theorem dX0_catchAll_123 : decode cX0_catchAll 123 = .ok (.goto (-111), 3) := by decide +kernel
theorem dX0_catchAll_126 : decode cX0_catchAll 126 = .ok (.iload_n 3, 1) := by decide +kernel
theorem dX0_catchAll_127 : decode cX0_catchAll 127 = .ok (.ireturn, 1) := by decide +kernel
def pX0_catchAll_L12 (x1 : Int32) (s : Int32 × Int32 × Mm) : Option ((Int32 × Int32 × Mm) ⊕ ((Int32 × Mm) ⊕ (Int32 × Mm))) :=
if (s.2.2 4 1) ≤ s.2.1 then
(some (Sum.inr (Sum.inl (s.1, s.2.2))))
else
((pX0_nextToCatch x1 s.2.2).bind fun v3 =>
if v3 = (-1) then
(some (Sum.inr (Sum.inr (s.1, s.2.2))))
else
((ald s.2.2 15 8 v3).bind fun v6 =>
(ast s.2.2 16 8 v3 (mmax s.1 v6)).bind fun M8 =>
(ald M8 13 10 x1).bind fun v10 =>
(ald M8 16 8 v3).bind fun v12 =>
(ast M8 13 10 x1 (v10 + (v12 - s.1))).bind fun M14 =>
(ald M14 16 8 v3).bind fun v16 =>
(pX3_setting 1 7 M14).bind fun v18 =>
bnd (v16 + v18) fun v20 =>
(pX4_placeAt 4 x1 M14).bind fun v21 =>
(pX4_part 4 v3 0 M14).bind fun v23 =>
(pX1_note v20 2 v21 v23 M14).bind fun v25 =>
some (Sum.inl (v20, s.2.1 + 1, v25))))
def pX0_catchAll (x1 : Int32) (x2 : Int32) (M : Mm) : Option (Int32 × Mm) :=
(ast M 13 10 x1 0).bind fun M1 =>
(itr (pX0_catchAll_L12 x1) fuel (x2, 0, M1)).bind fun x27 =>
Sum.elim (fun yx27 =>
some (yx27.1, yx27.2)) (fun r => some r) x27
abbrev zX0_catchAll : Zx := (cX0_catchAll, RX0, 6, 3, (some .int))
set_option maxRecDepth 100000 in
set_option maxHeartbeats 4000000 in
theorem tX0_catchAll {l : Launch} {Y : Sx} {M : Mm} {x1 : Int32} {x2 : Int32} {q : Int32 × Mm} (hY : isA Y) (h : pX0_catchAll x1 x2 M = some q) : Ct l Y yX0_catchAll cX0_catchAll 6 (some .int) 3 [.ref (adr Y 7), .int x1, .int x2] M (some q.1) q.2 := by
  refine Ct.of (by decide) rfl (lv := [(0, .ref (adr Y 7)), (1, .int x1), (2, .int x2)]) rfl ?_
  intro K hkl C
  change Cx K zX0_catchAll Y at C
  subst hkl
  unfold pX0_catchAll at h
  show Wp K zX0_catchAll Y (Qm K Y (some q.1) q.2) M 0 [(0, .ref (adr Y 7)), (1, .int x1), (2, .int x2)] []
  refine w_iload_n C (pc := 0) dX0_catchAll_0 2 rfl ?_
  refine w_istore_n C (pc := 1) dX0_catchAll_1 (lv' := [(0, .ref (adr Y 7)), (1, .int x1), (2, .int x2), (3, .int x2)]) rfl rfl rfl ?_
  refine w_aload_n C (pc := 2) dX0_catchAll_2 0 rfl ?_
  refine w_getR C (pc := 3) dX0_catchAll_3 f_X0_28 (sA_7 hY) rfl ?_
  refine w_iload_n C (pc := 6) dX0_catchAll_6 1 rfl ?_
  refine w_iconst C (pc := 7) dX0_catchAll_7 (v := 0) (by decide) ?_
  obtain ⟨M1, e2, h⟩ := ob h
  refine w_iast C (pc := 8) dX0_catchAll_8 (sA_13 hY) e2 ?_
  refine w_iconst C (pc := 9) dX0_catchAll_9 (v := 0) (by decide) ?_
  refine w_istore C (pc := 10) dX0_catchAll_10 (lv' := [(0, .ref (adr Y 7)), (1, .int x1), (2, .int x2), (3, .int x2), (4, .int 0)]) rfl rfl rfl ?_
  obtain ⟨x27, e28, h⟩ := ob h
  refine itr_W (P := fun s29 => Wp K zX0_catchAll Y (Qm K Y (some q.1) q.2) s29.2.2 12 [(0, .ref (adr Y 7)), (1, .int x1), (2, .int x2), (3, .int s29.1), (4, .int s29.2.1)] []) (R := fun x9 => (∀ yx27, x9 = Sum.inl yx27 → Wp K zX0_catchAll Y (Qm K Y (some q.1) q.2) yx27.2 126 [(0, .ref (adr Y 7)), (1, .int x1), (2, .int x2), (3, .int yx27.1)] []) ∧ (∀ v9, x9 = Sum.inr v9 → some v9 = some q)) ?_ fuel (x2, 0, M1) x27 e28 ?_
  · intro s29 r30 h33 ki31 kx32
    unfold pX0_catchAll_L12 at h33
    show Wp K zX0_catchAll Y (Qm K Y (some q.1) q.2) s29.2.2 12 [(0, .ref (adr Y 7)), (1, .int x1), (2, .int x2), (3, .int s29.1), (4, .int s29.2.1)] []
    refine w_iload C (pc := 12) dX0_catchAll_12 4 rfl ?_
    refine w_aload_n C (pc := 14) dX0_catchAll_14 0 rfl ?_
    refine w_getR C (pc := 15) dX0_catchAll_15 f_X0_44 (sA_7 hY) rfl ?_
    refine w_getI C (pc := 18) dX0_catchAll_18 f_X0_77 (sA_4 hY) rfl ?_
    refine w_icge C (pc := 21) 126 dX0_catchAll_21 (by decide) (fun c => ?_) (fun c => ?_)
    · have h33 := it_t h33 c
      obtain rfl := Option.some.inj h33
      refine w_lv [0, 1, 2, 3] rfl ?_
      exact (kx32 _ rfl).1 _ rfl
    · have h33 := it_f h33 c
      refine w_aload_n C (pc := 24) dX0_catchAll_24 0 rfl ?_
      refine w_iload_n C (pc := 25) dX0_catchAll_25 1 rfl ?_
      obtain ⟨v34, e35, h33⟩ := ob h33
      refine w_cVi C (pc := 26) dX0_catchAll_26 my_X0_nextToCatch mi_X0_nextToCatch ml_X0_136 (sA_7 hY) rfl rfl rfl [.int x1] rfl rfl (Nat.le_of_ble_eq_true rfl) (tX0_nextToCatch hY  e35) ?_
      refine w_istore C (pc := 29) dX0_catchAll_29 (lv' := [(0, .ref (adr Y 7)), (1, .int x1), (2, .int x2), (3, .int s29.1), (4, .int s29.2.1), (5, .int v34)]) rfl rfl rfl ?_
      refine w_iload C (pc := 31) dX0_catchAll_31 5 rfl ?_
      refine w_iconst C (pc := 33) dX0_catchAll_33 (v := (-1)) (by decide) ?_
      refine w_icne C (pc := 34) 39 dX0_catchAll_34 (by decide) (fun c => ?_) (fun c => ?_)
      · have h33 := it_t h33 c
        refine w_iload_n C (pc := 37) dX0_catchAll_37 3 rfl ?_
        obtain rfl := Option.some.inj h33
        have h36 := (kx32 _ rfl).2 _ rfl
        exact w_ret C (pc := 38) dX0_catchAll_38 rfl (Option.some.inj h36)
      · have h33 := it_f h33 c
        refine w_aload_n C (pc := 39) dX0_catchAll_39 0 rfl ?_
        refine w_getR C (pc := 40) dX0_catchAll_40 f_X0_37 (sA_7 hY) rfl ?_
        refine w_iload C (pc := 43) dX0_catchAll_43 5 rfl ?_
        refine w_iload_n C (pc := 45) dX0_catchAll_45 3 rfl ?_
        refine w_aload_n C (pc := 46) dX0_catchAll_46 0 rfl ?_
        refine w_getR C (pc := 47) dX0_catchAll_47 f_X0_34 (sA_7 hY) rfl ?_
        refine w_iload C (pc := 50) dX0_catchAll_50 5 rfl ?_
        obtain ⟨v37, e38, h33⟩ := ob h33
        refine w_iald C (pc := 52) dX0_catchAll_52 (sA_15 hY) e38 ?_
        refine w_max C (pc := 53) dX0_catchAll_53 mmax_X0_139 rfl (Nat.le_of_ble_eq_true rfl) ?_
        obtain ⟨M39, e40, h33⟩ := ob h33
        refine w_iast C (pc := 56) dX0_catchAll_56 (sA_16 hY) e40 ?_
        refine w_aload_n C (pc := 57) dX0_catchAll_57 0 rfl ?_
        refine w_getR C (pc := 58) dX0_catchAll_58 f_X0_28 (sA_7 hY) rfl ?_
        refine w_iload_n C (pc := 61) dX0_catchAll_61 1 rfl ?_
        refine w_dup2 C (pc := 62) dX0_catchAll_62 rfl rfl ?_
        obtain ⟨v41, e42, h33⟩ := ob h33
        refine w_iald C (pc := 63) dX0_catchAll_63 (sA_13 hY) e42 ?_
        refine w_aload_n C (pc := 64) dX0_catchAll_64 0 rfl ?_
        refine w_getR C (pc := 65) dX0_catchAll_65 f_X0_37 (sA_7 hY) rfl ?_
        refine w_iload C (pc := 68) dX0_catchAll_68 5 rfl ?_
        obtain ⟨v43, e44, h33⟩ := ob h33
        refine w_iald C (pc := 70) dX0_catchAll_70 (sA_16 hY) e44 ?_
        refine w_iload_n C (pc := 71) dX0_catchAll_71 3 rfl ?_
        refine w_isub C (pc := 72) dX0_catchAll_72 ?_
        refine w_iadd C (pc := 73) dX0_catchAll_73 ?_
        obtain ⟨M45, e46, h33⟩ := ob h33
        refine w_iast C (pc := 74) dX0_catchAll_74 (sA_13 hY) e46 ?_
        refine w_aload_n C (pc := 75) dX0_catchAll_75 0 rfl ?_
        refine w_getR C (pc := 76) dX0_catchAll_76 f_X0_37 (sA_7 hY) rfl ?_
        refine w_iload C (pc := 79) dX0_catchAll_79 5 rfl ?_
        obtain ⟨v47, e48, h33⟩ := ob h33
        refine w_iald C (pc := 81) dX0_catchAll_81 (sA_16 hY) e48 ?_
        refine w_aload_n C (pc := 82) dX0_catchAll_82 0 rfl ?_
        refine w_getR C (pc := 83) dX0_catchAll_83 f_X0_40 (sA_7 hY) rfl ?_
        refine w_bipush C (pc := 86) dX0_catchAll_86 (v := 7) (by decide) ?_
        obtain ⟨v49, e50, h33⟩ := ob h33
        refine w_cVi C (pc := 88) dX0_catchAll_88 my_X3_setting mi_X3_setting ml_X0_86 (sA_1 hY) rfl rfl rfl [.int 7] rfl rfl (Nat.le_of_ble_eq_true rfl) (tX3_setting (kLand_1 hY) e50) ?_
        refine w_iadd C (pc := 91) dX0_catchAll_91 ?_
        refine w_bnd h33 (fun v51 h33 => ?_)
        refine w_istore_n C (pc := 92) dX0_catchAll_92 (lv' := [(0, .ref (adr Y 7)), (1, .int x1), (2, .int x2), (3, .int v51), (4, .int s29.2.1), (5, .int v34)]) rfl rfl rfl ?_
        refine w_aload_n C (pc := 93) dX0_catchAll_93 0 rfl ?_
        refine w_getR C (pc := 94) dX0_catchAll_94 f_X0_12 (sA_7 hY) rfl ?_
        refine w_iload_n C (pc := 97) dX0_catchAll_97 3 rfl ?_
        refine w_iconst C (pc := 98) dX0_catchAll_98 (v := 2) (by decide) ?_
        refine w_aload_n C (pc := 99) dX0_catchAll_99 0 rfl ?_
        refine w_getR C (pc := 100) dX0_catchAll_100 f_X0_44 (sA_7 hY) rfl ?_
        refine w_iload_n C (pc := 103) dX0_catchAll_103 1 rfl ?_
        obtain ⟨v52, e53, h33⟩ := ob h33
        refine w_cVi C (pc := 104) dX0_catchAll_104 my_X4_placeAt mi_X4_placeAt ml_X0_101 (sA_4 hY) rfl rfl rfl [.int x1] rfl rfl (Nat.le_of_ble_eq_true rfl) (tX4_placeAt (kPlan_4 hY) e53) ?_
        refine w_aload_n C (pc := 107) dX0_catchAll_107 0 rfl ?_
        refine w_getR C (pc := 108) dX0_catchAll_108 f_X0_44 (sA_7 hY) rfl ?_
        refine w_iload C (pc := 111) dX0_catchAll_111 5 rfl ?_
        refine w_iconst C (pc := 113) dX0_catchAll_113 (v := 0) (by decide) ?_
        obtain ⟨v54, e55, h33⟩ := ob h33
        refine w_cVi C (pc := 114) dX0_catchAll_114 my_X4_part mi_X4_part ml_X0_82 (sA_4 hY) rfl rfl rfl [.int v34, .int 0] rfl rfl (Nat.le_of_ble_eq_true rfl) (tX4_part (kPlan_4 hY) e55) ?_
        obtain ⟨v56, e57, h33⟩ := ob h33
        refine w_cVv C (pc := 117) dX0_catchAll_117 my_X1_note mi_X1_note ml_X0_123 (sA_8 hY) rfl rfl rfl [.int v51, .int 2, .int v52, .int v54] rfl rfl (Nat.le_of_ble_eq_true rfl) (tX1_note hY  e57) ?_
        refine w_iinc C (pc := 120) dX0_catchAll_120 4 rfl (v := 1) (lv' := [(0, .ref (adr Y 7)), (1, .int x1), (2, .int x2), (3, .int v51), (4, .int (s29.2.1 + 1)), (5, .int v34)]) (by decide) rfl rfl rfl ?_
        refine w_goto C (pc := 123) 12 dX0_catchAll_123 (by decide) ?_
        obtain rfl := Option.some.inj h33
        refine w_lv [0, 1, 2, 3, 4] rfl ?_
        exact ki31 _ rfl
  · refine ⟨fun yx27 hy => ?_, fun v9 hv => ?_⟩
    · subst hy
      dsimp only [Sum.elim] at h
      refine w_iload_n C (pc := 126) dX0_catchAll_126 3 rfl ?_
      exact w_ret C (pc := 127) dX0_catchAll_127 rfl (Option.some.inj h)
    · subst hv
      exact h
theorem dX0_launch_0 : decode cX0_launch 0 = .ok (.aload_n 0, 1) := by decide +kernel
theorem dX0_launch_1 : decode cX0_launch 1 = .ok (.getfield 40, 3) := by decide +kernel
theorem dX0_launch_4 : decode cX0_launch 4 = .ok (.iconst 2, 1) := by decide +kernel
theorem dX0_launch_5 : decode cX0_launch 5 = .ok (.invokevirtual 86, 3) := by decide +kernel
theorem dX0_launch_8 : decode cX0_launch 8 = .ok (.istore_n 3, 1) := by decide +kernel
theorem dX0_launch_9 : decode cX0_launch 9 = .ok (.aload_n 0, 1) := by decide +kernel
theorem dX0_launch_10 : decode cX0_launch 10 = .ok (.getfield 40, 3) := by decide +kernel
theorem dX0_launch_13 : decode cX0_launch 13 = .ok (.iconst 3, 1) := by decide +kernel
theorem dX0_launch_14 : decode cX0_launch 14 = .ok (.invokevirtual 86, 3) := by decide +kernel
theorem dX0_launch_17 : decode cX0_launch 17 = .ok (.istore 4, 2) := by decide +kernel
theorem dX0_launch_19 : decode cX0_launch 19 = .ok (.aload_n 0, 1) := by decide +kernel
theorem dX0_launch_20 : decode cX0_launch 20 = .ok (.getfield 44, 3) := by decide +kernel
theorem dX0_launch_23 : decode cX0_launch 23 = .ok (.iload_n 1, 1) := by decide +kernel
theorem dX0_launch_24 : decode cX0_launch 24 = .ok (.iconst 0, 1) := by decide +kernel
theorem dX0_launch_25 : decode cX0_launch 25 = .ok (.invokevirtual 82, 3) := by decide +kernel
theorem dX0_launch_28 : decode cX0_launch 28 = .ok (.istore 5, 2) := by decide +kernel
theorem dX0_launch_30 : decode cX0_launch 30 = .ok (.aload_n 0, 1) := by decide +kernel
theorem dX0_launch_31 : decode cX0_launch 31 = .ok (.getfield 44, 3) := by decide +kernel
theorem dX0_launch_34 : decode cX0_launch 34 = .ok (.iload_n 1, 1) := by decide +kernel
theorem dX0_launch_35 : decode cX0_launch 35 = .ok (.iconst 2, 1) := by decide +kernel
theorem dX0_launch_36 : decode cX0_launch 36 = .ok (.invokevirtual 82, 3) := by decide +kernel
theorem dX0_launch_39 : decode cX0_launch 39 = .ok (.istore 6, 2) := by decide +kernel
theorem dX0_launch_41 : decode cX0_launch 41 = .ok (.aload_n 0, 1) := by decide +kernel
theorem dX0_launch_42 : decode cX0_launch 42 = .ok (.getfield 44, 3) := by decide +kernel
theorem dX0_launch_45 : decode cX0_launch 45 = .ok (.aload_n 0, 1) := by decide +kernel
theorem dX0_launch_46 : decode cX0_launch 46 = .ok (.getfield 44, 3) := by decide +kernel
theorem dX0_launch_49 : decode cX0_launch 49 = .ok (.iload_n 1, 1) := by decide +kernel
theorem dX0_launch_50 : decode cX0_launch 50 = .ok (.iconst 1, 1) := by decide +kernel
theorem dX0_launch_51 : decode cX0_launch 51 = .ok (.invokevirtual 82, 3) := by decide +kernel
theorem dX0_launch_54 : decode cX0_launch 54 = .ok (.invokevirtual 101, 3) := by decide +kernel
theorem dX0_launch_57 : decode cX0_launch 57 = .ok (.istore 7, 2) := by decide +kernel
theorem dX0_launch_59 : decode cX0_launch 59 = .ok (.aload_n 0, 1) := by decide +kernel
theorem dX0_launch_60 : decode cX0_launch 60 = .ok (.getfield 44, 3) := by decide +kernel
theorem dX0_launch_63 : decode cX0_launch 63 = .ok (.aload_n 0, 1) := by decide +kernel
theorem dX0_launch_64 : decode cX0_launch 64 = .ok (.getfield 44, 3) := by decide +kernel
theorem dX0_launch_67 : decode cX0_launch 67 = .ok (.iload_n 1, 1) := by decide +kernel
theorem dX0_launch_68 : decode cX0_launch 68 = .ok (.iconst 3, 1) := by decide +kernel
theorem dX0_launch_69 : decode cX0_launch 69 = .ok (.invokevirtual 82, 3) := by decide +kernel
theorem dX0_launch_72 : decode cX0_launch 72 = .ok (.invokevirtual 101, 3) := by decide +kernel
theorem dX0_launch_75 : decode cX0_launch 75 = .ok (.istore 8, 2) := by decide +kernel
theorem dX0_launch_77 : decode cX0_launch 77 = .ok (.iload_n 2, 1) := by decide +kernel
theorem dX0_launch_78 : decode cX0_launch 78 = .ok (.aload_n 0, 1) := by decide +kernel
theorem dX0_launch_79 : decode cX0_launch 79 = .ok (.getfield 40, 3) := by decide +kernel
theorem dX0_launch_82 : decode cX0_launch 82 = .ok (.iload 7, 2) := by decide +kernel
theorem dX0_launch_84 : decode cX0_launch 84 = .ok (.iload 6, 2) := by decide +kernel
theorem dX0_launch_86 : decode cX0_launch 86 = .ok (.iload_n 3, 1) := by decide +kernel
theorem dX0_launch_87 : decode cX0_launch 87 = .ok (.iload 4, 2) := by decide +kernel
theorem dX0_launch_89 : decode cX0_launch 89 = .ok (.invokevirtual 152, 3) := by decide +kernel
theorem dX0_launch_92 : decode cX0_launch 92 = .ok (.iadd, 1) := by decide +kernel
theorem dX0_launch_93 : decode cX0_launch 93 = .ok (.aload_n 0, 1) := by decide +kernel
theorem dX0_launch_94 : decode cX0_launch 94 = .ok (.getfield 40, 3) := by decide +kernel
theorem dX0_launch_97 : decode cX0_launch 97 = .ok (.iload 6, 2) := by decide +kernel
theorem dX0_launch_99 : decode cX0_launch 99 = .ok (.iconst 3, 1) := by decide +kernel
theorem dX0_launch_100 : decode cX0_launch 100 = .ok (.invokevirtual 127, 3) := by decide +kernel
theorem dX0_launch_103 : decode cX0_launch 103 = .ok (.iadd, 1) := by decide +kernel
theorem dX0_launch_104 : decode cX0_launch 104 = .ok (.istore 9, 2) := by decide +kernel
theorem dX0_launch_106 : decode cX0_launch 106 = .ok (.aload_n 0, 1) := by decide +kernel
theorem dX0_launch_107 : decode cX0_launch 107 = .ok (.getfield 31, 3) := by decide +kernel
theorem dX0_launch_110 : decode cX0_launch 110 = .ok (.iload_n 1, 1) := by decide +kernel
theorem dX0_launch_111 : decode cX0_launch 111 = .ok (.iload_n 2, 1) := by decide +kernel
theorem dX0_launch_112 : decode cX0_launch 112 = .ok (.iastore, 1) := by decide +kernel
theorem dX0_launch_113 : decode cX0_launch 113 = .ok (.aload_n 0, 1) := by decide +kernel
theorem dX0_launch_114 : decode cX0_launch 114 = .ok (.getfield 34, 3) := by decide +kernel
theorem dX0_launch_117 : decode cX0_launch 117 = .ok (.iload_n 1, 1) := by decide +kernel
theorem dX0_launch_118 : decode cX0_launch 118 = .ok (.iload 9, 2) := by decide +kernel
theorem dX0_launch_120 : decode cX0_launch 120 = .ok (.aload_n 0, 1) := by decide +kernel
theorem dX0_launch_121 : decode cX0_launch 121 = .ok (.getfield 40, 3) := by decide +kernel
theorem dX0_launch_124 : decode cX0_launch 124 = .ok (.iload 6, 2) := by decide +kernel
theorem dX0_launch_126 : decode cX0_launch 126 = .ok (.iload 8, 2) := by decide +kernel
theorem dX0_launch_128 : decode cX0_launch 128 = .ok (.iload_n 3, 1) := by decide +kernel
theorem dX0_launch_129 : decode cX0_launch 129 = .ok (.iload 4, 2) := by decide +kernel
theorem dX0_launch_131 : decode cX0_launch 131 = .ok (.invokevirtual 152, 3) := by decide +kernel
theorem dX0_launch_134 : decode cX0_launch 134 = .ok (.iadd, 1) := by decide +kernel
theorem dX0_launch_135 : decode cX0_launch 135 = .ok (.iastore, 1) := by decide +kernel
theorem dX0_launch_136 : decode cX0_launch 136 = .ok (.aload_n 0, 1) := by decide +kernel
theorem dX0_launch_137 : decode cX0_launch 137 = .ok (.getfield 12, 3) := by decide +kernel
theorem dX0_launch_140 : decode cX0_launch 140 = .ok (.iload_n 2, 1) := by decide +kernel
theorem dX0_launch_141 : decode cX0_launch 141 = .ok (.iconst 3, 1) := by decide +kernel
theorem dX0_launch_142 : decode cX0_launch 142 = .ok (.iload 7, 2) := by decide +kernel
theorem dX0_launch_144 : decode cX0_launch 144 = .ok (.iload 5, 2) := by decide +kernel
theorem dX0_launch_146 : decode cX0_launch 146 = .ok (.invokevirtual 123, 3) := by decide +kernel
theorem dX0_launch_149 : decode cX0_launch 149 = .ok (.aload_n 0, 1) := by decide +kernel
theorem dX0_launch_150 : decode cX0_launch 150 = .ok (.getfield 12, 3) := by decide +kernel
theorem dX0_launch_153 : decode cX0_launch 153 = .ok (.iload 9, 2) := by decide +kernel
theorem dX0_launch_155 : decode cX0_launch 155 = .ok (.iconst 4, 1) := by decide +kernel
theorem dX0_launch_156 : decode cX0_launch 156 = .ok (.iload 6, 2) := by decide +kernel
theorem dX0_launch_158 : decode cX0_launch 158 = .ok (.iload 5, 2) := by decide +kernel
theorem dX0_launch_160 : decode cX0_launch 160 = .ok (.invokevirtual 123, 3) := by decide +kernel
theorem dX0_launch_163 : decode cX0_launch 163 = .ok (.return_, 1) := by decide +kernel
def pX0_launch (x1 : Int32) (x2 : Int32) (M : Mm) : Option (Mm) :=
(pX3_setting 1 2 M).bind fun v1 =>
(pX3_setting 1 3 M).bind fun v3 =>
(pX4_part 4 x1 0 M).bind fun v5 =>
(pX4_part 4 x1 2 M).bind fun v7 =>
(pX4_part 4 x1 1 M).bind fun v9 =>
(pX4_placeAt 4 v9 M).bind fun v11 =>
(pX4_part 4 x1 3 M).bind fun v13 =>
(pX4_placeAt 4 v13 M).bind fun v15 =>
(pX3_flight 1 v11 v7 v1 v3 M).bind fun v17 =>
(pX3_fact 1 v7 3 M).bind fun v19 =>
bnd ((x2 + v17) + v19) fun v21 =>
(ast M 14 8 x1 x2).bind fun M22 =>
(pX3_flight 1 v7 v15 v1 v3 M22).bind fun v24 =>
(ast M22 15 8 x1 (v21 + v24)).bind fun M26 =>
(pX1_note x2 3 v11 v5 M26).bind fun v28 =>
(pX1_note v21 4 v7 v5 v28).bind fun v30 =>
some v30
abbrev zX0_launch : Zx := (cX0_launch, RX0, 10, 2, none)
set_option maxRecDepth 100000 in
set_option maxHeartbeats 4000000 in
theorem tX0_launch {l : Launch} {Y : Sx} {M : Mm} {x1 : Int32} {x2 : Int32} {q : Mm} (hY : isA Y) (h : pX0_launch x1 x2 M = some q) : Ct l Y yX0_launch cX0_launch 10 none 2 [.ref (adr Y 7), .int x1, .int x2] M none q := by
  refine Ct.of (by decide) rfl (lv := [(0, .ref (adr Y 7)), (1, .int x1), (2, .int x2)]) rfl ?_
  intro K hkl C
  change Cx K zX0_launch Y at C
  subst hkl
  unfold pX0_launch at h
  show Wp K zX0_launch Y (Qm K Y none q) M 0 [(0, .ref (adr Y 7)), (1, .int x1), (2, .int x2)] []
  refine w_aload_n C (pc := 0) dX0_launch_0 0 rfl ?_
  refine w_getR C (pc := 1) dX0_launch_1 f_X0_40 (sA_7 hY) rfl ?_
  refine w_iconst C (pc := 4) dX0_launch_4 (v := 2) (by decide) ?_
  obtain ⟨v1, e2, h⟩ := ob h
  refine w_cVi C (pc := 5) dX0_launch_5 my_X3_setting mi_X3_setting ml_X0_86 (sA_1 hY) rfl rfl rfl [.int 2] rfl rfl (Nat.le_of_ble_eq_true rfl) (tX3_setting (kLand_1 hY) e2) ?_
  refine w_istore_n C (pc := 8) dX0_launch_8 (lv' := [(0, .ref (adr Y 7)), (1, .int x1), (2, .int x2), (3, .int v1)]) rfl rfl rfl ?_
  refine w_aload_n C (pc := 9) dX0_launch_9 0 rfl ?_
  refine w_getR C (pc := 10) dX0_launch_10 f_X0_40 (sA_7 hY) rfl ?_
  refine w_iconst C (pc := 13) dX0_launch_13 (v := 3) (by decide) ?_
  obtain ⟨v3, e4, h⟩ := ob h
  refine w_cVi C (pc := 14) dX0_launch_14 my_X3_setting mi_X3_setting ml_X0_86 (sA_1 hY) rfl rfl rfl [.int 3] rfl rfl (Nat.le_of_ble_eq_true rfl) (tX3_setting (kLand_1 hY) e4) ?_
  refine w_istore C (pc := 17) dX0_launch_17 (lv' := [(0, .ref (adr Y 7)), (1, .int x1), (2, .int x2), (3, .int v1), (4, .int v3)]) rfl rfl rfl ?_
  refine w_aload_n C (pc := 19) dX0_launch_19 0 rfl ?_
  refine w_getR C (pc := 20) dX0_launch_20 f_X0_44 (sA_7 hY) rfl ?_
  refine w_iload_n C (pc := 23) dX0_launch_23 1 rfl ?_
  refine w_iconst C (pc := 24) dX0_launch_24 (v := 0) (by decide) ?_
  obtain ⟨v5, e6, h⟩ := ob h
  refine w_cVi C (pc := 25) dX0_launch_25 my_X4_part mi_X4_part ml_X0_82 (sA_4 hY) rfl rfl rfl [.int x1, .int 0] rfl rfl (Nat.le_of_ble_eq_true rfl) (tX4_part (kPlan_4 hY) e6) ?_
  refine w_istore C (pc := 28) dX0_launch_28 (lv' := [(0, .ref (adr Y 7)), (1, .int x1), (2, .int x2), (3, .int v1), (4, .int v3), (5, .int v5)]) rfl rfl rfl ?_
  refine w_aload_n C (pc := 30) dX0_launch_30 0 rfl ?_
  refine w_getR C (pc := 31) dX0_launch_31 f_X0_44 (sA_7 hY) rfl ?_
  refine w_iload_n C (pc := 34) dX0_launch_34 1 rfl ?_
  refine w_iconst C (pc := 35) dX0_launch_35 (v := 2) (by decide) ?_
  obtain ⟨v7, e8, h⟩ := ob h
  refine w_cVi C (pc := 36) dX0_launch_36 my_X4_part mi_X4_part ml_X0_82 (sA_4 hY) rfl rfl rfl [.int x1, .int 2] rfl rfl (Nat.le_of_ble_eq_true rfl) (tX4_part (kPlan_4 hY) e8) ?_
  refine w_istore C (pc := 39) dX0_launch_39 (lv' := [(0, .ref (adr Y 7)), (1, .int x1), (2, .int x2), (3, .int v1), (4, .int v3), (5, .int v5), (6, .int v7)]) rfl rfl rfl ?_
  refine w_aload_n C (pc := 41) dX0_launch_41 0 rfl ?_
  refine w_getR C (pc := 42) dX0_launch_42 f_X0_44 (sA_7 hY) rfl ?_
  refine w_aload_n C (pc := 45) dX0_launch_45 0 rfl ?_
  refine w_getR C (pc := 46) dX0_launch_46 f_X0_44 (sA_7 hY) rfl ?_
  refine w_iload_n C (pc := 49) dX0_launch_49 1 rfl ?_
  refine w_iconst C (pc := 50) dX0_launch_50 (v := 1) (by decide) ?_
  obtain ⟨v9, e10, h⟩ := ob h
  refine w_cVi C (pc := 51) dX0_launch_51 my_X4_part mi_X4_part ml_X0_82 (sA_4 hY) rfl rfl rfl [.int x1, .int 1] rfl rfl (Nat.le_of_ble_eq_true rfl) (tX4_part (kPlan_4 hY) e10) ?_
  obtain ⟨v11, e12, h⟩ := ob h
  refine w_cVi C (pc := 54) dX0_launch_54 my_X4_placeAt mi_X4_placeAt ml_X0_101 (sA_4 hY) rfl rfl rfl [.int v9] rfl rfl (Nat.le_of_ble_eq_true rfl) (tX4_placeAt (kPlan_4 hY) e12) ?_
  refine w_istore C (pc := 57) dX0_launch_57 (lv' := [(0, .ref (adr Y 7)), (1, .int x1), (2, .int x2), (3, .int v1), (4, .int v3), (5, .int v5), (6, .int v7), (7, .int v11)]) rfl rfl rfl ?_
  refine w_aload_n C (pc := 59) dX0_launch_59 0 rfl ?_
  refine w_getR C (pc := 60) dX0_launch_60 f_X0_44 (sA_7 hY) rfl ?_
  refine w_aload_n C (pc := 63) dX0_launch_63 0 rfl ?_
  refine w_getR C (pc := 64) dX0_launch_64 f_X0_44 (sA_7 hY) rfl ?_
  refine w_iload_n C (pc := 67) dX0_launch_67 1 rfl ?_
  refine w_iconst C (pc := 68) dX0_launch_68 (v := 3) (by decide) ?_
  obtain ⟨v13, e14, h⟩ := ob h
  refine w_cVi C (pc := 69) dX0_launch_69 my_X4_part mi_X4_part ml_X0_82 (sA_4 hY) rfl rfl rfl [.int x1, .int 3] rfl rfl (Nat.le_of_ble_eq_true rfl) (tX4_part (kPlan_4 hY) e14) ?_
  obtain ⟨v15, e16, h⟩ := ob h
  refine w_cVi C (pc := 72) dX0_launch_72 my_X4_placeAt mi_X4_placeAt ml_X0_101 (sA_4 hY) rfl rfl rfl [.int v13] rfl rfl (Nat.le_of_ble_eq_true rfl) (tX4_placeAt (kPlan_4 hY) e16) ?_
  refine w_istore C (pc := 75) dX0_launch_75 (lv' := [(0, .ref (adr Y 7)), (1, .int x1), (2, .int x2), (3, .int v1), (4, .int v3), (5, .int v5), (6, .int v7), (7, .int v11), (8, .int v15)]) rfl rfl rfl ?_
  refine w_iload_n C (pc := 77) dX0_launch_77 2 rfl ?_
  refine w_aload_n C (pc := 78) dX0_launch_78 0 rfl ?_
  refine w_getR C (pc := 79) dX0_launch_79 f_X0_40 (sA_7 hY) rfl ?_
  refine w_iload C (pc := 82) dX0_launch_82 7 rfl ?_
  refine w_iload C (pc := 84) dX0_launch_84 6 rfl ?_
  refine w_iload_n C (pc := 86) dX0_launch_86 3 rfl ?_
  refine w_iload C (pc := 87) dX0_launch_87 4 rfl ?_
  obtain ⟨v17, e18, h⟩ := ob h
  refine w_cVi C (pc := 89) dX0_launch_89 my_X3_flight mi_X3_flight ml_X0_152 (sA_1 hY) rfl rfl rfl [.int v11, .int v7, .int v1, .int v3] rfl rfl (Nat.le_of_ble_eq_true rfl) (tX3_flight (kLand_1 hY) e18) ?_
  refine w_iadd C (pc := 92) dX0_launch_92 ?_
  refine w_aload_n C (pc := 93) dX0_launch_93 0 rfl ?_
  refine w_getR C (pc := 94) dX0_launch_94 f_X0_40 (sA_7 hY) rfl ?_
  refine w_iload C (pc := 97) dX0_launch_97 6 rfl ?_
  refine w_iconst C (pc := 99) dX0_launch_99 (v := 3) (by decide) ?_
  obtain ⟨v19, e20, h⟩ := ob h
  refine w_cVi C (pc := 100) dX0_launch_100 my_X3_fact mi_X3_fact ml_X0_127 (sA_1 hY) rfl rfl rfl [.int v7, .int 3] rfl rfl (Nat.le_of_ble_eq_true rfl) (tX3_fact (kLand_1 hY) e20) ?_
  refine w_iadd C (pc := 103) dX0_launch_103 ?_
  refine w_bnd h (fun v21 h => ?_)
  refine w_istore C (pc := 104) dX0_launch_104 (lv' := [(0, .ref (adr Y 7)), (1, .int x1), (2, .int x2), (3, .int v1), (4, .int v3), (5, .int v5), (6, .int v7), (7, .int v11), (8, .int v15), (9, .int v21)]) rfl rfl rfl ?_
  refine w_aload_n C (pc := 106) dX0_launch_106 0 rfl ?_
  refine w_getR C (pc := 107) dX0_launch_107 f_X0_31 (sA_7 hY) rfl ?_
  refine w_iload_n C (pc := 110) dX0_launch_110 1 rfl ?_
  refine w_iload_n C (pc := 111) dX0_launch_111 2 rfl ?_
  obtain ⟨M22, e23, h⟩ := ob h
  refine w_iast C (pc := 112) dX0_launch_112 (sA_14 hY) e23 ?_
  refine w_aload_n C (pc := 113) dX0_launch_113 0 rfl ?_
  refine w_getR C (pc := 114) dX0_launch_114 f_X0_34 (sA_7 hY) rfl ?_
  refine w_iload_n C (pc := 117) dX0_launch_117 1 rfl ?_
  refine w_iload C (pc := 118) dX0_launch_118 9 rfl ?_
  refine w_aload_n C (pc := 120) dX0_launch_120 0 rfl ?_
  refine w_getR C (pc := 121) dX0_launch_121 f_X0_40 (sA_7 hY) rfl ?_
  refine w_iload C (pc := 124) dX0_launch_124 6 rfl ?_
  refine w_iload C (pc := 126) dX0_launch_126 8 rfl ?_
  refine w_iload_n C (pc := 128) dX0_launch_128 3 rfl ?_
  refine w_iload C (pc := 129) dX0_launch_129 4 rfl ?_
  obtain ⟨v24, e25, h⟩ := ob h
  refine w_cVi C (pc := 131) dX0_launch_131 my_X3_flight mi_X3_flight ml_X0_152 (sA_1 hY) rfl rfl rfl [.int v7, .int v15, .int v1, .int v3] rfl rfl (Nat.le_of_ble_eq_true rfl) (tX3_flight (kLand_1 hY) e25) ?_
  refine w_iadd C (pc := 134) dX0_launch_134 ?_
  obtain ⟨M26, e27, h⟩ := ob h
  refine w_iast C (pc := 135) dX0_launch_135 (sA_15 hY) e27 ?_
  refine w_aload_n C (pc := 136) dX0_launch_136 0 rfl ?_
  refine w_getR C (pc := 137) dX0_launch_137 f_X0_12 (sA_7 hY) rfl ?_
  refine w_iload_n C (pc := 140) dX0_launch_140 2 rfl ?_
  refine w_iconst C (pc := 141) dX0_launch_141 (v := 3) (by decide) ?_
  refine w_iload C (pc := 142) dX0_launch_142 7 rfl ?_
  refine w_iload C (pc := 144) dX0_launch_144 5 rfl ?_
  obtain ⟨v28, e29, h⟩ := ob h
  refine w_cVv C (pc := 146) dX0_launch_146 my_X1_note mi_X1_note ml_X0_123 (sA_8 hY) rfl rfl rfl [.int x2, .int 3, .int v11, .int v5] rfl rfl (Nat.le_of_ble_eq_true rfl) (tX1_note hY  e29) ?_
  refine w_aload_n C (pc := 149) dX0_launch_149 0 rfl ?_
  refine w_getR C (pc := 150) dX0_launch_150 f_X0_12 (sA_7 hY) rfl ?_
  refine w_iload C (pc := 153) dX0_launch_153 9 rfl ?_
  refine w_iconst C (pc := 155) dX0_launch_155 (v := 4) (by decide) ?_
  refine w_iload C (pc := 156) dX0_launch_156 6 rfl ?_
  refine w_iload C (pc := 158) dX0_launch_158 5 rfl ?_
  obtain ⟨v30, e31, h⟩ := ob h
  refine w_cVv C (pc := 160) dX0_launch_160 my_X1_note mi_X1_note ml_X0_123 (sA_8 hY) rfl rfl rfl [.int v21, .int 4, .int v7, .int v5] rfl rfl (Nat.le_of_ble_eq_true rfl) (tX1_note hY  e31) ?_
  exact w_retV C (pc := 163) dX0_launch_163 rfl (Option.some.inj h)
theorem dX0_launchAll_0 : decode cX0_launchAll 0 = .ok (.iload_n 2, 1) := by decide +kernel
theorem dX0_launchAll_1 : decode cX0_launchAll 1 = .ok (.istore_n 3, 1) := by decide +kernel
theorem dX0_launchAll_2 : decode cX0_launchAll 2 = .ok (.iconst 0, 1) := by decide +kernel
theorem dX0_launchAll_3 : decode cX0_launchAll 3 = .ok (.istore 4, 2) := by decide +kernel
theorem dX0_launchAll_5 : decode cX0_launchAll 5 = .ok (.iload 4, 2) := by decide +kernel
theorem dX0_launchAll_7 : decode cX0_launchAll 7 = .ok (.aload_n 0, 1) := by decide +kernel
theorem dX0_launchAll_8 : decode cX0_launchAll 8 = .ok (.getfield 40, 3) := by decide +kernel
theorem dX0_launchAll_11 : decode cX0_launchAll 11 = .ok (.bipush 8, 2) := by decide +kernel
theorem dX0_launchAll_13 : decode cX0_launchAll 13 = .ok (.invokevirtual 86, 3) := by decide +kernel
theorem dX0_launchAll_16 : decode cX0_launchAll 16 = .ok (.if_icmp .ge 78, 3) := by decide +kernel
theorem dX0_launchAll_19 : decode cX0_launchAll 19 = .ok (.iconst 0, 1) := by decide +kernel
theorem dX0_launchAll_20 : decode cX0_launchAll 20 = .ok (.istore 5, 2) := by decide +kernel
theorem dX0_launchAll_22 : decode cX0_launchAll 22 = .ok (.iload 5, 2) := by decide +kernel
theorem dX0_launchAll_24 : decode cX0_launchAll 24 = .ok (.aload_n 0, 1) := by decide +kernel
theorem dX0_launchAll_25 : decode cX0_launchAll 25 = .ok (.getfield 44, 3) := by decide +kernel
theorem dX0_launchAll_28 : decode cX0_launchAll 28 = .ok (.getfield 77, 3) := by decide +kernel
theorem dX0_launchAll_31 : decode cX0_launchAll 31 = .ok (.if_icmp .ge 57, 3) := by decide +kernel
theorem dX0_launchAll_34 : decode cX0_launchAll 34 = .ok (.aload_n 0, 1) := by decide +kernel
theorem dX0_launchAll_35 : decode cX0_launchAll 35 = .ok (.getfield 44, 3) := by decide +kernel
theorem dX0_launchAll_38 : decode cX0_launchAll 38 = .ok (.iload 5, 2) := by decide +kernel
theorem dX0_launchAll_40 : decode cX0_launchAll 40 = .ok (.iconst 1, 1) := by decide +kernel
theorem dX0_launchAll_41 : decode cX0_launchAll 41 = .ok (.invokevirtual 82, 3) := by decide +kernel
theorem dX0_launchAll_44 : decode cX0_launchAll 44 = .ok (.iload_n 1, 1) := by decide +kernel
theorem dX0_launchAll_45 : decode cX0_launchAll 45 = .ok (.if_icmp .ne 37, 3) := by decide +kernel
theorem dX0_launchAll_48 : decode cX0_launchAll 48 = .ok (.aload_n 0, 1) := by decide +kernel
theorem dX0_launchAll_49 : decode cX0_launchAll 49 = .ok (.getfield 44, 3) := by decide +kernel
theorem dX0_launchAll_52 : decode cX0_launchAll 52 = .ok (.iload 5, 2) := by decide +kernel
theorem dX0_launchAll_54 : decode cX0_launchAll 54 = .ok (.iconst 0, 1) := by decide +kernel
theorem dX0_launchAll_55 : decode cX0_launchAll 55 = .ok (.invokevirtual 82, 3) := by decide +kernel
theorem dX0_launchAll_58 : decode cX0_launchAll 58 = .ok (.iload 4, 2) := by decide +kernel
theorem dX0_launchAll_60 : decode cX0_launchAll 60 = .ok (.if_icmp .ne 22, 3) := by decide +kernel
theorem dX0_launchAll_63 : decode cX0_launchAll 63 = .ok (.iload_n 3, 1) := by decide +kernel
theorem dX0_launchAll_64 : decode cX0_launchAll 64 = .ok (.aload_n 0, 1) := by decide +kernel
theorem dX0_launchAll_65 : decode cX0_launchAll 65 = .ok (.getfield 40, 3) := by decide +kernel
theorem dX0_launchAll_68 : decode cX0_launchAll 68 = .ok (.bipush 6, 2) := by decide +kernel
theorem dX0_launchAll_70 : decode cX0_launchAll 70 = .ok (.invokevirtual 86, 3) := by decide +kernel
theorem dX0_launchAll_73 : decode cX0_launchAll 73 = .ok (.iadd, 1) := by decide +kernel
theorem dX0_launchAll_74 : decode cX0_launchAll 74 = .ok (.istore_n 3, 1) := by decide +kernel
theorem dX0_launchAll_75 : decode cX0_launchAll 75 = .ok (.aload_n 0, 1) := by decide +kernel
theorem dX0_launchAll_76 : decode cX0_launchAll 76 = .ok (.iload 5, 2) := by decide +kernel
theorem dX0_launchAll_78 : decode cX0_launchAll 78 = .ok (.iload_n 3, 1) := by decide +kernel
theorem dX0_launchAll_79 : decode cX0_launchAll 79 = .ok (.invokevirtual 148, 3) := by decide +kernel
theorem dX0_launchAll_82 : decode cX0_launchAll 82 = .ok (.iinc 5 1, 3) := by decide +kernel
theorem dX0_launchAll_85 : decode cX0_launchAll 85 = .ok (.goto (-63), 3) := by decide +kernel
theorem dX0_launchAll_88 : decode cX0_launchAll 88 = .ok (.iinc 4 1, 3) := by decide +kernel
theorem dX0_launchAll_91 : decode cX0_launchAll 91 = .ok (.goto (-86), 3) := by decide +kernel
theorem dX0_launchAll_94 : decode cX0_launchAll 94 = .ok (.iload_n 3, 1) := by decide +kernel
theorem dX0_launchAll_95 : decode cX0_launchAll 95 = .ok (.ireturn, 1) := by decide +kernel
def pX0_launchAll_L22 (x1 : Int32) (x4 : Int32) (s : Int32 × Int32 × Mm) : Option ((Int32 × Int32 × Mm) ⊕ (Int32 × Mm)) :=
if (s.2.2 4 1) ≤ s.2.1 then
(some (Sum.inr (s.1, s.2.2)))
else
((pX4_part 4 s.2.1 1 s.2.2).bind fun v3 =>
if v3 = x1 then
((pX4_part 4 s.2.1 0 s.2.2).bind fun v5 =>
if v5 = x4 then
((pX3_setting 1 6 s.2.2).bind fun v7 =>
bnd (s.1 + v7) fun v9 =>
(pX0_launch s.2.1 v9 s.2.2).bind fun v10 =>
some (Sum.inl (v9, s.2.1 + 1, v10)))
else
(some (Sum.inl (s.1, s.2.1 + 1, s.2.2))))
else
(some (Sum.inl (s.1, s.2.1 + 1, s.2.2))))
def pX0_launchAll_L5 (x1 : Int32) (s : Int32 × Int32 × Mm) : Option ((Int32 × Int32 × Mm) ⊕ (Int32 × Mm)) :=
(pX3_setting 1 8 s.2.2).bind fun v1 =>
if v1 ≤ s.2.1 then
(some (Sum.inr (s.1, s.2.2)))
else
((itr (pX0_launchAll_L22 x1 s.2.1) fuel (s.1, 0, s.2.2)).bind fun x12 =>
some (Sum.inl (x12.1, s.2.1 + 1, x12.2)))
def pX0_launchAll (x1 : Int32) (x2 : Int32) (M : Mm) : Option (Int32 × Mm) :=
(itr (pX0_launchAll_L5 x1) fuel (x2, 0, M)).bind fun x28 =>
some (x28.1, x28.2)
abbrev zX0_launchAll : Zx := (cX0_launchAll, RX0, 6, 3, (some .int))
set_option maxRecDepth 100000 in
set_option maxHeartbeats 4000000 in
theorem tX0_launchAll {l : Launch} {Y : Sx} {M : Mm} {x1 : Int32} {x2 : Int32} {q : Int32 × Mm} (hY : isA Y) (h : pX0_launchAll x1 x2 M = some q) : Ct l Y yX0_launchAll cX0_launchAll 6 (some .int) 3 [.ref (adr Y 7), .int x1, .int x2] M (some q.1) q.2 := by
  refine Ct.of (by decide) rfl (lv := [(0, .ref (adr Y 7)), (1, .int x1), (2, .int x2)]) rfl ?_
  intro K hkl C
  change Cx K zX0_launchAll Y at C
  subst hkl
  unfold pX0_launchAll at h
  show Wp K zX0_launchAll Y (Qm K Y (some q.1) q.2) M 0 [(0, .ref (adr Y 7)), (1, .int x1), (2, .int x2)] []
  refine w_iload_n C (pc := 0) dX0_launchAll_0 2 rfl ?_
  refine w_istore_n C (pc := 1) dX0_launchAll_1 (lv' := [(0, .ref (adr Y 7)), (1, .int x1), (2, .int x2), (3, .int x2)]) rfl rfl rfl ?_
  refine w_iconst C (pc := 2) dX0_launchAll_2 (v := 0) (by decide) ?_
  refine w_istore C (pc := 3) dX0_launchAll_3 (lv' := [(0, .ref (adr Y 7)), (1, .int x1), (2, .int x2), (3, .int x2), (4, .int 0)]) rfl rfl rfl ?_
  obtain ⟨x28, e29, h⟩ := ob h
  refine itr_W (P := fun s30 => Wp K zX0_launchAll Y (Qm K Y (some q.1) q.2) s30.2.2 5 [(0, .ref (adr Y 7)), (1, .int x1), (2, .int x2), (3, .int s30.1), (4, .int s30.2.1)] []) (R := fun x28 => Wp K zX0_launchAll Y (Qm K Y (some q.1) q.2) x28.2 94 [(0, .ref (adr Y 7)), (1, .int x1), (2, .int x2), (3, .int x28.1)] []) ?_ fuel (x2, 0, M) x28 e29 ?_
  · intro s30 r31 h34 ki32 kx33
    unfold pX0_launchAll_L5 at h34
    show Wp K zX0_launchAll Y (Qm K Y (some q.1) q.2) s30.2.2 5 [(0, .ref (adr Y 7)), (1, .int x1), (2, .int x2), (3, .int s30.1), (4, .int s30.2.1)] []
    refine w_iload C (pc := 5) dX0_launchAll_5 4 rfl ?_
    refine w_aload_n C (pc := 7) dX0_launchAll_7 0 rfl ?_
    refine w_getR C (pc := 8) dX0_launchAll_8 f_X0_40 (sA_7 hY) rfl ?_
    refine w_bipush C (pc := 11) dX0_launchAll_11 (v := 8) (by decide) ?_
    obtain ⟨v35, e36, h34⟩ := ob h34
    refine w_cVi C (pc := 13) dX0_launchAll_13 my_X3_setting mi_X3_setting ml_X0_86 (sA_1 hY) rfl rfl rfl [.int 8] rfl rfl (Nat.le_of_ble_eq_true rfl) (tX3_setting (kLand_1 hY) e36) ?_
    refine w_icge C (pc := 16) 94 dX0_launchAll_16 (by decide) (fun c => ?_) (fun c => ?_)
    · have h34 := it_t h34 c
      obtain rfl := Option.some.inj h34
      refine w_lv [0, 1, 2, 3] rfl ?_
      exact kx33 _ rfl
    · have h34 := it_f h34 c
      refine w_iconst C (pc := 19) dX0_launchAll_19 (v := 0) (by decide) ?_
      refine w_istore C (pc := 20) dX0_launchAll_20 (lv' := [(0, .ref (adr Y 7)), (1, .int x1), (2, .int x2), (3, .int s30.1), (4, .int s30.2.1), (5, .int 0)]) rfl rfl rfl ?_
      obtain ⟨x37, e38, h34⟩ := ob h34
      refine itr_W (P := fun s39 => Wp K zX0_launchAll Y (Qm K Y (some q.1) q.2) s39.2.2 22 [(0, .ref (adr Y 7)), (1, .int x1), (2, .int x2), (3, .int s39.1), (4, .int s30.2.1), (5, .int s39.2.1)] []) (R := fun x37 => Wp K zX0_launchAll Y (Qm K Y (some q.1) q.2) x37.2 88 [(0, .ref (adr Y 7)), (1, .int x1), (2, .int x2), (3, .int x37.1), (4, .int s30.2.1)] []) ?_ fuel (s30.1, 0, s30.2.2) x37 e38 ?_
      · intro s39 r40 h43 ki41 kx42
        unfold pX0_launchAll_L22 at h43
        show Wp K zX0_launchAll Y (Qm K Y (some q.1) q.2) s39.2.2 22 [(0, .ref (adr Y 7)), (1, .int x1), (2, .int x2), (3, .int s39.1), (4, .int s30.2.1), (5, .int s39.2.1)] []
        refine w_iload C (pc := 22) dX0_launchAll_22 5 rfl ?_
        refine w_aload_n C (pc := 24) dX0_launchAll_24 0 rfl ?_
        refine w_getR C (pc := 25) dX0_launchAll_25 f_X0_44 (sA_7 hY) rfl ?_
        refine w_getI C (pc := 28) dX0_launchAll_28 f_X0_77 (sA_4 hY) rfl ?_
        refine w_icge C (pc := 31) 88 dX0_launchAll_31 (by decide) (fun c => ?_) (fun c => ?_)
        · have h43 := it_t h43 c
          obtain rfl := Option.some.inj h43
          refine w_lv [0, 1, 2, 3, 4] rfl ?_
          exact kx42 _ rfl
        · have h43 := it_f h43 c
          refine w_aload_n C (pc := 34) dX0_launchAll_34 0 rfl ?_
          refine w_getR C (pc := 35) dX0_launchAll_35 f_X0_44 (sA_7 hY) rfl ?_
          refine w_iload C (pc := 38) dX0_launchAll_38 5 rfl ?_
          refine w_iconst C (pc := 40) dX0_launchAll_40 (v := 1) (by decide) ?_
          obtain ⟨v44, e45, h43⟩ := ob h43
          refine w_cVi C (pc := 41) dX0_launchAll_41 my_X4_part mi_X4_part ml_X0_82 (sA_4 hY) rfl rfl rfl [.int s39.2.1, .int 1] rfl rfl (Nat.le_of_ble_eq_true rfl) (tX4_part (kPlan_4 hY) e45) ?_
          refine w_iload_n C (pc := 44) dX0_launchAll_44 1 rfl ?_
          refine w_icne C (pc := 45) 82 dX0_launchAll_45 (by decide) (fun c => ?_) (fun c => ?_)
          · have h43 := it_t h43 c
            refine w_aload_n C (pc := 48) dX0_launchAll_48 0 rfl ?_
            refine w_getR C (pc := 49) dX0_launchAll_49 f_X0_44 (sA_7 hY) rfl ?_
            refine w_iload C (pc := 52) dX0_launchAll_52 5 rfl ?_
            refine w_iconst C (pc := 54) dX0_launchAll_54 (v := 0) (by decide) ?_
            obtain ⟨v46, e47, h43⟩ := ob h43
            refine w_cVi C (pc := 55) dX0_launchAll_55 my_X4_part mi_X4_part ml_X0_82 (sA_4 hY) rfl rfl rfl [.int s39.2.1, .int 0] rfl rfl (Nat.le_of_ble_eq_true rfl) (tX4_part (kPlan_4 hY) e47) ?_
            refine w_iload C (pc := 58) dX0_launchAll_58 4 rfl ?_
            refine w_icne C (pc := 60) 82 dX0_launchAll_60 (by decide) (fun c => ?_) (fun c => ?_)
            · have h43 := it_t h43 c
              refine w_iload_n C (pc := 63) dX0_launchAll_63 3 rfl ?_
              refine w_aload_n C (pc := 64) dX0_launchAll_64 0 rfl ?_
              refine w_getR C (pc := 65) dX0_launchAll_65 f_X0_40 (sA_7 hY) rfl ?_
              refine w_bipush C (pc := 68) dX0_launchAll_68 (v := 6) (by decide) ?_
              obtain ⟨v48, e49, h43⟩ := ob h43
              refine w_cVi C (pc := 70) dX0_launchAll_70 my_X3_setting mi_X3_setting ml_X0_86 (sA_1 hY) rfl rfl rfl [.int 6] rfl rfl (Nat.le_of_ble_eq_true rfl) (tX3_setting (kLand_1 hY) e49) ?_
              refine w_iadd C (pc := 73) dX0_launchAll_73 ?_
              refine w_bnd h43 (fun v50 h43 => ?_)
              refine w_istore_n C (pc := 74) dX0_launchAll_74 (lv' := [(0, .ref (adr Y 7)), (1, .int x1), (2, .int x2), (3, .int v50), (4, .int s30.2.1), (5, .int s39.2.1)]) rfl rfl rfl ?_
              refine w_aload_n C (pc := 75) dX0_launchAll_75 0 rfl ?_
              refine w_iload C (pc := 76) dX0_launchAll_76 5 rfl ?_
              refine w_iload_n C (pc := 78) dX0_launchAll_78 3 rfl ?_
              obtain ⟨v51, e52, h43⟩ := ob h43
              refine w_cVv C (pc := 79) dX0_launchAll_79 my_X0_launch mi_X0_launch ml_X0_148 (sA_7 hY) rfl rfl rfl [.int s39.2.1, .int v50] rfl rfl (Nat.le_of_ble_eq_true rfl) (tX0_launch hY  e52) ?_
              refine w_iinc C (pc := 82) dX0_launchAll_82 5 rfl (v := 1) (lv' := [(0, .ref (adr Y 7)), (1, .int x1), (2, .int x2), (3, .int v50), (4, .int s30.2.1), (5, .int (s39.2.1 + 1))]) (by decide) rfl rfl rfl ?_
              refine w_goto C (pc := 85) 22 dX0_launchAll_85 (by decide) ?_
              obtain rfl := Option.some.inj h43
              exact ki41 _ rfl
            · have h43 := it_f h43 c
              refine w_iinc C (pc := 82) dX0_launchAll_82 5 rfl (v := 1) (lv' := [(0, .ref (adr Y 7)), (1, .int x1), (2, .int x2), (3, .int s39.1), (4, .int s30.2.1), (5, .int (s39.2.1 + 1))]) (by decide) rfl rfl rfl ?_
              refine w_goto C (pc := 85) 22 dX0_launchAll_85 (by decide) ?_
              obtain rfl := Option.some.inj h43
              exact ki41 _ rfl
          · have h43 := it_f h43 c
            refine w_iinc C (pc := 82) dX0_launchAll_82 5 rfl (v := 1) (lv' := [(0, .ref (adr Y 7)), (1, .int x1), (2, .int x2), (3, .int s39.1), (4, .int s30.2.1), (5, .int (s39.2.1 + 1))]) (by decide) rfl rfl rfl ?_
            refine w_goto C (pc := 85) 22 dX0_launchAll_85 (by decide) ?_
            obtain rfl := Option.some.inj h43
            exact ki41 _ rfl
      · refine w_iinc C (pc := 88) dX0_launchAll_88 4 rfl (v := 1) (lv' := [(0, .ref (adr Y 7)), (1, .int x1), (2, .int x2), (3, .int x37.1), (4, .int (s30.2.1 + 1))]) (by decide) rfl rfl rfl ?_
        refine w_goto C (pc := 91) 5 dX0_launchAll_91 (by decide) ?_
        obtain rfl := Option.some.inj h34
        exact ki32 _ rfl
  · refine w_iload_n C (pc := 94) dX0_launchAll_94 3 rfl ?_
    exact w_ret C (pc := 95) dX0_launchAll_95 rfl (Option.some.inj h)
theorem dX0_drivePlan_0 : decode cX0_drivePlan 0 = .ok (.aload_n 0, 1) := by decide +kernel
theorem dX0_drivePlan_1 : decode cX0_drivePlan 1 = .ok (.getfield 12, 3) := by decide +kernel
theorem dX0_drivePlan_4 : decode cX0_drivePlan 4 = .ok (.invokevirtual 117, 3) := by decide +kernel
theorem dX0_drivePlan_7 : decode cX0_drivePlan 7 = .ok (.iconst 0, 1) := by decide +kernel
theorem dX0_drivePlan_8 : decode cX0_drivePlan 8 = .ok (.istore_n 1, 1) := by decide +kernel
theorem dX0_drivePlan_9 : decode cX0_drivePlan 9 = .ok (.iload_n 1, 1) := by decide +kernel
theorem dX0_drivePlan_10 : decode cX0_drivePlan 10 = .ok (.aload_n 0, 1) := by decide +kernel
theorem dX0_drivePlan_11 : decode cX0_drivePlan 11 = .ok (.getfield 44, 3) := by decide +kernel
theorem dX0_drivePlan_14 : decode cX0_drivePlan 14 = .ok (.getfield 77, 3) := by decide +kernel
theorem dX0_drivePlan_17 : decode cX0_drivePlan 17 = .ok (.if_icmp .ge 16, 3) := by decide +kernel
theorem dX0_drivePlan_20 : decode cX0_drivePlan 20 = .ok (.aload_n 0, 1) := by decide +kernel
theorem dX0_drivePlan_21 : decode cX0_drivePlan 21 = .ok (.getfield 37, 3) := by decide +kernel
theorem dX0_drivePlan_24 : decode cX0_drivePlan 24 = .ok (.iload_n 1, 1) := by decide +kernel
theorem dX0_drivePlan_25 : decode cX0_drivePlan 25 = .ok (.iconst (-1), 1) := by decide +kernel
theorem dX0_drivePlan_26 : decode cX0_drivePlan 26 = .ok (.iastore, 1) := by decide +kernel
theorem dX0_drivePlan_27 : decode cX0_drivePlan 27 = .ok (.iinc 1 1, 3) := by decide +kernel
theorem dX0_drivePlan_30 : decode cX0_drivePlan 30 = .ok (.goto (-21), 3) := by decide +kernel
theorem dX0_drivePlan_33 : decode cX0_drivePlan 33 = .ok (.iconst 0, 1) := by decide +kernel
theorem dX0_drivePlan_34 : decode cX0_drivePlan 34 = .ok (.istore_n 1, 1) := by decide +kernel
theorem dX0_drivePlan_35 : decode cX0_drivePlan 35 = .ok (.iconst 0, 1) := by decide +kernel
theorem dX0_drivePlan_36 : decode cX0_drivePlan 36 = .ok (.istore_n 2, 1) := by decide +kernel
theorem dX0_drivePlan_37 : decode cX0_drivePlan 37 = .ok (.iload_n 2, 1) := by decide +kernel
theorem dX0_drivePlan_38 : decode cX0_drivePlan 38 = .ok (.aload_n 0, 1) := by decide +kernel
theorem dX0_drivePlan_39 : decode cX0_drivePlan 39 = .ok (.getfield 44, 3) := by decide +kernel
theorem dX0_drivePlan_42 : decode cX0_drivePlan 42 = .ok (.invokevirtual 92, 3) := by decide +kernel
theorem dX0_drivePlan_45 : decode cX0_drivePlan 45 = .ok (.if_icmp .ge 116, 3) := by decide +kernel
theorem dX0_drivePlan_48 : decode cX0_drivePlan 48 = .ok (.aload_n 0, 1) := by decide +kernel
theorem dX0_drivePlan_49 : decode cX0_drivePlan 49 = .ok (.getfield 44, 3) := by decide +kernel
theorem dX0_drivePlan_52 : decode cX0_drivePlan 52 = .ok (.iload_n 2, 1) := by decide +kernel
theorem dX0_drivePlan_53 : decode cX0_drivePlan 53 = .ok (.invokevirtual 101, 3) := by decide +kernel
theorem dX0_drivePlan_56 : decode cX0_drivePlan 56 = .ok (.istore_n 3, 1) := by decide +kernel
theorem dX0_drivePlan_57 : decode cX0_drivePlan 57 = .ok (.iload_n 2, 1) := by decide +kernel
theorem dX0_drivePlan_58 : decode cX0_drivePlan 58 = .ok (.ifCond .le 24, 3) := by decide +kernel
theorem dX0_drivePlan_61 : decode cX0_drivePlan 61 = .ok (.iload_n 1, 1) := by decide +kernel
theorem dX0_drivePlan_62 : decode cX0_drivePlan 62 = .ok (.aload_n 0, 1) := by decide +kernel
theorem dX0_drivePlan_63 : decode cX0_drivePlan 63 = .ok (.getfield 40, 3) := by decide +kernel
theorem dX0_drivePlan_66 : decode cX0_drivePlan 66 = .ok (.aload_n 0, 1) := by decide +kernel
theorem dX0_drivePlan_67 : decode cX0_drivePlan 67 = .ok (.getfield 44, 3) := by decide +kernel
theorem dX0_drivePlan_70 : decode cX0_drivePlan 70 = .ok (.iload_n 2, 1) := by decide +kernel
theorem dX0_drivePlan_71 : decode cX0_drivePlan 71 = .ok (.iconst 1, 1) := by decide +kernel
theorem dX0_drivePlan_72 : decode cX0_drivePlan 72 = .ok (.isub, 1) := by decide +kernel
theorem dX0_drivePlan_73 : decode cX0_drivePlan 73 = .ok (.invokevirtual 101, 3) := by decide +kernel
theorem dX0_drivePlan_76 : decode cX0_drivePlan 76 = .ok (.iload_n 3, 1) := by decide +kernel
theorem dX0_drivePlan_77 : decode cX0_drivePlan 77 = .ok (.invokevirtual 120, 3) := by decide +kernel
theorem dX0_drivePlan_80 : decode cX0_drivePlan 80 = .ok (.iadd, 1) := by decide +kernel
theorem dX0_drivePlan_81 : decode cX0_drivePlan 81 = .ok (.istore_n 1, 1) := by decide +kernel
theorem dX0_drivePlan_82 : decode cX0_drivePlan 82 = .ok (.aload_n 0, 1) := by decide +kernel
theorem dX0_drivePlan_83 : decode cX0_drivePlan 83 = .ok (.getfield 18, 3) := by decide +kernel
theorem dX0_drivePlan_86 : decode cX0_drivePlan 86 = .ok (.iload_n 2, 1) := by decide +kernel
theorem dX0_drivePlan_87 : decode cX0_drivePlan 87 = .ok (.iload_n 1, 1) := by decide +kernel
theorem dX0_drivePlan_88 : decode cX0_drivePlan 88 = .ok (.iastore, 1) := by decide +kernel
theorem dX0_drivePlan_89 : decode cX0_drivePlan 89 = .ok (.aload_n 0, 1) := by decide +kernel
theorem dX0_drivePlan_90 : decode cX0_drivePlan 90 = .ok (.getfield 12, 3) := by decide +kernel
theorem dX0_drivePlan_93 : decode cX0_drivePlan 93 = .ok (.iload_n 1, 1) := by decide +kernel
theorem dX0_drivePlan_94 : decode cX0_drivePlan 94 = .ok (.iconst 0, 1) := by decide +kernel
theorem dX0_drivePlan_95 : decode cX0_drivePlan 95 = .ok (.iload_n 3, 1) := by decide +kernel
theorem dX0_drivePlan_96 : decode cX0_drivePlan 96 = .ok (.iconst (-1), 1) := by decide +kernel
theorem dX0_drivePlan_97 : decode cX0_drivePlan 97 = .ok (.invokevirtual 123, 3) := by decide +kernel
theorem dX0_drivePlan_100 : decode cX0_drivePlan 100 = .ok (.iload_n 3, 1) := by decide +kernel
theorem dX0_drivePlan_101 : decode cX0_drivePlan 101 = .ok (.ifCond .eq 26, 3) := by decide +kernel
theorem dX0_drivePlan_104 : decode cX0_drivePlan 104 = .ok (.iload_n 1, 1) := by decide +kernel
theorem dX0_drivePlan_105 : decode cX0_drivePlan 105 = .ok (.aload_n 0, 1) := by decide +kernel
theorem dX0_drivePlan_106 : decode cX0_drivePlan 106 = .ok (.getfield 40, 3) := by decide +kernel
theorem dX0_drivePlan_109 : decode cX0_drivePlan 109 = .ok (.iload_n 3, 1) := by decide +kernel
theorem dX0_drivePlan_110 : decode cX0_drivePlan 110 = .ok (.iconst 2, 1) := by decide +kernel
theorem dX0_drivePlan_111 : decode cX0_drivePlan 111 = .ok (.invokevirtual 127, 3) := by decide +kernel
theorem dX0_drivePlan_114 : decode cX0_drivePlan 114 = .ok (.iadd, 1) := by decide +kernel
theorem dX0_drivePlan_115 : decode cX0_drivePlan 115 = .ok (.istore_n 1, 1) := by decide +kernel
theorem dX0_drivePlan_116 : decode cX0_drivePlan 116 = .ok (.aload_n 0, 1) := by decide +kernel
theorem dX0_drivePlan_117 : decode cX0_drivePlan 117 = .ok (.getfield 12, 3) := by decide +kernel
theorem dX0_drivePlan_120 : decode cX0_drivePlan 120 = .ok (.iload_n 1, 1) := by decide +kernel
theorem dX0_drivePlan_121 : decode cX0_drivePlan 121 = .ok (.iconst 1, 1) := by decide +kernel
theorem dX0_drivePlan_122 : decode cX0_drivePlan 122 = .ok (.iload_n 3, 1) := by decide +kernel
theorem dX0_drivePlan_123 : decode cX0_drivePlan 123 = .ok (.iconst (-1), 1) := by decide +kernel
theorem dX0_drivePlan_124 : decode cX0_drivePlan 124 = .ok (.invokevirtual 123, 3) := by decide +kernel
theorem dX0_drivePlan_127 : decode cX0_drivePlan 127 = .ok (.aload_n 0, 1) := by decide +kernel
theorem dX0_drivePlan_128 : decode cX0_drivePlan 128 = .ok (.iload_n 2, 1) := by decide +kernel
theorem dX0_drivePlan_129 : decode cX0_drivePlan 129 = .ok (.iload_n 1, 1) := by decide +kernel
theorem dX0_drivePlan_130 : decode cX0_drivePlan 130 = .ok (.invokevirtual 130, 3) := by decide +kernel
theorem dX0_drivePlan_133 : decode cX0_drivePlan 133 = .ok (.istore_n 1, 1) := by decide +kernel
theorem dX0_drivePlan_134 : decode cX0_drivePlan 134 = .ok (.aload_n 0, 1) := by decide +kernel
theorem dX0_drivePlan_135 : decode cX0_drivePlan 135 = .ok (.getfield 22, 3) := by decide +kernel
theorem dX0_drivePlan_138 : decode cX0_drivePlan 138 = .ok (.iload_n 2, 1) := by decide +kernel
theorem dX0_drivePlan_139 : decode cX0_drivePlan 139 = .ok (.iload_n 1, 1) := by decide +kernel
theorem dX0_drivePlan_140 : decode cX0_drivePlan 140 = .ok (.iastore, 1) := by decide +kernel
theorem dX0_drivePlan_141 : decode cX0_drivePlan 141 = .ok (.aload_n 0, 1) := by decide +kernel
theorem dX0_drivePlan_142 : decode cX0_drivePlan 142 = .ok (.iload_n 2, 1) := by decide +kernel
theorem dX0_drivePlan_143 : decode cX0_drivePlan 143 = .ok (.iload_n 1, 1) := by decide +kernel
theorem dX0_drivePlan_144 : decode cX0_drivePlan 144 = .ok (.invokevirtual 133, 3) := by decide +kernel
theorem dX0_drivePlan_147 : decode cX0_drivePlan 147 = .ok (.istore_n 1, 1) := by decide +kernel
theorem dX0_drivePlan_148 : decode cX0_drivePlan 148 = .ok (.aload_n 0, 1) := by decide +kernel
theorem dX0_drivePlan_149 : decode cX0_drivePlan 149 = .ok (.getfield 25, 3) := by decide +kernel
theorem dX0_drivePlan_152 : decode cX0_drivePlan 152 = .ok (.iload_n 2, 1) := by decide +kernel
theorem dX0_drivePlan_153 : decode cX0_drivePlan 153 = .ok (.iload_n 1, 1) := by decide +kernel
theorem dX0_drivePlan_154 : decode cX0_drivePlan 154 = .ok (.iastore, 1) := by decide +kernel
theorem dX0_drivePlan_155 : decode cX0_drivePlan 155 = .ok (.iinc 2 1, 3) := by decide +kernel
theorem dX0_drivePlan_158 : decode cX0_drivePlan 158 = .ok (.goto (-121), 3) := by decide +kernel
theorem dX0_drivePlan_161 : decode cX0_drivePlan 161 = .ok (.return_, 1) := by decide +kernel
def pX0_drivePlan_L9 (s : Int32 × Mm) : Option ((Int32 × Mm) ⊕ (Mm)) :=
if (s.2 4 1) ≤ s.1 then
(some (Sum.inr s.2))
else
((ast s.2 16 8 s.1 (-1)).bind fun M3 =>
some (Sum.inl (s.1 + 1, M3)))
def pX0_drivePlan_L37 (s : Int32 × Int32 × Mm) : Option ((Int32 × Int32 × Mm) ⊕ (Mm)) :=
if (pX4_stops 4 s.2.2) ≤ s.2.1 then
(some (Sum.inr s.2.2))
else
((pX4_placeAt 4 s.2.1 s.2.2).bind fun v14 =>
Option.bind (α := Int32) (if s.2.1 ≤ 0 then
(some s.1)
else
((pX4_placeAt 4 (s.2.1 - 1) s.2.2).bind fun v41 =>
(pX3_drive 1 v41 v14 s.2.2).bind fun v43 =>
bnd (s.1 + v43) fun v45 =>
some v45)) fun j16 =>
(ast s.2.2 10 10 s.2.1 j16).bind fun M19 =>
(pX1_note j16 0 v14 (-1) M19).bind fun v21 =>
Option.bind (α := Int32 × Mm) (if v14 = 0 then
(some (j16, v21))
else
((pX3_fact 1 v14 2 v21).bind fun v36 =>
bnd (j16 + v36) fun v38 =>
(pX1_note v38 1 v14 (-1) v21).bind fun v39 =>
some (v38, v39))) fun j23 =>
(pX0_catchAll s.2.1 j23.1 j23.2).bind fun v26 =>
bnd (v26.1) fun v28 =>
(ast v26.2 11 10 s.2.1 v28).bind fun M29 =>
(pX0_launchAll s.2.1 v28 M29).bind fun v31 =>
bnd (v31.1) fun v33 =>
(ast v31.2 12 10 s.2.1 v33).bind fun M34 =>
some (Sum.inl (v33, s.2.1 + 1, M34)))
def pX0_drivePlan (M : Mm) : Option (Mm) :=
bnd (pX1_empty M) fun v1 =>
(itr (pX0_drivePlan_L9) fuel (0, v1)).bind fun x5 =>
(itr (pX0_drivePlan_L37) fuel (0, 0, x5)).bind fun x46 =>
some x46
abbrev zX0_drivePlan : Zx := (cX0_drivePlan, RX0, 4, 4, none)
set_option maxRecDepth 100000 in
set_option maxHeartbeats 4000000 in
theorem tX0_drivePlan {l : Launch} {Y : Sx} {M : Mm} {q : Mm} (hY : isA Y) (h : pX0_drivePlan M = some q) : Ct l Y yX0_drivePlan cX0_drivePlan 4 none 4 [.ref (adr Y 7)] M none q := by
  refine Ct.of (by decide) rfl (lv := [(0, .ref (adr Y 7))]) rfl ?_
  intro K hkl C
  change Cx K zX0_drivePlan Y at C
  subst hkl
  unfold pX0_drivePlan at h
  show Wp K zX0_drivePlan Y (Qm K Y none q) M 0 [(0, .ref (adr Y 7))] []
  refine w_aload_n C (pc := 0) dX0_drivePlan_0 0 rfl ?_
  refine w_getR C (pc := 1) dX0_drivePlan_1 f_X0_12 (sA_7 hY) rfl ?_
  obtain ⟨v1, e2, h⟩ := bn h
  refine w_cVv C (pc := 4) dX0_drivePlan_4 my_X1_empty mi_X1_empty ml_X0_117 (sA_8 hY) rfl rfl rfl [] rfl rfl (Nat.le_of_ble_eq_true rfl) (tX1_empty hY  e2) ?_
  refine w_iconst C (pc := 7) dX0_drivePlan_7 (v := 0) (by decide) ?_
  refine w_istore_n C (pc := 8) dX0_drivePlan_8 (lv' := [(0, .ref (adr Y 7)), (1, .int 0)]) rfl rfl rfl ?_
  obtain ⟨x5, e6, h⟩ := ob h
  refine itr_W (P := fun s7 => Wp K zX0_drivePlan Y (Qm K Y none q) s7.2 9 [(0, .ref (adr Y 7)), (1, .int s7.1)] []) (R := fun x5 => Wp K zX0_drivePlan Y (Qm K Y none q) x5 33 [(0, .ref (adr Y 7))] []) ?_ fuel (0, v1) x5 e6 ?_
  · intro s7 r8 h11 ki9 kx10
    unfold pX0_drivePlan_L9 at h11
    show Wp K zX0_drivePlan Y (Qm K Y none q) s7.2 9 [(0, .ref (adr Y 7)), (1, .int s7.1)] []
    refine w_iload_n C (pc := 9) dX0_drivePlan_9 1 rfl ?_
    refine w_aload_n C (pc := 10) dX0_drivePlan_10 0 rfl ?_
    refine w_getR C (pc := 11) dX0_drivePlan_11 f_X0_44 (sA_7 hY) rfl ?_
    refine w_getI C (pc := 14) dX0_drivePlan_14 f_X0_77 (sA_4 hY) rfl ?_
    refine w_icge C (pc := 17) 33 dX0_drivePlan_17 (by decide) (fun c => ?_) (fun c => ?_)
    · have h11 := it_t h11 c
      obtain rfl := Option.some.inj h11
      refine w_lv [0] rfl ?_
      exact kx10 _ rfl
    · have h11 := it_f h11 c
      refine w_aload_n C (pc := 20) dX0_drivePlan_20 0 rfl ?_
      refine w_getR C (pc := 21) dX0_drivePlan_21 f_X0_37 (sA_7 hY) rfl ?_
      refine w_iload_n C (pc := 24) dX0_drivePlan_24 1 rfl ?_
      refine w_iconst C (pc := 25) dX0_drivePlan_25 (v := (-1)) (by decide) ?_
      obtain ⟨M12, e13, h11⟩ := ob h11
      refine w_iast C (pc := 26) dX0_drivePlan_26 (sA_16 hY) e13 ?_
      refine w_iinc C (pc := 27) dX0_drivePlan_27 1 rfl (v := 1) (lv' := [(0, .ref (adr Y 7)), (1, .int (s7.1 + 1))]) (by decide) rfl rfl rfl ?_
      refine w_goto C (pc := 30) 9 dX0_drivePlan_30 (by decide) ?_
      obtain rfl := Option.some.inj h11
      exact ki9 _ rfl
  · refine w_iconst C (pc := 33) dX0_drivePlan_33 (v := 0) (by decide) ?_
    refine w_istore_n C (pc := 34) dX0_drivePlan_34 (lv' := [(0, .ref (adr Y 7)), (1, .int 0)]) rfl rfl rfl ?_
    refine w_iconst C (pc := 35) dX0_drivePlan_35 (v := 0) (by decide) ?_
    refine w_istore_n C (pc := 36) dX0_drivePlan_36 (lv' := [(0, .ref (adr Y 7)), (1, .int 0), (2, .int 0)]) rfl rfl rfl ?_
    obtain ⟨x46, e47, h⟩ := ob h
    refine itr_W (P := fun s48 => Wp K zX0_drivePlan Y (Qm K Y none q) s48.2.2 37 [(0, .ref (adr Y 7)), (1, .int s48.1), (2, .int s48.2.1)] []) (R := fun x46 => Wp K zX0_drivePlan Y (Qm K Y none q) x46 161 [(0, .ref (adr Y 7))] []) ?_ fuel (0, 0, x5) x46 e47 ?_
    · intro s48 r49 h52 ki50 kx51
      unfold pX0_drivePlan_L37 at h52
      show Wp K zX0_drivePlan Y (Qm K Y none q) s48.2.2 37 [(0, .ref (adr Y 7)), (1, .int s48.1), (2, .int s48.2.1)] []
      refine w_iload_n C (pc := 37) dX0_drivePlan_37 2 rfl ?_
      refine w_aload_n C (pc := 38) dX0_drivePlan_38 0 rfl ?_
      refine w_getR C (pc := 39) dX0_drivePlan_39 f_X0_44 (sA_7 hY) rfl ?_
      refine w_cVi C (pc := 42) dX0_drivePlan_42 my_X4_stops mi_X4_stops ml_X0_92 (sA_4 hY) rfl rfl rfl [] rfl rfl (Nat.le_of_ble_eq_true rfl) (tX4_stops (kPlan_4 hY) rfl) ?_
      refine w_icge C (pc := 45) 161 dX0_drivePlan_45 (by decide) (fun c => ?_) (fun c => ?_)
      · have h52 := it_t h52 c
        obtain rfl := Option.some.inj h52
        refine w_lv [0] rfl ?_
        exact kx51 _ rfl
      · have h52 := it_f h52 c
        refine w_aload_n C (pc := 48) dX0_drivePlan_48 0 rfl ?_
        refine w_getR C (pc := 49) dX0_drivePlan_49 f_X0_44 (sA_7 hY) rfl ?_
        refine w_iload_n C (pc := 52) dX0_drivePlan_52 2 rfl ?_
        obtain ⟨v53, e54, h52⟩ := ob h52
        refine w_cVi C (pc := 53) dX0_drivePlan_53 my_X4_placeAt mi_X4_placeAt ml_X0_101 (sA_4 hY) rfl rfl rfl [.int s48.2.1] rfl rfl (Nat.le_of_ble_eq_true rfl) (tX4_placeAt (kPlan_4 hY) e54) ?_
        refine w_istore_n C (pc := 56) dX0_drivePlan_56 (lv' := [(0, .ref (adr Y 7)), (1, .int s48.1), (2, .int s48.2.1), (3, .int v53)]) rfl rfl rfl ?_
        refine w_iload_n C (pc := 57) dX0_drivePlan_57 2 rfl ?_
        obtain ⟨j55, e56, h57⟩ := ob h52
        have Jj55 : Wp K zX0_drivePlan Y (Qm K Y none q) s48.2.2 82 [(0, .ref (adr Y 7)), (1, .int j55), (2, .int s48.2.1), (3, .int v53)] [] := by
          refine w_aload_n C (pc := 82) dX0_drivePlan_82 0 rfl ?_
          refine w_getR C (pc := 83) dX0_drivePlan_83 f_X0_18 (sA_7 hY) rfl ?_
          refine w_iload_n C (pc := 86) dX0_drivePlan_86 2 rfl ?_
          refine w_iload_n C (pc := 87) dX0_drivePlan_87 1 rfl ?_
          obtain ⟨M58, e59, h57⟩ := ob h57
          refine w_iast C (pc := 88) dX0_drivePlan_88 (sA_10 hY) e59 ?_
          refine w_aload_n C (pc := 89) dX0_drivePlan_89 0 rfl ?_
          refine w_getR C (pc := 90) dX0_drivePlan_90 f_X0_12 (sA_7 hY) rfl ?_
          refine w_iload_n C (pc := 93) dX0_drivePlan_93 1 rfl ?_
          refine w_iconst C (pc := 94) dX0_drivePlan_94 (v := 0) (by decide) ?_
          refine w_iload_n C (pc := 95) dX0_drivePlan_95 3 rfl ?_
          refine w_iconst C (pc := 96) dX0_drivePlan_96 (v := (-1)) (by decide) ?_
          obtain ⟨v60, e61, h57⟩ := ob h57
          refine w_cVv C (pc := 97) dX0_drivePlan_97 my_X1_note mi_X1_note ml_X0_123 (sA_8 hY) rfl rfl rfl [.int j55, .int 0, .int v53, .int (-1)] rfl rfl (Nat.le_of_ble_eq_true rfl) (tX1_note hY  e61) ?_
          refine w_iload_n C (pc := 100) dX0_drivePlan_100 3 rfl ?_
          obtain ⟨j62, e63, h64⟩ := ob h57
          have Jj62 : Wp K zX0_drivePlan Y (Qm K Y none q) j62.2 127 [(0, .ref (adr Y 7)), (1, .int j62.1), (2, .int s48.2.1), (3, .int v53)] [] := by
            refine w_aload_n C (pc := 127) dX0_drivePlan_127 0 rfl ?_
            refine w_iload_n C (pc := 128) dX0_drivePlan_128 2 rfl ?_
            refine w_iload_n C (pc := 129) dX0_drivePlan_129 1 rfl ?_
            obtain ⟨v65, e66, h64⟩ := ob h64
            refine w_cVi C (pc := 130) dX0_drivePlan_130 my_X0_catchAll mi_X0_catchAll ml_X0_130 (sA_7 hY) rfl rfl rfl [.int s48.2.1, .int j62.1] rfl rfl (Nat.le_of_ble_eq_true rfl) (tX0_catchAll hY  e66) ?_
            refine w_bnd h64 (fun v67 h64 => ?_)
            refine w_istore_n C (pc := 133) dX0_drivePlan_133 (lv' := [(0, .ref (adr Y 7)), (1, .int v67), (2, .int s48.2.1), (3, .int v53)]) rfl rfl rfl ?_
            refine w_aload_n C (pc := 134) dX0_drivePlan_134 0 rfl ?_
            refine w_getR C (pc := 135) dX0_drivePlan_135 f_X0_22 (sA_7 hY) rfl ?_
            refine w_iload_n C (pc := 138) dX0_drivePlan_138 2 rfl ?_
            refine w_iload_n C (pc := 139) dX0_drivePlan_139 1 rfl ?_
            obtain ⟨M68, e69, h64⟩ := ob h64
            refine w_iast C (pc := 140) dX0_drivePlan_140 (sA_11 hY) e69 ?_
            refine w_aload_n C (pc := 141) dX0_drivePlan_141 0 rfl ?_
            refine w_iload_n C (pc := 142) dX0_drivePlan_142 2 rfl ?_
            refine w_iload_n C (pc := 143) dX0_drivePlan_143 1 rfl ?_
            obtain ⟨v70, e71, h64⟩ := ob h64
            refine w_cVi C (pc := 144) dX0_drivePlan_144 my_X0_launchAll mi_X0_launchAll ml_X0_133 (sA_7 hY) rfl rfl rfl [.int s48.2.1, .int v67] rfl rfl (Nat.le_of_ble_eq_true rfl) (tX0_launchAll hY  e71) ?_
            refine w_bnd h64 (fun v72 h64 => ?_)
            refine w_istore_n C (pc := 147) dX0_drivePlan_147 (lv' := [(0, .ref (adr Y 7)), (1, .int v72), (2, .int s48.2.1), (3, .int v53)]) rfl rfl rfl ?_
            refine w_aload_n C (pc := 148) dX0_drivePlan_148 0 rfl ?_
            refine w_getR C (pc := 149) dX0_drivePlan_149 f_X0_25 (sA_7 hY) rfl ?_
            refine w_iload_n C (pc := 152) dX0_drivePlan_152 2 rfl ?_
            refine w_iload_n C (pc := 153) dX0_drivePlan_153 1 rfl ?_
            obtain ⟨M73, e74, h64⟩ := ob h64
            refine w_iast C (pc := 154) dX0_drivePlan_154 (sA_12 hY) e74 ?_
            refine w_iinc C (pc := 155) dX0_drivePlan_155 2 rfl (v := 1) (lv' := [(0, .ref (adr Y 7)), (1, .int v72), (2, .int (s48.2.1 + 1)), (3, .int v53)]) (by decide) rfl rfl rfl ?_
            refine w_goto C (pc := 158) 37 dX0_drivePlan_158 (by decide) ?_
            obtain rfl := Option.some.inj h64
            refine w_lv [0, 1, 2] rfl ?_
            exact ki50 _ rfl
          refine w_ifeq C (pc := 101) 127 dX0_drivePlan_101 (by decide) (fun c => ?_) (fun c => ?_)
          · have e63 := it_t e63 c
            obtain rfl := Option.some.inj e63
            exact Jj62
          · have e63 := it_f e63 c
            refine w_iload_n C (pc := 104) dX0_drivePlan_104 1 rfl ?_
            refine w_aload_n C (pc := 105) dX0_drivePlan_105 0 rfl ?_
            refine w_getR C (pc := 106) dX0_drivePlan_106 f_X0_40 (sA_7 hY) rfl ?_
            refine w_iload_n C (pc := 109) dX0_drivePlan_109 3 rfl ?_
            refine w_iconst C (pc := 110) dX0_drivePlan_110 (v := 2) (by decide) ?_
            obtain ⟨v75, e76, e63⟩ := ob e63
            refine w_cVi C (pc := 111) dX0_drivePlan_111 my_X3_fact mi_X3_fact ml_X0_127 (sA_1 hY) rfl rfl rfl [.int v53, .int 2] rfl rfl (Nat.le_of_ble_eq_true rfl) (tX3_fact (kLand_1 hY) e76) ?_
            refine w_iadd C (pc := 114) dX0_drivePlan_114 ?_
            refine w_bnd e63 (fun v77 e63 => ?_)
            refine w_istore_n C (pc := 115) dX0_drivePlan_115 (lv' := [(0, .ref (adr Y 7)), (1, .int v77), (2, .int s48.2.1), (3, .int v53)]) rfl rfl rfl ?_
            refine w_aload_n C (pc := 116) dX0_drivePlan_116 0 rfl ?_
            refine w_getR C (pc := 117) dX0_drivePlan_117 f_X0_12 (sA_7 hY) rfl ?_
            refine w_iload_n C (pc := 120) dX0_drivePlan_120 1 rfl ?_
            refine w_iconst C (pc := 121) dX0_drivePlan_121 (v := 1) (by decide) ?_
            refine w_iload_n C (pc := 122) dX0_drivePlan_122 3 rfl ?_
            refine w_iconst C (pc := 123) dX0_drivePlan_123 (v := (-1)) (by decide) ?_
            obtain ⟨v78, e79, e63⟩ := ob e63
            refine w_cVv C (pc := 124) dX0_drivePlan_124 my_X1_note mi_X1_note ml_X0_123 (sA_8 hY) rfl rfl rfl [.int v77, .int 1, .int v53, .int (-1)] rfl rfl (Nat.le_of_ble_eq_true rfl) (tX1_note hY  e79) ?_
            obtain rfl := Option.some.inj e63
            exact Jj62
        refine w_ifle C (pc := 58) 82 dX0_drivePlan_58 (by decide) (fun c => ?_) (fun c => ?_)
        · have e56 := it_t e56 c
          obtain rfl := Option.some.inj e56
          exact Jj55
        · have e56 := it_f e56 c
          refine w_iload_n C (pc := 61) dX0_drivePlan_61 1 rfl ?_
          refine w_aload_n C (pc := 62) dX0_drivePlan_62 0 rfl ?_
          refine w_getR C (pc := 63) dX0_drivePlan_63 f_X0_40 (sA_7 hY) rfl ?_
          refine w_aload_n C (pc := 66) dX0_drivePlan_66 0 rfl ?_
          refine w_getR C (pc := 67) dX0_drivePlan_67 f_X0_44 (sA_7 hY) rfl ?_
          refine w_iload_n C (pc := 70) dX0_drivePlan_70 2 rfl ?_
          refine w_iconst C (pc := 71) dX0_drivePlan_71 (v := 1) (by decide) ?_
          refine w_isub C (pc := 72) dX0_drivePlan_72 ?_
          obtain ⟨v80, e81, e56⟩ := ob e56
          refine w_cVi C (pc := 73) dX0_drivePlan_73 my_X4_placeAt mi_X4_placeAt ml_X0_101 (sA_4 hY) rfl rfl rfl [.int (s48.2.1 - 1)] rfl rfl (Nat.le_of_ble_eq_true rfl) (tX4_placeAt (kPlan_4 hY) e81) ?_
          refine w_iload_n C (pc := 76) dX0_drivePlan_76 3 rfl ?_
          obtain ⟨v82, e83, e56⟩ := ob e56
          refine w_cVi C (pc := 77) dX0_drivePlan_77 my_X3_drive mi_X3_drive ml_X0_120 (sA_1 hY) rfl rfl rfl [.int v80, .int v53] rfl rfl (Nat.le_of_ble_eq_true rfl) (tX3_drive (kLand_1 hY) e83) ?_
          refine w_iadd C (pc := 80) dX0_drivePlan_80 ?_
          refine w_bnd e56 (fun v84 e56 => ?_)
          refine w_istore_n C (pc := 81) dX0_drivePlan_81 (lv' := [(0, .ref (adr Y 7)), (1, .int v84), (2, .int s48.2.1), (3, .int v53)]) rfl rfl rfl ?_
          obtain rfl := Option.some.inj e56
          exact Jj55
    · exact w_retV C (pc := 161) dX0_drivePlan_161 rfl (Option.some.inj h)
theorem dX0_drivenTo_0 : decode cX0_drivenTo 0 = .ok (.iload_n 1, 1) := by decide +kernel
theorem dX0_drivenTo_1 : decode cX0_drivenTo 1 = .ok (.ifCond .le 21, 3) := by decide +kernel
theorem dX0_drivenTo_4 : decode cX0_drivenTo 4 = .ok (.aload_n 0, 1) := by decide +kernel
theorem dX0_drivenTo_5 : decode cX0_drivenTo 5 = .ok (.getfield 18, 3) := by decide +kernel
theorem dX0_drivenTo_8 : decode cX0_drivenTo 8 = .ok (.iload_n 1, 1) := by decide +kernel
theorem dX0_drivenTo_9 : decode cX0_drivenTo 9 = .ok (.iaload, 1) := by decide +kernel
theorem dX0_drivenTo_10 : decode cX0_drivenTo 10 = .ok (.aload_n 0, 1) := by decide +kernel
theorem dX0_drivenTo_11 : decode cX0_drivenTo 11 = .ok (.getfield 25, 3) := by decide +kernel
theorem dX0_drivenTo_14 : decode cX0_drivenTo 14 = .ok (.iload_n 1, 1) := by decide +kernel
theorem dX0_drivenTo_15 : decode cX0_drivenTo 15 = .ok (.iconst 1, 1) := by decide +kernel
theorem dX0_drivenTo_16 : decode cX0_drivenTo 16 = .ok (.isub, 1) := by decide +kernel
theorem dX0_drivenTo_17 : decode cX0_drivenTo 17 = .ok (.iaload, 1) := by decide +kernel
theorem dX0_drivenTo_18 : decode cX0_drivenTo 18 = .ok (.isub, 1) := by decide +kernel
theorem dX0_drivenTo_19 : decode cX0_drivenTo 19 = .ok (.goto 4, 3) := by decide +kernel
theorem dX0_drivenTo_22 : decode cX0_drivenTo 22 = .ok (.iconst 0, 1) := by decide +kernel
theorem dX0_drivenTo_23 : decode cX0_drivenTo 23 = .ok (.ireturn, 1) := by decide +kernel
def pX0_drivenTo (x1 : Int32) (M : Mm) : Option (Int32) :=
if x1 ≤ 0 then
(some 0)
else
((ald M 10 10 x1).bind fun v1 =>
(ald M 12 10 (x1 - 1)).bind fun v3 =>
some (v1 - v3))
abbrev zX0_drivenTo : Zx := (cX0_drivenTo, RX0, 2, 0, (some .int))
set_option maxRecDepth 100000 in
set_option maxHeartbeats 4000000 in
theorem tX0_drivenTo {l : Launch} {Y : Sx} {M : Mm} {x1 : Int32} {q : Int32} (hY : isA Y) (h : pX0_drivenTo x1 M = some q) : Ct l Y yX0_drivenTo cX0_drivenTo 2 (some .int) 0 [.ref (adr Y 7), .int x1] M (some q) M := by
  refine Ct.of (by decide) rfl (lv := [(0, .ref (adr Y 7)), (1, .int x1)]) rfl ?_
  intro K hkl C
  change Cx K zX0_drivenTo Y at C
  subst hkl
  unfold pX0_drivenTo at h
  show Wp K zX0_drivenTo Y (Qm K Y (some q) M) M 0 [(0, .ref (adr Y 7)), (1, .int x1)] []
  refine w_iload_n C (pc := 0) dX0_drivenTo_0 1 rfl ?_
  refine w_ifle C (pc := 1) 22 dX0_drivenTo_1 (by decide) (fun c => ?_) (fun c => ?_)
  · have h := it_t h c
    refine w_iconst C (pc := 22) dX0_drivenTo_22 (v := 0) (by decide) ?_
    exact w_retR C (pc := 23) dX0_drivenTo_23 rfl (Option.some.inj h)
  · have h := it_f h c
    refine w_aload_n C (pc := 4) dX0_drivenTo_4 0 rfl ?_
    refine w_getR C (pc := 5) dX0_drivenTo_5 f_X0_18 (sA_7 hY) rfl ?_
    refine w_iload_n C (pc := 8) dX0_drivenTo_8 1 rfl ?_
    obtain ⟨v1, e2, h⟩ := ob h
    refine w_iald C (pc := 9) dX0_drivenTo_9 (sA_10 hY) e2 ?_
    refine w_aload_n C (pc := 10) dX0_drivenTo_10 0 rfl ?_
    refine w_getR C (pc := 11) dX0_drivenTo_11 f_X0_25 (sA_7 hY) rfl ?_
    refine w_iload_n C (pc := 14) dX0_drivenTo_14 1 rfl ?_
    refine w_iconst C (pc := 15) dX0_drivenTo_15 (v := 1) (by decide) ?_
    refine w_isub C (pc := 16) dX0_drivenTo_16 ?_
    obtain ⟨v3, e4, h⟩ := ob h
    refine w_iald C (pc := 17) dX0_drivenTo_17 (sA_12 hY) e4 ?_
    refine w_isub C (pc := 18) dX0_drivenTo_18 ?_
    refine w_goto C (pc := 19) 23 dX0_drivenTo_19 (by decide) ?_
    exact w_retR C (pc := 23) dX0_drivenTo_23 rfl (Option.some.inj h)
theorem dX0_flownBy_0 : decode cX0_flownBy 0 = .ok (.aload_n 0, 1) := by decide +kernel
theorem dX0_flownBy_1 : decode cX0_flownBy 1 = .ok (.getfield 34, 3) := by decide +kernel
theorem dX0_flownBy_4 : decode cX0_flownBy 4 = .ok (.iload_n 1, 1) := by decide +kernel
theorem dX0_flownBy_5 : decode cX0_flownBy 5 = .ok (.iaload, 1) := by decide +kernel
theorem dX0_flownBy_6 : decode cX0_flownBy 6 = .ok (.aload_n 0, 1) := by decide +kernel
theorem dX0_flownBy_7 : decode cX0_flownBy 7 = .ok (.getfield 31, 3) := by decide +kernel
theorem dX0_flownBy_10 : decode cX0_flownBy 10 = .ok (.iload_n 1, 1) := by decide +kernel
theorem dX0_flownBy_11 : decode cX0_flownBy 11 = .ok (.iaload, 1) := by decide +kernel
theorem dX0_flownBy_12 : decode cX0_flownBy 12 = .ok (.isub, 1) := by decide +kernel
theorem dX0_flownBy_13 : decode cX0_flownBy 13 = .ok (.aload_n 0, 1) := by decide +kernel
theorem dX0_flownBy_14 : decode cX0_flownBy 14 = .ok (.getfield 40, 3) := by decide +kernel
theorem dX0_flownBy_17 : decode cX0_flownBy 17 = .ok (.aload_n 0, 1) := by decide +kernel
theorem dX0_flownBy_18 : decode cX0_flownBy 18 = .ok (.getfield 44, 3) := by decide +kernel
theorem dX0_flownBy_21 : decode cX0_flownBy 21 = .ok (.iload_n 1, 1) := by decide +kernel
theorem dX0_flownBy_22 : decode cX0_flownBy 22 = .ok (.iconst 2, 1) := by decide +kernel
theorem dX0_flownBy_23 : decode cX0_flownBy 23 = .ok (.invokevirtual 82, 3) := by decide +kernel
theorem dX0_flownBy_26 : decode cX0_flownBy 26 = .ok (.iconst 3, 1) := by decide +kernel
theorem dX0_flownBy_27 : decode cX0_flownBy 27 = .ok (.invokevirtual 127, 3) := by decide +kernel
theorem dX0_flownBy_30 : decode cX0_flownBy 30 = .ok (.isub, 1) := by decide +kernel
theorem dX0_flownBy_31 : decode cX0_flownBy 31 = .ok (.ireturn, 1) := by decide +kernel
def pX0_flownBy (x1 : Int32) (M : Mm) : Option (Int32) :=
(ald M 15 8 x1).bind fun v1 =>
(ald M 14 8 x1).bind fun v3 =>
(pX4_part 4 x1 2 M).bind fun v5 =>
(pX3_fact 1 v5 3 M).bind fun v7 =>
some ((v1 - v3) - v7)
abbrev zX0_flownBy : Zx := (cX0_flownBy, RX0, 2, 1, (some .int))
set_option maxRecDepth 100000 in
set_option maxHeartbeats 4000000 in
theorem tX0_flownBy {l : Launch} {Y : Sx} {M : Mm} {x1 : Int32} {q : Int32} (hY : isA Y) (h : pX0_flownBy x1 M = some q) : Ct l Y yX0_flownBy cX0_flownBy 2 (some .int) 1 [.ref (adr Y 7), .int x1] M (some q) M := by
  refine Ct.of (by decide) rfl (lv := [(0, .ref (adr Y 7)), (1, .int x1)]) rfl ?_
  intro K hkl C
  change Cx K zX0_flownBy Y at C
  subst hkl
  unfold pX0_flownBy at h
  show Wp K zX0_flownBy Y (Qm K Y (some q) M) M 0 [(0, .ref (adr Y 7)), (1, .int x1)] []
  refine w_aload_n C (pc := 0) dX0_flownBy_0 0 rfl ?_
  refine w_getR C (pc := 1) dX0_flownBy_1 f_X0_34 (sA_7 hY) rfl ?_
  refine w_iload_n C (pc := 4) dX0_flownBy_4 1 rfl ?_
  obtain ⟨v1, e2, h⟩ := ob h
  refine w_iald C (pc := 5) dX0_flownBy_5 (sA_15 hY) e2 ?_
  refine w_aload_n C (pc := 6) dX0_flownBy_6 0 rfl ?_
  refine w_getR C (pc := 7) dX0_flownBy_7 f_X0_31 (sA_7 hY) rfl ?_
  refine w_iload_n C (pc := 10) dX0_flownBy_10 1 rfl ?_
  obtain ⟨v3, e4, h⟩ := ob h
  refine w_iald C (pc := 11) dX0_flownBy_11 (sA_14 hY) e4 ?_
  refine w_isub C (pc := 12) dX0_flownBy_12 ?_
  refine w_aload_n C (pc := 13) dX0_flownBy_13 0 rfl ?_
  refine w_getR C (pc := 14) dX0_flownBy_14 f_X0_40 (sA_7 hY) rfl ?_
  refine w_aload_n C (pc := 17) dX0_flownBy_17 0 rfl ?_
  refine w_getR C (pc := 18) dX0_flownBy_18 f_X0_44 (sA_7 hY) rfl ?_
  refine w_iload_n C (pc := 21) dX0_flownBy_21 1 rfl ?_
  refine w_iconst C (pc := 22) dX0_flownBy_22 (v := 2) (by decide) ?_
  obtain ⟨v5, e6, h⟩ := ob h
  refine w_cVi C (pc := 23) dX0_flownBy_23 my_X4_part mi_X4_part ml_X0_82 (sA_4 hY) rfl rfl rfl [.int x1, .int 2] rfl rfl (Nat.le_of_ble_eq_true rfl) (tX4_part (kPlan_4 hY) e6) ?_
  refine w_iconst C (pc := 26) dX0_flownBy_26 (v := 3) (by decide) ?_
  obtain ⟨v7, e8, h⟩ := ob h
  refine w_cVi C (pc := 27) dX0_flownBy_27 my_X3_fact mi_X3_fact ml_X0_127 (sA_1 hY) rfl rfl rfl [.int v5, .int 3] rfl rfl (Nat.le_of_ble_eq_true rfl) (tX3_fact (kLand_1 hY) e8) ?_
  refine w_isub C (pc := 30) dX0_flownBy_30 ?_
  exact w_retR C (pc := 31) dX0_flownBy_31 rfl (Option.some.inj h)
theorem dX0_told_0 : decode cX0_told 0 = .ok (.iload_n 0, 1) := by decide +kernel
theorem dX0_told_1 : decode cX0_told 1 = .ok (.bipush 16, 2) := by decide +kernel
theorem dX0_told_3 : decode cX0_told 3 = .ok (.iload_n 1, 1) := by decide +kernel
theorem dX0_told_4 : decode cX0_told 4 = .ok (.imul, 1) := by decide +kernel
theorem dX0_told_5 : decode cX0_told 5 = .ok (.iadd, 1) := by decide +kernel
theorem dX0_told_6 : decode cX0_told 6 = .ok (.ireturn, 1) := by decide +kernel
def pX0_told (x0 : Int32) (x1 : Int32) : Int32 :=
x0 + (16 * x1)
abbrev zX0_told : Zx := (cX0_told, RX0, 2, 0, (some .int))
set_option maxRecDepth 100000 in
set_option maxHeartbeats 4000000 in
theorem tX0_told {l : Launch} {Y : Sx} {M : Mm} {x0 : Int32} {x1 : Int32} {q : Int32} (h : pX0_told x0 x1 = q) : Ct l Y yX0_told cX0_told 2 (some .int) 0 [.int x0, .int x1] M (some q) M := by
  refine Ct.of (by decide) rfl (lv := [(0, .int x0), (1, .int x1)]) rfl ?_
  intro K hkl C
  change Cx K zX0_told Y at C
  subst hkl
  unfold pX0_told at h
  show Wp K zX0_told Y (Qm K Y (some q) M) M 0 [(0, .int x0), (1, .int x1)] []
  refine w_iload_n C (pc := 0) dX0_told_0 0 rfl ?_
  refine w_bipush C (pc := 1) dX0_told_1 (v := 16) (by decide) ?_
  refine w_iload_n C (pc := 3) dX0_told_3 1 rfl ?_
  refine w_imul C (pc := 4) dX0_told_4 ?_
  refine w_iadd C (pc := 5) dX0_told_5 ?_
  exact w_retR C (pc := 6) dX0_told_6 rfl h
theorem dX0_impossibleSortie_0 : decode cX0_impossibleSortie 0 = .ok (.iconst 0, 1) := by decide +kernel
theorem dX0_impossibleSortie_1 : decode cX0_impossibleSortie 1 = .ok (.istore_n 1, 1) := by decide +kernel
theorem dX0_impossibleSortie_2 : decode cX0_impossibleSortie 2 = .ok (.iload_n 1, 1) := by decide +kernel
theorem dX0_impossibleSortie_3 : decode cX0_impossibleSortie 3 = .ok (.aload_n 0, 1) := by decide +kernel
theorem dX0_impossibleSortie_4 : decode cX0_impossibleSortie 4 = .ok (.getfield 44, 3) := by decide +kernel
theorem dX0_impossibleSortie_7 : decode cX0_impossibleSortie 7 = .ok (.getfield 77, 3) := by decide +kernel
theorem dX0_impossibleSortie_10 : decode cX0_impossibleSortie 10 = .ok (.if_icmp .ge 72, 3) := by decide +kernel
theorem dX0_impossibleSortie_13 : decode cX0_impossibleSortie 13 = .ok (.aload_n 0, 1) := by decide +kernel
theorem dX0_impossibleSortie_14 : decode cX0_impossibleSortie 14 = .ok (.getfield 44, 3) := by decide +kernel
theorem dX0_impossibleSortie_17 : decode cX0_impossibleSortie 17 = .ok (.iload_n 1, 1) := by decide +kernel
theorem dX0_impossibleSortie_18 : decode cX0_impossibleSortie 18 = .ok (.iconst 1, 1) := by decide +kernel
theorem dX0_impossibleSortie_19 : decode cX0_impossibleSortie 19 = .ok (.invokevirtual 82, 3) := by decide +kernel
theorem dX0_impossibleSortie_22 : decode cX0_impossibleSortie 22 = .ok (.istore_n 2, 1) := by decide +kernel
theorem dX0_impossibleSortie_23 : decode cX0_impossibleSortie 23 = .ok (.aload_n 0, 1) := by decide +kernel
theorem dX0_impossibleSortie_24 : decode cX0_impossibleSortie 24 = .ok (.getfield 44, 3) := by decide +kernel
theorem dX0_impossibleSortie_27 : decode cX0_impossibleSortie 27 = .ok (.iload_n 1, 1) := by decide +kernel
theorem dX0_impossibleSortie_28 : decode cX0_impossibleSortie 28 = .ok (.iconst 3, 1) := by decide +kernel
theorem dX0_impossibleSortie_29 : decode cX0_impossibleSortie 29 = .ok (.invokevirtual 82, 3) := by decide +kernel
theorem dX0_impossibleSortie_32 : decode cX0_impossibleSortie 32 = .ok (.istore_n 3, 1) := by decide +kernel
theorem dX0_impossibleSortie_33 : decode cX0_impossibleSortie 33 = .ok (.aload_n 0, 1) := by decide +kernel
theorem dX0_impossibleSortie_34 : decode cX0_impossibleSortie 34 = .ok (.getfield 44, 3) := by decide +kernel
theorem dX0_impossibleSortie_37 : decode cX0_impossibleSortie 37 = .ok (.iload_n 1, 1) := by decide +kernel
theorem dX0_impossibleSortie_38 : decode cX0_impossibleSortie 38 = .ok (.iconst 0, 1) := by decide +kernel
theorem dX0_impossibleSortie_39 : decode cX0_impossibleSortie 39 = .ok (.invokevirtual 82, 3) := by decide +kernel
theorem dX0_impossibleSortie_42 : decode cX0_impossibleSortie 42 = .ok (.aload_n 0, 1) := by decide +kernel
theorem dX0_impossibleSortie_43 : decode cX0_impossibleSortie 43 = .ok (.getfield 40, 3) := by decide +kernel
theorem dX0_impossibleSortie_46 : decode cX0_impossibleSortie 46 = .ok (.bipush 8, 2) := by decide +kernel
theorem dX0_impossibleSortie_48 : decode cX0_impossibleSortie 48 = .ok (.invokevirtual 86, 3) := by decide +kernel
theorem dX0_impossibleSortie_51 : decode cX0_impossibleSortie 51 = .ok (.if_icmp .ge 19, 3) := by decide +kernel
theorem dX0_impossibleSortie_54 : decode cX0_impossibleSortie 54 = .ok (.iload_n 3, 1) := by decide +kernel
theorem dX0_impossibleSortie_55 : decode cX0_impossibleSortie 55 = .ok (.aload_n 0, 1) := by decide +kernel
theorem dX0_impossibleSortie_56 : decode cX0_impossibleSortie 56 = .ok (.getfield 44, 3) := by decide +kernel
theorem dX0_impossibleSortie_59 : decode cX0_impossibleSortie 59 = .ok (.invokevirtual 92, 3) := by decide +kernel
theorem dX0_impossibleSortie_62 : decode cX0_impossibleSortie 62 = .ok (.if_icmp .ge 8, 3) := by decide +kernel
theorem dX0_impossibleSortie_65 : decode cX0_impossibleSortie 65 = .ok (.iload_n 3, 1) := by decide +kernel
theorem dX0_impossibleSortie_66 : decode cX0_impossibleSortie 66 = .ok (.iload_n 2, 1) := by decide +kernel
theorem dX0_impossibleSortie_67 : decode cX0_impossibleSortie 67 = .ok (.if_icmp .gt 9, 3) := by decide +kernel
theorem dX0_impossibleSortie_70 : decode cX0_impossibleSortie 70 = .ok (.iconst 1, 1) := by decide +kernel
theorem dX0_impossibleSortie_71 : decode cX0_impossibleSortie 71 = .ok (.iload_n 1, 1) := by decide +kernel
theorem dX0_impossibleSortie_72 : decode cX0_impossibleSortie 72 = .ok (.invokestatic 95, 3) := by decide +kernel
theorem dX0_impossibleSortie_75 : decode cX0_impossibleSortie 75 = .ok (.ireturn, 1) := by decide +kernel
theorem dX0_impossibleSortie_76 : decode cX0_impossibleSortie 76 = .ok (.iinc 1 1, 3) := by decide +kernel
theorem dX0_impossibleSortie_79 : decode cX0_impossibleSortie 79 = .ok (.goto (-77), 3) := by decide +kernel
theorem dX0_impossibleSortie_82 : decode cX0_impossibleSortie 82 = .ok (.iconst 0, 1) := by decide +kernel
theorem dX0_impossibleSortie_83 : decode cX0_impossibleSortie 83 = .ok (.ireturn, 1) := by decide +kernel
def pX0_impossibleSortie_L2 (M : Mm) (s : Int32) : Option ((Int32) ⊕ ((Unit) ⊕ (Int32))) :=
if (M 4 1) ≤ s then
(some (Sum.inr (Sum.inl ())))
else
((pX4_part 4 s 1 M).bind fun v1 =>
(pX4_part 4 s 3 M).bind fun v3 =>
(pX4_part 4 s 0 M).bind fun v5 =>
(pX3_setting 1 8 M).bind fun v7 =>
if v7 ≤ v5 then
(some (Sum.inr (Sum.inr (pX0_told 1 s))))
else
(if (pX4_stops 4 M) ≤ v3 then
(some (Sum.inr (Sum.inr (pX0_told 1 s))))
else
(if v1 < v3 then
(some (Sum.inl (s + 1)))
else
(some (Sum.inr (Sum.inr (pX0_told 1 s)))))))
def pX0_impossibleSortie (M : Mm) : Option (Int32) :=
(itr (pX0_impossibleSortie_L2 M) fuel 0).bind fun x12 =>
Sum.elim (fun yx12 =>
some 0) (fun r => some r) x12
abbrev zX0_impossibleSortie : Zx := (cX0_impossibleSortie, RX0, 4, 1, (some .int))
set_option maxRecDepth 100000 in
set_option maxHeartbeats 4000000 in
theorem tX0_impossibleSortie {l : Launch} {Y : Sx} {M : Mm} {q : Int32} (hY : isA Y) (h : pX0_impossibleSortie M = some q) : Ct l Y yX0_impossibleSortie cX0_impossibleSortie 4 (some .int) 1 [.ref (adr Y 7)] M (some q) M := by
  refine Ct.of (by decide) rfl (lv := [(0, .ref (adr Y 7))]) rfl ?_
  intro K hkl C
  change Cx K zX0_impossibleSortie Y at C
  subst hkl
  unfold pX0_impossibleSortie at h
  show Wp K zX0_impossibleSortie Y (Qm K Y (some q) M) M 0 [(0, .ref (adr Y 7))] []
  refine w_iconst C (pc := 0) dX0_impossibleSortie_0 (v := 0) (by decide) ?_
  refine w_istore_n C (pc := 1) dX0_impossibleSortie_1 (lv' := [(0, .ref (adr Y 7)), (1, .int 0)]) rfl rfl rfl ?_
  obtain ⟨x12, e13, h⟩ := ob h
  refine itr_W (P := fun s14 => Wp K zX0_impossibleSortie Y (Qm K Y (some q) M) M 2 [(0, .ref (adr Y 7)), (1, .int s14)] []) (R := fun x9 => (∀ yx12, x9 = Sum.inl yx12 → Wp K zX0_impossibleSortie Y (Qm K Y (some q) M) M 82 [(0, .ref (adr Y 7))] []) ∧ (∀ v9, x9 = Sum.inr v9 → some v9 = some q)) ?_ fuel 0 x12 e13 ?_
  · intro s14 r15 h18 ki16 kx17
    unfold pX0_impossibleSortie_L2 at h18
    show Wp K zX0_impossibleSortie Y (Qm K Y (some q) M) M 2 [(0, .ref (adr Y 7)), (1, .int s14)] []
    refine w_iload_n C (pc := 2) dX0_impossibleSortie_2 1 rfl ?_
    refine w_aload_n C (pc := 3) dX0_impossibleSortie_3 0 rfl ?_
    refine w_getR C (pc := 4) dX0_impossibleSortie_4 f_X0_44 (sA_7 hY) rfl ?_
    refine w_getI C (pc := 7) dX0_impossibleSortie_7 f_X0_77 (sA_4 hY) rfl ?_
    refine w_icge C (pc := 10) 82 dX0_impossibleSortie_10 (by decide) (fun c => ?_) (fun c => ?_)
    · have h18 := it_t h18 c
      obtain rfl := Option.some.inj h18
      refine w_lv [0] rfl ?_
      exact (kx17 _ rfl).1 _ rfl
    · have h18 := it_f h18 c
      refine w_aload_n C (pc := 13) dX0_impossibleSortie_13 0 rfl ?_
      refine w_getR C (pc := 14) dX0_impossibleSortie_14 f_X0_44 (sA_7 hY) rfl ?_
      refine w_iload_n C (pc := 17) dX0_impossibleSortie_17 1 rfl ?_
      refine w_iconst C (pc := 18) dX0_impossibleSortie_18 (v := 1) (by decide) ?_
      obtain ⟨v19, e20, h18⟩ := ob h18
      refine w_cVi C (pc := 19) dX0_impossibleSortie_19 my_X4_part mi_X4_part ml_X0_82 (sA_4 hY) rfl rfl rfl [.int s14, .int 1] rfl rfl (Nat.le_of_ble_eq_true rfl) (tX4_part (kPlan_4 hY) e20) ?_
      refine w_istore_n C (pc := 22) dX0_impossibleSortie_22 (lv' := [(0, .ref (adr Y 7)), (1, .int s14), (2, .int v19)]) rfl rfl rfl ?_
      refine w_aload_n C (pc := 23) dX0_impossibleSortie_23 0 rfl ?_
      refine w_getR C (pc := 24) dX0_impossibleSortie_24 f_X0_44 (sA_7 hY) rfl ?_
      refine w_iload_n C (pc := 27) dX0_impossibleSortie_27 1 rfl ?_
      refine w_iconst C (pc := 28) dX0_impossibleSortie_28 (v := 3) (by decide) ?_
      obtain ⟨v21, e22, h18⟩ := ob h18
      refine w_cVi C (pc := 29) dX0_impossibleSortie_29 my_X4_part mi_X4_part ml_X0_82 (sA_4 hY) rfl rfl rfl [.int s14, .int 3] rfl rfl (Nat.le_of_ble_eq_true rfl) (tX4_part (kPlan_4 hY) e22) ?_
      refine w_istore_n C (pc := 32) dX0_impossibleSortie_32 (lv' := [(0, .ref (adr Y 7)), (1, .int s14), (2, .int v19), (3, .int v21)]) rfl rfl rfl ?_
      refine w_aload_n C (pc := 33) dX0_impossibleSortie_33 0 rfl ?_
      refine w_getR C (pc := 34) dX0_impossibleSortie_34 f_X0_44 (sA_7 hY) rfl ?_
      refine w_iload_n C (pc := 37) dX0_impossibleSortie_37 1 rfl ?_
      refine w_iconst C (pc := 38) dX0_impossibleSortie_38 (v := 0) (by decide) ?_
      obtain ⟨v23, e24, h18⟩ := ob h18
      refine w_cVi C (pc := 39) dX0_impossibleSortie_39 my_X4_part mi_X4_part ml_X0_82 (sA_4 hY) rfl rfl rfl [.int s14, .int 0] rfl rfl (Nat.le_of_ble_eq_true rfl) (tX4_part (kPlan_4 hY) e24) ?_
      refine w_aload_n C (pc := 42) dX0_impossibleSortie_42 0 rfl ?_
      refine w_getR C (pc := 43) dX0_impossibleSortie_43 f_X0_40 (sA_7 hY) rfl ?_
      refine w_bipush C (pc := 46) dX0_impossibleSortie_46 (v := 8) (by decide) ?_
      obtain ⟨v25, e26, h18⟩ := ob h18
      refine w_cVi C (pc := 48) dX0_impossibleSortie_48 my_X3_setting mi_X3_setting ml_X0_86 (sA_1 hY) rfl rfl rfl [.int 8] rfl rfl (Nat.le_of_ble_eq_true rfl) (tX3_setting (kLand_1 hY) e26) ?_
      refine w_icge C (pc := 51) 70 dX0_impossibleSortie_51 (by decide) (fun c => ?_) (fun c => ?_)
      · have h18 := it_t h18 c
        refine w_iconst C (pc := 70) dX0_impossibleSortie_70 (v := 1) (by decide) ?_
        refine w_iload_n C (pc := 71) dX0_impossibleSortie_71 1 rfl ?_
        refine w_cSi C (pc := 72) dX0_impossibleSortie_72 my_X0_told ms_X0_told ml_X0_95 rfl rfl [.int 1, .int s14] rfl rfl (Nat.le_of_ble_eq_true rfl) (tX0_told  rfl) ?_
        obtain rfl := Option.some.inj h18
        have h27 := (kx17 _ rfl).2 _ rfl
        exact w_retR C (pc := 75) dX0_impossibleSortie_75 rfl (Option.some.inj h27)
      · have h18 := it_f h18 c
        refine w_iload_n C (pc := 54) dX0_impossibleSortie_54 3 rfl ?_
        refine w_aload_n C (pc := 55) dX0_impossibleSortie_55 0 rfl ?_
        refine w_getR C (pc := 56) dX0_impossibleSortie_56 f_X0_44 (sA_7 hY) rfl ?_
        refine w_cVi C (pc := 59) dX0_impossibleSortie_59 my_X4_stops mi_X4_stops ml_X0_92 (sA_4 hY) rfl rfl rfl [] rfl rfl (Nat.le_of_ble_eq_true rfl) (tX4_stops (kPlan_4 hY) rfl) ?_
        refine w_icge C (pc := 62) 70 dX0_impossibleSortie_62 (by decide) (fun c => ?_) (fun c => ?_)
        · have h18 := it_t h18 c
          refine w_iconst C (pc := 70) dX0_impossibleSortie_70 (v := 1) (by decide) ?_
          refine w_iload_n C (pc := 71) dX0_impossibleSortie_71 1 rfl ?_
          refine w_cSi C (pc := 72) dX0_impossibleSortie_72 my_X0_told ms_X0_told ml_X0_95 rfl rfl [.int 1, .int s14] rfl rfl (Nat.le_of_ble_eq_true rfl) (tX0_told  rfl) ?_
          obtain rfl := Option.some.inj h18
          have h28 := (kx17 _ rfl).2 _ rfl
          exact w_retR C (pc := 75) dX0_impossibleSortie_75 rfl (Option.some.inj h28)
        · have h18 := it_f h18 c
          refine w_iload_n C (pc := 65) dX0_impossibleSortie_65 3 rfl ?_
          refine w_iload_n C (pc := 66) dX0_impossibleSortie_66 2 rfl ?_
          refine w_icgt C (pc := 67) 76 dX0_impossibleSortie_67 (by decide) (fun c => ?_) (fun c => ?_)
          · have h18 := it_t h18 c
            refine w_iinc C (pc := 76) dX0_impossibleSortie_76 1 rfl (v := 1) (lv' := [(0, .ref (adr Y 7)), (1, .int (s14 + 1)), (2, .int v19), (3, .int v21)]) (by decide) rfl rfl rfl ?_
            refine w_goto C (pc := 79) 2 dX0_impossibleSortie_79 (by decide) ?_
            obtain rfl := Option.some.inj h18
            refine w_lv [0, 1] rfl ?_
            exact ki16 _ rfl
          · have h18 := it_f h18 c
            refine w_iconst C (pc := 70) dX0_impossibleSortie_70 (v := 1) (by decide) ?_
            refine w_iload_n C (pc := 71) dX0_impossibleSortie_71 1 rfl ?_
            refine w_cSi C (pc := 72) dX0_impossibleSortie_72 my_X0_told ms_X0_told ml_X0_95 rfl rfl [.int 1, .int s14] rfl rfl (Nat.le_of_ble_eq_true rfl) (tX0_told  rfl) ?_
            obtain rfl := Option.some.inj h18
            have h29 := (kx17 _ rfl).2 _ rfl
            exact w_retR C (pc := 75) dX0_impossibleSortie_75 rfl (Option.some.inj h29)
  · refine ⟨fun yx12 hy => ?_, fun v9 hv => ?_⟩
    · subst hy
      dsimp only [Sum.elim] at h
      refine w_iconst C (pc := 82) dX0_impossibleSortie_82 (v := 0) (by decide) ?_
      exact w_retR C (pc := 83) dX0_impossibleSortie_83 rfl (Option.some.inj h)
    · subst hv
      exact h
theorem dX0_lastReady_0 : decode cX0_lastReady 0 = .ok (.aload_n 0, 1) := by decide +kernel
theorem dX0_lastReady_1 : decode cX0_lastReady 1 = .ok (.getfield 22, 3) := by decide +kernel
theorem dX0_lastReady_4 : decode cX0_lastReady 4 = .ok (.aload_n 0, 1) := by decide +kernel
theorem dX0_lastReady_5 : decode cX0_lastReady 5 = .ok (.getfield 44, 3) := by decide +kernel
theorem dX0_lastReady_8 : decode cX0_lastReady 8 = .ok (.getfield 98, 3) := by decide +kernel
theorem dX0_lastReady_11 : decode cX0_lastReady 11 = .ok (.iconst 1, 1) := by decide +kernel
theorem dX0_lastReady_12 : decode cX0_lastReady 12 = .ok (.iadd, 1) := by decide +kernel
theorem dX0_lastReady_13 : decode cX0_lastReady 13 = .ok (.iaload, 1) := by decide +kernel
theorem dX0_lastReady_14 : decode cX0_lastReady 14 = .ok (.ireturn, 1) := by decide +kernel
def pX0_lastReady (M : Mm) : Option (Int32) :=
(ald M 11 10 ((M 4 0) + 1)).bind fun v1 =>
some v1
abbrev zX0_lastReady : Zx := (cX0_lastReady, RX0, 1, 0, (some .int))
set_option maxRecDepth 100000 in
set_option maxHeartbeats 4000000 in
theorem tX0_lastReady {l : Launch} {Y : Sx} {M : Mm} {q : Int32} (hY : isA Y) (h : pX0_lastReady M = some q) : Ct l Y yX0_lastReady cX0_lastReady 1 (some .int) 0 [.ref (adr Y 7)] M (some q) M := by
  refine Ct.of (by decide) rfl (lv := [(0, .ref (adr Y 7))]) rfl ?_
  intro K hkl C
  change Cx K zX0_lastReady Y at C
  subst hkl
  unfold pX0_lastReady at h
  show Wp K zX0_lastReady Y (Qm K Y (some q) M) M 0 [(0, .ref (adr Y 7))] []
  refine w_aload_n C (pc := 0) dX0_lastReady_0 0 rfl ?_
  refine w_getR C (pc := 1) dX0_lastReady_1 f_X0_22 (sA_7 hY) rfl ?_
  refine w_aload_n C (pc := 4) dX0_lastReady_4 0 rfl ?_
  refine w_getR C (pc := 5) dX0_lastReady_5 f_X0_44 (sA_7 hY) rfl ?_
  refine w_getI C (pc := 8) dX0_lastReady_8 f_X0_98 (sA_4 hY) rfl ?_
  refine w_iconst C (pc := 11) dX0_lastReady_11 (v := 1) (by decide) ?_
  refine w_iadd C (pc := 12) dX0_lastReady_12 ?_
  obtain ⟨v1, e2, h⟩ := ob h
  refine w_iald C (pc := 13) dX0_lastReady_13 (sA_11 hY) e2 ?_
  exact w_retR C (pc := 14) dX0_lastReady_14 rfl (Option.some.inj h)
theorem dX0_timesServed_0 : decode cX0_timesServed 0 = .ok (.iconst 0, 1) := by decide +kernel
theorem dX0_timesServed_1 : decode cX0_timesServed 1 = .ok (.istore_n 2, 1) := by decide +kernel
theorem dX0_timesServed_2 : decode cX0_timesServed 2 = .ok (.iconst 1, 1) := by decide +kernel
theorem dX0_timesServed_3 : decode cX0_timesServed 3 = .ok (.istore_n 3, 1) := by decide +kernel
theorem dX0_timesServed_4 : decode cX0_timesServed 4 = .ok (.iload_n 3, 1) := by decide +kernel
theorem dX0_timesServed_5 : decode cX0_timesServed 5 = .ok (.aload_n 0, 1) := by decide +kernel
theorem dX0_timesServed_6 : decode cX0_timesServed 6 = .ok (.getfield 44, 3) := by decide +kernel
theorem dX0_timesServed_9 : decode cX0_timesServed 9 = .ok (.getfield 98, 3) := by decide +kernel
theorem dX0_timesServed_12 : decode cX0_timesServed 12 = .ok (.if_icmp .gt 24, 3) := by decide +kernel
theorem dX0_timesServed_15 : decode cX0_timesServed 15 = .ok (.aload_n 0, 1) := by decide +kernel
theorem dX0_timesServed_16 : decode cX0_timesServed 16 = .ok (.getfield 44, 3) := by decide +kernel
theorem dX0_timesServed_19 : decode cX0_timesServed 19 = .ok (.iload_n 3, 1) := by decide +kernel
theorem dX0_timesServed_20 : decode cX0_timesServed 20 = .ok (.invokevirtual 101, 3) := by decide +kernel
theorem dX0_timesServed_23 : decode cX0_timesServed 23 = .ok (.iload_n 1, 1) := by decide +kernel
theorem dX0_timesServed_24 : decode cX0_timesServed 24 = .ok (.if_icmp .ne 6, 3) := by decide +kernel
theorem dX0_timesServed_27 : decode cX0_timesServed 27 = .ok (.iinc 2 1, 3) := by decide +kernel
theorem dX0_timesServed_30 : decode cX0_timesServed 30 = .ok (.iinc 3 1, 3) := by decide +kernel
theorem dX0_timesServed_33 : decode cX0_timesServed 33 = .ok (.goto (-29), 3) := by decide +kernel
theorem dX0_timesServed_36 : decode cX0_timesServed 36 = .ok (.iconst 0, 1) := by decide +kernel
theorem dX0_timesServed_37 : decode cX0_timesServed 37 = .ok (.istore_n 3, 1) := by decide +kernel
theorem dX0_timesServed_38 : decode cX0_timesServed 38 = .ok (.iload_n 3, 1) := by decide +kernel
theorem dX0_timesServed_39 : decode cX0_timesServed 39 = .ok (.aload_n 0, 1) := by decide +kernel
theorem dX0_timesServed_40 : decode cX0_timesServed 40 = .ok (.getfield 44, 3) := by decide +kernel
theorem dX0_timesServed_43 : decode cX0_timesServed 43 = .ok (.getfield 77, 3) := by decide +kernel
theorem dX0_timesServed_46 : decode cX0_timesServed 46 = .ok (.if_icmp .ge 25, 3) := by decide +kernel
theorem dX0_timesServed_49 : decode cX0_timesServed 49 = .ok (.aload_n 0, 1) := by decide +kernel
theorem dX0_timesServed_50 : decode cX0_timesServed 50 = .ok (.getfield 44, 3) := by decide +kernel
theorem dX0_timesServed_53 : decode cX0_timesServed 53 = .ok (.iload_n 3, 1) := by decide +kernel
theorem dX0_timesServed_54 : decode cX0_timesServed 54 = .ok (.iconst 2, 1) := by decide +kernel
theorem dX0_timesServed_55 : decode cX0_timesServed 55 = .ok (.invokevirtual 82, 3) := by decide +kernel
theorem dX0_timesServed_58 : decode cX0_timesServed 58 = .ok (.iload_n 1, 1) := by decide +kernel
theorem dX0_timesServed_59 : decode cX0_timesServed 59 = .ok (.if_icmp .ne 6, 3) := by decide +kernel
theorem dX0_timesServed_62 : decode cX0_timesServed 62 = .ok (.iinc 2 1, 3) := by decide +kernel
theorem dX0_timesServed_65 : decode cX0_timesServed 65 = .ok (.iinc 3 1, 3) := by decide +kernel
theorem dX0_timesServed_68 : decode cX0_timesServed 68 = .ok (.goto (-30), 3) := by decide +kernel
theorem dX0_timesServed_71 : decode cX0_timesServed 71 = .ok (.iload_n 2, 1) := by decide +kernel
theorem dX0_timesServed_72 : decode cX0_timesServed 72 = .ok (.ireturn, 1) := by decide +kernel
def pX0_timesServed_L4 (x1 : Int32) (M : Mm) (s : Int32 × Int32) : Option ((Int32 × Int32) ⊕ (Int32)) :=
if (M 4 0) < s.2 then
(some (Sum.inr s.1))
else
((pX4_placeAt 4 s.2 M).bind fun v1 =>
if v1 = x1 then
(some (Sum.inl (s.1 + 1, s.2 + 1)))
else
(some (Sum.inl (s.1, s.2 + 1))))
def pX0_timesServed_L38 (x1 : Int32) (M : Mm) (s : Int32 × Int32) : Option ((Int32 × Int32) ⊕ (Int32)) :=
if (M 4 1) ≤ s.2 then
(some (Sum.inr s.1))
else
((pX4_part 4 s.2 2 M).bind fun v12 =>
if v12 = x1 then
(some (Sum.inl (s.1 + 1, s.2 + 1)))
else
(some (Sum.inl (s.1, s.2 + 1))))
def pX0_timesServed (x1 : Int32) (M : Mm) : Option (Int32) :=
(itr (pX0_timesServed_L4 x1 M) fuel (0, 1)).bind fun x3 =>
(itr (pX0_timesServed_L38 x1 M) fuel (x3, 0)).bind fun x14 =>
some x14
abbrev zX0_timesServed : Zx := (cX0_timesServed, RX0, 4, 1, (some .int))
set_option maxRecDepth 100000 in
set_option maxHeartbeats 4000000 in
theorem tX0_timesServed {l : Launch} {Y : Sx} {M : Mm} {x1 : Int32} {q : Int32} (hY : isA Y) (h : pX0_timesServed x1 M = some q) : Ct l Y yX0_timesServed cX0_timesServed 4 (some .int) 1 [.ref (adr Y 7), .int x1] M (some q) M := by
  refine Ct.of (by decide) rfl (lv := [(0, .ref (adr Y 7)), (1, .int x1)]) rfl ?_
  intro K hkl C
  change Cx K zX0_timesServed Y at C
  subst hkl
  unfold pX0_timesServed at h
  show Wp K zX0_timesServed Y (Qm K Y (some q) M) M 0 [(0, .ref (adr Y 7)), (1, .int x1)] []
  refine w_iconst C (pc := 0) dX0_timesServed_0 (v := 0) (by decide) ?_
  refine w_istore_n C (pc := 1) dX0_timesServed_1 (lv' := [(0, .ref (adr Y 7)), (1, .int x1), (2, .int 0)]) rfl rfl rfl ?_
  refine w_iconst C (pc := 2) dX0_timesServed_2 (v := 1) (by decide) ?_
  refine w_istore_n C (pc := 3) dX0_timesServed_3 (lv' := [(0, .ref (adr Y 7)), (1, .int x1), (2, .int 0), (3, .int 1)]) rfl rfl rfl ?_
  obtain ⟨x3, e4, h⟩ := ob h
  refine itr_W (P := fun s5 => Wp K zX0_timesServed Y (Qm K Y (some q) M) M 4 [(0, .ref (adr Y 7)), (1, .int x1), (2, .int s5.1), (3, .int s5.2)] []) (R := fun x3 => Wp K zX0_timesServed Y (Qm K Y (some q) M) M 36 [(0, .ref (adr Y 7)), (1, .int x1), (2, .int x3)] []) ?_ fuel (0, 1) x3 e4 ?_
  · intro s5 r6 h9 ki7 kx8
    unfold pX0_timesServed_L4 at h9
    show Wp K zX0_timesServed Y (Qm K Y (some q) M) M 4 [(0, .ref (adr Y 7)), (1, .int x1), (2, .int s5.1), (3, .int s5.2)] []
    refine w_iload_n C (pc := 4) dX0_timesServed_4 3 rfl ?_
    refine w_aload_n C (pc := 5) dX0_timesServed_5 0 rfl ?_
    refine w_getR C (pc := 6) dX0_timesServed_6 f_X0_44 (sA_7 hY) rfl ?_
    refine w_getI C (pc := 9) dX0_timesServed_9 f_X0_98 (sA_4 hY) rfl ?_
    refine w_icgt C (pc := 12) 36 dX0_timesServed_12 (by decide) (fun c => ?_) (fun c => ?_)
    · have h9 := it_t h9 c
      obtain rfl := Option.some.inj h9
      refine w_lv [0, 1, 2] rfl ?_
      exact kx8 _ rfl
    · have h9 := it_f h9 c
      refine w_aload_n C (pc := 15) dX0_timesServed_15 0 rfl ?_
      refine w_getR C (pc := 16) dX0_timesServed_16 f_X0_44 (sA_7 hY) rfl ?_
      refine w_iload_n C (pc := 19) dX0_timesServed_19 3 rfl ?_
      obtain ⟨v10, e11, h9⟩ := ob h9
      refine w_cVi C (pc := 20) dX0_timesServed_20 my_X4_placeAt mi_X4_placeAt ml_X0_101 (sA_4 hY) rfl rfl rfl [.int s5.2] rfl rfl (Nat.le_of_ble_eq_true rfl) (tX4_placeAt (kPlan_4 hY) e11) ?_
      refine w_iload_n C (pc := 23) dX0_timesServed_23 1 rfl ?_
      refine w_icne C (pc := 24) 30 dX0_timesServed_24 (by decide) (fun c => ?_) (fun c => ?_)
      · have h9 := it_t h9 c
        refine w_iinc C (pc := 27) dX0_timesServed_27 2 rfl (v := 1) (lv' := [(0, .ref (adr Y 7)), (1, .int x1), (2, .int (s5.1 + 1)), (3, .int s5.2)]) (by decide) rfl rfl rfl ?_
        refine w_iinc C (pc := 30) dX0_timesServed_30 3 rfl (v := 1) (lv' := [(0, .ref (adr Y 7)), (1, .int x1), (2, .int (s5.1 + 1)), (3, .int (s5.2 + 1))]) (by decide) rfl rfl rfl ?_
        refine w_goto C (pc := 33) 4 dX0_timesServed_33 (by decide) ?_
        obtain rfl := Option.some.inj h9
        exact ki7 _ rfl
      · have h9 := it_f h9 c
        refine w_iinc C (pc := 30) dX0_timesServed_30 3 rfl (v := 1) (lv' := [(0, .ref (adr Y 7)), (1, .int x1), (2, .int s5.1), (3, .int (s5.2 + 1))]) (by decide) rfl rfl rfl ?_
        refine w_goto C (pc := 33) 4 dX0_timesServed_33 (by decide) ?_
        obtain rfl := Option.some.inj h9
        exact ki7 _ rfl
  · refine w_iconst C (pc := 36) dX0_timesServed_36 (v := 0) (by decide) ?_
    refine w_istore_n C (pc := 37) dX0_timesServed_37 (lv' := [(0, .ref (adr Y 7)), (1, .int x1), (2, .int x3), (3, .int 0)]) rfl rfl rfl ?_
    obtain ⟨x14, e15, h⟩ := ob h
    refine itr_W (P := fun s16 => Wp K zX0_timesServed Y (Qm K Y (some q) M) M 38 [(0, .ref (adr Y 7)), (1, .int x1), (2, .int s16.1), (3, .int s16.2)] []) (R := fun x14 => Wp K zX0_timesServed Y (Qm K Y (some q) M) M 71 [(0, .ref (adr Y 7)), (1, .int x1), (2, .int x14)] []) ?_ fuel (x3, 0) x14 e15 ?_
    · intro s16 r17 h20 ki18 kx19
      unfold pX0_timesServed_L38 at h20
      show Wp K zX0_timesServed Y (Qm K Y (some q) M) M 38 [(0, .ref (adr Y 7)), (1, .int x1), (2, .int s16.1), (3, .int s16.2)] []
      refine w_iload_n C (pc := 38) dX0_timesServed_38 3 rfl ?_
      refine w_aload_n C (pc := 39) dX0_timesServed_39 0 rfl ?_
      refine w_getR C (pc := 40) dX0_timesServed_40 f_X0_44 (sA_7 hY) rfl ?_
      refine w_getI C (pc := 43) dX0_timesServed_43 f_X0_77 (sA_4 hY) rfl ?_
      refine w_icge C (pc := 46) 71 dX0_timesServed_46 (by decide) (fun c => ?_) (fun c => ?_)
      · have h20 := it_t h20 c
        obtain rfl := Option.some.inj h20
        refine w_lv [0, 1, 2] rfl ?_
        exact kx19 _ rfl
      · have h20 := it_f h20 c
        refine w_aload_n C (pc := 49) dX0_timesServed_49 0 rfl ?_
        refine w_getR C (pc := 50) dX0_timesServed_50 f_X0_44 (sA_7 hY) rfl ?_
        refine w_iload_n C (pc := 53) dX0_timesServed_53 3 rfl ?_
        refine w_iconst C (pc := 54) dX0_timesServed_54 (v := 2) (by decide) ?_
        obtain ⟨v21, e22, h20⟩ := ob h20
        refine w_cVi C (pc := 55) dX0_timesServed_55 my_X4_part mi_X4_part ml_X0_82 (sA_4 hY) rfl rfl rfl [.int s16.2, .int 2] rfl rfl (Nat.le_of_ble_eq_true rfl) (tX4_part (kPlan_4 hY) e22) ?_
        refine w_iload_n C (pc := 58) dX0_timesServed_58 1 rfl ?_
        refine w_icne C (pc := 59) 65 dX0_timesServed_59 (by decide) (fun c => ?_) (fun c => ?_)
        · have h20 := it_t h20 c
          refine w_iinc C (pc := 62) dX0_timesServed_62 2 rfl (v := 1) (lv' := [(0, .ref (adr Y 7)), (1, .int x1), (2, .int (s16.1 + 1)), (3, .int s16.2)]) (by decide) rfl rfl rfl ?_
          refine w_iinc C (pc := 65) dX0_timesServed_65 3 rfl (v := 1) (lv' := [(0, .ref (adr Y 7)), (1, .int x1), (2, .int (s16.1 + 1)), (3, .int (s16.2 + 1))]) (by decide) rfl rfl rfl ?_
          refine w_goto C (pc := 68) 38 dX0_timesServed_68 (by decide) ?_
          obtain rfl := Option.some.inj h20
          exact ki18 _ rfl
        · have h20 := it_f h20 c
          refine w_iinc C (pc := 65) dX0_timesServed_65 3 rfl (v := 1) (lv' := [(0, .ref (adr Y 7)), (1, .int x1), (2, .int s16.1), (3, .int (s16.2 + 1))]) (by decide) rfl rfl rfl ?_
          refine w_goto C (pc := 68) 38 dX0_timesServed_68 (by decide) ?_
          obtain rfl := Option.some.inj h20
          exact ki18 _ rfl
    · refine w_iload_n C (pc := 71) dX0_timesServed_71 2 rfl ?_
      exact w_retR C (pc := 72) dX0_timesServed_72 rfl (Option.some.inj h)
theorem dX0_servedTooOften_0 : decode cX0_servedTooOften 0 = .ok (.iconst 1, 1) := by decide +kernel
theorem dX0_servedTooOften_1 : decode cX0_servedTooOften 1 = .ok (.istore_n 1, 1) := by decide +kernel
theorem dX0_servedTooOften_2 : decode cX0_servedTooOften 2 = .ok (.iload_n 1, 1) := by decide +kernel
theorem dX0_servedTooOften_3 : decode cX0_servedTooOften 3 = .ok (.aload_n 0, 1) := by decide +kernel
theorem dX0_servedTooOften_4 : decode cX0_servedTooOften 4 = .ok (.getfield 40, 3) := by decide +kernel
theorem dX0_servedTooOften_7 : decode cX0_servedTooOften 7 = .ok (.getfield 104, 3) := by decide +kernel
theorem dX0_servedTooOften_10 : decode cX0_servedTooOften 10 = .ok (.if_icmp .gt 24, 3) := by decide +kernel
theorem dX0_servedTooOften_13 : decode cX0_servedTooOften 13 = .ok (.aload_n 0, 1) := by decide +kernel
theorem dX0_servedTooOften_14 : decode cX0_servedTooOften 14 = .ok (.iload_n 1, 1) := by decide +kernel
theorem dX0_servedTooOften_15 : decode cX0_servedTooOften 15 = .ok (.invokevirtual 107, 3) := by decide +kernel
theorem dX0_servedTooOften_18 : decode cX0_servedTooOften 18 = .ok (.iconst 1, 1) := by decide +kernel
theorem dX0_servedTooOften_19 : decode cX0_servedTooOften 19 = .ok (.if_icmp .le 9, 3) := by decide +kernel
theorem dX0_servedTooOften_22 : decode cX0_servedTooOften 22 = .ok (.iconst 2, 1) := by decide +kernel
theorem dX0_servedTooOften_23 : decode cX0_servedTooOften 23 = .ok (.iload_n 1, 1) := by decide +kernel
theorem dX0_servedTooOften_24 : decode cX0_servedTooOften 24 = .ok (.invokestatic 95, 3) := by decide +kernel
theorem dX0_servedTooOften_27 : decode cX0_servedTooOften 27 = .ok (.ireturn, 1) := by decide +kernel
theorem dX0_servedTooOften_28 : decode cX0_servedTooOften 28 = .ok (.iinc 1 1, 3) := by decide +kernel
theorem dX0_servedTooOften_31 : decode cX0_servedTooOften 31 = .ok (.goto (-29), 3) := by decide +kernel
theorem dX0_servedTooOften_34 : decode cX0_servedTooOften 34 = .ok (.iconst 0, 1) := by decide +kernel
theorem dX0_servedTooOften_35 : decode cX0_servedTooOften 35 = .ok (.ireturn, 1) := by decide +kernel
def pX0_servedTooOften_L2 (M : Mm) (s : Int32) : Option ((Int32) ⊕ ((Unit) ⊕ (Int32))) :=
if (M 1 0) < s then
(some (Sum.inr (Sum.inl ())))
else
((pX0_timesServed s M).bind fun v1 =>
if v1 ≤ 1 then
(some (Sum.inl (s + 1)))
else
(some (Sum.inr (Sum.inr (pX0_told 2 s)))))
def pX0_servedTooOften (M : Mm) : Option (Int32) :=
(itr (pX0_servedTooOften_L2 M) fuel 1).bind fun x4 =>
Sum.elim (fun yx4 =>
some 0) (fun r => some r) x4
abbrev zX0_servedTooOften : Zx := (cX0_servedTooOften, RX0, 2, 2, (some .int))
set_option maxRecDepth 100000 in
set_option maxHeartbeats 4000000 in
theorem tX0_servedTooOften {l : Launch} {Y : Sx} {M : Mm} {q : Int32} (hY : isA Y) (h : pX0_servedTooOften M = some q) : Ct l Y yX0_servedTooOften cX0_servedTooOften 2 (some .int) 2 [.ref (adr Y 7)] M (some q) M := by
  refine Ct.of (by decide) rfl (lv := [(0, .ref (adr Y 7))]) rfl ?_
  intro K hkl C
  change Cx K zX0_servedTooOften Y at C
  subst hkl
  unfold pX0_servedTooOften at h
  show Wp K zX0_servedTooOften Y (Qm K Y (some q) M) M 0 [(0, .ref (adr Y 7))] []
  refine w_iconst C (pc := 0) dX0_servedTooOften_0 (v := 1) (by decide) ?_
  refine w_istore_n C (pc := 1) dX0_servedTooOften_1 (lv' := [(0, .ref (adr Y 7)), (1, .int 1)]) rfl rfl rfl ?_
  obtain ⟨x4, e5, h⟩ := ob h
  refine itr_W (P := fun s6 => Wp K zX0_servedTooOften Y (Qm K Y (some q) M) M 2 [(0, .ref (adr Y 7)), (1, .int s6)] []) (R := fun x9 => (∀ yx4, x9 = Sum.inl yx4 → Wp K zX0_servedTooOften Y (Qm K Y (some q) M) M 34 [(0, .ref (adr Y 7))] []) ∧ (∀ v9, x9 = Sum.inr v9 → some v9 = some q)) ?_ fuel 1 x4 e5 ?_
  · intro s6 r7 h10 ki8 kx9
    unfold pX0_servedTooOften_L2 at h10
    show Wp K zX0_servedTooOften Y (Qm K Y (some q) M) M 2 [(0, .ref (adr Y 7)), (1, .int s6)] []
    refine w_iload_n C (pc := 2) dX0_servedTooOften_2 1 rfl ?_
    refine w_aload_n C (pc := 3) dX0_servedTooOften_3 0 rfl ?_
    refine w_getR C (pc := 4) dX0_servedTooOften_4 f_X0_40 (sA_7 hY) rfl ?_
    refine w_getI C (pc := 7) dX0_servedTooOften_7 f_X0_104 (sA_1 hY) rfl ?_
    refine w_icgt C (pc := 10) 34 dX0_servedTooOften_10 (by decide) (fun c => ?_) (fun c => ?_)
    · have h10 := it_t h10 c
      obtain rfl := Option.some.inj h10
      refine w_lv [0] rfl ?_
      exact (kx9 _ rfl).1 _ rfl
    · have h10 := it_f h10 c
      refine w_aload_n C (pc := 13) dX0_servedTooOften_13 0 rfl ?_
      refine w_iload_n C (pc := 14) dX0_servedTooOften_14 1 rfl ?_
      obtain ⟨v11, e12, h10⟩ := ob h10
      refine w_cVi C (pc := 15) dX0_servedTooOften_15 my_X0_timesServed mi_X0_timesServed ml_X0_107 (sA_7 hY) rfl rfl rfl [.int s6] rfl rfl (Nat.le_of_ble_eq_true rfl) (tX0_timesServed hY  e12) ?_
      refine w_iconst C (pc := 18) dX0_servedTooOften_18 (v := 1) (by decide) ?_
      refine w_icle C (pc := 19) 28 dX0_servedTooOften_19 (by decide) (fun c => ?_) (fun c => ?_)
      · have h10 := it_t h10 c
        refine w_iinc C (pc := 28) dX0_servedTooOften_28 1 rfl (v := 1) (lv' := [(0, .ref (adr Y 7)), (1, .int (s6 + 1))]) (by decide) rfl rfl rfl ?_
        refine w_goto C (pc := 31) 2 dX0_servedTooOften_31 (by decide) ?_
        obtain rfl := Option.some.inj h10
        exact ki8 _ rfl
      · have h10 := it_f h10 c
        refine w_iconst C (pc := 22) dX0_servedTooOften_22 (v := 2) (by decide) ?_
        refine w_iload_n C (pc := 23) dX0_servedTooOften_23 1 rfl ?_
        refine w_cSi C (pc := 24) dX0_servedTooOften_24 my_X0_told ms_X0_told ml_X0_95 rfl rfl [.int 2, .int s6] rfl rfl (Nat.le_of_ble_eq_true rfl) (tX0_told  rfl) ?_
        obtain rfl := Option.some.inj h10
        have h13 := (kx9 _ rfl).2 _ rfl
        exact w_retR C (pc := 27) dX0_servedTooOften_27 rfl (Option.some.inj h13)
  · refine ⟨fun yx4 hy => ?_, fun v9 hv => ?_⟩
    · subst hy
      dsimp only [Sum.elim] at h
      refine w_iconst C (pc := 34) dX0_servedTooOften_34 (v := 0) (by decide) ?_
      exact w_retR C (pc := 35) dX0_servedTooOften_35 rfl (Option.some.inj h)
    · subst hv
      exact h
theorem dX0_servedByNobody_0 : decode cX0_servedByNobody 0 = .ok (.iconst 1, 1) := by decide +kernel
theorem dX0_servedByNobody_1 : decode cX0_servedByNobody 1 = .ok (.istore_n 1, 1) := by decide +kernel
theorem dX0_servedByNobody_2 : decode cX0_servedByNobody 2 = .ok (.iload_n 1, 1) := by decide +kernel
theorem dX0_servedByNobody_3 : decode cX0_servedByNobody 3 = .ok (.aload_n 0, 1) := by decide +kernel
theorem dX0_servedByNobody_4 : decode cX0_servedByNobody 4 = .ok (.getfield 40, 3) := by decide +kernel
theorem dX0_servedByNobody_7 : decode cX0_servedByNobody 7 = .ok (.getfield 104, 3) := by decide +kernel
theorem dX0_servedByNobody_10 : decode cX0_servedByNobody 10 = .ok (.if_icmp .gt 23, 3) := by decide +kernel
theorem dX0_servedByNobody_13 : decode cX0_servedByNobody 13 = .ok (.aload_n 0, 1) := by decide +kernel
theorem dX0_servedByNobody_14 : decode cX0_servedByNobody 14 = .ok (.iload_n 1, 1) := by decide +kernel
theorem dX0_servedByNobody_15 : decode cX0_servedByNobody 15 = .ok (.invokevirtual 107, 3) := by decide +kernel
theorem dX0_servedByNobody_18 : decode cX0_servedByNobody 18 = .ok (.ifCond .ne 9, 3) := by decide +kernel
theorem dX0_servedByNobody_21 : decode cX0_servedByNobody 21 = .ok (.iconst 3, 1) := by decide +kernel
theorem dX0_servedByNobody_22 : decode cX0_servedByNobody 22 = .ok (.iload_n 1, 1) := by decide +kernel
theorem dX0_servedByNobody_23 : decode cX0_servedByNobody 23 = .ok (.invokestatic 95, 3) := by decide +kernel
theorem dX0_servedByNobody_26 : decode cX0_servedByNobody 26 = .ok (.ireturn, 1) := by decide +kernel
theorem dX0_servedByNobody_27 : decode cX0_servedByNobody 27 = .ok (.iinc 1 1, 3) := by decide +kernel
theorem dX0_servedByNobody_30 : decode cX0_servedByNobody 30 = .ok (.goto (-28), 3) := by decide +kernel
theorem dX0_servedByNobody_33 : decode cX0_servedByNobody 33 = .ok (.iconst 0, 1) := by decide +kernel
theorem dX0_servedByNobody_34 : decode cX0_servedByNobody 34 = .ok (.ireturn, 1) := by decide +kernel
def pX0_servedByNobody_L2 (M : Mm) (s : Int32) : Option ((Int32) ⊕ ((Unit) ⊕ (Int32))) :=
if (M 1 0) < s then
(some (Sum.inr (Sum.inl ())))
else
((pX0_timesServed s M).bind fun v1 =>
if v1 = 0 then
(some (Sum.inr (Sum.inr (pX0_told 3 s))))
else
(some (Sum.inl (s + 1))))
def pX0_servedByNobody (M : Mm) : Option (Int32) :=
(itr (pX0_servedByNobody_L2 M) fuel 1).bind fun x4 =>
Sum.elim (fun yx4 =>
some 0) (fun r => some r) x4
abbrev zX0_servedByNobody : Zx := (cX0_servedByNobody, RX0, 2, 2, (some .int))
set_option maxRecDepth 100000 in
set_option maxHeartbeats 4000000 in
theorem tX0_servedByNobody {l : Launch} {Y : Sx} {M : Mm} {q : Int32} (hY : isA Y) (h : pX0_servedByNobody M = some q) : Ct l Y yX0_servedByNobody cX0_servedByNobody 2 (some .int) 2 [.ref (adr Y 7)] M (some q) M := by
  refine Ct.of (by decide) rfl (lv := [(0, .ref (adr Y 7))]) rfl ?_
  intro K hkl C
  change Cx K zX0_servedByNobody Y at C
  subst hkl
  unfold pX0_servedByNobody at h
  show Wp K zX0_servedByNobody Y (Qm K Y (some q) M) M 0 [(0, .ref (adr Y 7))] []
  refine w_iconst C (pc := 0) dX0_servedByNobody_0 (v := 1) (by decide) ?_
  refine w_istore_n C (pc := 1) dX0_servedByNobody_1 (lv' := [(0, .ref (adr Y 7)), (1, .int 1)]) rfl rfl rfl ?_
  obtain ⟨x4, e5, h⟩ := ob h
  refine itr_W (P := fun s6 => Wp K zX0_servedByNobody Y (Qm K Y (some q) M) M 2 [(0, .ref (adr Y 7)), (1, .int s6)] []) (R := fun x9 => (∀ yx4, x9 = Sum.inl yx4 → Wp K zX0_servedByNobody Y (Qm K Y (some q) M) M 33 [(0, .ref (adr Y 7))] []) ∧ (∀ v9, x9 = Sum.inr v9 → some v9 = some q)) ?_ fuel 1 x4 e5 ?_
  · intro s6 r7 h10 ki8 kx9
    unfold pX0_servedByNobody_L2 at h10
    show Wp K zX0_servedByNobody Y (Qm K Y (some q) M) M 2 [(0, .ref (adr Y 7)), (1, .int s6)] []
    refine w_iload_n C (pc := 2) dX0_servedByNobody_2 1 rfl ?_
    refine w_aload_n C (pc := 3) dX0_servedByNobody_3 0 rfl ?_
    refine w_getR C (pc := 4) dX0_servedByNobody_4 f_X0_40 (sA_7 hY) rfl ?_
    refine w_getI C (pc := 7) dX0_servedByNobody_7 f_X0_104 (sA_1 hY) rfl ?_
    refine w_icgt C (pc := 10) 33 dX0_servedByNobody_10 (by decide) (fun c => ?_) (fun c => ?_)
    · have h10 := it_t h10 c
      obtain rfl := Option.some.inj h10
      refine w_lv [0] rfl ?_
      exact (kx9 _ rfl).1 _ rfl
    · have h10 := it_f h10 c
      refine w_aload_n C (pc := 13) dX0_servedByNobody_13 0 rfl ?_
      refine w_iload_n C (pc := 14) dX0_servedByNobody_14 1 rfl ?_
      obtain ⟨v11, e12, h10⟩ := ob h10
      refine w_cVi C (pc := 15) dX0_servedByNobody_15 my_X0_timesServed mi_X0_timesServed ml_X0_107 (sA_7 hY) rfl rfl rfl [.int s6] rfl rfl (Nat.le_of_ble_eq_true rfl) (tX0_timesServed hY  e12) ?_
      refine w_ifne C (pc := 18) 27 dX0_servedByNobody_18 (by decide) (fun c => ?_) (fun c => ?_)
      · have h10 := it_t h10 c
        refine w_iconst C (pc := 21) dX0_servedByNobody_21 (v := 3) (by decide) ?_
        refine w_iload_n C (pc := 22) dX0_servedByNobody_22 1 rfl ?_
        refine w_cSi C (pc := 23) dX0_servedByNobody_23 my_X0_told ms_X0_told ml_X0_95 rfl rfl [.int 3, .int s6] rfl rfl (Nat.le_of_ble_eq_true rfl) (tX0_told  rfl) ?_
        obtain rfl := Option.some.inj h10
        have h13 := (kx9 _ rfl).2 _ rfl
        exact w_retR C (pc := 26) dX0_servedByNobody_26 rfl (Option.some.inj h13)
      · have h10 := it_f h10 c
        refine w_iinc C (pc := 27) dX0_servedByNobody_27 1 rfl (v := 1) (lv' := [(0, .ref (adr Y 7)), (1, .int (s6 + 1))]) (by decide) rfl rfl rfl ?_
        refine w_goto C (pc := 30) 2 dX0_servedByNobody_30 (by decide) ?_
        obtain rfl := Option.some.inj h10
        exact ki8 _ rfl
  · refine ⟨fun yx4 hy => ?_, fun v9 hv => ?_⟩
    · subst hy
      dsimp only [Sum.elim] at h
      refine w_iconst C (pc := 33) dX0_servedByNobody_33 (v := 0) (by decide) ?_
      exact w_retR C (pc := 34) dX0_servedByNobody_34 rfl (Option.some.inj h)
    · subst hv
      exact h
theorem dX0_tooHeavy_0 : decode cX0_tooHeavy 0 = .ok (.iconst 0, 1) := by decide +kernel
theorem dX0_tooHeavy_1 : decode cX0_tooHeavy 1 = .ok (.istore_n 1, 1) := by decide +kernel
theorem dX0_tooHeavy_2 : decode cX0_tooHeavy 2 = .ok (.iload_n 1, 1) := by decide +kernel
theorem dX0_tooHeavy_3 : decode cX0_tooHeavy 3 = .ok (.aload_n 0, 1) := by decide +kernel
theorem dX0_tooHeavy_4 : decode cX0_tooHeavy 4 = .ok (.getfield 44, 3) := by decide +kernel
theorem dX0_tooHeavy_7 : decode cX0_tooHeavy 7 = .ok (.getfield 77, 3) := by decide +kernel
theorem dX0_tooHeavy_10 : decode cX0_tooHeavy 10 = .ok (.if_icmp .ge 34, 3) := by decide +kernel
theorem dX0_tooHeavy_13 : decode cX0_tooHeavy 13 = .ok (.aload_n 0, 1) := by decide +kernel
theorem dX0_tooHeavy_14 : decode cX0_tooHeavy 14 = .ok (.getfield 40, 3) := by decide +kernel
theorem dX0_tooHeavy_17 : decode cX0_tooHeavy 17 = .ok (.aload_n 0, 1) := by decide +kernel
theorem dX0_tooHeavy_18 : decode cX0_tooHeavy 18 = .ok (.getfield 44, 3) := by decide +kernel
theorem dX0_tooHeavy_21 : decode cX0_tooHeavy 21 = .ok (.iload_n 1, 1) := by decide +kernel
theorem dX0_tooHeavy_22 : decode cX0_tooHeavy 22 = .ok (.iconst 2, 1) := by decide +kernel
theorem dX0_tooHeavy_23 : decode cX0_tooHeavy 23 = .ok (.invokevirtual 82, 3) := by decide +kernel
theorem dX0_tooHeavy_26 : decode cX0_tooHeavy 26 = .ok (.invokevirtual 110, 3) := by decide +kernel
theorem dX0_tooHeavy_29 : decode cX0_tooHeavy 29 = .ok (.ifCond .ne 9, 3) := by decide +kernel
theorem dX0_tooHeavy_32 : decode cX0_tooHeavy 32 = .ok (.iconst 4, 1) := by decide +kernel
theorem dX0_tooHeavy_33 : decode cX0_tooHeavy 33 = .ok (.iload_n 1, 1) := by decide +kernel
theorem dX0_tooHeavy_34 : decode cX0_tooHeavy 34 = .ok (.invokestatic 95, 3) := by decide +kernel
theorem dX0_tooHeavy_37 : decode cX0_tooHeavy 37 = .ok (.ireturn, 1) := by decide +kernel
theorem dX0_tooHeavy_38 : decode cX0_tooHeavy 38 = .ok (.iinc 1 1, 3) := by decide +kernel
theorem dX0_tooHeavy_41 : decode cX0_tooHeavy 41 = .ok (.goto (-39), 3) := by decide +kernel
theorem dX0_tooHeavy_44 : decode cX0_tooHeavy 44 = .ok (.iconst 0, 1) := by decide +kernel
theorem dX0_tooHeavy_45 : decode cX0_tooHeavy 45 = .ok (.ireturn, 1) := by decide +kernel
def pX0_tooHeavy_L2 (M : Mm) (s : Int32) : Option ((Int32) ⊕ ((Unit) ⊕ (Int32))) :=
if (M 4 1) ≤ s then
(some (Sum.inr (Sum.inl ())))
else
((pX4_part 4 s 2 M).bind fun v1 =>
(pX3_isLight 1 v1 M).bind fun v3 =>
if v3 = 0 then
(some (Sum.inr (Sum.inr (pX0_told 4 s))))
else
(some (Sum.inl (s + 1))))
def pX0_tooHeavy (M : Mm) : Option (Int32) :=
(itr (pX0_tooHeavy_L2 M) fuel 0).bind fun x6 =>
Sum.elim (fun yx6 =>
some 0) (fun r => some r) x6
abbrev zX0_tooHeavy : Zx := (cX0_tooHeavy, RX0, 2, 2, (some .int))
set_option maxRecDepth 100000 in
set_option maxHeartbeats 4000000 in
theorem tX0_tooHeavy {l : Launch} {Y : Sx} {M : Mm} {q : Int32} (hY : isA Y) (h : pX0_tooHeavy M = some q) : Ct l Y yX0_tooHeavy cX0_tooHeavy 2 (some .int) 2 [.ref (adr Y 7)] M (some q) M := by
  refine Ct.of (by decide) rfl (lv := [(0, .ref (adr Y 7))]) rfl ?_
  intro K hkl C
  change Cx K zX0_tooHeavy Y at C
  subst hkl
  unfold pX0_tooHeavy at h
  show Wp K zX0_tooHeavy Y (Qm K Y (some q) M) M 0 [(0, .ref (adr Y 7))] []
  refine w_iconst C (pc := 0) dX0_tooHeavy_0 (v := 0) (by decide) ?_
  refine w_istore_n C (pc := 1) dX0_tooHeavy_1 (lv' := [(0, .ref (adr Y 7)), (1, .int 0)]) rfl rfl rfl ?_
  obtain ⟨x6, e7, h⟩ := ob h
  refine itr_W (P := fun s8 => Wp K zX0_tooHeavy Y (Qm K Y (some q) M) M 2 [(0, .ref (adr Y 7)), (1, .int s8)] []) (R := fun x9 => (∀ yx6, x9 = Sum.inl yx6 → Wp K zX0_tooHeavy Y (Qm K Y (some q) M) M 44 [(0, .ref (adr Y 7))] []) ∧ (∀ v9, x9 = Sum.inr v9 → some v9 = some q)) ?_ fuel 0 x6 e7 ?_
  · intro s8 r9 h12 ki10 kx11
    unfold pX0_tooHeavy_L2 at h12
    show Wp K zX0_tooHeavy Y (Qm K Y (some q) M) M 2 [(0, .ref (adr Y 7)), (1, .int s8)] []
    refine w_iload_n C (pc := 2) dX0_tooHeavy_2 1 rfl ?_
    refine w_aload_n C (pc := 3) dX0_tooHeavy_3 0 rfl ?_
    refine w_getR C (pc := 4) dX0_tooHeavy_4 f_X0_44 (sA_7 hY) rfl ?_
    refine w_getI C (pc := 7) dX0_tooHeavy_7 f_X0_77 (sA_4 hY) rfl ?_
    refine w_icge C (pc := 10) 44 dX0_tooHeavy_10 (by decide) (fun c => ?_) (fun c => ?_)
    · have h12 := it_t h12 c
      obtain rfl := Option.some.inj h12
      refine w_lv [0] rfl ?_
      exact (kx11 _ rfl).1 _ rfl
    · have h12 := it_f h12 c
      refine w_aload_n C (pc := 13) dX0_tooHeavy_13 0 rfl ?_
      refine w_getR C (pc := 14) dX0_tooHeavy_14 f_X0_40 (sA_7 hY) rfl ?_
      refine w_aload_n C (pc := 17) dX0_tooHeavy_17 0 rfl ?_
      refine w_getR C (pc := 18) dX0_tooHeavy_18 f_X0_44 (sA_7 hY) rfl ?_
      refine w_iload_n C (pc := 21) dX0_tooHeavy_21 1 rfl ?_
      refine w_iconst C (pc := 22) dX0_tooHeavy_22 (v := 2) (by decide) ?_
      obtain ⟨v13, e14, h12⟩ := ob h12
      refine w_cVi C (pc := 23) dX0_tooHeavy_23 my_X4_part mi_X4_part ml_X0_82 (sA_4 hY) rfl rfl rfl [.int s8, .int 2] rfl rfl (Nat.le_of_ble_eq_true rfl) (tX4_part (kPlan_4 hY) e14) ?_
      obtain ⟨v15, e16, h12⟩ := ob h12
      refine w_cVi C (pc := 26) dX0_tooHeavy_26 my_X3_isLight mi_X3_isLight ml_X0_110 (sA_1 hY) rfl rfl rfl [.int v13] rfl rfl (Nat.le_of_ble_eq_true rfl) (tX3_isLight (kLand_1 hY) e16) ?_
      refine w_ifne C (pc := 29) 38 dX0_tooHeavy_29 (by decide) (fun c => ?_) (fun c => ?_)
      · have h12 := it_t h12 c
        refine w_iconst C (pc := 32) dX0_tooHeavy_32 (v := 4) (by decide) ?_
        refine w_iload_n C (pc := 33) dX0_tooHeavy_33 1 rfl ?_
        refine w_cSi C (pc := 34) dX0_tooHeavy_34 my_X0_told ms_X0_told ml_X0_95 rfl rfl [.int 4, .int s8] rfl rfl (Nat.le_of_ble_eq_true rfl) (tX0_told  rfl) ?_
        obtain rfl := Option.some.inj h12
        have h17 := (kx11 _ rfl).2 _ rfl
        exact w_retR C (pc := 37) dX0_tooHeavy_37 rfl (Option.some.inj h17)
      · have h12 := it_f h12 c
        refine w_iinc C (pc := 38) dX0_tooHeavy_38 1 rfl (v := 1) (lv' := [(0, .ref (adr Y 7)), (1, .int (s8 + 1))]) (by decide) rfl rfl rfl ?_
        refine w_goto C (pc := 41) 2 dX0_tooHeavy_41 (by decide) ?_
        obtain rfl := Option.some.inj h12
        exact ki10 _ rfl
  · refine ⟨fun yx6 hy => ?_, fun v9 hv => ?_⟩
    · subst hy
      dsimp only [Sum.elim] at h
      refine w_iconst C (pc := 44) dX0_tooHeavy_44 (v := 0) (by decide) ?_
      exact w_retR C (pc := 45) dX0_tooHeavy_45 rfl (Option.some.inj h)
    · subst hv
      exact h
theorem dX0_overlapping_0 : decode cX0_overlapping 0 = .ok (.iconst 0, 1) := by decide +kernel
theorem dX0_overlapping_1 : decode cX0_overlapping 1 = .ok (.istore_n 1, 1) := by decide +kernel
theorem dX0_overlapping_2 : decode cX0_overlapping 2 = .ok (.iload_n 1, 1) := by decide +kernel
theorem dX0_overlapping_3 : decode cX0_overlapping 3 = .ok (.aload_n 0, 1) := by decide +kernel
theorem dX0_overlapping_4 : decode cX0_overlapping 4 = .ok (.getfield 44, 3) := by decide +kernel
theorem dX0_overlapping_7 : decode cX0_overlapping 7 = .ok (.getfield 77, 3) := by decide +kernel
theorem dX0_overlapping_10 : decode cX0_overlapping 10 = .ok (.if_icmp .ge 91, 3) := by decide +kernel
theorem dX0_overlapping_13 : decode cX0_overlapping 13 = .ok (.iconst 0, 1) := by decide +kernel
theorem dX0_overlapping_14 : decode cX0_overlapping 14 = .ok (.istore_n 2, 1) := by decide +kernel
theorem dX0_overlapping_15 : decode cX0_overlapping 15 = .ok (.iload_n 2, 1) := by decide +kernel
theorem dX0_overlapping_16 : decode cX0_overlapping 16 = .ok (.iload_n 1, 1) := by decide +kernel
theorem dX0_overlapping_17 : decode cX0_overlapping 17 = .ok (.if_icmp .ge 78, 3) := by decide +kernel
theorem dX0_overlapping_20 : decode cX0_overlapping 20 = .ok (.aload_n 0, 1) := by decide +kernel
theorem dX0_overlapping_21 : decode cX0_overlapping 21 = .ok (.getfield 44, 3) := by decide +kernel
theorem dX0_overlapping_24 : decode cX0_overlapping 24 = .ok (.iload_n 1, 1) := by decide +kernel
theorem dX0_overlapping_25 : decode cX0_overlapping 25 = .ok (.iconst 0, 1) := by decide +kernel
theorem dX0_overlapping_26 : decode cX0_overlapping 26 = .ok (.invokevirtual 82, 3) := by decide +kernel
theorem dX0_overlapping_29 : decode cX0_overlapping 29 = .ok (.aload_n 0, 1) := by decide +kernel
theorem dX0_overlapping_30 : decode cX0_overlapping 30 = .ok (.getfield 44, 3) := by decide +kernel
theorem dX0_overlapping_33 : decode cX0_overlapping 33 = .ok (.iload_n 2, 1) := by decide +kernel
theorem dX0_overlapping_34 : decode cX0_overlapping 34 = .ok (.iconst 0, 1) := by decide +kernel
theorem dX0_overlapping_35 : decode cX0_overlapping 35 = .ok (.invokevirtual 82, 3) := by decide +kernel
theorem dX0_overlapping_38 : decode cX0_overlapping 38 = .ok (.if_icmp .ne 51, 3) := by decide +kernel
theorem dX0_overlapping_41 : decode cX0_overlapping 41 = .ok (.aload_n 0, 1) := by decide +kernel
theorem dX0_overlapping_42 : decode cX0_overlapping 42 = .ok (.getfield 44, 3) := by decide +kernel
theorem dX0_overlapping_45 : decode cX0_overlapping 45 = .ok (.iload_n 1, 1) := by decide +kernel
theorem dX0_overlapping_46 : decode cX0_overlapping 46 = .ok (.iconst 1, 1) := by decide +kernel
theorem dX0_overlapping_47 : decode cX0_overlapping 47 = .ok (.invokevirtual 82, 3) := by decide +kernel
theorem dX0_overlapping_50 : decode cX0_overlapping 50 = .ok (.aload_n 0, 1) := by decide +kernel
theorem dX0_overlapping_51 : decode cX0_overlapping 51 = .ok (.getfield 44, 3) := by decide +kernel
theorem dX0_overlapping_54 : decode cX0_overlapping 54 = .ok (.iload_n 2, 1) := by decide +kernel
theorem dX0_overlapping_55 : decode cX0_overlapping 55 = .ok (.iconst 3, 1) := by decide +kernel
theorem dX0_overlapping_56 : decode cX0_overlapping 56 = .ok (.invokevirtual 82, 3) := by decide +kernel
theorem dX0_overlapping_59 : decode cX0_overlapping 59 = .ok (.if_icmp .ge 30, 3) := by decide +kernel
theorem dX0_overlapping_62 : decode cX0_overlapping 62 = .ok (.aload_n 0, 1) := by decide +kernel
theorem dX0_overlapping_63 : decode cX0_overlapping 63 = .ok (.getfield 44, 3) := by decide +kernel
theorem dX0_overlapping_66 : decode cX0_overlapping 66 = .ok (.iload_n 1, 1) := by decide +kernel
theorem dX0_overlapping_67 : decode cX0_overlapping 67 = .ok (.iconst 3, 1) := by decide +kernel
theorem dX0_overlapping_68 : decode cX0_overlapping 68 = .ok (.invokevirtual 82, 3) := by decide +kernel
theorem dX0_overlapping_71 : decode cX0_overlapping 71 = .ok (.aload_n 0, 1) := by decide +kernel
theorem dX0_overlapping_72 : decode cX0_overlapping 72 = .ok (.getfield 44, 3) := by decide +kernel
theorem dX0_overlapping_75 : decode cX0_overlapping 75 = .ok (.iload_n 2, 1) := by decide +kernel
theorem dX0_overlapping_76 : decode cX0_overlapping 76 = .ok (.iconst 1, 1) := by decide +kernel
theorem dX0_overlapping_77 : decode cX0_overlapping 77 = .ok (.invokevirtual 82, 3) := by decide +kernel
theorem dX0_overlapping_80 : decode cX0_overlapping 80 = .ok (.if_icmp .le 9, 3) := by decide +kernel
theorem dX0_overlapping_83 : decode cX0_overlapping 83 = .ok (.iconst 5, 1) := by decide +kernel
theorem dX0_overlapping_84 : decode cX0_overlapping 84 = .ok (.iload_n 1, 1) := by decide +kernel
theorem dX0_overlapping_85 : decode cX0_overlapping 85 = .ok (.invokestatic 95, 3) := by decide +kernel
theorem dX0_overlapping_88 : decode cX0_overlapping 88 = .ok (.ireturn, 1) := by decide +kernel
theorem dX0_overlapping_89 : decode cX0_overlapping 89 = .ok (.iinc 2 1, 3) := by decide +kernel
theorem dX0_overlapping_92 : decode cX0_overlapping 92 = .ok (.goto (-77), 3) := by decide +kernel
theorem dX0_overlapping_95 : decode cX0_overlapping 95 = .ok (.iinc 1 1, 3) := by decide +kernel
theorem dX0_overlapping_98 : decode cX0_overlapping 98 = .ok (.goto (-96), 3) := by decide +kernel
theorem dX0_overlapping_101 : decode cX0_overlapping 101 = .ok (.iconst 0, 1) := by decide +kernel
theorem dX0_overlapping_102 : decode cX0_overlapping 102 = .ok (.ireturn, 1) := by decide +kernel
def pX0_overlapping_L15 (x1 : Int32) (M : Mm) (s : Int32) : Option ((Int32) ⊕ ((Unit) ⊕ (Int32))) :=
if x1 ≤ s then
(some (Sum.inr (Sum.inl ())))
else
((pX4_part 4 x1 0 M).bind fun v1 =>
(pX4_part 4 s 0 M).bind fun v3 =>
if v1 = v3 then
((pX4_part 4 x1 1 M).bind fun v5 =>
(pX4_part 4 s 3 M).bind fun v7 =>
if v7 ≤ v5 then
(some (Sum.inl (s + 1)))
else
((pX4_part 4 x1 3 M).bind fun v9 =>
(pX4_part 4 s 1 M).bind fun v11 =>
if v9 ≤ v11 then
(some (Sum.inl (s + 1)))
else
(some (Sum.inr (Sum.inr (pX0_told 5 x1))))))
else
(some (Sum.inl (s + 1))))
def pX0_overlapping_L2 (M : Mm) (s : Int32) : Option ((Int32) ⊕ ((Unit) ⊕ (Int32))) :=
if (M 4 1) ≤ s then
(some (Sum.inr (Sum.inl ())))
else
((itr (pX0_overlapping_L15 s M) fuel 0).bind fun x15 =>
Sum.elim (fun yx15 =>
some (Sum.inl (s + 1))) (fun r => some (Sum.inr (Sum.inr r))) x15)
def pX0_overlapping (M : Mm) : Option (Int32) :=
(itr (pX0_overlapping_L2 M) fuel 0).bind fun x36 =>
Sum.elim (fun yx36 =>
some 0) (fun r => some r) x36
abbrev zX0_overlapping : Zx := (cX0_overlapping, RX0, 3, 1, (some .int))
set_option maxRecDepth 100000 in
set_option maxHeartbeats 4000000 in
theorem tX0_overlapping {l : Launch} {Y : Sx} {M : Mm} {q : Int32} (hY : isA Y) (h : pX0_overlapping M = some q) : Ct l Y yX0_overlapping cX0_overlapping 3 (some .int) 1 [.ref (adr Y 7)] M (some q) M := by
  refine Ct.of (by decide) rfl (lv := [(0, .ref (adr Y 7))]) rfl ?_
  intro K hkl C
  change Cx K zX0_overlapping Y at C
  subst hkl
  unfold pX0_overlapping at h
  show Wp K zX0_overlapping Y (Qm K Y (some q) M) M 0 [(0, .ref (adr Y 7))] []
  refine w_iconst C (pc := 0) dX0_overlapping_0 (v := 0) (by decide) ?_
  refine w_istore_n C (pc := 1) dX0_overlapping_1 (lv' := [(0, .ref (adr Y 7)), (1, .int 0)]) rfl rfl rfl ?_
  obtain ⟨x36, e37, h⟩ := ob h
  refine itr_W (P := fun s38 => Wp K zX0_overlapping Y (Qm K Y (some q) M) M 2 [(0, .ref (adr Y 7)), (1, .int s38)] []) (R := fun x9 => (∀ yx36, x9 = Sum.inl yx36 → Wp K zX0_overlapping Y (Qm K Y (some q) M) M 101 [(0, .ref (adr Y 7))] []) ∧ (∀ v9, x9 = Sum.inr v9 → some v9 = some q)) ?_ fuel 0 x36 e37 ?_
  · intro s38 r39 h42 ki40 kx41
    unfold pX0_overlapping_L2 at h42
    show Wp K zX0_overlapping Y (Qm K Y (some q) M) M 2 [(0, .ref (adr Y 7)), (1, .int s38)] []
    refine w_iload_n C (pc := 2) dX0_overlapping_2 1 rfl ?_
    refine w_aload_n C (pc := 3) dX0_overlapping_3 0 rfl ?_
    refine w_getR C (pc := 4) dX0_overlapping_4 f_X0_44 (sA_7 hY) rfl ?_
    refine w_getI C (pc := 7) dX0_overlapping_7 f_X0_77 (sA_4 hY) rfl ?_
    refine w_icge C (pc := 10) 101 dX0_overlapping_10 (by decide) (fun c => ?_) (fun c => ?_)
    · have h42 := it_t h42 c
      obtain rfl := Option.some.inj h42
      refine w_lv [0] rfl ?_
      exact (kx41 _ rfl).1 _ rfl
    · have h42 := it_f h42 c
      refine w_iconst C (pc := 13) dX0_overlapping_13 (v := 0) (by decide) ?_
      refine w_istore_n C (pc := 14) dX0_overlapping_14 (lv' := [(0, .ref (adr Y 7)), (1, .int s38), (2, .int 0)]) rfl rfl rfl ?_
      obtain ⟨x43, e44, h42⟩ := ob h42
      refine itr_W (P := fun s45 => Wp K zX0_overlapping Y (Qm K Y (some q) M) M 15 [(0, .ref (adr Y 7)), (1, .int s38), (2, .int s45)] []) (R := fun x9 => (∀ yx43, x9 = Sum.inl yx43 → Wp K zX0_overlapping Y (Qm K Y (some q) M) M 95 [(0, .ref (adr Y 7)), (1, .int s38)] []) ∧ (∀ v9, x9 = Sum.inr v9 → some (Sum.inr (Sum.inr v9)) = some r39)) ?_ fuel 0 x43 e44 ?_
      · intro s45 r46 h49 ki47 kx48
        unfold pX0_overlapping_L15 at h49
        show Wp K zX0_overlapping Y (Qm K Y (some q) M) M 15 [(0, .ref (adr Y 7)), (1, .int s38), (2, .int s45)] []
        refine w_iload_n C (pc := 15) dX0_overlapping_15 2 rfl ?_
        refine w_iload_n C (pc := 16) dX0_overlapping_16 1 rfl ?_
        refine w_icge C (pc := 17) 95 dX0_overlapping_17 (by decide) (fun c => ?_) (fun c => ?_)
        · have h49 := it_t h49 c
          obtain rfl := Option.some.inj h49
          refine w_lv [0, 1] rfl ?_
          exact (kx48 _ rfl).1 _ rfl
        · have h49 := it_f h49 c
          refine w_aload_n C (pc := 20) dX0_overlapping_20 0 rfl ?_
          refine w_getR C (pc := 21) dX0_overlapping_21 f_X0_44 (sA_7 hY) rfl ?_
          refine w_iload_n C (pc := 24) dX0_overlapping_24 1 rfl ?_
          refine w_iconst C (pc := 25) dX0_overlapping_25 (v := 0) (by decide) ?_
          obtain ⟨v50, e51, h49⟩ := ob h49
          refine w_cVi C (pc := 26) dX0_overlapping_26 my_X4_part mi_X4_part ml_X0_82 (sA_4 hY) rfl rfl rfl [.int s38, .int 0] rfl rfl (Nat.le_of_ble_eq_true rfl) (tX4_part (kPlan_4 hY) e51) ?_
          refine w_aload_n C (pc := 29) dX0_overlapping_29 0 rfl ?_
          refine w_getR C (pc := 30) dX0_overlapping_30 f_X0_44 (sA_7 hY) rfl ?_
          refine w_iload_n C (pc := 33) dX0_overlapping_33 2 rfl ?_
          refine w_iconst C (pc := 34) dX0_overlapping_34 (v := 0) (by decide) ?_
          obtain ⟨v52, e53, h49⟩ := ob h49
          refine w_cVi C (pc := 35) dX0_overlapping_35 my_X4_part mi_X4_part ml_X0_82 (sA_4 hY) rfl rfl rfl [.int s45, .int 0] rfl rfl (Nat.le_of_ble_eq_true rfl) (tX4_part (kPlan_4 hY) e53) ?_
          refine w_icne C (pc := 38) 89 dX0_overlapping_38 (by decide) (fun c => ?_) (fun c => ?_)
          · have h49 := it_t h49 c
            refine w_aload_n C (pc := 41) dX0_overlapping_41 0 rfl ?_
            refine w_getR C (pc := 42) dX0_overlapping_42 f_X0_44 (sA_7 hY) rfl ?_
            refine w_iload_n C (pc := 45) dX0_overlapping_45 1 rfl ?_
            refine w_iconst C (pc := 46) dX0_overlapping_46 (v := 1) (by decide) ?_
            obtain ⟨v54, e55, h49⟩ := ob h49
            refine w_cVi C (pc := 47) dX0_overlapping_47 my_X4_part mi_X4_part ml_X0_82 (sA_4 hY) rfl rfl rfl [.int s38, .int 1] rfl rfl (Nat.le_of_ble_eq_true rfl) (tX4_part (kPlan_4 hY) e55) ?_
            refine w_aload_n C (pc := 50) dX0_overlapping_50 0 rfl ?_
            refine w_getR C (pc := 51) dX0_overlapping_51 f_X0_44 (sA_7 hY) rfl ?_
            refine w_iload_n C (pc := 54) dX0_overlapping_54 2 rfl ?_
            refine w_iconst C (pc := 55) dX0_overlapping_55 (v := 3) (by decide) ?_
            obtain ⟨v56, e57, h49⟩ := ob h49
            refine w_cVi C (pc := 56) dX0_overlapping_56 my_X4_part mi_X4_part ml_X0_82 (sA_4 hY) rfl rfl rfl [.int s45, .int 3] rfl rfl (Nat.le_of_ble_eq_true rfl) (tX4_part (kPlan_4 hY) e57) ?_
            refine w_icge C (pc := 59) 89 dX0_overlapping_59 (by decide) (fun c => ?_) (fun c => ?_)
            · have h49 := it_t h49 c
              refine w_iinc C (pc := 89) dX0_overlapping_89 2 rfl (v := 1) (lv' := [(0, .ref (adr Y 7)), (1, .int s38), (2, .int (s45 + 1))]) (by decide) rfl rfl rfl ?_
              refine w_goto C (pc := 92) 15 dX0_overlapping_92 (by decide) ?_
              obtain rfl := Option.some.inj h49
              exact ki47 _ rfl
            · have h49 := it_f h49 c
              refine w_aload_n C (pc := 62) dX0_overlapping_62 0 rfl ?_
              refine w_getR C (pc := 63) dX0_overlapping_63 f_X0_44 (sA_7 hY) rfl ?_
              refine w_iload_n C (pc := 66) dX0_overlapping_66 1 rfl ?_
              refine w_iconst C (pc := 67) dX0_overlapping_67 (v := 3) (by decide) ?_
              obtain ⟨v58, e59, h49⟩ := ob h49
              refine w_cVi C (pc := 68) dX0_overlapping_68 my_X4_part mi_X4_part ml_X0_82 (sA_4 hY) rfl rfl rfl [.int s38, .int 3] rfl rfl (Nat.le_of_ble_eq_true rfl) (tX4_part (kPlan_4 hY) e59) ?_
              refine w_aload_n C (pc := 71) dX0_overlapping_71 0 rfl ?_
              refine w_getR C (pc := 72) dX0_overlapping_72 f_X0_44 (sA_7 hY) rfl ?_
              refine w_iload_n C (pc := 75) dX0_overlapping_75 2 rfl ?_
              refine w_iconst C (pc := 76) dX0_overlapping_76 (v := 1) (by decide) ?_
              obtain ⟨v60, e61, h49⟩ := ob h49
              refine w_cVi C (pc := 77) dX0_overlapping_77 my_X4_part mi_X4_part ml_X0_82 (sA_4 hY) rfl rfl rfl [.int s45, .int 1] rfl rfl (Nat.le_of_ble_eq_true rfl) (tX4_part (kPlan_4 hY) e61) ?_
              refine w_icle C (pc := 80) 89 dX0_overlapping_80 (by decide) (fun c => ?_) (fun c => ?_)
              · have h49 := it_t h49 c
                refine w_iinc C (pc := 89) dX0_overlapping_89 2 rfl (v := 1) (lv' := [(0, .ref (adr Y 7)), (1, .int s38), (2, .int (s45 + 1))]) (by decide) rfl rfl rfl ?_
                refine w_goto C (pc := 92) 15 dX0_overlapping_92 (by decide) ?_
                obtain rfl := Option.some.inj h49
                exact ki47 _ rfl
              · have h49 := it_f h49 c
                refine w_iconst C (pc := 83) dX0_overlapping_83 (v := 5) (by decide) ?_
                refine w_iload_n C (pc := 84) dX0_overlapping_84 1 rfl ?_
                refine w_cSi C (pc := 85) dX0_overlapping_85 my_X0_told ms_X0_told ml_X0_95 rfl rfl [.int 5, .int s38] rfl rfl (Nat.le_of_ble_eq_true rfl) (tX0_told  rfl) ?_
                obtain rfl := Option.some.inj h49
                have h62 := (kx48 _ rfl).2 _ rfl
                obtain rfl := Option.some.inj h62
                have h63 := (kx41 _ rfl).2 _ rfl
                exact w_retR C (pc := 88) dX0_overlapping_88 rfl (Option.some.inj h63)
          · have h49 := it_f h49 c
            refine w_iinc C (pc := 89) dX0_overlapping_89 2 rfl (v := 1) (lv' := [(0, .ref (adr Y 7)), (1, .int s38), (2, .int (s45 + 1))]) (by decide) rfl rfl rfl ?_
            refine w_goto C (pc := 92) 15 dX0_overlapping_92 (by decide) ?_
            obtain rfl := Option.some.inj h49
            exact ki47 _ rfl
      · refine ⟨fun yx43 hy => ?_, fun v9 hv => ?_⟩
        · subst hy
          dsimp only [Sum.elim] at h42
          refine w_iinc C (pc := 95) dX0_overlapping_95 1 rfl (v := 1) (lv' := [(0, .ref (adr Y 7)), (1, .int (s38 + 1))]) (by decide) rfl rfl rfl ?_
          refine w_goto C (pc := 98) 2 dX0_overlapping_98 (by decide) ?_
          obtain rfl := Option.some.inj h42
          exact ki40 _ rfl
        · subst hv
          exact h42
  · refine ⟨fun yx36 hy => ?_, fun v9 hv => ?_⟩
    · subst hy
      dsimp only [Sum.elim] at h
      refine w_iconst C (pc := 101) dX0_overlapping_101 (v := 0) (by decide) ?_
      exact w_retR C (pc := 102) dX0_overlapping_102 rfl (Option.some.inj h)
    · subst hv
      exact h
theorem dX0_wrongWithoutTimes_0 : decode cX0_wrongWithoutTimes 0 = .ok (.aload_n 0, 1) := by decide +kernel
theorem dX0_wrongWithoutTimes_1 : decode cX0_wrongWithoutTimes 1 = .ok (.invokevirtual 62, 3) := by decide +kernel
theorem dX0_wrongWithoutTimes_4 : decode cX0_wrongWithoutTimes 4 = .ok (.istore_n 1, 1) := by decide +kernel
theorem dX0_wrongWithoutTimes_5 : decode cX0_wrongWithoutTimes 5 = .ok (.iload_n 1, 1) := by decide +kernel
theorem dX0_wrongWithoutTimes_6 : decode cX0_wrongWithoutTimes 6 = .ok (.ifCond .ne 8, 3) := by decide +kernel
theorem dX0_wrongWithoutTimes_9 : decode cX0_wrongWithoutTimes 9 = .ok (.aload_n 0, 1) := by decide +kernel
theorem dX0_wrongWithoutTimes_10 : decode cX0_wrongWithoutTimes 10 = .ok (.invokevirtual 65, 3) := by decide +kernel
theorem dX0_wrongWithoutTimes_13 : decode cX0_wrongWithoutTimes 13 = .ok (.istore_n 1, 1) := by decide +kernel
theorem dX0_wrongWithoutTimes_14 : decode cX0_wrongWithoutTimes 14 = .ok (.iload_n 1, 1) := by decide +kernel
theorem dX0_wrongWithoutTimes_15 : decode cX0_wrongWithoutTimes 15 = .ok (.ifCond .ne 8, 3) := by decide +kernel
theorem dX0_wrongWithoutTimes_18 : decode cX0_wrongWithoutTimes 18 = .ok (.aload_n 0, 1) := by decide +kernel
theorem dX0_wrongWithoutTimes_19 : decode cX0_wrongWithoutTimes 19 = .ok (.invokevirtual 68, 3) := by decide +kernel
theorem dX0_wrongWithoutTimes_22 : decode cX0_wrongWithoutTimes 22 = .ok (.istore_n 1, 1) := by decide +kernel
theorem dX0_wrongWithoutTimes_23 : decode cX0_wrongWithoutTimes 23 = .ok (.iload_n 1, 1) := by decide +kernel
theorem dX0_wrongWithoutTimes_24 : decode cX0_wrongWithoutTimes 24 = .ok (.ifCond .ne 8, 3) := by decide +kernel
theorem dX0_wrongWithoutTimes_27 : decode cX0_wrongWithoutTimes 27 = .ok (.aload_n 0, 1) := by decide +kernel
theorem dX0_wrongWithoutTimes_28 : decode cX0_wrongWithoutTimes 28 = .ok (.invokevirtual 71, 3) := by decide +kernel
theorem dX0_wrongWithoutTimes_31 : decode cX0_wrongWithoutTimes 31 = .ok (.istore_n 1, 1) := by decide +kernel
theorem dX0_wrongWithoutTimes_32 : decode cX0_wrongWithoutTimes 32 = .ok (.iload_n 1, 1) := by decide +kernel
theorem dX0_wrongWithoutTimes_33 : decode cX0_wrongWithoutTimes 33 = .ok (.ifCond .ne 10, 3) := by decide +kernel
theorem dX0_wrongWithoutTimes_36 : decode cX0_wrongWithoutTimes 36 = .ok (.aload_n 0, 1) := by decide +kernel
theorem dX0_wrongWithoutTimes_37 : decode cX0_wrongWithoutTimes 37 = .ok (.invokevirtual 74, 3) := by decide +kernel
theorem dX0_wrongWithoutTimes_40 : decode cX0_wrongWithoutTimes 40 = .ok (.goto 4, 3) := by decide +kernel
theorem dX0_wrongWithoutTimes_43 : decode cX0_wrongWithoutTimes 43 = .ok (.iload_n 1, 1) := by decide +kernel
theorem dX0_wrongWithoutTimes_44 : decode cX0_wrongWithoutTimes 44 = .ok (.ireturn, 1) := by decide +kernel
def pX0_wrongWithoutTimes (M : Mm) : Option (Int32) :=
(pX0_impossibleSortie M).bind fun v1 =>
Option.bind (α := Int32) (if v1 = 0 then
((pX0_servedTooOften M).bind fun v18 =>
some v18)
else
(some v1)) fun j3 =>
Option.bind (α := Int32) (if j3 = 0 then
((pX0_servedByNobody M).bind fun v16 =>
some v16)
else
(some j3)) fun j6 =>
Option.bind (α := Int32) (if j6 = 0 then
((pX0_tooHeavy M).bind fun v14 =>
some v14)
else
(some j6)) fun j9 =>
if j9 = 0 then
((pX0_overlapping M).bind fun v12 =>
some v12)
else
(some j9)
abbrev zX0_wrongWithoutTimes : Zx := (cX0_wrongWithoutTimes, RX0, 2, 3, (some .int))
set_option maxRecDepth 100000 in
set_option maxHeartbeats 4000000 in
theorem tX0_wrongWithoutTimes {l : Launch} {Y : Sx} {M : Mm} {q : Int32} (hY : isA Y) (h : pX0_wrongWithoutTimes M = some q) : Ct l Y yX0_wrongWithoutTimes cX0_wrongWithoutTimes 2 (some .int) 3 [.ref (adr Y 7)] M (some q) M := by
  refine Ct.of (by decide) rfl (lv := [(0, .ref (adr Y 7))]) rfl ?_
  intro K hkl C
  change Cx K zX0_wrongWithoutTimes Y at C
  subst hkl
  unfold pX0_wrongWithoutTimes at h
  show Wp K zX0_wrongWithoutTimes Y (Qm K Y (some q) M) M 0 [(0, .ref (adr Y 7))] []
  refine w_aload_n C (pc := 0) dX0_wrongWithoutTimes_0 0 rfl ?_
  obtain ⟨v1, e2, h⟩ := ob h
  refine w_cVi C (pc := 1) dX0_wrongWithoutTimes_1 my_X0_impossibleSortie mi_X0_impossibleSortie ml_X0_62 (sA_7 hY) rfl rfl rfl [] rfl rfl (Nat.le_of_ble_eq_true rfl) (tX0_impossibleSortie hY  e2) ?_
  refine w_istore_n C (pc := 4) dX0_wrongWithoutTimes_4 (lv' := [(0, .ref (adr Y 7)), (1, .int v1)]) rfl rfl rfl ?_
  refine w_iload_n C (pc := 5) dX0_wrongWithoutTimes_5 1 rfl ?_
  obtain ⟨j3, e4, h5⟩ := ob h
  have Jj3 : Wp K zX0_wrongWithoutTimes Y (Qm K Y (some q) M) M 14 [(0, .ref (adr Y 7)), (1, .int j3)] [] := by
    refine w_iload_n C (pc := 14) dX0_wrongWithoutTimes_14 1 rfl ?_
    obtain ⟨j6, e7, h8⟩ := ob h5
    have Jj6 : Wp K zX0_wrongWithoutTimes Y (Qm K Y (some q) M) M 23 [(0, .ref (adr Y 7)), (1, .int j6)] [] := by
      refine w_iload_n C (pc := 23) dX0_wrongWithoutTimes_23 1 rfl ?_
      obtain ⟨j9, e10, h11⟩ := ob h8
      have Jj9 : Wp K zX0_wrongWithoutTimes Y (Qm K Y (some q) M) M 32 [(0, .ref (adr Y 7)), (1, .int j9)] [] := by
        refine w_iload_n C (pc := 32) dX0_wrongWithoutTimes_32 1 rfl ?_
        refine w_ifne C (pc := 33) 43 dX0_wrongWithoutTimes_33 (by decide) (fun c => ?_) (fun c => ?_)
        · have h11 := it_t h11 c
          refine w_aload_n C (pc := 36) dX0_wrongWithoutTimes_36 0 rfl ?_
          obtain ⟨v12, e13, h11⟩ := ob h11
          refine w_cVi C (pc := 37) dX0_wrongWithoutTimes_37 my_X0_overlapping mi_X0_overlapping ml_X0_74 (sA_7 hY) rfl rfl rfl [] rfl rfl (Nat.le_of_ble_eq_true rfl) (tX0_overlapping hY  e13) ?_
          refine w_goto C (pc := 40) 44 dX0_wrongWithoutTimes_40 (by decide) ?_
          exact w_retR C (pc := 44) dX0_wrongWithoutTimes_44 rfl (Option.some.inj h11)
        · have h11 := it_f h11 c
          refine w_iload_n C (pc := 43) dX0_wrongWithoutTimes_43 1 rfl ?_
          exact w_retR C (pc := 44) dX0_wrongWithoutTimes_44 rfl (Option.some.inj h11)
      refine w_ifne C (pc := 24) 32 dX0_wrongWithoutTimes_24 (by decide) (fun c => ?_) (fun c => ?_)
      · have e10 := it_t e10 c
        refine w_aload_n C (pc := 27) dX0_wrongWithoutTimes_27 0 rfl ?_
        obtain ⟨v14, e15, e10⟩ := ob e10
        refine w_cVi C (pc := 28) dX0_wrongWithoutTimes_28 my_X0_tooHeavy mi_X0_tooHeavy ml_X0_71 (sA_7 hY) rfl rfl rfl [] rfl rfl (Nat.le_of_ble_eq_true rfl) (tX0_tooHeavy hY  e15) ?_
        refine w_istore_n C (pc := 31) dX0_wrongWithoutTimes_31 (lv' := [(0, .ref (adr Y 7)), (1, .int v14)]) rfl rfl rfl ?_
        obtain rfl := Option.some.inj e10
        exact Jj9
      · have e10 := it_f e10 c
        obtain rfl := Option.some.inj e10
        exact Jj9
    refine w_ifne C (pc := 15) 23 dX0_wrongWithoutTimes_15 (by decide) (fun c => ?_) (fun c => ?_)
    · have e7 := it_t e7 c
      refine w_aload_n C (pc := 18) dX0_wrongWithoutTimes_18 0 rfl ?_
      obtain ⟨v16, e17, e7⟩ := ob e7
      refine w_cVi C (pc := 19) dX0_wrongWithoutTimes_19 my_X0_servedByNobody mi_X0_servedByNobody ml_X0_68 (sA_7 hY) rfl rfl rfl [] rfl rfl (Nat.le_of_ble_eq_true rfl) (tX0_servedByNobody hY  e17) ?_
      refine w_istore_n C (pc := 22) dX0_wrongWithoutTimes_22 (lv' := [(0, .ref (adr Y 7)), (1, .int v16)]) rfl rfl rfl ?_
      obtain rfl := Option.some.inj e7
      exact Jj6
    · have e7 := it_f e7 c
      obtain rfl := Option.some.inj e7
      exact Jj6
  refine w_ifne C (pc := 6) 14 dX0_wrongWithoutTimes_6 (by decide) (fun c => ?_) (fun c => ?_)
  · have e4 := it_t e4 c
    refine w_aload_n C (pc := 9) dX0_wrongWithoutTimes_9 0 rfl ?_
    obtain ⟨v18, e19, e4⟩ := ob e4
    refine w_cVi C (pc := 10) dX0_wrongWithoutTimes_10 my_X0_servedTooOften mi_X0_servedTooOften ml_X0_65 (sA_7 hY) rfl rfl rfl [] rfl rfl (Nat.le_of_ble_eq_true rfl) (tX0_servedTooOften hY  e19) ?_
    refine w_istore_n C (pc := 13) dX0_wrongWithoutTimes_13 (lv' := [(0, .ref (adr Y 7)), (1, .int v18)]) rfl rfl rfl ?_
    obtain rfl := Option.some.inj e4
    exact Jj3
  · have e4 := it_f e4 c
    obtain rfl := Option.some.inj e4
    exact Jj3
theorem dX0_tooLongInAir_0 : decode cX0_tooLongInAir 0 = .ok (.iconst 0, 1) := by decide +kernel
theorem dX0_tooLongInAir_1 : decode cX0_tooLongInAir 1 = .ok (.istore_n 1, 1) := by decide +kernel
theorem dX0_tooLongInAir_2 : decode cX0_tooLongInAir 2 = .ok (.iload_n 1, 1) := by decide +kernel
theorem dX0_tooLongInAir_3 : decode cX0_tooLongInAir 3 = .ok (.aload_n 0, 1) := by decide +kernel
theorem dX0_tooLongInAir_4 : decode cX0_tooLongInAir 4 = .ok (.getfield 44, 3) := by decide +kernel
theorem dX0_tooLongInAir_7 : decode cX0_tooLongInAir 7 = .ok (.getfield 77, 3) := by decide +kernel
theorem dX0_tooLongInAir_10 : decode cX0_tooLongInAir 10 = .ok (.if_icmp .ge 32, 3) := by decide +kernel
theorem dX0_tooLongInAir_13 : decode cX0_tooLongInAir 13 = .ok (.aload_n 0, 1) := by decide +kernel
theorem dX0_tooLongInAir_14 : decode cX0_tooLongInAir 14 = .ok (.iload_n 1, 1) := by decide +kernel
theorem dX0_tooLongInAir_15 : decode cX0_tooLongInAir 15 = .ok (.invokevirtual 114, 3) := by decide +kernel
theorem dX0_tooLongInAir_18 : decode cX0_tooLongInAir 18 = .ok (.aload_n 0, 1) := by decide +kernel
theorem dX0_tooLongInAir_19 : decode cX0_tooLongInAir 19 = .ok (.getfield 40, 3) := by decide +kernel
theorem dX0_tooLongInAir_22 : decode cX0_tooLongInAir 22 = .ok (.iconst 5, 1) := by decide +kernel
theorem dX0_tooLongInAir_23 : decode cX0_tooLongInAir 23 = .ok (.invokevirtual 86, 3) := by decide +kernel
theorem dX0_tooLongInAir_26 : decode cX0_tooLongInAir 26 = .ok (.if_icmp .le 10, 3) := by decide +kernel
theorem dX0_tooLongInAir_29 : decode cX0_tooLongInAir 29 = .ok (.bipush 6, 2) := by decide +kernel
theorem dX0_tooLongInAir_31 : decode cX0_tooLongInAir 31 = .ok (.iload_n 1, 1) := by decide +kernel
theorem dX0_tooLongInAir_32 : decode cX0_tooLongInAir 32 = .ok (.invokestatic 95, 3) := by decide +kernel
theorem dX0_tooLongInAir_35 : decode cX0_tooLongInAir 35 = .ok (.ireturn, 1) := by decide +kernel
theorem dX0_tooLongInAir_36 : decode cX0_tooLongInAir 36 = .ok (.iinc 1 1, 3) := by decide +kernel
theorem dX0_tooLongInAir_39 : decode cX0_tooLongInAir 39 = .ok (.goto (-37), 3) := by decide +kernel
theorem dX0_tooLongInAir_42 : decode cX0_tooLongInAir 42 = .ok (.iconst 0, 1) := by decide +kernel
theorem dX0_tooLongInAir_43 : decode cX0_tooLongInAir 43 = .ok (.ireturn, 1) := by decide +kernel
def pX0_tooLongInAir_L2 (M : Mm) (s : Int32) : Option ((Int32) ⊕ ((Unit) ⊕ (Int32))) :=
if (M 4 1) ≤ s then
(some (Sum.inr (Sum.inl ())))
else
((pX0_air s M).bind fun v1 =>
(pX3_setting 1 5 M).bind fun v3 =>
if v1 ≤ v3 then
(some (Sum.inl (s + 1)))
else
(some (Sum.inr (Sum.inr (pX0_told 6 s)))))
def pX0_tooLongInAir (M : Mm) : Option (Int32) :=
(itr (pX0_tooLongInAir_L2 M) fuel 0).bind fun x6 =>
Sum.elim (fun yx6 =>
some 0) (fun r => some r) x6
abbrev zX0_tooLongInAir : Zx := (cX0_tooLongInAir, RX0, 2, 2, (some .int))
set_option maxRecDepth 100000 in
set_option maxHeartbeats 4000000 in
theorem tX0_tooLongInAir {l : Launch} {Y : Sx} {M : Mm} {q : Int32} (hY : isA Y) (h : pX0_tooLongInAir M = some q) : Ct l Y yX0_tooLongInAir cX0_tooLongInAir 2 (some .int) 2 [.ref (adr Y 7)] M (some q) M := by
  refine Ct.of (by decide) rfl (lv := [(0, .ref (adr Y 7))]) rfl ?_
  intro K hkl C
  change Cx K zX0_tooLongInAir Y at C
  subst hkl
  unfold pX0_tooLongInAir at h
  show Wp K zX0_tooLongInAir Y (Qm K Y (some q) M) M 0 [(0, .ref (adr Y 7))] []
  refine w_iconst C (pc := 0) dX0_tooLongInAir_0 (v := 0) (by decide) ?_
  refine w_istore_n C (pc := 1) dX0_tooLongInAir_1 (lv' := [(0, .ref (adr Y 7)), (1, .int 0)]) rfl rfl rfl ?_
  obtain ⟨x6, e7, h⟩ := ob h
  refine itr_W (P := fun s8 => Wp K zX0_tooLongInAir Y (Qm K Y (some q) M) M 2 [(0, .ref (adr Y 7)), (1, .int s8)] []) (R := fun x9 => (∀ yx6, x9 = Sum.inl yx6 → Wp K zX0_tooLongInAir Y (Qm K Y (some q) M) M 42 [(0, .ref (adr Y 7))] []) ∧ (∀ v9, x9 = Sum.inr v9 → some v9 = some q)) ?_ fuel 0 x6 e7 ?_
  · intro s8 r9 h12 ki10 kx11
    unfold pX0_tooLongInAir_L2 at h12
    show Wp K zX0_tooLongInAir Y (Qm K Y (some q) M) M 2 [(0, .ref (adr Y 7)), (1, .int s8)] []
    refine w_iload_n C (pc := 2) dX0_tooLongInAir_2 1 rfl ?_
    refine w_aload_n C (pc := 3) dX0_tooLongInAir_3 0 rfl ?_
    refine w_getR C (pc := 4) dX0_tooLongInAir_4 f_X0_44 (sA_7 hY) rfl ?_
    refine w_getI C (pc := 7) dX0_tooLongInAir_7 f_X0_77 (sA_4 hY) rfl ?_
    refine w_icge C (pc := 10) 42 dX0_tooLongInAir_10 (by decide) (fun c => ?_) (fun c => ?_)
    · have h12 := it_t h12 c
      obtain rfl := Option.some.inj h12
      refine w_lv [0] rfl ?_
      exact (kx11 _ rfl).1 _ rfl
    · have h12 := it_f h12 c
      refine w_aload_n C (pc := 13) dX0_tooLongInAir_13 0 rfl ?_
      refine w_iload_n C (pc := 14) dX0_tooLongInAir_14 1 rfl ?_
      obtain ⟨v13, e14, h12⟩ := ob h12
      refine w_cVi C (pc := 15) dX0_tooLongInAir_15 my_X0_air mi_X0_air ml_X0_114 (sA_7 hY) rfl rfl rfl [.int s8] rfl rfl (Nat.le_of_ble_eq_true rfl) (tX0_air hY  e14) ?_
      refine w_aload_n C (pc := 18) dX0_tooLongInAir_18 0 rfl ?_
      refine w_getR C (pc := 19) dX0_tooLongInAir_19 f_X0_40 (sA_7 hY) rfl ?_
      refine w_iconst C (pc := 22) dX0_tooLongInAir_22 (v := 5) (by decide) ?_
      obtain ⟨v15, e16, h12⟩ := ob h12
      refine w_cVi C (pc := 23) dX0_tooLongInAir_23 my_X3_setting mi_X3_setting ml_X0_86 (sA_1 hY) rfl rfl rfl [.int 5] rfl rfl (Nat.le_of_ble_eq_true rfl) (tX3_setting (kLand_1 hY) e16) ?_
      refine w_icle C (pc := 26) 36 dX0_tooLongInAir_26 (by decide) (fun c => ?_) (fun c => ?_)
      · have h12 := it_t h12 c
        refine w_iinc C (pc := 36) dX0_tooLongInAir_36 1 rfl (v := 1) (lv' := [(0, .ref (adr Y 7)), (1, .int (s8 + 1))]) (by decide) rfl rfl rfl ?_
        refine w_goto C (pc := 39) 2 dX0_tooLongInAir_39 (by decide) ?_
        obtain rfl := Option.some.inj h12
        exact ki10 _ rfl
      · have h12 := it_f h12 c
        refine w_bipush C (pc := 29) dX0_tooLongInAir_29 (v := 6) (by decide) ?_
        refine w_iload_n C (pc := 31) dX0_tooLongInAir_31 1 rfl ?_
        refine w_cSi C (pc := 32) dX0_tooLongInAir_32 my_X0_told ms_X0_told ml_X0_95 rfl rfl [.int 6, .int s8] rfl rfl (Nat.le_of_ble_eq_true rfl) (tX0_told  rfl) ?_
        obtain rfl := Option.some.inj h12
        have h17 := (kx11 _ rfl).2 _ rfl
        exact w_retR C (pc := 35) dX0_tooLongInAir_35 rfl (Option.some.inj h17)
  · refine ⟨fun yx6 hy => ?_, fun v9 hv => ?_⟩
    · subst hy
      dsimp only [Sum.elim] at h
      refine w_iconst C (pc := 42) dX0_tooLongInAir_42 (v := 0) (by decide) ?_
      exact w_retR C (pc := 43) dX0_tooLongInAir_43 rfl (Option.some.inj h)
    · subst hv
      exact h
theorem dX0_look_0 : decode cX0_look 0 = .ok (.aload_n 0, 1) := by decide +kernel
theorem dX0_look_1 : decode cX0_look 1 = .ok (.aload_n 0, 1) := by decide +kernel
theorem dX0_look_2 : decode cX0_look 2 = .ok (.invokevirtual 48, 3) := by decide +kernel
theorem dX0_look_5 : decode cX0_look 5 = .ok (.putfield 52, 3) := by decide +kernel
theorem dX0_look_8 : decode cX0_look 8 = .ok (.aload_n 0, 1) := by decide +kernel
theorem dX0_look_9 : decode cX0_look 9 = .ok (.getfield 52, 3) := by decide +kernel
theorem dX0_look_12 : decode cX0_look 12 = .ok (.ifCond .eq 5, 3) := by decide +kernel
theorem dX0_look_15 : decode cX0_look 15 = .ok (.iconst 0, 1) := by decide +kernel
theorem dX0_look_16 : decode cX0_look 16 = .ok (.ireturn, 1) := by decide +kernel
theorem dX0_look_17 : decode cX0_look 17 = .ok (.aload_n 0, 1) := by decide +kernel
theorem dX0_look_18 : decode cX0_look 18 = .ok (.invokevirtual 56, 3) := by decide +kernel
theorem dX0_look_21 : decode cX0_look 21 = .ok (.aload_n 0, 1) := by decide +kernel
theorem dX0_look_22 : decode cX0_look 22 = .ok (.aload_n 0, 1) := by decide +kernel
theorem dX0_look_23 : decode cX0_look 23 = .ok (.invokevirtual 59, 3) := by decide +kernel
theorem dX0_look_26 : decode cX0_look 26 = .ok (.putfield 52, 3) := by decide +kernel
theorem dX0_look_29 : decode cX0_look 29 = .ok (.iconst 1, 1) := by decide +kernel
theorem dX0_look_30 : decode cX0_look 30 = .ok (.ireturn, 1) := by decide +kernel
def pX0_look (M : Mm) : Option (Int32 × Mm) :=
(pX0_wrongWithoutTimes M).bind fun v1 =>
bnd (mset M 7 3 v1) fun M3 =>
if (M3 7 3) = 0 then
((pX0_drivePlan M3).bind fun v5 =>
(pX0_tooLongInAir v5).bind fun v7 =>
bnd (mset v5 7 3 v7) fun M9 =>
some (1, M9))
else
(some (0, M3))
abbrev zX0_look : Zx := (cX0_look, RX0, 1, 5, (some .boolean))
set_option maxRecDepth 100000 in
set_option maxHeartbeats 4000000 in
theorem tX0_look {l : Launch} {Y : Sx} {M : Mm} {q : Int32 × Mm} (hY : isA Y) (h : pX0_look M = some q) : Ct l Y yX0_look cX0_look 1 (some .boolean) 5 [.ref (adr Y 7)] M (some q.1) q.2 := by
  refine Ct.of (by decide) rfl (lv := [(0, .ref (adr Y 7))]) rfl ?_
  intro K hkl C
  change Cx K zX0_look Y at C
  subst hkl
  unfold pX0_look at h
  show Wp K zX0_look Y (Qm K Y (some q.1) q.2) M 0 [(0, .ref (adr Y 7))] []
  refine w_aload_n C (pc := 0) dX0_look_0 0 rfl ?_
  refine w_aload_n C (pc := 1) dX0_look_1 0 rfl ?_
  obtain ⟨v1, e2, h⟩ := ob h
  refine w_cVi C (pc := 2) dX0_look_2 my_X0_wrongWithoutTimes mi_X0_wrongWithoutTimes ml_X0_48 (sA_7 hY) rfl rfl rfl [] rfl rfl (Nat.le_of_ble_eq_true rfl) (tX0_wrongWithoutTimes hY  e2) ?_
  obtain ⟨M3, e4, h⟩ := bn h
  refine w_putI C (pc := 5) dX0_look_5 fp_X0_52 (sA_7 hY) rfl ?_
  rw [e4]
  refine w_aload_n C (pc := 8) dX0_look_8 0 rfl ?_
  refine w_getI C (pc := 9) dX0_look_9 f_X0_52 (sA_7 hY) rfl ?_
  refine w_ifeq C (pc := 12) 17 dX0_look_12 (by decide) (fun c => ?_) (fun c => ?_)
  · have h := it_t h c
    refine w_aload_n C (pc := 17) dX0_look_17 0 rfl ?_
    obtain ⟨v5, e6, h⟩ := ob h
    refine w_cVv C (pc := 18) dX0_look_18 my_X0_drivePlan mi_X0_drivePlan ml_X0_56 (sA_7 hY) rfl rfl rfl [] rfl rfl (Nat.le_of_ble_eq_true rfl) (tX0_drivePlan hY  e6) ?_
    refine w_aload_n C (pc := 21) dX0_look_21 0 rfl ?_
    refine w_aload_n C (pc := 22) dX0_look_22 0 rfl ?_
    obtain ⟨v7, e8, h⟩ := ob h
    refine w_cVi C (pc := 23) dX0_look_23 my_X0_tooLongInAir mi_X0_tooLongInAir ml_X0_59 (sA_7 hY) rfl rfl rfl [] rfl rfl (Nat.le_of_ble_eq_true rfl) (tX0_tooLongInAir hY  e8) ?_
    obtain ⟨M9, e10, h⟩ := bn h
    refine w_putI C (pc := 26) dX0_look_26 fp_X0_52 (sA_7 hY) rfl ?_
    rw [e10]
    refine w_iconst C (pc := 29) dX0_look_29 (v := 1) (by decide) ?_
    exact w_retz C (pc := 30) dX0_look_30 rfl (by decide) (Option.some.inj h)
  · have h := it_f h c
    refine w_iconst C (pc := 15) dX0_look_15 (v := 0) (by decide) ?_
    exact w_retz C (pc := 16) dX0_look_16 rfl (by decide) (Option.some.inj h)
theorem dX0_ofSortie_0 : decode cX0_ofSortie 0 = .ok (.iload_n 2, 1) := by decide +kernel
theorem dX0_ofSortie_1 : decode cX0_ofSortie 1 = .ok (.tableswitch 65 0 3 #[31, 38, 45, 51], 31) := by decide +kernel
theorem dX0_ofSortie_32 : decode cX0_ofSortie 32 = .ok (.aload_n 0, 1) := by decide +kernel
theorem dX0_ofSortie_33 : decode cX0_ofSortie 33 = .ok (.getfield 31, 3) := by decide +kernel
theorem dX0_ofSortie_36 : decode cX0_ofSortie 36 = .ok (.iload_n 1, 1) := by decide +kernel
theorem dX0_ofSortie_37 : decode cX0_ofSortie 37 = .ok (.iaload, 1) := by decide +kernel
theorem dX0_ofSortie_38 : decode cX0_ofSortie 38 = .ok (.ireturn, 1) := by decide +kernel
theorem dX0_ofSortie_39 : decode cX0_ofSortie 39 = .ok (.aload_n 0, 1) := by decide +kernel
theorem dX0_ofSortie_40 : decode cX0_ofSortie 40 = .ok (.getfield 34, 3) := by decide +kernel
theorem dX0_ofSortie_43 : decode cX0_ofSortie 43 = .ok (.iload_n 1, 1) := by decide +kernel
theorem dX0_ofSortie_44 : decode cX0_ofSortie 44 = .ok (.iaload, 1) := by decide +kernel
theorem dX0_ofSortie_45 : decode cX0_ofSortie 45 = .ok (.ireturn, 1) := by decide +kernel
theorem dX0_ofSortie_46 : decode cX0_ofSortie 46 = .ok (.aload_n 0, 1) := by decide +kernel
theorem dX0_ofSortie_47 : decode cX0_ofSortie 47 = .ok (.iload_n 1, 1) := by decide +kernel
theorem dX0_ofSortie_48 : decode cX0_ofSortie 48 = .ok (.invokevirtual 114, 3) := by decide +kernel
theorem dX0_ofSortie_51 : decode cX0_ofSortie 51 = .ok (.ireturn, 1) := by decide +kernel
theorem dX0_ofSortie_52 : decode cX0_ofSortie 52 = .ok (.aload_n 0, 1) := by decide +kernel
theorem dX0_ofSortie_53 : decode cX0_ofSortie 53 = .ok (.getfield 37, 3) := by decide +kernel
theorem dX0_ofSortie_56 : decode cX0_ofSortie 56 = .ok (.iload_n 1, 1) := by decide +kernel
theorem dX0_ofSortie_57 : decode cX0_ofSortie 57 = .ok (.iaload, 1) := by decide +kernel
theorem dX0_ofSortie_58 : decode cX0_ofSortie 58 = .ok (.aload_n 0, 1) := by decide +kernel
theorem dX0_ofSortie_59 : decode cX0_ofSortie 59 = .ok (.getfield 34, 3) := by decide +kernel
theorem dX0_ofSortie_62 : decode cX0_ofSortie 62 = .ok (.iload_n 1, 1) := by decide +kernel
theorem dX0_ofSortie_63 : decode cX0_ofSortie 63 = .ok (.iaload, 1) := by decide +kernel
theorem dX0_ofSortie_64 : decode cX0_ofSortie 64 = .ok (.isub, 1) := by decide +kernel
theorem dX0_ofSortie_65 : decode cX0_ofSortie 65 = .ok (.ireturn, 1) := by decide +kernel
theorem dX0_ofSortie_66 : decode cX0_ofSortie 66 = .ok (.iconst (-1), 1) := by decide +kernel
theorem dX0_ofSortie_67 : decode cX0_ofSortie 67 = .ok (.ireturn, 1) := by decide +kernel
def pX0_ofSortie (x1 : Int32) (x2 : Int32) (M : Mm) : Option (Int32) :=
if x2 = 0 then
((ald M 14 8 x1).bind fun v1 =>
some v1)
else
(if x2 = 1 then
((ald M 15 8 x1).bind fun v3 =>
some v3)
else
(if x2 = 2 then
((pX0_air x1 M).bind fun v5 =>
some v5)
else
(if x2 = 3 then
((ald M 16 8 x1).bind fun v7 =>
(ald M 15 8 x1).bind fun v9 =>
some (v7 - v9))
else
(some (-1)))))
abbrev zX0_ofSortie : Zx := (cX0_ofSortie, RX0, 3, 2, (some .int))
set_option maxRecDepth 100000 in
set_option maxHeartbeats 4000000 in
theorem tX0_ofSortie {l : Launch} {Y : Sx} {M : Mm} {x1 : Int32} {x2 : Int32} {q : Int32} (hY : isA Y) (h : pX0_ofSortie x1 x2 M = some q) : Ct l Y yX0_ofSortie cX0_ofSortie 3 (some .int) 2 [.ref (adr Y 7), .int x1, .int x2] M (some q) M := by
  refine Ct.of (by decide) rfl (lv := [(0, .ref (adr Y 7)), (1, .int x1), (2, .int x2)]) rfl ?_
  intro K hkl C
  change Cx K zX0_ofSortie Y at C
  subst hkl
  unfold pX0_ofSortie at h
  show Wp K zX0_ofSortie Y (Qm K Y (some q) M) M 0 [(0, .ref (adr Y 7)), (1, .int x1), (2, .int x2)] []
  refine w_iload_n C (pc := 0) dX0_ofSortie_0 2 rfl ?_
  by_cases c1_0 : x2 = 0
  · have h := it_t h c1_0
    refine w_swIn C (pc := 1) (v := 0) 32 dX0_ofSortie_1 c1_0 (by decide) (by decide) rfl (by decide) ?_
    refine w_aload_n C (pc := 32) dX0_ofSortie_32 0 rfl ?_
    refine w_getR C (pc := 33) dX0_ofSortie_33 f_X0_31 (sA_7 hY) rfl ?_
    refine w_iload_n C (pc := 36) dX0_ofSortie_36 1 rfl ?_
    obtain ⟨v1, e2, h⟩ := ob h
    refine w_iald C (pc := 37) dX0_ofSortie_37 (sA_14 hY) e2 ?_
    exact w_retR C (pc := 38) dX0_ofSortie_38 rfl (Option.some.inj h)
  have h := it_f h c1_0
  by_cases c1_1 : x2 = 1
  · have h := it_t h c1_1
    refine w_swIn C (pc := 1) (v := 1) 39 dX0_ofSortie_1 c1_1 (by decide) (by decide) rfl (by decide) ?_
    refine w_aload_n C (pc := 39) dX0_ofSortie_39 0 rfl ?_
    refine w_getR C (pc := 40) dX0_ofSortie_40 f_X0_34 (sA_7 hY) rfl ?_
    refine w_iload_n C (pc := 43) dX0_ofSortie_43 1 rfl ?_
    obtain ⟨v3, e4, h⟩ := ob h
    refine w_iald C (pc := 44) dX0_ofSortie_44 (sA_15 hY) e4 ?_
    exact w_retR C (pc := 45) dX0_ofSortie_45 rfl (Option.some.inj h)
  have h := it_f h c1_1
  by_cases c1_2 : x2 = 2
  · have h := it_t h c1_2
    refine w_swIn C (pc := 1) (v := 2) 46 dX0_ofSortie_1 c1_2 (by decide) (by decide) rfl (by decide) ?_
    refine w_aload_n C (pc := 46) dX0_ofSortie_46 0 rfl ?_
    refine w_iload_n C (pc := 47) dX0_ofSortie_47 1 rfl ?_
    obtain ⟨v5, e6, h⟩ := ob h
    refine w_cVi C (pc := 48) dX0_ofSortie_48 my_X0_air mi_X0_air ml_X0_114 (sA_7 hY) rfl rfl rfl [.int x1] rfl rfl (Nat.le_of_ble_eq_true rfl) (tX0_air hY  e6) ?_
    exact w_retR C (pc := 51) dX0_ofSortie_51 rfl (Option.some.inj h)
  have h := it_f h c1_2
  by_cases c1_3 : x2 = 3
  · have h := it_t h c1_3
    refine w_swIn C (pc := 1) (v := 3) 52 dX0_ofSortie_1 c1_3 (by decide) (by decide) rfl (by decide) ?_
    refine w_aload_n C (pc := 52) dX0_ofSortie_52 0 rfl ?_
    refine w_getR C (pc := 53) dX0_ofSortie_53 f_X0_37 (sA_7 hY) rfl ?_
    refine w_iload_n C (pc := 56) dX0_ofSortie_56 1 rfl ?_
    obtain ⟨v7, e8, h⟩ := ob h
    refine w_iald C (pc := 57) dX0_ofSortie_57 (sA_16 hY) e8 ?_
    refine w_aload_n C (pc := 58) dX0_ofSortie_58 0 rfl ?_
    refine w_getR C (pc := 59) dX0_ofSortie_59 f_X0_34 (sA_7 hY) rfl ?_
    refine w_iload_n C (pc := 62) dX0_ofSortie_62 1 rfl ?_
    obtain ⟨v9, e10, h⟩ := ob h
    refine w_iald C (pc := 63) dX0_ofSortie_63 (sA_15 hY) e10 ?_
    refine w_isub C (pc := 64) dX0_ofSortie_64 ?_
    exact w_retR C (pc := 65) dX0_ofSortie_65 rfl (Option.some.inj h)
  have h := it_f h c1_3
  refine w_swOut C (pc := 1) 66 dX0_ofSortie_1 (by have q0 := lv_neT c1_0 (a := 0) rfl; have q1 := lv_neT c1_1 (a := 1) rfl; have q2 := lv_neT c1_2 (a := 2) rfl; have q3 := lv_neT c1_3 (a := 3) rfl; omega) (by decide) ?_
  refine w_iconst C (pc := 66) dX0_ofSortie_66 (v := (-1)) (by decide) ?_
  exact w_retR C (pc := 67) dX0_ofSortie_67 rfl (Option.some.inj h)
theorem dX0_ofStop_0 : decode cX0_ofStop 0 = .ok (.iload_n 2, 1) := by decide +kernel
theorem dX0_ofStop_1 : decode cX0_ofStop 1 = .ok (.tableswitch 72 0 4 #[35, 44, 51, 58, 65], 35) := by decide +kernel
theorem dX0_ofStop_36 : decode cX0_ofStop 36 = .ok (.aload_n 0, 1) := by decide +kernel
theorem dX0_ofStop_37 : decode cX0_ofStop 37 = .ok (.getfield 44, 3) := by decide +kernel
theorem dX0_ofStop_40 : decode cX0_ofStop 40 = .ok (.iload_n 1, 1) := by decide +kernel
theorem dX0_ofStop_41 : decode cX0_ofStop 41 = .ok (.invokevirtual 101, 3) := by decide +kernel
theorem dX0_ofStop_44 : decode cX0_ofStop 44 = .ok (.ireturn, 1) := by decide +kernel
theorem dX0_ofStop_45 : decode cX0_ofStop 45 = .ok (.aload_n 0, 1) := by decide +kernel
theorem dX0_ofStop_46 : decode cX0_ofStop 46 = .ok (.getfield 18, 3) := by decide +kernel
theorem dX0_ofStop_49 : decode cX0_ofStop 49 = .ok (.iload_n 1, 1) := by decide +kernel
theorem dX0_ofStop_50 : decode cX0_ofStop 50 = .ok (.iaload, 1) := by decide +kernel
theorem dX0_ofStop_51 : decode cX0_ofStop 51 = .ok (.ireturn, 1) := by decide +kernel
theorem dX0_ofStop_52 : decode cX0_ofStop 52 = .ok (.aload_n 0, 1) := by decide +kernel
theorem dX0_ofStop_53 : decode cX0_ofStop 53 = .ok (.getfield 22, 3) := by decide +kernel
theorem dX0_ofStop_56 : decode cX0_ofStop 56 = .ok (.iload_n 1, 1) := by decide +kernel
theorem dX0_ofStop_57 : decode cX0_ofStop 57 = .ok (.iaload, 1) := by decide +kernel
theorem dX0_ofStop_58 : decode cX0_ofStop 58 = .ok (.ireturn, 1) := by decide +kernel
theorem dX0_ofStop_59 : decode cX0_ofStop 59 = .ok (.aload_n 0, 1) := by decide +kernel
theorem dX0_ofStop_60 : decode cX0_ofStop 60 = .ok (.getfield 25, 3) := by decide +kernel
theorem dX0_ofStop_63 : decode cX0_ofStop 63 = .ok (.iload_n 1, 1) := by decide +kernel
theorem dX0_ofStop_64 : decode cX0_ofStop 64 = .ok (.iaload, 1) := by decide +kernel
theorem dX0_ofStop_65 : decode cX0_ofStop 65 = .ok (.ireturn, 1) := by decide +kernel
theorem dX0_ofStop_66 : decode cX0_ofStop 66 = .ok (.aload_n 0, 1) := by decide +kernel
theorem dX0_ofStop_67 : decode cX0_ofStop 67 = .ok (.getfield 28, 3) := by decide +kernel
theorem dX0_ofStop_70 : decode cX0_ofStop 70 = .ok (.iload_n 1, 1) := by decide +kernel
theorem dX0_ofStop_71 : decode cX0_ofStop 71 = .ok (.iaload, 1) := by decide +kernel
theorem dX0_ofStop_72 : decode cX0_ofStop 72 = .ok (.ireturn, 1) := by decide +kernel
theorem dX0_ofStop_73 : decode cX0_ofStop 73 = .ok (.iconst (-1), 1) := by decide +kernel
theorem dX0_ofStop_74 : decode cX0_ofStop 74 = .ok (.ireturn, 1) := by decide +kernel
def pX0_ofStop (x1 : Int32) (x2 : Int32) (M : Mm) : Option (Int32) :=
if x2 = 0 then
((pX4_placeAt 4 x1 M).bind fun v1 =>
some v1)
else
(if x2 = 1 then
((ald M 10 10 x1).bind fun v3 =>
some v3)
else
(if x2 = 2 then
((ald M 11 10 x1).bind fun v5 =>
some v5)
else
(if x2 = 3 then
((ald M 12 10 x1).bind fun v7 =>
some v7)
else
(if x2 = 4 then
((ald M 13 10 x1).bind fun v9 =>
some v9)
else
(some (-1))))))
abbrev zX0_ofStop : Zx := (cX0_ofStop, RX0, 3, 1, (some .int))
set_option maxRecDepth 100000 in
set_option maxHeartbeats 4000000 in
theorem tX0_ofStop {l : Launch} {Y : Sx} {M : Mm} {x1 : Int32} {x2 : Int32} {q : Int32} (hY : isA Y) (h : pX0_ofStop x1 x2 M = some q) : Ct l Y yX0_ofStop cX0_ofStop 3 (some .int) 1 [.ref (adr Y 7), .int x1, .int x2] M (some q) M := by
  refine Ct.of (by decide) rfl (lv := [(0, .ref (adr Y 7)), (1, .int x1), (2, .int x2)]) rfl ?_
  intro K hkl C
  change Cx K zX0_ofStop Y at C
  subst hkl
  unfold pX0_ofStop at h
  show Wp K zX0_ofStop Y (Qm K Y (some q) M) M 0 [(0, .ref (adr Y 7)), (1, .int x1), (2, .int x2)] []
  refine w_iload_n C (pc := 0) dX0_ofStop_0 2 rfl ?_
  by_cases c1_0 : x2 = 0
  · have h := it_t h c1_0
    refine w_swIn C (pc := 1) (v := 0) 36 dX0_ofStop_1 c1_0 (by decide) (by decide) rfl (by decide) ?_
    refine w_aload_n C (pc := 36) dX0_ofStop_36 0 rfl ?_
    refine w_getR C (pc := 37) dX0_ofStop_37 f_X0_44 (sA_7 hY) rfl ?_
    refine w_iload_n C (pc := 40) dX0_ofStop_40 1 rfl ?_
    obtain ⟨v1, e2, h⟩ := ob h
    refine w_cVi C (pc := 41) dX0_ofStop_41 my_X4_placeAt mi_X4_placeAt ml_X0_101 (sA_4 hY) rfl rfl rfl [.int x1] rfl rfl (Nat.le_of_ble_eq_true rfl) (tX4_placeAt (kPlan_4 hY) e2) ?_
    exact w_retR C (pc := 44) dX0_ofStop_44 rfl (Option.some.inj h)
  have h := it_f h c1_0
  by_cases c1_1 : x2 = 1
  · have h := it_t h c1_1
    refine w_swIn C (pc := 1) (v := 1) 45 dX0_ofStop_1 c1_1 (by decide) (by decide) rfl (by decide) ?_
    refine w_aload_n C (pc := 45) dX0_ofStop_45 0 rfl ?_
    refine w_getR C (pc := 46) dX0_ofStop_46 f_X0_18 (sA_7 hY) rfl ?_
    refine w_iload_n C (pc := 49) dX0_ofStop_49 1 rfl ?_
    obtain ⟨v3, e4, h⟩ := ob h
    refine w_iald C (pc := 50) dX0_ofStop_50 (sA_10 hY) e4 ?_
    exact w_retR C (pc := 51) dX0_ofStop_51 rfl (Option.some.inj h)
  have h := it_f h c1_1
  by_cases c1_2 : x2 = 2
  · have h := it_t h c1_2
    refine w_swIn C (pc := 1) (v := 2) 52 dX0_ofStop_1 c1_2 (by decide) (by decide) rfl (by decide) ?_
    refine w_aload_n C (pc := 52) dX0_ofStop_52 0 rfl ?_
    refine w_getR C (pc := 53) dX0_ofStop_53 f_X0_22 (sA_7 hY) rfl ?_
    refine w_iload_n C (pc := 56) dX0_ofStop_56 1 rfl ?_
    obtain ⟨v5, e6, h⟩ := ob h
    refine w_iald C (pc := 57) dX0_ofStop_57 (sA_11 hY) e6 ?_
    exact w_retR C (pc := 58) dX0_ofStop_58 rfl (Option.some.inj h)
  have h := it_f h c1_2
  by_cases c1_3 : x2 = 3
  · have h := it_t h c1_3
    refine w_swIn C (pc := 1) (v := 3) 59 dX0_ofStop_1 c1_3 (by decide) (by decide) rfl (by decide) ?_
    refine w_aload_n C (pc := 59) dX0_ofStop_59 0 rfl ?_
    refine w_getR C (pc := 60) dX0_ofStop_60 f_X0_25 (sA_7 hY) rfl ?_
    refine w_iload_n C (pc := 63) dX0_ofStop_63 1 rfl ?_
    obtain ⟨v7, e8, h⟩ := ob h
    refine w_iald C (pc := 64) dX0_ofStop_64 (sA_12 hY) e8 ?_
    exact w_retR C (pc := 65) dX0_ofStop_65 rfl (Option.some.inj h)
  have h := it_f h c1_3
  by_cases c1_4 : x2 = 4
  · have h := it_t h c1_4
    refine w_swIn C (pc := 1) (v := 4) 66 dX0_ofStop_1 c1_4 (by decide) (by decide) rfl (by decide) ?_
    refine w_aload_n C (pc := 66) dX0_ofStop_66 0 rfl ?_
    refine w_getR C (pc := 67) dX0_ofStop_67 f_X0_28 (sA_7 hY) rfl ?_
    refine w_iload_n C (pc := 70) dX0_ofStop_70 1 rfl ?_
    obtain ⟨v9, e10, h⟩ := ob h
    refine w_iald C (pc := 71) dX0_ofStop_71 (sA_13 hY) e10 ?_
    exact w_retR C (pc := 72) dX0_ofStop_72 rfl (Option.some.inj h)
  have h := it_f h c1_4
  refine w_swOut C (pc := 1) 73 dX0_ofStop_1 (by have q0 := lv_neT c1_0 (a := 0) rfl; have q1 := lv_neT c1_1 (a := 1) rfl; have q2 := lv_neT c1_2 (a := 2) rfl; have q3 := lv_neT c1_3 (a := 3) rfl; have q4 := lv_neT c1_4 (a := 4) rfl; omega) (by decide) ?_
  refine w_iconst C (pc := 73) dX0_ofStop_73 (v := (-1)) (by decide) ?_
  exact w_retR C (pc := 74) dX0_ofStop_74 rfl (Option.some.inj h)
theorem dX0_total_0 : decode cX0_total 0 = .ok (.iload_n 1, 1) := by decide +kernel
theorem dX0_total_1 : decode cX0_total 1 = .ok (.ifCond .lt 8, 3) := by decide +kernel
theorem dX0_total_4 : decode cX0_total 4 = .ok (.iload_n 1, 1) := by decide +kernel
theorem dX0_total_5 : decode cX0_total 5 = .ok (.iconst 3, 1) := by decide +kernel
theorem dX0_total_6 : decode cX0_total 6 = .ok (.if_icmp .le 5, 3) := by decide +kernel
theorem dX0_total_9 : decode cX0_total 9 = .ok (.iconst (-1), 1) := by decide +kernel
theorem dX0_total_10 : decode cX0_total 10 = .ok (.ireturn, 1) := by decide +kernel
theorem dX0_total_11 : decode cX0_total 11 = .ok (.iconst 0, 1) := by decide +kernel
theorem dX0_total_12 : decode cX0_total 12 = .ok (.istore_n 2, 1) := by decide +kernel
theorem dX0_total_13 : decode cX0_total 13 = .ok (.iload_n 1, 1) := by decide +kernel
theorem dX0_total_14 : decode cX0_total 14 = .ok (.iconst 1, 1) := by decide +kernel
theorem dX0_total_15 : decode cX0_total 15 = .ok (.if_icmp .gt 46, 3) := by decide +kernel
theorem dX0_total_18 : decode cX0_total 18 = .ok (.iconst 0, 1) := by decide +kernel
theorem dX0_total_19 : decode cX0_total 19 = .ok (.istore_n 3, 1) := by decide +kernel
theorem dX0_total_20 : decode cX0_total 20 = .ok (.iload_n 3, 1) := by decide +kernel
theorem dX0_total_21 : decode cX0_total 21 = .ok (.aload_n 0, 1) := by decide +kernel
theorem dX0_total_22 : decode cX0_total 22 = .ok (.getfield 44, 3) := by decide +kernel
theorem dX0_total_25 : decode cX0_total 25 = .ok (.invokevirtual 92, 3) := by decide +kernel
theorem dX0_total_28 : decode cX0_total 28 = .ok (.if_icmp .ge 30, 3) := by decide +kernel
theorem dX0_total_31 : decode cX0_total 31 = .ok (.iload_n 2, 1) := by decide +kernel
theorem dX0_total_32 : decode cX0_total 32 = .ok (.iload_n 1, 1) := by decide +kernel
theorem dX0_total_33 : decode cX0_total 33 = .ok (.ifCond .ne 12, 3) := by decide +kernel
theorem dX0_total_36 : decode cX0_total 36 = .ok (.aload_n 0, 1) := by decide +kernel
theorem dX0_total_37 : decode cX0_total 37 = .ok (.getfield 28, 3) := by decide +kernel
theorem dX0_total_40 : decode cX0_total 40 = .ok (.iload_n 3, 1) := by decide +kernel
theorem dX0_total_41 : decode cX0_total 41 = .ok (.iaload, 1) := by decide +kernel
theorem dX0_total_42 : decode cX0_total 42 = .ok (.goto 8, 3) := by decide +kernel
theorem dX0_total_45 : decode cX0_total 45 = .ok (.aload_n 0, 1) := by decide +kernel
theorem dX0_total_46 : decode cX0_total 46 = .ok (.iload_n 3, 1) := by decide +kernel
theorem dX0_total_47 : decode cX0_total 47 = .ok (.invokevirtual 156, 3) := by decide +kernel
theorem dX0_total_50 : decode cX0_total 50 = .ok (.iadd, 1) := by decide +kernel
theorem dX0_total_51 : decode cX0_total 51 = .ok (.istore_n 2, 1) := by decide +kernel
theorem dX0_total_52 : decode cX0_total 52 = .ok (.iinc 3 1, 3) := by decide +kernel
theorem dX0_total_55 : decode cX0_total 55 = .ok (.goto (-35), 3) := by decide +kernel
theorem dX0_total_58 : decode cX0_total 58 = .ok (.goto 51, 3) := by decide +kernel
theorem dX0_total_61 : decode cX0_total 61 = .ok (.iconst 0, 1) := by decide +kernel
theorem dX0_total_62 : decode cX0_total 62 = .ok (.istore_n 3, 1) := by decide +kernel
theorem dX0_total_63 : decode cX0_total 63 = .ok (.iload_n 3, 1) := by decide +kernel
theorem dX0_total_64 : decode cX0_total 64 = .ok (.aload_n 0, 1) := by decide +kernel
theorem dX0_total_65 : decode cX0_total 65 = .ok (.getfield 44, 3) := by decide +kernel
theorem dX0_total_68 : decode cX0_total 68 = .ok (.getfield 77, 3) := by decide +kernel
theorem dX0_total_71 : decode cX0_total 71 = .ok (.if_icmp .ge 38, 3) := by decide +kernel
theorem dX0_total_74 : decode cX0_total 74 = .ok (.iload_n 2, 1) := by decide +kernel
theorem dX0_total_75 : decode cX0_total 75 = .ok (.iload_n 1, 1) := by decide +kernel
theorem dX0_total_76 : decode cX0_total 76 = .ok (.iconst 2, 1) := by decide +kernel
theorem dX0_total_77 : decode cX0_total 77 = .ok (.if_icmp .ne 11, 3) := by decide +kernel
theorem dX0_total_80 : decode cX0_total 80 = .ok (.aload_n 0, 1) := by decide +kernel
theorem dX0_total_81 : decode cX0_total 81 = .ok (.iload_n 3, 1) := by decide +kernel
theorem dX0_total_82 : decode cX0_total 82 = .ok (.invokevirtual 159, 3) := by decide +kernel
theorem dX0_total_85 : decode cX0_total 85 = .ok (.goto 16, 3) := by decide +kernel
theorem dX0_total_88 : decode cX0_total 88 = .ok (.aload_n 0, 1) := by decide +kernel
theorem dX0_total_89 : decode cX0_total 89 = .ok (.getfield 37, 3) := by decide +kernel
theorem dX0_total_92 : decode cX0_total 92 = .ok (.iload_n 3, 1) := by decide +kernel
theorem dX0_total_93 : decode cX0_total 93 = .ok (.iaload, 1) := by decide +kernel
theorem dX0_total_94 : decode cX0_total 94 = .ok (.aload_n 0, 1) := by decide +kernel
theorem dX0_total_95 : decode cX0_total 95 = .ok (.getfield 34, 3) := by decide +kernel
theorem dX0_total_98 : decode cX0_total 98 = .ok (.iload_n 3, 1) := by decide +kernel
theorem dX0_total_99 : decode cX0_total 99 = .ok (.iaload, 1) := by decide +kernel
theorem dX0_total_100 : decode cX0_total 100 = .ok (.isub, 1) := by decide +kernel
theorem dX0_total_101 : decode cX0_total 101 = .ok (.iadd, 1) := by decide +kernel
theorem dX0_total_102 : decode cX0_total 102 = .ok (.istore_n 2, 1) := by decide +kernel
theorem dX0_total_103 : decode cX0_total 103 = .ok (.iinc 3 1, 3) := by decide +kernel
theorem dX0_total_106 : decode cX0_total 106 = .ok (.goto (-43), 3) := by decide +kernel
theorem dX0_total_109 : decode cX0_total 109 = .ok (.iload_n 2, 1) := by decide +kernel
theorem dX0_total_110 : decode cX0_total 110 = .ok (.ireturn, 1) := by decide +kernel
def pX0_total_L63 (x1 : Int32) (M : Mm) (s : Int32 × Int32) : Option ((Int32 × Int32) ⊕ (Int32)) :=
if (M 4 1) ≤ s.2 then
(some (Sum.inr s.1))
else
(if x1 = 2 then
((pX0_flownBy s.2 M).bind fun v1 =>
bnd (s.1 + v1) fun v3 =>
some (Sum.inl (v3, s.2 + 1)))
else
((ald M 16 8 s.2).bind fun v4 =>
(ald M 15 8 s.2).bind fun v6 =>
bnd (s.1 + (v4 - v6)) fun v8 =>
some (Sum.inl (v8, s.2 + 1))))
def pX0_total_L20 (x1 : Int32) (M : Mm) (s : Int32 × Int32) : Option ((Int32 × Int32) ⊕ (Int32)) :=
if (pX4_stops 4 M) ≤ s.2 then
(some (Sum.inr s.1))
else
(if x1 = 0 then
((ald M 13 10 s.2).bind fun v24 =>
bnd (s.1 + v24) fun v26 =>
some (Sum.inl (v26, s.2 + 1)))
else
((pX0_drivenTo s.2 M).bind fun v27 =>
bnd (s.1 + v27) fun v29 =>
some (Sum.inl (v29, s.2 + 1))))
def pX0_total (x1 : Int32) (M : Mm) : Option (Int32) :=
if x1 < 0 then
(some (-1))
else
(if x1 ≤ 3 then
(if 1 < x1 then
((itr (pX0_total_L63 x1 M) fuel (0, 0)).bind fun x9 =>
some x9)
else
((itr (pX0_total_L20 x1 M) fuel (0, 0)).bind fun x30 =>
some x30))
else
(some (-1)))
abbrev zX0_total : Zx := (cX0_total, RX0, 4, 2, (some .int))
set_option maxRecDepth 100000 in
set_option maxHeartbeats 4000000 in
theorem tX0_total {l : Launch} {Y : Sx} {M : Mm} {x1 : Int32} {q : Int32} (hY : isA Y) (h : pX0_total x1 M = some q) : Ct l Y yX0_total cX0_total 4 (some .int) 2 [.ref (adr Y 7), .int x1] M (some q) M := by
  refine Ct.of (by decide) rfl (lv := [(0, .ref (adr Y 7)), (1, .int x1)]) rfl ?_
  intro K hkl C
  change Cx K zX0_total Y at C
  subst hkl
  unfold pX0_total at h
  show Wp K zX0_total Y (Qm K Y (some q) M) M 0 [(0, .ref (adr Y 7)), (1, .int x1)] []
  refine w_iload_n C (pc := 0) dX0_total_0 1 rfl ?_
  refine w_iflt C (pc := 1) 9 dX0_total_1 (by decide) (fun c => ?_) (fun c => ?_)
  · have h := it_t h c
    refine w_iconst C (pc := 9) dX0_total_9 (v := (-1)) (by decide) ?_
    exact w_retR C (pc := 10) dX0_total_10 rfl (Option.some.inj h)
  · have h := it_f h c
    refine w_iload_n C (pc := 4) dX0_total_4 1 rfl ?_
    refine w_iconst C (pc := 5) dX0_total_5 (v := 3) (by decide) ?_
    refine w_icle C (pc := 6) 11 dX0_total_6 (by decide) (fun c => ?_) (fun c => ?_)
    · have h := it_t h c
      refine w_iconst C (pc := 11) dX0_total_11 (v := 0) (by decide) ?_
      refine w_istore_n C (pc := 12) dX0_total_12 (lv' := [(0, .ref (adr Y 7)), (1, .int x1), (2, .int 0)]) rfl rfl rfl ?_
      refine w_iload_n C (pc := 13) dX0_total_13 1 rfl ?_
      refine w_iconst C (pc := 14) dX0_total_14 (v := 1) (by decide) ?_
      refine w_icgt C (pc := 15) 61 dX0_total_15 (by decide) (fun c => ?_) (fun c => ?_)
      · have h := it_t h c
        refine w_iconst C (pc := 61) dX0_total_61 (v := 0) (by decide) ?_
        refine w_istore_n C (pc := 62) dX0_total_62 (lv' := [(0, .ref (adr Y 7)), (1, .int x1), (2, .int 0), (3, .int 0)]) rfl rfl rfl ?_
        obtain ⟨x9, e10, h⟩ := ob h
        refine itr_W (P := fun s11 => Wp K zX0_total Y (Qm K Y (some q) M) M 63 [(0, .ref (adr Y 7)), (1, .int x1), (2, .int s11.1), (3, .int s11.2)] []) (R := fun x9 => Wp K zX0_total Y (Qm K Y (some q) M) M 109 [(0, .ref (adr Y 7)), (1, .int x1), (2, .int x9)] []) ?_ fuel (0, 0) x9 e10 ?_
        · intro s11 r12 h15 ki13 kx14
          unfold pX0_total_L63 at h15
          show Wp K zX0_total Y (Qm K Y (some q) M) M 63 [(0, .ref (adr Y 7)), (1, .int x1), (2, .int s11.1), (3, .int s11.2)] []
          refine w_iload_n C (pc := 63) dX0_total_63 3 rfl ?_
          refine w_aload_n C (pc := 64) dX0_total_64 0 rfl ?_
          refine w_getR C (pc := 65) dX0_total_65 f_X0_44 (sA_7 hY) rfl ?_
          refine w_getI C (pc := 68) dX0_total_68 f_X0_77 (sA_4 hY) rfl ?_
          refine w_icge C (pc := 71) 109 dX0_total_71 (by decide) (fun c => ?_) (fun c => ?_)
          · have h15 := it_t h15 c
            obtain rfl := Option.some.inj h15
            refine w_lv [0, 1, 2] rfl ?_
            exact kx14 _ rfl
          · have h15 := it_f h15 c
            refine w_iload_n C (pc := 74) dX0_total_74 2 rfl ?_
            refine w_iload_n C (pc := 75) dX0_total_75 1 rfl ?_
            refine w_iconst C (pc := 76) dX0_total_76 (v := 2) (by decide) ?_
            refine w_icne C (pc := 77) 88 dX0_total_77 (by decide) (fun c => ?_) (fun c => ?_)
            · have h15 := it_t h15 c
              refine w_aload_n C (pc := 80) dX0_total_80 0 rfl ?_
              refine w_iload_n C (pc := 81) dX0_total_81 3 rfl ?_
              obtain ⟨v16, e17, h15⟩ := ob h15
              refine w_cVi C (pc := 82) dX0_total_82 my_X0_flownBy mi_X0_flownBy ml_X0_159 (sA_7 hY) rfl rfl rfl [.int s11.2] rfl rfl (Nat.le_of_ble_eq_true rfl) (tX0_flownBy hY  e17) ?_
              refine w_goto C (pc := 85) 101 dX0_total_85 (by decide) ?_
              refine w_iadd C (pc := 101) dX0_total_101 ?_
              refine w_bnd h15 (fun v18 h15 => ?_)
              refine w_istore_n C (pc := 102) dX0_total_102 (lv' := [(0, .ref (adr Y 7)), (1, .int x1), (2, .int v18), (3, .int s11.2)]) rfl rfl rfl ?_
              refine w_iinc C (pc := 103) dX0_total_103 3 rfl (v := 1) (lv' := [(0, .ref (adr Y 7)), (1, .int x1), (2, .int v18), (3, .int (s11.2 + 1))]) (by decide) rfl rfl rfl ?_
              refine w_goto C (pc := 106) 63 dX0_total_106 (by decide) ?_
              obtain rfl := Option.some.inj h15
              exact ki13 _ rfl
            · have h15 := it_f h15 c
              refine w_aload_n C (pc := 88) dX0_total_88 0 rfl ?_
              refine w_getR C (pc := 89) dX0_total_89 f_X0_37 (sA_7 hY) rfl ?_
              refine w_iload_n C (pc := 92) dX0_total_92 3 rfl ?_
              obtain ⟨v19, e20, h15⟩ := ob h15
              refine w_iald C (pc := 93) dX0_total_93 (sA_16 hY) e20 ?_
              refine w_aload_n C (pc := 94) dX0_total_94 0 rfl ?_
              refine w_getR C (pc := 95) dX0_total_95 f_X0_34 (sA_7 hY) rfl ?_
              refine w_iload_n C (pc := 98) dX0_total_98 3 rfl ?_
              obtain ⟨v21, e22, h15⟩ := ob h15
              refine w_iald C (pc := 99) dX0_total_99 (sA_15 hY) e22 ?_
              refine w_isub C (pc := 100) dX0_total_100 ?_
              refine w_iadd C (pc := 101) dX0_total_101 ?_
              refine w_bnd h15 (fun v23 h15 => ?_)
              refine w_istore_n C (pc := 102) dX0_total_102 (lv' := [(0, .ref (adr Y 7)), (1, .int x1), (2, .int v23), (3, .int s11.2)]) rfl rfl rfl ?_
              refine w_iinc C (pc := 103) dX0_total_103 3 rfl (v := 1) (lv' := [(0, .ref (adr Y 7)), (1, .int x1), (2, .int v23), (3, .int (s11.2 + 1))]) (by decide) rfl rfl rfl ?_
              refine w_goto C (pc := 106) 63 dX0_total_106 (by decide) ?_
              obtain rfl := Option.some.inj h15
              exact ki13 _ rfl
        · refine w_iload_n C (pc := 109) dX0_total_109 2 rfl ?_
          exact w_retR C (pc := 110) dX0_total_110 rfl (Option.some.inj h)
      · have h := it_f h c
        refine w_iconst C (pc := 18) dX0_total_18 (v := 0) (by decide) ?_
        refine w_istore_n C (pc := 19) dX0_total_19 (lv' := [(0, .ref (adr Y 7)), (1, .int x1), (2, .int 0), (3, .int 0)]) rfl rfl rfl ?_
        obtain ⟨x30, e31, h⟩ := ob h
        refine itr_W (P := fun s32 => Wp K zX0_total Y (Qm K Y (some q) M) M 20 [(0, .ref (adr Y 7)), (1, .int x1), (2, .int s32.1), (3, .int s32.2)] []) (R := fun x30 => Wp K zX0_total Y (Qm K Y (some q) M) M 58 [(0, .ref (adr Y 7)), (1, .int x1), (2, .int x30)] []) ?_ fuel (0, 0) x30 e31 ?_
        · intro s32 r33 h36 ki34 kx35
          unfold pX0_total_L20 at h36
          show Wp K zX0_total Y (Qm K Y (some q) M) M 20 [(0, .ref (adr Y 7)), (1, .int x1), (2, .int s32.1), (3, .int s32.2)] []
          refine w_iload_n C (pc := 20) dX0_total_20 3 rfl ?_
          refine w_aload_n C (pc := 21) dX0_total_21 0 rfl ?_
          refine w_getR C (pc := 22) dX0_total_22 f_X0_44 (sA_7 hY) rfl ?_
          refine w_cVi C (pc := 25) dX0_total_25 my_X4_stops mi_X4_stops ml_X0_92 (sA_4 hY) rfl rfl rfl [] rfl rfl (Nat.le_of_ble_eq_true rfl) (tX4_stops (kPlan_4 hY) rfl) ?_
          refine w_icge C (pc := 28) 58 dX0_total_28 (by decide) (fun c => ?_) (fun c => ?_)
          · have h36 := it_t h36 c
            obtain rfl := Option.some.inj h36
            refine w_lv [0, 1, 2] rfl ?_
            exact kx35 _ rfl
          · have h36 := it_f h36 c
            refine w_iload_n C (pc := 31) dX0_total_31 2 rfl ?_
            refine w_iload_n C (pc := 32) dX0_total_32 1 rfl ?_
            refine w_ifne C (pc := 33) 45 dX0_total_33 (by decide) (fun c => ?_) (fun c => ?_)
            · have h36 := it_t h36 c
              refine w_aload_n C (pc := 36) dX0_total_36 0 rfl ?_
              refine w_getR C (pc := 37) dX0_total_37 f_X0_28 (sA_7 hY) rfl ?_
              refine w_iload_n C (pc := 40) dX0_total_40 3 rfl ?_
              obtain ⟨v37, e38, h36⟩ := ob h36
              refine w_iald C (pc := 41) dX0_total_41 (sA_13 hY) e38 ?_
              refine w_goto C (pc := 42) 50 dX0_total_42 (by decide) ?_
              refine w_iadd C (pc := 50) dX0_total_50 ?_
              refine w_bnd h36 (fun v39 h36 => ?_)
              refine w_istore_n C (pc := 51) dX0_total_51 (lv' := [(0, .ref (adr Y 7)), (1, .int x1), (2, .int v39), (3, .int s32.2)]) rfl rfl rfl ?_
              refine w_iinc C (pc := 52) dX0_total_52 3 rfl (v := 1) (lv' := [(0, .ref (adr Y 7)), (1, .int x1), (2, .int v39), (3, .int (s32.2 + 1))]) (by decide) rfl rfl rfl ?_
              refine w_goto C (pc := 55) 20 dX0_total_55 (by decide) ?_
              obtain rfl := Option.some.inj h36
              exact ki34 _ rfl
            · have h36 := it_f h36 c
              refine w_aload_n C (pc := 45) dX0_total_45 0 rfl ?_
              refine w_iload_n C (pc := 46) dX0_total_46 3 rfl ?_
              obtain ⟨v40, e41, h36⟩ := ob h36
              refine w_cVi C (pc := 47) dX0_total_47 my_X0_drivenTo mi_X0_drivenTo ml_X0_156 (sA_7 hY) rfl rfl rfl [.int s32.2] rfl rfl (Nat.le_of_ble_eq_true rfl) (tX0_drivenTo hY  e41) ?_
              refine w_iadd C (pc := 50) dX0_total_50 ?_
              refine w_bnd h36 (fun v42 h36 => ?_)
              refine w_istore_n C (pc := 51) dX0_total_51 (lv' := [(0, .ref (adr Y 7)), (1, .int x1), (2, .int v42), (3, .int s32.2)]) rfl rfl rfl ?_
              refine w_iinc C (pc := 52) dX0_total_52 3 rfl (v := 1) (lv' := [(0, .ref (adr Y 7)), (1, .int x1), (2, .int v42), (3, .int (s32.2 + 1))]) (by decide) rfl rfl rfl ?_
              refine w_goto C (pc := 55) 20 dX0_total_55 (by decide) ?_
              obtain rfl := Option.some.inj h36
              exact ki34 _ rfl
        · refine w_goto C (pc := 58) 109 dX0_total_58 (by decide) ?_
          refine w_iload_n C (pc := 109) dX0_total_109 2 rfl ?_
          exact w_retR C (pc := 110) dX0_total_110 rfl (Option.some.inj h)
    · have h := it_f h c
      refine w_iconst C (pc := 9) dX0_total_9 (v := (-1)) (by decide) ?_
      exact w_retR C (pc := 10) dX0_total_10 rfl (Option.some.inj h)
end
section
theorem dX5_leg_0 : decode cX5_leg 0 = .ok (.aload_n 0, 1) := by decide +kernel
theorem dX5_leg_1 : decode cX5_leg 1 = .ok (.getfield 9, 3) := by decide +kernel
theorem dX5_leg_4 : decode cX5_leg 4 = .ok (.aload_n 0, 1) := by decide +kernel
theorem dX5_leg_5 : decode cX5_leg 5 = .ok (.getfield 25, 3) := by decide +kernel
theorem dX5_leg_8 : decode cX5_leg 8 = .ok (.iload_n 1, 1) := by decide +kernel
theorem dX5_leg_9 : decode cX5_leg 9 = .ok (.iaload, 1) := by decide +kernel
theorem dX5_leg_10 : decode cX5_leg 10 = .ok (.bipush 9, 2) := by decide +kernel
theorem dX5_leg_12 : decode cX5_leg 12 = .ok (.imul, 1) := by decide +kernel
theorem dX5_leg_13 : decode cX5_leg 13 = .ok (.aload_n 0, 1) := by decide +kernel
theorem dX5_leg_14 : decode cX5_leg 14 = .ok (.getfield 25, 3) := by decide +kernel
theorem dX5_leg_17 : decode cX5_leg 17 = .ok (.iload_n 2, 1) := by decide +kernel
theorem dX5_leg_18 : decode cX5_leg 18 = .ok (.iaload, 1) := by decide +kernel
theorem dX5_leg_19 : decode cX5_leg 19 = .ok (.iadd, 1) := by decide +kernel
theorem dX5_leg_20 : decode cX5_leg 20 = .ok (.iaload, 1) := by decide +kernel
theorem dX5_leg_21 : decode cX5_leg 21 = .ok (.ireturn, 1) := by decide +kernel
def pX5_leg (x1 : Int32) (x2 : Int32) (M : Mm) : Option (Int32) :=
(ald M 22 10 x1).bind fun v1 =>
(ald M 22 10 x2).bind fun v3 =>
(ald M 18 81 ((v1 * 9) + v3)).bind fun v5 =>
some v5
abbrev zX5_leg : Zx := (cX5_leg, RX5, 3, 0, (some .int))
set_option maxRecDepth 100000 in
set_option maxHeartbeats 4000000 in
theorem tX5_leg {l : Launch} {Y : Sx} {M : Mm} {x1 : Int32} {x2 : Int32} {q : Int32} (hY : isA Y) (h : pX5_leg x1 x2 M = some q) : Ct l Y yX5_leg cX5_leg 3 (some .int) 0 [.ref (adr Y 17), .int x1, .int x2] M (some q) M := by
  refine Ct.of (by decide) rfl (lv := [(0, .ref (adr Y 17)), (1, .int x1), (2, .int x2)]) rfl ?_
  intro K hkl C
  change Cx K zX5_leg Y at C
  subst hkl
  unfold pX5_leg at h
  show Wp K zX5_leg Y (Qm K Y (some q) M) M 0 [(0, .ref (adr Y 17)), (1, .int x1), (2, .int x2)] []
  refine w_aload_n C (pc := 0) dX5_leg_0 0 rfl ?_
  refine w_getR C (pc := 1) dX5_leg_1 f_X5_9 (sA_17 hY) rfl ?_
  refine w_aload_n C (pc := 4) dX5_leg_4 0 rfl ?_
  refine w_getR C (pc := 5) dX5_leg_5 f_X5_25 (sA_17 hY) rfl ?_
  refine w_iload_n C (pc := 8) dX5_leg_8 1 rfl ?_
  obtain ⟨v1, e2, h⟩ := ob h
  refine w_iald C (pc := 9) dX5_leg_9 (sA_22 hY) e2 ?_
  refine w_bipush C (pc := 10) dX5_leg_10 (v := 9) (by decide) ?_
  refine w_imul C (pc := 12) dX5_leg_12 ?_
  refine w_aload_n C (pc := 13) dX5_leg_13 0 rfl ?_
  refine w_getR C (pc := 14) dX5_leg_14 f_X5_25 (sA_17 hY) rfl ?_
  refine w_iload_n C (pc := 17) dX5_leg_17 2 rfl ?_
  obtain ⟨v3, e4, h⟩ := ob h
  refine w_iald C (pc := 18) dX5_leg_18 (sA_22 hY) e4 ?_
  refine w_iadd C (pc := 19) dX5_leg_19 ?_
  obtain ⟨v5, e6, h⟩ := ob h
  refine w_iald C (pc := 20) dX5_leg_20 (sA_18 hY) e6 ?_
  exact w_retR C (pc := 21) dX5_leg_21 rfl (Option.some.inj h)
theorem dX5_beginWithVan_0 : decode cX5_beginWithVan 0 = .ok (.aload_n 0, 1) := by decide +kernel
theorem dX5_beginWithVan_1 : decode cX5_beginWithVan 1 = .ok (.iload_n 1, 1) := by decide +kernel
theorem dX5_beginWithVan_2 : decode cX5_beginWithVan 2 = .ok (.iconst 1, 1) := by decide +kernel
theorem dX5_beginWithVan_3 : decode cX5_beginWithVan 3 = .ok (.isub, 1) := by decide +kernel
theorem dX5_beginWithVan_4 : decode cX5_beginWithVan 4 = .ok (.iload_n 1, 1) := by decide +kernel
theorem dX5_beginWithVan_5 : decode cX5_beginWithVan 5 = .ok (.invokevirtual 113, 3) := by decide +kernel
theorem dX5_beginWithVan_8 : decode cX5_beginWithVan 8 = .ok (.istore_n 2, 1) := by decide +kernel
theorem dX5_beginWithVan_9 : decode cX5_beginWithVan 9 = .ok (.aload_n 0, 1) := by decide +kernel
theorem dX5_beginWithVan_10 : decode cX5_beginWithVan 10 = .ok (.getfield 28, 3) := by decide +kernel
theorem dX5_beginWithVan_13 : decode cX5_beginWithVan 13 = .ok (.iload_n 1, 1) := by decide +kernel
theorem dX5_beginWithVan_14 : decode cX5_beginWithVan 14 = .ok (.aload_n 0, 1) := by decide +kernel
theorem dX5_beginWithVan_15 : decode cX5_beginWithVan 15 = .ok (.getfield 28, 3) := by decide +kernel
theorem dX5_beginWithVan_18 : decode cX5_beginWithVan 18 = .ok (.iload_n 1, 1) := by decide +kernel
theorem dX5_beginWithVan_19 : decode cX5_beginWithVan 19 = .ok (.iconst 1, 1) := by decide +kernel
theorem dX5_beginWithVan_20 : decode cX5_beginWithVan 20 = .ok (.isub, 1) := by decide +kernel
theorem dX5_beginWithVan_21 : decode cX5_beginWithVan 21 = .ok (.iaload, 1) := by decide +kernel
theorem dX5_beginWithVan_22 : decode cX5_beginWithVan 22 = .ok (.iload_n 2, 1) := by decide +kernel
theorem dX5_beginWithVan_23 : decode cX5_beginWithVan 23 = .ok (.iadd, 1) := by decide +kernel
theorem dX5_beginWithVan_24 : decode cX5_beginWithVan 24 = .ok (.iastore, 1) := by decide +kernel
theorem dX5_beginWithVan_25 : decode cX5_beginWithVan 25 = .ok (.aload_n 0, 1) := by decide +kernel
theorem dX5_beginWithVan_26 : decode cX5_beginWithVan 26 = .ok (.getfield 31, 3) := by decide +kernel
theorem dX5_beginWithVan_29 : decode cX5_beginWithVan 29 = .ok (.iload_n 1, 1) := by decide +kernel
theorem dX5_beginWithVan_30 : decode cX5_beginWithVan 30 = .ok (.aload_n 0, 1) := by decide +kernel
theorem dX5_beginWithVan_31 : decode cX5_beginWithVan 31 = .ok (.getfield 31, 3) := by decide +kernel
theorem dX5_beginWithVan_34 : decode cX5_beginWithVan 34 = .ok (.iload_n 1, 1) := by decide +kernel
theorem dX5_beginWithVan_35 : decode cX5_beginWithVan 35 = .ok (.iconst 1, 1) := by decide +kernel
theorem dX5_beginWithVan_36 : decode cX5_beginWithVan 36 = .ok (.isub, 1) := by decide +kernel
theorem dX5_beginWithVan_37 : decode cX5_beginWithVan 37 = .ok (.iaload, 1) := by decide +kernel
theorem dX5_beginWithVan_38 : decode cX5_beginWithVan 38 = .ok (.iload_n 2, 1) := by decide +kernel
theorem dX5_beginWithVan_39 : decode cX5_beginWithVan 39 = .ok (.iadd, 1) := by decide +kernel
theorem dX5_beginWithVan_40 : decode cX5_beginWithVan 40 = .ok (.iastore, 1) := by decide +kernel
theorem dX5_beginWithVan_41 : decode cX5_beginWithVan 41 = .ok (.aload_n 0, 1) := by decide +kernel
theorem dX5_beginWithVan_42 : decode cX5_beginWithVan 42 = .ok (.getfield 34, 3) := by decide +kernel
theorem dX5_beginWithVan_45 : decode cX5_beginWithVan 45 = .ok (.iload_n 1, 1) := by decide +kernel
theorem dX5_beginWithVan_46 : decode cX5_beginWithVan 46 = .ok (.aload_n 0, 1) := by decide +kernel
theorem dX5_beginWithVan_47 : decode cX5_beginWithVan 47 = .ok (.getfield 34, 3) := by decide +kernel
theorem dX5_beginWithVan_50 : decode cX5_beginWithVan 50 = .ok (.iload_n 1, 1) := by decide +kernel
theorem dX5_beginWithVan_51 : decode cX5_beginWithVan 51 = .ok (.iconst 1, 1) := by decide +kernel
theorem dX5_beginWithVan_52 : decode cX5_beginWithVan 52 = .ok (.isub, 1) := by decide +kernel
theorem dX5_beginWithVan_53 : decode cX5_beginWithVan 53 = .ok (.iaload, 1) := by decide +kernel
theorem dX5_beginWithVan_54 : decode cX5_beginWithVan 54 = .ok (.iastore, 1) := by decide +kernel
theorem dX5_beginWithVan_55 : decode cX5_beginWithVan 55 = .ok (.aload_n 0, 1) := by decide +kernel
theorem dX5_beginWithVan_56 : decode cX5_beginWithVan 56 = .ok (.getfield 37, 3) := by decide +kernel
theorem dX5_beginWithVan_59 : decode cX5_beginWithVan 59 = .ok (.iload_n 1, 1) := by decide +kernel
theorem dX5_beginWithVan_60 : decode cX5_beginWithVan 60 = .ok (.iload_n 1, 1) := by decide +kernel
theorem dX5_beginWithVan_61 : decode cX5_beginWithVan 61 = .ok (.iconst 1, 1) := by decide +kernel
theorem dX5_beginWithVan_62 : decode cX5_beginWithVan 62 = .ok (.isub, 1) := by decide +kernel
theorem dX5_beginWithVan_63 : decode cX5_beginWithVan 63 = .ok (.iastore, 1) := by decide +kernel
theorem dX5_beginWithVan_64 : decode cX5_beginWithVan 64 = .ok (.aload_n 0, 1) := by decide +kernel
theorem dX5_beginWithVan_65 : decode cX5_beginWithVan 65 = .ok (.getfield 40, 3) := by decide +kernel
theorem dX5_beginWithVan_68 : decode cX5_beginWithVan 68 = .ok (.iload_n 1, 1) := by decide +kernel
theorem dX5_beginWithVan_69 : decode cX5_beginWithVan 69 = .ok (.iconst 0, 1) := by decide +kernel
theorem dX5_beginWithVan_70 : decode cX5_beginWithVan 70 = .ok (.iastore, 1) := by decide +kernel
theorem dX5_beginWithVan_71 : decode cX5_beginWithVan 71 = .ok (.return_, 1) := by decide +kernel
def pX5_beginWithVan (x1 : Int32) (M : Mm) : Option (Mm) :=
(pX5_leg (x1 - 1) x1 M).bind fun v1 =>
(ald M 23 10 (x1 - 1)).bind fun v3 =>
(ast M 23 10 x1 (v3 + v1)).bind fun M5 =>
(ald M5 24 10 (x1 - 1)).bind fun v7 =>
(ast M5 24 10 x1 (v7 + v1)).bind fun M9 =>
(ald M9 25 10 (x1 - 1)).bind fun v11 =>
(ast M9 25 10 x1 v11).bind fun M13 =>
(ast M13 26 10 x1 (x1 - 1)).bind fun M15 =>
(ast M15 27 10 x1 0).bind fun M17 =>
some M17
abbrev zX5_beginWithVan : Zx := (cX5_beginWithVan, RX5, 3, 1, none)
set_option maxRecDepth 100000 in
set_option maxHeartbeats 4000000 in
theorem tX5_beginWithVan {l : Launch} {Y : Sx} {M : Mm} {x1 : Int32} {q : Mm} (hY : isA Y) (h : pX5_beginWithVan x1 M = some q) : Ct l Y yX5_beginWithVan cX5_beginWithVan 3 none 1 [.ref (adr Y 17), .int x1] M none q := by
  refine Ct.of (by decide) rfl (lv := [(0, .ref (adr Y 17)), (1, .int x1)]) rfl ?_
  intro K hkl C
  change Cx K zX5_beginWithVan Y at C
  subst hkl
  unfold pX5_beginWithVan at h
  show Wp K zX5_beginWithVan Y (Qm K Y none q) M 0 [(0, .ref (adr Y 17)), (1, .int x1)] []
  refine w_aload_n C (pc := 0) dX5_beginWithVan_0 0 rfl ?_
  refine w_iload_n C (pc := 1) dX5_beginWithVan_1 1 rfl ?_
  refine w_iconst C (pc := 2) dX5_beginWithVan_2 (v := 1) (by decide) ?_
  refine w_isub C (pc := 3) dX5_beginWithVan_3 ?_
  refine w_iload_n C (pc := 4) dX5_beginWithVan_4 1 rfl ?_
  obtain ⟨v1, e2, h⟩ := ob h
  refine w_cVi C (pc := 5) dX5_beginWithVan_5 my_X5_leg mi_X5_leg ml_X5_113 (sA_17 hY) rfl rfl rfl [.int (x1 - 1), .int x1] rfl rfl (Nat.le_of_ble_eq_true rfl) (tX5_leg hY  e2) ?_
  refine w_istore_n C (pc := 8) dX5_beginWithVan_8 (lv' := [(0, .ref (adr Y 17)), (1, .int x1), (2, .int v1)]) rfl rfl rfl ?_
  refine w_aload_n C (pc := 9) dX5_beginWithVan_9 0 rfl ?_
  refine w_getR C (pc := 10) dX5_beginWithVan_10 f_X5_28 (sA_17 hY) rfl ?_
  refine w_iload_n C (pc := 13) dX5_beginWithVan_13 1 rfl ?_
  refine w_aload_n C (pc := 14) dX5_beginWithVan_14 0 rfl ?_
  refine w_getR C (pc := 15) dX5_beginWithVan_15 f_X5_28 (sA_17 hY) rfl ?_
  refine w_iload_n C (pc := 18) dX5_beginWithVan_18 1 rfl ?_
  refine w_iconst C (pc := 19) dX5_beginWithVan_19 (v := 1) (by decide) ?_
  refine w_isub C (pc := 20) dX5_beginWithVan_20 ?_
  obtain ⟨v3, e4, h⟩ := ob h
  refine w_iald C (pc := 21) dX5_beginWithVan_21 (sA_23 hY) e4 ?_
  refine w_iload_n C (pc := 22) dX5_beginWithVan_22 2 rfl ?_
  refine w_iadd C (pc := 23) dX5_beginWithVan_23 ?_
  obtain ⟨M5, e6, h⟩ := ob h
  refine w_iast C (pc := 24) dX5_beginWithVan_24 (sA_23 hY) e6 ?_
  refine w_aload_n C (pc := 25) dX5_beginWithVan_25 0 rfl ?_
  refine w_getR C (pc := 26) dX5_beginWithVan_26 f_X5_31 (sA_17 hY) rfl ?_
  refine w_iload_n C (pc := 29) dX5_beginWithVan_29 1 rfl ?_
  refine w_aload_n C (pc := 30) dX5_beginWithVan_30 0 rfl ?_
  refine w_getR C (pc := 31) dX5_beginWithVan_31 f_X5_31 (sA_17 hY) rfl ?_
  refine w_iload_n C (pc := 34) dX5_beginWithVan_34 1 rfl ?_
  refine w_iconst C (pc := 35) dX5_beginWithVan_35 (v := 1) (by decide) ?_
  refine w_isub C (pc := 36) dX5_beginWithVan_36 ?_
  obtain ⟨v7, e8, h⟩ := ob h
  refine w_iald C (pc := 37) dX5_beginWithVan_37 (sA_24 hY) e8 ?_
  refine w_iload_n C (pc := 38) dX5_beginWithVan_38 2 rfl ?_
  refine w_iadd C (pc := 39) dX5_beginWithVan_39 ?_
  obtain ⟨M9, e10, h⟩ := ob h
  refine w_iast C (pc := 40) dX5_beginWithVan_40 (sA_24 hY) e10 ?_
  refine w_aload_n C (pc := 41) dX5_beginWithVan_41 0 rfl ?_
  refine w_getR C (pc := 42) dX5_beginWithVan_42 f_X5_34 (sA_17 hY) rfl ?_
  refine w_iload_n C (pc := 45) dX5_beginWithVan_45 1 rfl ?_
  refine w_aload_n C (pc := 46) dX5_beginWithVan_46 0 rfl ?_
  refine w_getR C (pc := 47) dX5_beginWithVan_47 f_X5_34 (sA_17 hY) rfl ?_
  refine w_iload_n C (pc := 50) dX5_beginWithVan_50 1 rfl ?_
  refine w_iconst C (pc := 51) dX5_beginWithVan_51 (v := 1) (by decide) ?_
  refine w_isub C (pc := 52) dX5_beginWithVan_52 ?_
  obtain ⟨v11, e12, h⟩ := ob h
  refine w_iald C (pc := 53) dX5_beginWithVan_53 (sA_25 hY) e12 ?_
  obtain ⟨M13, e14, h⟩ := ob h
  refine w_iast C (pc := 54) dX5_beginWithVan_54 (sA_25 hY) e14 ?_
  refine w_aload_n C (pc := 55) dX5_beginWithVan_55 0 rfl ?_
  refine w_getR C (pc := 56) dX5_beginWithVan_56 f_X5_37 (sA_17 hY) rfl ?_
  refine w_iload_n C (pc := 59) dX5_beginWithVan_59 1 rfl ?_
  refine w_iload_n C (pc := 60) dX5_beginWithVan_60 1 rfl ?_
  refine w_iconst C (pc := 61) dX5_beginWithVan_61 (v := 1) (by decide) ?_
  refine w_isub C (pc := 62) dX5_beginWithVan_62 ?_
  obtain ⟨M15, e16, h⟩ := ob h
  refine w_iast C (pc := 63) dX5_beginWithVan_63 (sA_26 hY) e16 ?_
  refine w_aload_n C (pc := 64) dX5_beginWithVan_64 0 rfl ?_
  refine w_getR C (pc := 65) dX5_beginWithVan_65 f_X5_40 (sA_17 hY) rfl ?_
  refine w_iload_n C (pc := 68) dX5_beginWithVan_68 1 rfl ?_
  refine w_iconst C (pc := 69) dX5_beginWithVan_69 (v := 0) (by decide) ?_
  obtain ⟨M17, e18, h⟩ := ob h
  refine w_iast C (pc := 70) dX5_beginWithVan_70 (sA_27 hY) e18 ?_
  exact w_retV C (pc := 71) dX5_beginWithVan_71 rfl (Option.some.inj h)
theorem dX5_bit_0 : decode cX5_bit 0 = .ok (.iconst 1, 1) := by decide +kernel
theorem dX5_bit_1 : decode cX5_bit 1 = .ok (.iload_n 1, 1) := by decide +kernel
theorem dX5_bit_2 : decode cX5_bit 2 = .ok (.iload_n 0, 1) := by decide +kernel
theorem dX5_bit_3 : decode cX5_bit 3 = .ok (.isub, 1) := by decide +kernel
theorem dX5_bit_4 : decode cX5_bit 4 = .ok (.iconst 1, 1) := by decide +kernel
theorem dX5_bit_5 : decode cX5_bit 5 = .ok (.isub, 1) := by decide +kernel
theorem dX5_bit_6 : decode cX5_bit 6 = .ok (.ishl, 1) := by decide +kernel
theorem dX5_bit_7 : decode cX5_bit 7 = .ok (.ireturn, 1) := by decide +kernel
def pX5_bit (x0 : Int32) (x1 : Int32) : Int32 :=
1 <<< (((x1 - x0) - 1) &&& 31)
abbrev zX5_bit : Zx := (cX5_bit, RX5, 2, 0, (some .int))
set_option maxRecDepth 100000 in
set_option maxHeartbeats 4000000 in
theorem tX5_bit {l : Launch} {Y : Sx} {M : Mm} {x0 : Int32} {x1 : Int32} {q : Int32} (h : pX5_bit x0 x1 = q) : Ct l Y yX5_bit cX5_bit 2 (some .int) 0 [.int x0, .int x1] M (some q) M := by
  refine Ct.of (by decide) rfl (lv := [(0, .int x0), (1, .int x1)]) rfl ?_
  intro K hkl C
  change Cx K zX5_bit Y at C
  subst hkl
  unfold pX5_bit at h
  show Wp K zX5_bit Y (Qm K Y (some q) M) M 0 [(0, .int x0), (1, .int x1)] []
  refine w_iconst C (pc := 0) dX5_bit_0 (v := 1) (by decide) ?_
  refine w_iload_n C (pc := 1) dX5_bit_1 1 rfl ?_
  refine w_iload_n C (pc := 2) dX5_bit_2 0 rfl ?_
  refine w_isub C (pc := 3) dX5_bit_3 ?_
  refine w_iconst C (pc := 4) dX5_bit_4 (v := 1) (by decide) ?_
  refine w_isub C (pc := 5) dX5_bit_5 ?_
  refine w_ishl C (pc := 6) dX5_bit_6 ?_
  exact w_retR C (pc := 7) dX5_bit_7 rfl h
theorem dX5_soonest_0 : decode cX5_soonest 0 = .ok (.aload_n 0, 1) := by decide +kernel
theorem dX5_soonest_1 : decode cX5_soonest 1 = .ok (.getfield 31, 3) := by decide +kernel
theorem dX5_soonest_4 : decode cX5_soonest 4 = .ok (.iload_n 1, 1) := by decide +kernel
theorem dX5_soonest_5 : decode cX5_soonest 5 = .ok (.iaload, 1) := by decide +kernel
theorem dX5_soonest_6 : decode cX5_soonest 6 = .ok (.aload_n 0, 1) := by decide +kernel
theorem dX5_soonest_7 : decode cX5_soonest 7 = .ok (.getfield 70, 3) := by decide +kernel
theorem dX5_soonest_10 : decode cX5_soonest 10 = .ok (.iadd, 1) := by decide +kernel
theorem dX5_soonest_11 : decode cX5_soonest 11 = .ok (.aload_n 0, 1) := by decide +kernel
theorem dX5_soonest_12 : decode cX5_soonest 12 = .ok (.iload_n 1, 1) := by decide +kernel
theorem dX5_soonest_13 : decode cX5_soonest 13 = .ok (.iload_n 2, 1) := by decide +kernel
theorem dX5_soonest_14 : decode cX5_soonest 14 = .ok (.invokevirtual 113, 3) := by decide +kernel
theorem dX5_soonest_17 : decode cX5_soonest 17 = .ok (.iadd, 1) := by decide +kernel
theorem dX5_soonest_18 : decode cX5_soonest 18 = .ok (.aload_n 0, 1) := by decide +kernel
theorem dX5_soonest_19 : decode cX5_soonest 19 = .ok (.getfield 73, 3) := by decide +kernel
theorem dX5_soonest_22 : decode cX5_soonest 22 = .ok (.iadd, 1) := by decide +kernel
theorem dX5_soonest_23 : decode cX5_soonest 23 = .ok (.ireturn, 1) := by decide +kernel
def pX5_soonest (x1 : Int32) (x2 : Int32) (M : Mm) : Option (Int32) :=
(ald M 24 10 x1).bind fun v1 =>
(pX5_leg x1 x2 M).bind fun v3 =>
some (((v1 + (M 17 2)) + v3) + (M 17 3))
abbrev zX5_soonest : Zx := (cX5_soonest, RX5, 3, 1, (some .int))
set_option maxRecDepth 100000 in
set_option maxHeartbeats 4000000 in
theorem tX5_soonest {l : Launch} {Y : Sx} {M : Mm} {x1 : Int32} {x2 : Int32} {q : Int32} (hY : isA Y) (h : pX5_soonest x1 x2 M = some q) : Ct l Y yX5_soonest cX5_soonest 3 (some .int) 1 [.ref (adr Y 17), .int x1, .int x2] M (some q) M := by
  refine Ct.of (by decide) rfl (lv := [(0, .ref (adr Y 17)), (1, .int x1), (2, .int x2)]) rfl ?_
  intro K hkl C
  change Cx K zX5_soonest Y at C
  subst hkl
  unfold pX5_soonest at h
  show Wp K zX5_soonest Y (Qm K Y (some q) M) M 0 [(0, .ref (adr Y 17)), (1, .int x1), (2, .int x2)] []
  refine w_aload_n C (pc := 0) dX5_soonest_0 0 rfl ?_
  refine w_getR C (pc := 1) dX5_soonest_1 f_X5_31 (sA_17 hY) rfl ?_
  refine w_iload_n C (pc := 4) dX5_soonest_4 1 rfl ?_
  obtain ⟨v1, e2, h⟩ := ob h
  refine w_iald C (pc := 5) dX5_soonest_5 (sA_24 hY) e2 ?_
  refine w_aload_n C (pc := 6) dX5_soonest_6 0 rfl ?_
  refine w_getI C (pc := 7) dX5_soonest_7 f_X5_70 (sA_17 hY) rfl ?_
  refine w_iadd C (pc := 10) dX5_soonest_10 ?_
  refine w_aload_n C (pc := 11) dX5_soonest_11 0 rfl ?_
  refine w_iload_n C (pc := 12) dX5_soonest_12 1 rfl ?_
  refine w_iload_n C (pc := 13) dX5_soonest_13 2 rfl ?_
  obtain ⟨v3, e4, h⟩ := ob h
  refine w_cVi C (pc := 14) dX5_soonest_14 my_X5_leg mi_X5_leg ml_X5_113 (sA_17 hY) rfl rfl rfl [.int x1, .int x2] rfl rfl (Nat.le_of_ble_eq_true rfl) (tX5_leg hY  e4) ?_
  refine w_iadd C (pc := 17) dX5_soonest_17 ?_
  refine w_aload_n C (pc := 18) dX5_soonest_18 0 rfl ?_
  refine w_getI C (pc := 19) dX5_soonest_19 f_X5_73 (sA_17 hY) rfl ?_
  refine w_iadd C (pc := 22) dX5_soonest_22 ?_
  exact w_retR C (pc := 23) dX5_soonest_23 rfl (Option.some.inj h)
theorem dX5_spared_0 : decode cX5_spared 0 = .ok (.aload_n 0, 1) := by decide +kernel
theorem dX5_spared_1 : decode cX5_spared 1 = .ok (.getfield 9, 3) := by decide +kernel
theorem dX5_spared_4 : decode cX5_spared 4 = .ok (.aload_n 0, 1) := by decide +kernel
theorem dX5_spared_5 : decode cX5_spared 5 = .ok (.getfield 25, 3) := by decide +kernel
theorem dX5_spared_8 : decode cX5_spared 8 = .ok (.iload_n 1, 1) := by decide +kernel
theorem dX5_spared_9 : decode cX5_spared 9 = .ok (.iconst 1, 1) := by decide +kernel
theorem dX5_spared_10 : decode cX5_spared 10 = .ok (.isub, 1) := by decide +kernel
theorem dX5_spared_11 : decode cX5_spared 11 = .ok (.iaload, 1) := by decide +kernel
theorem dX5_spared_12 : decode cX5_spared 12 = .ok (.bipush 9, 2) := by decide +kernel
theorem dX5_spared_14 : decode cX5_spared 14 = .ok (.imul, 1) := by decide +kernel
theorem dX5_spared_15 : decode cX5_spared 15 = .ok (.aload_n 0, 1) := by decide +kernel
theorem dX5_spared_16 : decode cX5_spared 16 = .ok (.getfield 25, 3) := by decide +kernel
theorem dX5_spared_19 : decode cX5_spared 19 = .ok (.iload_n 2, 1) := by decide +kernel
theorem dX5_spared_20 : decode cX5_spared 20 = .ok (.iconst 1, 1) := by decide +kernel
theorem dX5_spared_21 : decode cX5_spared 21 = .ok (.iadd, 1) := by decide +kernel
theorem dX5_spared_22 : decode cX5_spared 22 = .ok (.iaload, 1) := by decide +kernel
theorem dX5_spared_23 : decode cX5_spared 23 = .ok (.iadd, 1) := by decide +kernel
theorem dX5_spared_24 : decode cX5_spared 24 = .ok (.iaload, 1) := by decide +kernel
theorem dX5_spared_25 : decode cX5_spared 25 = .ok (.istore_n 3, 1) := by decide +kernel
theorem dX5_spared_26 : decode cX5_spared 26 = .ok (.aload_n 0, 1) := by decide +kernel
theorem dX5_spared_27 : decode cX5_spared 27 = .ok (.getfield 28, 3) := by decide +kernel
theorem dX5_spared_30 : decode cX5_spared 30 = .ok (.iload_n 2, 1) := by decide +kernel
theorem dX5_spared_31 : decode cX5_spared 31 = .ok (.iconst 1, 1) := by decide +kernel
theorem dX5_spared_32 : decode cX5_spared 32 = .ok (.iadd, 1) := by decide +kernel
theorem dX5_spared_33 : decode cX5_spared 33 = .ok (.iaload, 1) := by decide +kernel
theorem dX5_spared_34 : decode cX5_spared 34 = .ok (.aload_n 0, 1) := by decide +kernel
theorem dX5_spared_35 : decode cX5_spared 35 = .ok (.getfield 28, 3) := by decide +kernel
theorem dX5_spared_38 : decode cX5_spared 38 = .ok (.iload_n 1, 1) := by decide +kernel
theorem dX5_spared_39 : decode cX5_spared 39 = .ok (.iconst 1, 1) := by decide +kernel
theorem dX5_spared_40 : decode cX5_spared 40 = .ok (.isub, 1) := by decide +kernel
theorem dX5_spared_41 : decode cX5_spared 41 = .ok (.iaload, 1) := by decide +kernel
theorem dX5_spared_42 : decode cX5_spared 42 = .ok (.isub, 1) := by decide +kernel
theorem dX5_spared_43 : decode cX5_spared 43 = .ok (.iload_n 3, 1) := by decide +kernel
theorem dX5_spared_44 : decode cX5_spared 44 = .ok (.isub, 1) := by decide +kernel
theorem dX5_spared_45 : decode cX5_spared 45 = .ok (.ireturn, 1) := by decide +kernel
def pX5_spared (x1 : Int32) (x2 : Int32) (M : Mm) : Option (Int32) :=
(ald M 22 10 (x1 - 1)).bind fun v1 =>
(ald M 22 10 (x2 + 1)).bind fun v3 =>
(ald M 18 81 ((v1 * 9) + v3)).bind fun v5 =>
(ald M 23 10 (x2 + 1)).bind fun v7 =>
(ald M 23 10 (x1 - 1)).bind fun v9 =>
some ((v7 - v9) - v5)
abbrev zX5_spared : Zx := (cX5_spared, RX5, 4, 0, (some .int))
set_option maxRecDepth 100000 in
set_option maxHeartbeats 4000000 in
theorem tX5_spared {l : Launch} {Y : Sx} {M : Mm} {x1 : Int32} {x2 : Int32} {q : Int32} (hY : isA Y) (h : pX5_spared x1 x2 M = some q) : Ct l Y yX5_spared cX5_spared 4 (some .int) 0 [.ref (adr Y 17), .int x1, .int x2] M (some q) M := by
  refine Ct.of (by decide) rfl (lv := [(0, .ref (adr Y 17)), (1, .int x1), (2, .int x2)]) rfl ?_
  intro K hkl C
  change Cx K zX5_spared Y at C
  subst hkl
  unfold pX5_spared at h
  show Wp K zX5_spared Y (Qm K Y (some q) M) M 0 [(0, .ref (adr Y 17)), (1, .int x1), (2, .int x2)] []
  refine w_aload_n C (pc := 0) dX5_spared_0 0 rfl ?_
  refine w_getR C (pc := 1) dX5_spared_1 f_X5_9 (sA_17 hY) rfl ?_
  refine w_aload_n C (pc := 4) dX5_spared_4 0 rfl ?_
  refine w_getR C (pc := 5) dX5_spared_5 f_X5_25 (sA_17 hY) rfl ?_
  refine w_iload_n C (pc := 8) dX5_spared_8 1 rfl ?_
  refine w_iconst C (pc := 9) dX5_spared_9 (v := 1) (by decide) ?_
  refine w_isub C (pc := 10) dX5_spared_10 ?_
  obtain ⟨v1, e2, h⟩ := ob h
  refine w_iald C (pc := 11) dX5_spared_11 (sA_22 hY) e2 ?_
  refine w_bipush C (pc := 12) dX5_spared_12 (v := 9) (by decide) ?_
  refine w_imul C (pc := 14) dX5_spared_14 ?_
  refine w_aload_n C (pc := 15) dX5_spared_15 0 rfl ?_
  refine w_getR C (pc := 16) dX5_spared_16 f_X5_25 (sA_17 hY) rfl ?_
  refine w_iload_n C (pc := 19) dX5_spared_19 2 rfl ?_
  refine w_iconst C (pc := 20) dX5_spared_20 (v := 1) (by decide) ?_
  refine w_iadd C (pc := 21) dX5_spared_21 ?_
  obtain ⟨v3, e4, h⟩ := ob h
  refine w_iald C (pc := 22) dX5_spared_22 (sA_22 hY) e4 ?_
  refine w_iadd C (pc := 23) dX5_spared_23 ?_
  obtain ⟨v5, e6, h⟩ := ob h
  refine w_iald C (pc := 24) dX5_spared_24 (sA_18 hY) e6 ?_
  refine w_istore_n C (pc := 25) dX5_spared_25 (lv' := [(0, .ref (adr Y 17)), (1, .int x1), (2, .int x2), (3, .int v5)]) rfl rfl rfl ?_
  refine w_aload_n C (pc := 26) dX5_spared_26 0 rfl ?_
  refine w_getR C (pc := 27) dX5_spared_27 f_X5_28 (sA_17 hY) rfl ?_
  refine w_iload_n C (pc := 30) dX5_spared_30 2 rfl ?_
  refine w_iconst C (pc := 31) dX5_spared_31 (v := 1) (by decide) ?_
  refine w_iadd C (pc := 32) dX5_spared_32 ?_
  obtain ⟨v7, e8, h⟩ := ob h
  refine w_iald C (pc := 33) dX5_spared_33 (sA_23 hY) e8 ?_
  refine w_aload_n C (pc := 34) dX5_spared_34 0 rfl ?_
  refine w_getR C (pc := 35) dX5_spared_35 f_X5_28 (sA_17 hY) rfl ?_
  refine w_iload_n C (pc := 38) dX5_spared_38 1 rfl ?_
  refine w_iconst C (pc := 39) dX5_spared_39 (v := 1) (by decide) ?_
  refine w_isub C (pc := 40) dX5_spared_40 ?_
  obtain ⟨v9, e10, h⟩ := ob h
  refine w_iald C (pc := 41) dX5_spared_41 (sA_23 hY) e10 ?_
  refine w_isub C (pc := 42) dX5_spared_42 ?_
  refine w_iload_n C (pc := 43) dX5_spared_43 3 rfl ?_
  refine w_isub C (pc := 44) dX5_spared_44 ?_
  exact w_retR C (pc := 45) dX5_spared_45 rfl (Option.some.inj h)
theorem dX5_trip_0 : decode cX5_trip 0 = .ok (.aload_n 0, 1) := by decide +kernel
theorem dX5_trip_1 : decode cX5_trip 1 = .ok (.getfield 25, 3) := by decide +kernel
theorem dX5_trip_4 : decode cX5_trip 4 = .ok (.iload_n 2, 1) := by decide +kernel
theorem dX5_trip_5 : decode cX5_trip 5 = .ok (.iaload, 1) := by decide +kernel
theorem dX5_trip_6 : decode cX5_trip 6 = .ok (.istore 4, 2) := by decide +kernel
theorem dX5_trip_8 : decode cX5_trip 8 = .ok (.aload_n 0, 1) := by decide +kernel
theorem dX5_trip_9 : decode cX5_trip 9 = .ok (.getfield 15, 3) := by decide +kernel
theorem dX5_trip_12 : decode cX5_trip 12 = .ok (.aload_n 0, 1) := by decide +kernel
theorem dX5_trip_13 : decode cX5_trip 13 = .ok (.getfield 25, 3) := by decide +kernel
theorem dX5_trip_16 : decode cX5_trip 16 = .ok (.iload_n 1, 1) := by decide +kernel
theorem dX5_trip_17 : decode cX5_trip 17 = .ok (.iaload, 1) := by decide +kernel
theorem dX5_trip_18 : decode cX5_trip 18 = .ok (.bipush 9, 2) := by decide +kernel
theorem dX5_trip_20 : decode cX5_trip 20 = .ok (.imul, 1) := by decide +kernel
theorem dX5_trip_21 : decode cX5_trip 21 = .ok (.iload 4, 2) := by decide +kernel
theorem dX5_trip_23 : decode cX5_trip 23 = .ok (.iadd, 1) := by decide +kernel
theorem dX5_trip_24 : decode cX5_trip 24 = .ok (.iaload, 1) := by decide +kernel
theorem dX5_trip_25 : decode cX5_trip 25 = .ok (.aload_n 0, 1) := by decide +kernel
theorem dX5_trip_26 : decode cX5_trip 26 = .ok (.getfield 18, 3) := by decide +kernel
theorem dX5_trip_29 : decode cX5_trip 29 = .ok (.iload 4, 2) := by decide +kernel
theorem dX5_trip_31 : decode cX5_trip 31 = .ok (.iaload, 1) := by decide +kernel
theorem dX5_trip_32 : decode cX5_trip 32 = .ok (.iadd, 1) := by decide +kernel
theorem dX5_trip_33 : decode cX5_trip 33 = .ok (.aload_n 0, 1) := by decide +kernel
theorem dX5_trip_34 : decode cX5_trip 34 = .ok (.getfield 15, 3) := by decide +kernel
theorem dX5_trip_37 : decode cX5_trip 37 = .ok (.iload 4, 2) := by decide +kernel
theorem dX5_trip_39 : decode cX5_trip 39 = .ok (.bipush 9, 2) := by decide +kernel
theorem dX5_trip_41 : decode cX5_trip 41 = .ok (.imul, 1) := by decide +kernel
theorem dX5_trip_42 : decode cX5_trip 42 = .ok (.aload_n 0, 1) := by decide +kernel
theorem dX5_trip_43 : decode cX5_trip 43 = .ok (.getfield 25, 3) := by decide +kernel
theorem dX5_trip_46 : decode cX5_trip 46 = .ok (.iload_n 3, 1) := by decide +kernel
theorem dX5_trip_47 : decode cX5_trip 47 = .ok (.iaload, 1) := by decide +kernel
theorem dX5_trip_48 : decode cX5_trip 48 = .ok (.iadd, 1) := by decide +kernel
theorem dX5_trip_49 : decode cX5_trip 49 = .ok (.iaload, 1) := by decide +kernel
theorem dX5_trip_50 : decode cX5_trip 50 = .ok (.iadd, 1) := by decide +kernel
theorem dX5_trip_51 : decode cX5_trip 51 = .ok (.ireturn, 1) := by decide +kernel
def pX5_trip (x1 : Int32) (x2 : Int32) (x3 : Int32) (M : Mm) : Option (Int32) :=
(ald M 22 10 x2).bind fun v1 =>
(ald M 22 10 x1).bind fun v3 =>
(ald M 19 81 ((v3 * 9) + v1)).bind fun v5 =>
(ald M 20 9 v1).bind fun v7 =>
(ald M 22 10 x3).bind fun v9 =>
(ald M 19 81 ((v1 * 9) + v9)).bind fun v11 =>
some ((v5 + v7) + v11)
abbrev zX5_trip : Zx := (cX5_trip, RX5, 5, 0, (some .int))
set_option maxRecDepth 100000 in
set_option maxHeartbeats 4000000 in
theorem tX5_trip {l : Launch} {Y : Sx} {M : Mm} {x1 : Int32} {x2 : Int32} {x3 : Int32} {q : Int32} (hY : isA Y) (h : pX5_trip x1 x2 x3 M = some q) : Ct l Y yX5_trip cX5_trip 5 (some .int) 0 [.ref (adr Y 17), .int x1, .int x2, .int x3] M (some q) M := by
  refine Ct.of (by decide) rfl (lv := [(0, .ref (adr Y 17)), (1, .int x1), (2, .int x2), (3, .int x3)]) rfl ?_
  intro K hkl C
  change Cx K zX5_trip Y at C
  subst hkl
  unfold pX5_trip at h
  show Wp K zX5_trip Y (Qm K Y (some q) M) M 0 [(0, .ref (adr Y 17)), (1, .int x1), (2, .int x2), (3, .int x3)] []
  refine w_aload_n C (pc := 0) dX5_trip_0 0 rfl ?_
  refine w_getR C (pc := 1) dX5_trip_1 f_X5_25 (sA_17 hY) rfl ?_
  refine w_iload_n C (pc := 4) dX5_trip_4 2 rfl ?_
  obtain ⟨v1, e2, h⟩ := ob h
  refine w_iald C (pc := 5) dX5_trip_5 (sA_22 hY) e2 ?_
  refine w_istore C (pc := 6) dX5_trip_6 (lv' := [(0, .ref (adr Y 17)), (1, .int x1), (2, .int x2), (3, .int x3), (4, .int v1)]) rfl rfl rfl ?_
  refine w_aload_n C (pc := 8) dX5_trip_8 0 rfl ?_
  refine w_getR C (pc := 9) dX5_trip_9 f_X5_15 (sA_17 hY) rfl ?_
  refine w_aload_n C (pc := 12) dX5_trip_12 0 rfl ?_
  refine w_getR C (pc := 13) dX5_trip_13 f_X5_25 (sA_17 hY) rfl ?_
  refine w_iload_n C (pc := 16) dX5_trip_16 1 rfl ?_
  obtain ⟨v3, e4, h⟩ := ob h
  refine w_iald C (pc := 17) dX5_trip_17 (sA_22 hY) e4 ?_
  refine w_bipush C (pc := 18) dX5_trip_18 (v := 9) (by decide) ?_
  refine w_imul C (pc := 20) dX5_trip_20 ?_
  refine w_iload C (pc := 21) dX5_trip_21 4 rfl ?_
  refine w_iadd C (pc := 23) dX5_trip_23 ?_
  obtain ⟨v5, e6, h⟩ := ob h
  refine w_iald C (pc := 24) dX5_trip_24 (sA_19 hY) e6 ?_
  refine w_aload_n C (pc := 25) dX5_trip_25 0 rfl ?_
  refine w_getR C (pc := 26) dX5_trip_26 f_X5_18 (sA_17 hY) rfl ?_
  refine w_iload C (pc := 29) dX5_trip_29 4 rfl ?_
  obtain ⟨v7, e8, h⟩ := ob h
  refine w_iald C (pc := 31) dX5_trip_31 (sA_20 hY) e8 ?_
  refine w_iadd C (pc := 32) dX5_trip_32 ?_
  refine w_aload_n C (pc := 33) dX5_trip_33 0 rfl ?_
  refine w_getR C (pc := 34) dX5_trip_34 f_X5_15 (sA_17 hY) rfl ?_
  refine w_iload C (pc := 37) dX5_trip_37 4 rfl ?_
  refine w_bipush C (pc := 39) dX5_trip_39 (v := 9) (by decide) ?_
  refine w_imul C (pc := 41) dX5_trip_41 ?_
  refine w_aload_n C (pc := 42) dX5_trip_42 0 rfl ?_
  refine w_getR C (pc := 43) dX5_trip_43 f_X5_25 (sA_17 hY) rfl ?_
  refine w_iload_n C (pc := 46) dX5_trip_46 3 rfl ?_
  obtain ⟨v9, e10, h⟩ := ob h
  refine w_iald C (pc := 47) dX5_trip_47 (sA_22 hY) e10 ?_
  refine w_iadd C (pc := 48) dX5_trip_48 ?_
  obtain ⟨v11, e12, h⟩ := ob h
  refine w_iald C (pc := 49) dX5_trip_49 (sA_19 hY) e12 ?_
  refine w_iadd C (pc := 50) dX5_trip_50 ?_
  exact w_retR C (pc := 51) dX5_trip_51 rfl (Option.some.inj h)
theorem dX5_lasts_0 : decode cX5_lasts 0 = .ok (.aload_n 0, 1) := by decide +kernel
theorem dX5_lasts_1 : decode cX5_lasts 1 = .ok (.getfield 79, 3) := by decide +kernel
theorem dX5_lasts_4 : decode cX5_lasts 4 = .ok (.ifCond .eq 7, 3) := by decide +kernel
theorem dX5_lasts_7 : decode cX5_lasts 7 = .ok (.iload_n 3, 1) := by decide +kernel
theorem dX5_lasts_8 : decode cX5_lasts 8 = .ok (.goto 4, 3) := by decide +kernel
theorem dX5_lasts_11 : decode cX5_lasts 11 = .ok (.iload_n 2, 1) := by decide +kernel
theorem dX5_lasts_12 : decode cX5_lasts 12 = .ok (.iload_n 1, 1) := by decide +kernel
theorem dX5_lasts_13 : decode cX5_lasts 13 = .ok (.isub, 1) := by decide +kernel
theorem dX5_lasts_14 : decode cX5_lasts 14 = .ok (.aload_n 0, 1) := by decide +kernel
theorem dX5_lasts_15 : decode cX5_lasts 15 = .ok (.getfield 76, 3) := by decide +kernel
theorem dX5_lasts_18 : decode cX5_lasts 18 = .ok (.if_icmp .gt 7, 3) := by decide +kernel
theorem dX5_lasts_21 : decode cX5_lasts 21 = .ok (.iconst 1, 1) := by decide +kernel
theorem dX5_lasts_22 : decode cX5_lasts 22 = .ok (.goto 4, 3) := by decide +kernel
theorem dX5_lasts_25 : decode cX5_lasts 25 = .ok (.iconst 0, 1) := by decide +kernel
theorem dX5_lasts_26 : decode cX5_lasts 26 = .ok (.ireturn, 1) := by decide +kernel
def pX5_lasts (x1 : Int32) (x2 : Int32) (x3 : Int32) (M : Mm) : Int32 :=
if (M 17 5) = 0 then
(if (M 17 4) < (x2 - x1) then
(0)
else
(1))
else
(if (M 17 4) < (x3 - x1) then
(0)
else
(1))
abbrev zX5_lasts : Zx := (cX5_lasts, RX5, 4, 0, (some .boolean))
set_option maxRecDepth 100000 in
set_option maxHeartbeats 4000000 in
theorem tX5_lasts {l : Launch} {Y : Sx} {M : Mm} {x1 : Int32} {x2 : Int32} {x3 : Int32} {q : Int32} (hY : isA Y) (h : pX5_lasts x1 x2 x3 M = q) : Ct l Y yX5_lasts cX5_lasts 4 (some .boolean) 0 [.ref (adr Y 17), .int x1, .int x2, .int x3] M (some q) M := by
  refine Ct.of (by decide) rfl (lv := [(0, .ref (adr Y 17)), (1, .int x1), (2, .int x2), (3, .int x3)]) rfl ?_
  intro K hkl C
  change Cx K zX5_lasts Y at C
  subst hkl
  unfold pX5_lasts at h
  show Wp K zX5_lasts Y (Qm K Y (some q) M) M 0 [(0, .ref (adr Y 17)), (1, .int x1), (2, .int x2), (3, .int x3)] []
  refine w_aload_n C (pc := 0) dX5_lasts_0 0 rfl ?_
  refine w_getI C (pc := 1) dX5_lasts_1 f_X5_79 (sA_17 hY) rfl ?_
  refine w_ifeq C (pc := 4) 11 dX5_lasts_4 (by decide) (fun c => ?_) (fun c => ?_)
  · have h := it_t h c
    refine w_iload_n C (pc := 11) dX5_lasts_11 2 rfl ?_
    refine w_iload_n C (pc := 12) dX5_lasts_12 1 rfl ?_
    refine w_isub C (pc := 13) dX5_lasts_13 ?_
    refine w_aload_n C (pc := 14) dX5_lasts_14 0 rfl ?_
    refine w_getI C (pc := 15) dX5_lasts_15 f_X5_76 (sA_17 hY) rfl ?_
    refine w_icgt C (pc := 18) 25 dX5_lasts_18 (by decide) (fun c => ?_) (fun c => ?_)
    · have h := it_t h c
      refine w_iconst C (pc := 25) dX5_lasts_25 (v := 0) (by decide) ?_
      exact w_retzR C (pc := 26) dX5_lasts_26 rfl (by decide) h
    · have h := it_f h c
      refine w_iconst C (pc := 21) dX5_lasts_21 (v := 1) (by decide) ?_
      refine w_goto C (pc := 22) 26 dX5_lasts_22 (by decide) ?_
      exact w_retzR C (pc := 26) dX5_lasts_26 rfl (by decide) h
  · have h := it_f h c
    refine w_iload_n C (pc := 7) dX5_lasts_7 3 rfl ?_
    refine w_goto C (pc := 8) 12 dX5_lasts_8 (by decide) ?_
    refine w_iload_n C (pc := 12) dX5_lasts_12 1 rfl ?_
    refine w_isub C (pc := 13) dX5_lasts_13 ?_
    refine w_aload_n C (pc := 14) dX5_lasts_14 0 rfl ?_
    refine w_getI C (pc := 15) dX5_lasts_15 f_X5_76 (sA_17 hY) rfl ?_
    refine w_icgt C (pc := 18) 25 dX5_lasts_18 (by decide) (fun c => ?_) (fun c => ?_)
    · have h := it_t h c
      refine w_iconst C (pc := 25) dX5_lasts_25 (v := 0) (by decide) ?_
      exact w_retzR C (pc := 26) dX5_lasts_26 rfl (by decide) h
    · have h := it_f h c
      refine w_iconst C (pc := 21) dX5_lasts_21 (v := 1) (by decide) ?_
      refine w_goto C (pc := 22) 26 dX5_lasts_22 (by decide) ?_
      exact w_retzR C (pc := 26) dX5_lasts_26 rfl (by decide) h
theorem dX5_offer_0 : decode cX5_offer 0 = .ok (.aload_n 0, 1) := by decide +kernel
theorem dX5_offer_1 : decode cX5_offer 1 = .ok (.getfield 31, 3) := by decide +kernel
theorem dX5_offer_4 : decode cX5_offer 4 = .ok (.iload_n 1, 1) := by decide +kernel
theorem dX5_offer_5 : decode cX5_offer 5 = .ok (.iaload, 1) := by decide +kernel
theorem dX5_offer_6 : decode cX5_offer 6 = .ok (.iload 4, 2) := by decide +kernel
theorem dX5_offer_8 : decode cX5_offer 8 = .ok (.iadd, 1) := by decide +kernel
theorem dX5_offer_9 : decode cX5_offer 9 = .ok (.istore 5, 2) := by decide +kernel
theorem dX5_offer_11 : decode cX5_offer 11 = .ok (.aload_n 0, 1) := by decide +kernel
theorem dX5_offer_12 : decode cX5_offer 12 = .ok (.getfield 34, 3) := by decide +kernel
theorem dX5_offer_15 : decode cX5_offer 15 = .ok (.iload_n 1, 1) := by decide +kernel
theorem dX5_offer_16 : decode cX5_offer 16 = .ok (.iaload, 1) := by decide +kernel
theorem dX5_offer_17 : decode cX5_offer 17 = .ok (.iload_n 3, 1) := by decide +kernel
theorem dX5_offer_18 : decode cX5_offer 18 = .ok (.invokestatic 141, 3) := by decide +kernel
theorem dX5_offer_21 : decode cX5_offer 21 = .ok (.iadd, 1) := by decide +kernel
theorem dX5_offer_22 : decode cX5_offer 22 = .ok (.istore 6, 2) := by decide +kernel
theorem dX5_offer_24 : decode cX5_offer 24 = .ok (.iload 5, 2) := by decide +kernel
theorem dX5_offer_26 : decode cX5_offer 26 = .ok (.aload_n 0, 1) := by decide +kernel
theorem dX5_offer_27 : decode cX5_offer 27 = .ok (.getfield 31, 3) := by decide +kernel
theorem dX5_offer_30 : decode cX5_offer 30 = .ok (.iload_n 2, 1) := by decide +kernel
theorem dX5_offer_31 : decode cX5_offer 31 = .ok (.iaload, 1) := by decide +kernel
theorem dX5_offer_32 : decode cX5_offer 32 = .ok (.if_icmp .lt 25, 3) := by decide +kernel
theorem dX5_offer_35 : decode cX5_offer 35 = .ok (.iload 5, 2) := by decide +kernel
theorem dX5_offer_37 : decode cX5_offer 37 = .ok (.aload_n 0, 1) := by decide +kernel
theorem dX5_offer_38 : decode cX5_offer 38 = .ok (.getfield 31, 3) := by decide +kernel
theorem dX5_offer_41 : decode cX5_offer 41 = .ok (.iload_n 2, 1) := by decide +kernel
theorem dX5_offer_42 : decode cX5_offer 42 = .ok (.iaload, 1) := by decide +kernel
theorem dX5_offer_43 : decode cX5_offer 43 = .ok (.if_icmp .ne 44, 3) := by decide +kernel
theorem dX5_offer_46 : decode cX5_offer 46 = .ok (.iload 6, 2) := by decide +kernel
theorem dX5_offer_48 : decode cX5_offer 48 = .ok (.aload_n 0, 1) := by decide +kernel
theorem dX5_offer_49 : decode cX5_offer 49 = .ok (.getfield 34, 3) := by decide +kernel
theorem dX5_offer_52 : decode cX5_offer 52 = .ok (.iload_n 2, 1) := by decide +kernel
theorem dX5_offer_53 : decode cX5_offer 53 = .ok (.iaload, 1) := by decide +kernel
theorem dX5_offer_54 : decode cX5_offer 54 = .ok (.if_icmp .ge 33, 3) := by decide +kernel
theorem dX5_offer_57 : decode cX5_offer 57 = .ok (.aload_n 0, 1) := by decide +kernel
theorem dX5_offer_58 : decode cX5_offer 58 = .ok (.getfield 31, 3) := by decide +kernel
theorem dX5_offer_61 : decode cX5_offer 61 = .ok (.iload_n 2, 1) := by decide +kernel
theorem dX5_offer_62 : decode cX5_offer 62 = .ok (.iload 5, 2) := by decide +kernel
theorem dX5_offer_64 : decode cX5_offer 64 = .ok (.iastore, 1) := by decide +kernel
theorem dX5_offer_65 : decode cX5_offer 65 = .ok (.aload_n 0, 1) := by decide +kernel
theorem dX5_offer_66 : decode cX5_offer 66 = .ok (.getfield 34, 3) := by decide +kernel
theorem dX5_offer_69 : decode cX5_offer 69 = .ok (.iload_n 2, 1) := by decide +kernel
theorem dX5_offer_70 : decode cX5_offer 70 = .ok (.iload 6, 2) := by decide +kernel
theorem dX5_offer_72 : decode cX5_offer 72 = .ok (.iastore, 1) := by decide +kernel
theorem dX5_offer_73 : decode cX5_offer 73 = .ok (.aload_n 0, 1) := by decide +kernel
theorem dX5_offer_74 : decode cX5_offer 74 = .ok (.getfield 37, 3) := by decide +kernel
theorem dX5_offer_77 : decode cX5_offer 77 = .ok (.iload_n 2, 1) := by decide +kernel
theorem dX5_offer_78 : decode cX5_offer 78 = .ok (.iload_n 1, 1) := by decide +kernel
theorem dX5_offer_79 : decode cX5_offer 79 = .ok (.iastore, 1) := by decide +kernel
theorem dX5_offer_80 : decode cX5_offer 80 = .ok (.aload_n 0, 1) := by decide +kernel
theorem dX5_offer_81 : decode cX5_offer 81 = .ok (.getfield 40, 3) := by decide +kernel
theorem dX5_offer_84 : decode cX5_offer 84 = .ok (.iload_n 2, 1) := by decide +kernel
theorem dX5_offer_85 : decode cX5_offer 85 = .ok (.iload_n 3, 1) := by decide +kernel
theorem dX5_offer_86 : decode cX5_offer 86 = .ok (.iastore, 1) := by decide +kernel
theorem dX5_offer_87 : decode cX5_offer 87 = .ok (.return_, 1) := by decide +kernel
def pX5_offer (x1 : Int32) (x2 : Int32) (x3 : Int32) (x4 : Int32) (M : Mm) : Option (Mm) :=
(ald M 24 10 x1).bind fun v1 =>
bnd (v1 + x4) fun v3 =>
(ald M 25 10 x1).bind fun v4 =>
bnd (v4 + (pJ6_bitCount_0f7a4 x3)) fun v6 =>
(ald M 24 10 x2).bind fun v7 =>
Option.bind (α := (Unit) ⊕ (Mm)) (if v3 < v7 then
(some (Sum.inl ()))
else
((ald M 24 10 x2).bind fun v20 =>
if v3 = v20 then
((ald M 25 10 x2).bind fun v22 =>
if v22 ≤ v6 then
(some (Sum.inr M))
else
(some (Sum.inl ())))
else
(some (Sum.inr M)))) fun j9 =>
Sum.elim (fun yj9 =>
(ast M 24 10 x2 v3).bind fun M12 =>
(ast M12 25 10 x2 v6).bind fun M14 =>
(ast M14 26 10 x2 x1).bind fun M16 =>
(ast M16 27 10 x2 x3).bind fun M18 =>
some M18) (fun r => some r) j9
abbrev zX5_offer : Zx := (cX5_offer, RX5, 7, 1, none)
set_option maxRecDepth 100000 in
set_option maxHeartbeats 4000000 in
theorem tX5_offer {l : Launch} {Y : Sx} {M : Mm} {x1 : Int32} {x2 : Int32} {x3 : Int32} {x4 : Int32} {q : Mm} (hY : isA Y) (h : pX5_offer x1 x2 x3 x4 M = some q) : Ct l Y yX5_offer cX5_offer 7 none 1 [.ref (adr Y 17), .int x1, .int x2, .int x3, .int x4] M none q := by
  refine Ct.of (by decide) rfl (lv := [(0, .ref (adr Y 17)), (1, .int x1), (2, .int x2), (3, .int x3), (4, .int x4)]) rfl ?_
  intro K hkl C
  change Cx K zX5_offer Y at C
  subst hkl
  unfold pX5_offer at h
  show Wp K zX5_offer Y (Qm K Y none q) M 0 [(0, .ref (adr Y 17)), (1, .int x1), (2, .int x2), (3, .int x3), (4, .int x4)] []
  refine w_aload_n C (pc := 0) dX5_offer_0 0 rfl ?_
  refine w_getR C (pc := 1) dX5_offer_1 f_X5_31 (sA_17 hY) rfl ?_
  refine w_iload_n C (pc := 4) dX5_offer_4 1 rfl ?_
  obtain ⟨v1, e2, h⟩ := ob h
  refine w_iald C (pc := 5) dX5_offer_5 (sA_24 hY) e2 ?_
  refine w_iload C (pc := 6) dX5_offer_6 4 rfl ?_
  refine w_iadd C (pc := 8) dX5_offer_8 ?_
  refine w_bnd h (fun v3 h => ?_)
  refine w_istore C (pc := 9) dX5_offer_9 (lv' := [(0, .ref (adr Y 17)), (1, .int x1), (2, .int x2), (3, .int x3), (4, .int x4), (5, .int v3)]) rfl rfl rfl ?_
  refine w_aload_n C (pc := 11) dX5_offer_11 0 rfl ?_
  refine w_getR C (pc := 12) dX5_offer_12 f_X5_34 (sA_17 hY) rfl ?_
  refine w_iload_n C (pc := 15) dX5_offer_15 1 rfl ?_
  obtain ⟨v4, e5, h⟩ := ob h
  refine w_iald C (pc := 16) dX5_offer_16 (sA_25 hY) e5 ?_
  refine w_iload_n C (pc := 17) dX5_offer_17 3 rfl ?_
  refine w_cSi C (pc := 18) dX5_offer_18 my_J6_bitCount_0f7a4 ms_J6_bitCount_0f7a4 ml_X5_141 rfl rfl [.int x3] rfl rfl (Nat.le_of_ble_eq_true rfl) (tJ6_bitCount_0f7a4  rfl) ?_
  refine w_iadd C (pc := 21) dX5_offer_21 ?_
  refine w_bnd h (fun v6 h => ?_)
  refine w_istore C (pc := 22) dX5_offer_22 (lv' := [(0, .ref (adr Y 17)), (1, .int x1), (2, .int x2), (3, .int x3), (4, .int x4), (5, .int v3), (6, .int v6)]) rfl rfl rfl ?_
  refine w_iload C (pc := 24) dX5_offer_24 5 rfl ?_
  refine w_aload_n C (pc := 26) dX5_offer_26 0 rfl ?_
  refine w_getR C (pc := 27) dX5_offer_27 f_X5_31 (sA_17 hY) rfl ?_
  refine w_iload_n C (pc := 30) dX5_offer_30 2 rfl ?_
  obtain ⟨v7, e8, h⟩ := ob h
  refine w_iald C (pc := 31) dX5_offer_31 (sA_24 hY) e8 ?_
  obtain ⟨j9, e10, h11⟩ := ob h
  have Jj9 : ∀ yj9, j9 = Sum.inl yj9 → Wp K zX5_offer Y (Qm K Y none q) M 57 [(0, .ref (adr Y 17)), (1, .int x1), (2, .int x2), (3, .int x3), (4, .int x4), (5, .int v3), (6, .int v6)] [] := by
    intro yj9 hj
    subst hj
    dsimp only [Sum.elim] at h11
    refine w_aload_n C (pc := 57) dX5_offer_57 0 rfl ?_
    refine w_getR C (pc := 58) dX5_offer_58 f_X5_31 (sA_17 hY) rfl ?_
    refine w_iload_n C (pc := 61) dX5_offer_61 2 rfl ?_
    refine w_iload C (pc := 62) dX5_offer_62 5 rfl ?_
    obtain ⟨M12, e13, h11⟩ := ob h11
    refine w_iast C (pc := 64) dX5_offer_64 (sA_24 hY) e13 ?_
    refine w_aload_n C (pc := 65) dX5_offer_65 0 rfl ?_
    refine w_getR C (pc := 66) dX5_offer_66 f_X5_34 (sA_17 hY) rfl ?_
    refine w_iload_n C (pc := 69) dX5_offer_69 2 rfl ?_
    refine w_iload C (pc := 70) dX5_offer_70 6 rfl ?_
    obtain ⟨M14, e15, h11⟩ := ob h11
    refine w_iast C (pc := 72) dX5_offer_72 (sA_25 hY) e15 ?_
    refine w_aload_n C (pc := 73) dX5_offer_73 0 rfl ?_
    refine w_getR C (pc := 74) dX5_offer_74 f_X5_37 (sA_17 hY) rfl ?_
    refine w_iload_n C (pc := 77) dX5_offer_77 2 rfl ?_
    refine w_iload_n C (pc := 78) dX5_offer_78 1 rfl ?_
    obtain ⟨M16, e17, h11⟩ := ob h11
    refine w_iast C (pc := 79) dX5_offer_79 (sA_26 hY) e17 ?_
    refine w_aload_n C (pc := 80) dX5_offer_80 0 rfl ?_
    refine w_getR C (pc := 81) dX5_offer_81 f_X5_40 (sA_17 hY) rfl ?_
    refine w_iload_n C (pc := 84) dX5_offer_84 2 rfl ?_
    refine w_iload_n C (pc := 85) dX5_offer_85 3 rfl ?_
    obtain ⟨M18, e19, h11⟩ := ob h11
    refine w_iast C (pc := 86) dX5_offer_86 (sA_27 hY) e19 ?_
    exact w_retV C (pc := 87) dX5_offer_87 rfl (Option.some.inj h11)
  refine w_iclt C (pc := 32) 57 dX5_offer_32 (by decide) (fun c => ?_) (fun c => ?_)
  · have e10 := it_t e10 c
    obtain rfl := Option.some.inj e10
    exact Jj9 _ rfl
  · have e10 := it_f e10 c
    refine w_iload C (pc := 35) dX5_offer_35 5 rfl ?_
    refine w_aload_n C (pc := 37) dX5_offer_37 0 rfl ?_
    refine w_getR C (pc := 38) dX5_offer_38 f_X5_31 (sA_17 hY) rfl ?_
    refine w_iload_n C (pc := 41) dX5_offer_41 2 rfl ?_
    obtain ⟨v20, e21, e10⟩ := ob e10
    refine w_iald C (pc := 42) dX5_offer_42 (sA_24 hY) e21 ?_
    refine w_icne C (pc := 43) 87 dX5_offer_43 (by decide) (fun c => ?_) (fun c => ?_)
    · have e10 := it_t e10 c
      refine w_iload C (pc := 46) dX5_offer_46 6 rfl ?_
      refine w_aload_n C (pc := 48) dX5_offer_48 0 rfl ?_
      refine w_getR C (pc := 49) dX5_offer_49 f_X5_34 (sA_17 hY) rfl ?_
      refine w_iload_n C (pc := 52) dX5_offer_52 2 rfl ?_
      obtain ⟨v22, e23, e10⟩ := ob e10
      refine w_iald C (pc := 53) dX5_offer_53 (sA_25 hY) e23 ?_
      refine w_icge C (pc := 54) 87 dX5_offer_54 (by decide) (fun c => ?_) (fun c => ?_)
      · have e10 := it_t e10 c
        obtain rfl := Option.some.inj e10
        have h24 : some M = some q := h11
        exact w_retV C (pc := 87) dX5_offer_87 rfl (Option.some.inj h24)
      · have e10 := it_f e10 c
        obtain rfl := Option.some.inj e10
        exact Jj9 _ rfl
    · have e10 := it_f e10 c
      obtain rfl := Option.some.inj e10
      have h25 : some M = some q := h11
      exact w_retV C (pc := 87) dX5_offer_87 rfl (Option.some.inj h25)
theorem dX5_offerOne_0 : decode cX5_offerOne 0 = .ok (.aload_n 0, 1) := by decide +kernel
theorem dX5_offerOne_1 : decode cX5_offerOne 1 = .ok (.getfield 70, 3) := by decide +kernel
theorem dX5_offerOne_4 : decode cX5_offerOne 4 = .ok (.aload_n 0, 1) := by decide +kernel
theorem dX5_offerOne_5 : decode cX5_offerOne 5 = .ok (.getfield 28, 3) := by decide +kernel
theorem dX5_offerOne_8 : decode cX5_offerOne 8 = .ok (.iload_n 2, 1) := by decide +kernel
theorem dX5_offerOne_9 : decode cX5_offerOne 9 = .ok (.iaload, 1) := by decide +kernel
theorem dX5_offerOne_10 : decode cX5_offerOne 10 = .ok (.iadd, 1) := by decide +kernel
theorem dX5_offerOne_11 : decode cX5_offerOne 11 = .ok (.aload_n 0, 1) := by decide +kernel
theorem dX5_offerOne_12 : decode cX5_offerOne 12 = .ok (.getfield 28, 3) := by decide +kernel
theorem dX5_offerOne_15 : decode cX5_offerOne 15 = .ok (.iload_n 1, 1) := by decide +kernel
theorem dX5_offerOne_16 : decode cX5_offerOne 16 = .ok (.iaload, 1) := by decide +kernel
theorem dX5_offerOne_17 : decode cX5_offerOne 17 = .ok (.isub, 1) := by decide +kernel
theorem dX5_offerOne_18 : decode cX5_offerOne 18 = .ok (.aload_n 0, 1) := by decide +kernel
theorem dX5_offerOne_19 : decode cX5_offerOne 19 = .ok (.iload_n 3, 1) := by decide +kernel
theorem dX5_offerOne_20 : decode cX5_offerOne 20 = .ok (.iload_n 3, 1) := by decide +kernel
theorem dX5_offerOne_21 : decode cX5_offerOne 21 = .ok (.invokevirtual 124, 3) := by decide +kernel
theorem dX5_offerOne_24 : decode cX5_offerOne 24 = .ok (.isub, 1) := by decide +kernel
theorem dX5_offerOne_25 : decode cX5_offerOne 25 = .ok (.istore 4, 2) := by decide +kernel
theorem dX5_offerOne_27 : decode cX5_offerOne 27 = .ok (.aload_n 0, 1) := by decide +kernel
theorem dX5_offerOne_28 : decode cX5_offerOne 28 = .ok (.getfield 31, 3) := by decide +kernel
theorem dX5_offerOne_31 : decode cX5_offerOne 31 = .ok (.iload_n 1, 1) := by decide +kernel
theorem dX5_offerOne_32 : decode cX5_offerOne 32 = .ok (.iaload, 1) := by decide +kernel
theorem dX5_offerOne_33 : decode cX5_offerOne 33 = .ok (.iload 4, 2) := by decide +kernel
theorem dX5_offerOne_35 : decode cX5_offerOne 35 = .ok (.iadd, 1) := by decide +kernel
theorem dX5_offerOne_36 : decode cX5_offerOne 36 = .ok (.aload_n 0, 1) := by decide +kernel
theorem dX5_offerOne_37 : decode cX5_offerOne 37 = .ok (.getfield 73, 3) := by decide +kernel
theorem dX5_offerOne_40 : decode cX5_offerOne 40 = .ok (.iadd, 1) := by decide +kernel
theorem dX5_offerOne_41 : decode cX5_offerOne 41 = .ok (.aload_n 0, 1) := by decide +kernel
theorem dX5_offerOne_42 : decode cX5_offerOne 42 = .ok (.getfield 31, 3) := by decide +kernel
theorem dX5_offerOne_45 : decode cX5_offerOne 45 = .ok (.iload_n 2, 1) := by decide +kernel
theorem dX5_offerOne_46 : decode cX5_offerOne 46 = .ok (.iaload, 1) := by decide +kernel
theorem dX5_offerOne_47 : decode cX5_offerOne 47 = .ok (.if_icmp .le 4, 3) := by decide +kernel
theorem dX5_offerOne_50 : decode cX5_offerOne 50 = .ok (.return_, 1) := by decide +kernel
theorem dX5_offerOne_51 : decode cX5_offerOne 51 = .ok (.aload_n 0, 1) := by decide +kernel
theorem dX5_offerOne_52 : decode cX5_offerOne 52 = .ok (.getfield 70, 3) := by decide +kernel
theorem dX5_offerOne_55 : decode cX5_offerOne 55 = .ok (.aload_n 0, 1) := by decide +kernel
theorem dX5_offerOne_56 : decode cX5_offerOne 56 = .ok (.iload_n 1, 1) := by decide +kernel
theorem dX5_offerOne_57 : decode cX5_offerOne 57 = .ok (.iload_n 3, 1) := by decide +kernel
theorem dX5_offerOne_58 : decode cX5_offerOne 58 = .ok (.iload_n 2, 1) := by decide +kernel
theorem dX5_offerOne_59 : decode cX5_offerOne 59 = .ok (.invokevirtual 127, 3) := by decide +kernel
theorem dX5_offerOne_62 : decode cX5_offerOne 62 = .ok (.iadd, 1) := by decide +kernel
theorem dX5_offerOne_63 : decode cX5_offerOne 63 = .ok (.istore 5, 2) := by decide +kernel
theorem dX5_offerOne_65 : decode cX5_offerOne 65 = .ok (.iload 4, 2) := by decide +kernel
theorem dX5_offerOne_67 : decode cX5_offerOne 67 = .ok (.iload 5, 2) := by decide +kernel
theorem dX5_offerOne_69 : decode cX5_offerOne 69 = .ok (.invokestatic 97, 3) := by decide +kernel
theorem dX5_offerOne_72 : decode cX5_offerOne 72 = .ok (.istore 6, 2) := by decide +kernel
theorem dX5_offerOne_74 : decode cX5_offerOne 74 = .ok (.aload_n 0, 1) := by decide +kernel
theorem dX5_offerOne_75 : decode cX5_offerOne 75 = .ok (.aload_n 0, 1) := by decide +kernel
theorem dX5_offerOne_76 : decode cX5_offerOne 76 = .ok (.getfield 70, 3) := by decide +kernel
theorem dX5_offerOne_79 : decode cX5_offerOne 79 = .ok (.iload 5, 2) := by decide +kernel
theorem dX5_offerOne_81 : decode cX5_offerOne 81 = .ok (.iload 6, 2) := by decide +kernel
theorem dX5_offerOne_83 : decode cX5_offerOne 83 = .ok (.invokevirtual 131, 3) := by decide +kernel
theorem dX5_offerOne_86 : decode cX5_offerOne 86 = .ok (.ifCond .eq 21, 3) := by decide +kernel
theorem dX5_offerOne_89 : decode cX5_offerOne 89 = .ok (.aload_n 0, 1) := by decide +kernel
theorem dX5_offerOne_90 : decode cX5_offerOne 90 = .ok (.iload_n 1, 1) := by decide +kernel
theorem dX5_offerOne_91 : decode cX5_offerOne 91 = .ok (.iload_n 2, 1) := by decide +kernel
theorem dX5_offerOne_92 : decode cX5_offerOne 92 = .ok (.iload_n 1, 1) := by decide +kernel
theorem dX5_offerOne_93 : decode cX5_offerOne 93 = .ok (.iload_n 3, 1) := by decide +kernel
theorem dX5_offerOne_94 : decode cX5_offerOne 94 = .ok (.invokestatic 135, 3) := by decide +kernel
theorem dX5_offerOne_97 : decode cX5_offerOne 97 = .ok (.iload 6, 2) := by decide +kernel
theorem dX5_offerOne_99 : decode cX5_offerOne 99 = .ok (.aload_n 0, 1) := by decide +kernel
theorem dX5_offerOne_100 : decode cX5_offerOne 100 = .ok (.getfield 73, 3) := by decide +kernel
theorem dX5_offerOne_103 : decode cX5_offerOne 103 = .ok (.iadd, 1) := by decide +kernel
theorem dX5_offerOne_104 : decode cX5_offerOne 104 = .ok (.invokevirtual 138, 3) := by decide +kernel
theorem dX5_offerOne_107 : decode cX5_offerOne 107 = .ok (.return_, 1) := by decide +kernel
def pX5_offerOne (x1 : Int32) (x2 : Int32) (x3 : Int32) (M : Mm) : Option (Mm) :=
(ald M 23 10 x2).bind fun v1 =>
(ald M 23 10 x1).bind fun v3 =>
(pX5_spared x3 x3 M).bind fun v5 =>
bnd ((((M 17 2) + v1) - v3) - v5) fun v7 =>
(ald M 24 10 x1).bind fun v8 =>
(ald M 24 10 x2).bind fun v10 =>
if ((v8 + v7) + (M 17 3)) ≤ v10 then
((pX5_trip x1 x3 x2 M).bind fun v12 =>
bnd ((M 17 2) + v12) fun v14 =>
bnd (mmax v7 v14) fun v15 =>
if (pX5_lasts (M 17 2) v14 v15 M) = 0 then
(some M)
else
((pX5_offer x1 x2 (pX5_bit x1 x3) (v15 + (M 17 3)) M).bind fun v16 =>
some v16))
else
(some M)
abbrev zX5_offerOne : Zx := (cX5_offerOne, RX5, 7, 2, none)
set_option maxRecDepth 100000 in
set_option maxHeartbeats 4000000 in
theorem tX5_offerOne {l : Launch} {Y : Sx} {M : Mm} {x1 : Int32} {x2 : Int32} {x3 : Int32} {q : Mm} (hY : isA Y) (h : pX5_offerOne x1 x2 x3 M = some q) : Ct l Y yX5_offerOne cX5_offerOne 7 none 2 [.ref (adr Y 17), .int x1, .int x2, .int x3] M none q := by
  refine Ct.of (by decide) rfl (lv := [(0, .ref (adr Y 17)), (1, .int x1), (2, .int x2), (3, .int x3)]) rfl ?_
  intro K hkl C
  change Cx K zX5_offerOne Y at C
  subst hkl
  unfold pX5_offerOne at h
  show Wp K zX5_offerOne Y (Qm K Y none q) M 0 [(0, .ref (adr Y 17)), (1, .int x1), (2, .int x2), (3, .int x3)] []
  refine w_aload_n C (pc := 0) dX5_offerOne_0 0 rfl ?_
  refine w_getI C (pc := 1) dX5_offerOne_1 f_X5_70 (sA_17 hY) rfl ?_
  refine w_aload_n C (pc := 4) dX5_offerOne_4 0 rfl ?_
  refine w_getR C (pc := 5) dX5_offerOne_5 f_X5_28 (sA_17 hY) rfl ?_
  refine w_iload_n C (pc := 8) dX5_offerOne_8 2 rfl ?_
  obtain ⟨v1, e2, h⟩ := ob h
  refine w_iald C (pc := 9) dX5_offerOne_9 (sA_23 hY) e2 ?_
  refine w_iadd C (pc := 10) dX5_offerOne_10 ?_
  refine w_aload_n C (pc := 11) dX5_offerOne_11 0 rfl ?_
  refine w_getR C (pc := 12) dX5_offerOne_12 f_X5_28 (sA_17 hY) rfl ?_
  refine w_iload_n C (pc := 15) dX5_offerOne_15 1 rfl ?_
  obtain ⟨v3, e4, h⟩ := ob h
  refine w_iald C (pc := 16) dX5_offerOne_16 (sA_23 hY) e4 ?_
  refine w_isub C (pc := 17) dX5_offerOne_17 ?_
  refine w_aload_n C (pc := 18) dX5_offerOne_18 0 rfl ?_
  refine w_iload_n C (pc := 19) dX5_offerOne_19 3 rfl ?_
  refine w_iload_n C (pc := 20) dX5_offerOne_20 3 rfl ?_
  obtain ⟨v5, e6, h⟩ := ob h
  refine w_cVi C (pc := 21) dX5_offerOne_21 my_X5_spared mi_X5_spared ml_X5_124 (sA_17 hY) rfl rfl rfl [.int x3, .int x3] rfl rfl (Nat.le_of_ble_eq_true rfl) (tX5_spared hY  e6) ?_
  refine w_isub C (pc := 24) dX5_offerOne_24 ?_
  refine w_bnd h (fun v7 h => ?_)
  refine w_istore C (pc := 25) dX5_offerOne_25 (lv' := [(0, .ref (adr Y 17)), (1, .int x1), (2, .int x2), (3, .int x3), (4, .int v7)]) rfl rfl rfl ?_
  refine w_aload_n C (pc := 27) dX5_offerOne_27 0 rfl ?_
  refine w_getR C (pc := 28) dX5_offerOne_28 f_X5_31 (sA_17 hY) rfl ?_
  refine w_iload_n C (pc := 31) dX5_offerOne_31 1 rfl ?_
  obtain ⟨v8, e9, h⟩ := ob h
  refine w_iald C (pc := 32) dX5_offerOne_32 (sA_24 hY) e9 ?_
  refine w_iload C (pc := 33) dX5_offerOne_33 4 rfl ?_
  refine w_iadd C (pc := 35) dX5_offerOne_35 ?_
  refine w_aload_n C (pc := 36) dX5_offerOne_36 0 rfl ?_
  refine w_getI C (pc := 37) dX5_offerOne_37 f_X5_73 (sA_17 hY) rfl ?_
  refine w_iadd C (pc := 40) dX5_offerOne_40 ?_
  refine w_aload_n C (pc := 41) dX5_offerOne_41 0 rfl ?_
  refine w_getR C (pc := 42) dX5_offerOne_42 f_X5_31 (sA_17 hY) rfl ?_
  refine w_iload_n C (pc := 45) dX5_offerOne_45 2 rfl ?_
  obtain ⟨v10, e11, h⟩ := ob h
  refine w_iald C (pc := 46) dX5_offerOne_46 (sA_24 hY) e11 ?_
  refine w_icle C (pc := 47) 51 dX5_offerOne_47 (by decide) (fun c => ?_) (fun c => ?_)
  · have h := it_t h c
    refine w_aload_n C (pc := 51) dX5_offerOne_51 0 rfl ?_
    refine w_getI C (pc := 52) dX5_offerOne_52 f_X5_70 (sA_17 hY) rfl ?_
    refine w_aload_n C (pc := 55) dX5_offerOne_55 0 rfl ?_
    refine w_iload_n C (pc := 56) dX5_offerOne_56 1 rfl ?_
    refine w_iload_n C (pc := 57) dX5_offerOne_57 3 rfl ?_
    refine w_iload_n C (pc := 58) dX5_offerOne_58 2 rfl ?_
    obtain ⟨v12, e13, h⟩ := ob h
    refine w_cVi C (pc := 59) dX5_offerOne_59 my_X5_trip mi_X5_trip ml_X5_127 (sA_17 hY) rfl rfl rfl [.int x1, .int x3, .int x2] rfl rfl (Nat.le_of_ble_eq_true rfl) (tX5_trip hY  e13) ?_
    refine w_iadd C (pc := 62) dX5_offerOne_62 ?_
    refine w_bnd h (fun v14 h => ?_)
    refine w_istore C (pc := 63) dX5_offerOne_63 (lv' := [(0, .ref (adr Y 17)), (1, .int x1), (2, .int x2), (3, .int x3), (4, .int v7), (5, .int v14)]) rfl rfl rfl ?_
    refine w_iload C (pc := 65) dX5_offerOne_65 4 rfl ?_
    refine w_iload C (pc := 67) dX5_offerOne_67 5 rfl ?_
    refine w_max C (pc := 69) dX5_offerOne_69 mmax_X5_97 rfl (Nat.le_of_ble_eq_true rfl) ?_
    refine w_bnd h (fun v15 h => ?_)
    refine w_istore C (pc := 72) dX5_offerOne_72 (lv' := [(0, .ref (adr Y 17)), (1, .int x1), (2, .int x2), (3, .int x3), (4, .int v7), (5, .int v14), (6, .int v15)]) rfl rfl rfl ?_
    refine w_aload_n C (pc := 74) dX5_offerOne_74 0 rfl ?_
    refine w_aload_n C (pc := 75) dX5_offerOne_75 0 rfl ?_
    refine w_getI C (pc := 76) dX5_offerOne_76 f_X5_70 (sA_17 hY) rfl ?_
    refine w_iload C (pc := 79) dX5_offerOne_79 5 rfl ?_
    refine w_iload C (pc := 81) dX5_offerOne_81 6 rfl ?_
    refine w_cVi C (pc := 83) dX5_offerOne_83 my_X5_lasts mi_X5_lasts ml_X5_131 (sA_17 hY) rfl rfl rfl [.int (M 17 2), .int v14, .int v15] rfl rfl (Nat.le_of_ble_eq_true rfl) (tX5_lasts hY  rfl) ?_
    refine w_ifeq C (pc := 86) 107 dX5_offerOne_86 (by decide) (fun c => ?_) (fun c => ?_)
    · have h := it_t h c
      exact w_retV C (pc := 107) dX5_offerOne_107 rfl (Option.some.inj h)
    · have h := it_f h c
      refine w_aload_n C (pc := 89) dX5_offerOne_89 0 rfl ?_
      refine w_iload_n C (pc := 90) dX5_offerOne_90 1 rfl ?_
      refine w_iload_n C (pc := 91) dX5_offerOne_91 2 rfl ?_
      refine w_iload_n C (pc := 92) dX5_offerOne_92 1 rfl ?_
      refine w_iload_n C (pc := 93) dX5_offerOne_93 3 rfl ?_
      refine w_cSi C (pc := 94) dX5_offerOne_94 my_X5_bit ms_X5_bit ml_X5_135 rfl rfl [.int x1, .int x3] rfl rfl (Nat.le_of_ble_eq_true rfl) (tX5_bit  rfl) ?_
      refine w_iload C (pc := 97) dX5_offerOne_97 6 rfl ?_
      refine w_aload_n C (pc := 99) dX5_offerOne_99 0 rfl ?_
      refine w_getI C (pc := 100) dX5_offerOne_100 f_X5_73 (sA_17 hY) rfl ?_
      refine w_iadd C (pc := 103) dX5_offerOne_103 ?_
      obtain ⟨v16, e17, h⟩ := ob h
      refine w_cVv C (pc := 104) dX5_offerOne_104 my_X5_offer mi_X5_offer ml_X5_138 (sA_17 hY) rfl rfl rfl [.int x1, .int x2, .int (pX5_bit x1 x3), .int (v15 + (M 17 3))] rfl rfl (Nat.le_of_ble_eq_true rfl) (tX5_offer hY  e17) ?_
      exact w_retV C (pc := 107) dX5_offerOne_107 rfl (Option.some.inj h)
  · have h := it_f h c
    exact w_retV C (pc := 50) dX5_offerOne_50 rfl (Option.some.inj h)
theorem dX5_offerTwo_0 : decode cX5_offerTwo 0 = .ok (.iload 4, 2) := by decide +kernel
theorem dX5_offerTwo_2 : decode cX5_offerTwo 2 = .ok (.iload_n 3, 1) := by decide +kernel
theorem dX5_offerTwo_3 : decode cX5_offerTwo 3 = .ok (.iconst 1, 1) := by decide +kernel
theorem dX5_offerTwo_4 : decode cX5_offerTwo 4 = .ok (.iadd, 1) := by decide +kernel
theorem dX5_offerTwo_5 : decode cX5_offerTwo 5 = .ok (.if_icmp .ne 13, 3) := by decide +kernel
theorem dX5_offerTwo_8 : decode cX5_offerTwo 8 = .ok (.aload_n 0, 1) := by decide +kernel
theorem dX5_offerTwo_9 : decode cX5_offerTwo 9 = .ok (.iload_n 3, 1) := by decide +kernel
theorem dX5_offerTwo_10 : decode cX5_offerTwo 10 = .ok (.iload 4, 2) := by decide +kernel
theorem dX5_offerTwo_12 : decode cX5_offerTwo 12 = .ok (.invokevirtual 124, 3) := by decide +kernel
theorem dX5_offerTwo_15 : decode cX5_offerTwo 15 = .ok (.goto 18, 3) := by decide +kernel
theorem dX5_offerTwo_18 : decode cX5_offerTwo 18 = .ok (.aload_n 0, 1) := by decide +kernel
theorem dX5_offerTwo_19 : decode cX5_offerTwo 19 = .ok (.iload_n 3, 1) := by decide +kernel
theorem dX5_offerTwo_20 : decode cX5_offerTwo 20 = .ok (.iload_n 3, 1) := by decide +kernel
theorem dX5_offerTwo_21 : decode cX5_offerTwo 21 = .ok (.invokevirtual 124, 3) := by decide +kernel
theorem dX5_offerTwo_24 : decode cX5_offerTwo 24 = .ok (.aload_n 0, 1) := by decide +kernel
theorem dX5_offerTwo_25 : decode cX5_offerTwo 25 = .ok (.iload 4, 2) := by decide +kernel
theorem dX5_offerTwo_27 : decode cX5_offerTwo 27 = .ok (.iload 4, 2) := by decide +kernel
theorem dX5_offerTwo_29 : decode cX5_offerTwo 29 = .ok (.invokevirtual 124, 3) := by decide +kernel
theorem dX5_offerTwo_32 : decode cX5_offerTwo 32 = .ok (.iadd, 1) := by decide +kernel
theorem dX5_offerTwo_33 : decode cX5_offerTwo 33 = .ok (.istore 5, 2) := by decide +kernel
theorem dX5_offerTwo_35 : decode cX5_offerTwo 35 = .ok (.iconst 2, 1) := by decide +kernel
theorem dX5_offerTwo_36 : decode cX5_offerTwo 36 = .ok (.aload_n 0, 1) := by decide +kernel
theorem dX5_offerTwo_37 : decode cX5_offerTwo 37 = .ok (.getfield 70, 3) := by decide +kernel
theorem dX5_offerTwo_40 : decode cX5_offerTwo 40 = .ok (.imul, 1) := by decide +kernel
theorem dX5_offerTwo_41 : decode cX5_offerTwo 41 = .ok (.aload_n 0, 1) := by decide +kernel
theorem dX5_offerTwo_42 : decode cX5_offerTwo 42 = .ok (.getfield 28, 3) := by decide +kernel
theorem dX5_offerTwo_45 : decode cX5_offerTwo 45 = .ok (.iload_n 2, 1) := by decide +kernel
theorem dX5_offerTwo_46 : decode cX5_offerTwo 46 = .ok (.iaload, 1) := by decide +kernel
theorem dX5_offerTwo_47 : decode cX5_offerTwo 47 = .ok (.iadd, 1) := by decide +kernel
theorem dX5_offerTwo_48 : decode cX5_offerTwo 48 = .ok (.aload_n 0, 1) := by decide +kernel
theorem dX5_offerTwo_49 : decode cX5_offerTwo 49 = .ok (.getfield 28, 3) := by decide +kernel
theorem dX5_offerTwo_52 : decode cX5_offerTwo 52 = .ok (.iload_n 1, 1) := by decide +kernel
theorem dX5_offerTwo_53 : decode cX5_offerTwo 53 = .ok (.iaload, 1) := by decide +kernel
theorem dX5_offerTwo_54 : decode cX5_offerTwo 54 = .ok (.isub, 1) := by decide +kernel
theorem dX5_offerTwo_55 : decode cX5_offerTwo 55 = .ok (.iload 5, 2) := by decide +kernel
theorem dX5_offerTwo_57 : decode cX5_offerTwo 57 = .ok (.isub, 1) := by decide +kernel
theorem dX5_offerTwo_58 : decode cX5_offerTwo 58 = .ok (.istore 6, 2) := by decide +kernel
theorem dX5_offerTwo_60 : decode cX5_offerTwo 60 = .ok (.aload_n 0, 1) := by decide +kernel
theorem dX5_offerTwo_61 : decode cX5_offerTwo 61 = .ok (.getfield 31, 3) := by decide +kernel
theorem dX5_offerTwo_64 : decode cX5_offerTwo 64 = .ok (.iload_n 1, 1) := by decide +kernel
theorem dX5_offerTwo_65 : decode cX5_offerTwo 65 = .ok (.iaload, 1) := by decide +kernel
theorem dX5_offerTwo_66 : decode cX5_offerTwo 66 = .ok (.iload 6, 2) := by decide +kernel
theorem dX5_offerTwo_68 : decode cX5_offerTwo 68 = .ok (.iadd, 1) := by decide +kernel
theorem dX5_offerTwo_69 : decode cX5_offerTwo 69 = .ok (.iconst 2, 1) := by decide +kernel
theorem dX5_offerTwo_70 : decode cX5_offerTwo 70 = .ok (.aload_n 0, 1) := by decide +kernel
theorem dX5_offerTwo_71 : decode cX5_offerTwo 71 = .ok (.getfield 73, 3) := by decide +kernel
theorem dX5_offerTwo_74 : decode cX5_offerTwo 74 = .ok (.imul, 1) := by decide +kernel
theorem dX5_offerTwo_75 : decode cX5_offerTwo 75 = .ok (.iadd, 1) := by decide +kernel
theorem dX5_offerTwo_76 : decode cX5_offerTwo 76 = .ok (.aload_n 0, 1) := by decide +kernel
theorem dX5_offerTwo_77 : decode cX5_offerTwo 77 = .ok (.getfield 31, 3) := by decide +kernel
theorem dX5_offerTwo_80 : decode cX5_offerTwo 80 = .ok (.iload_n 2, 1) := by decide +kernel
theorem dX5_offerTwo_81 : decode cX5_offerTwo 81 = .ok (.iaload, 1) := by decide +kernel
theorem dX5_offerTwo_82 : decode cX5_offerTwo 82 = .ok (.if_icmp .le 4, 3) := by decide +kernel
theorem dX5_offerTwo_85 : decode cX5_offerTwo 85 = .ok (.return_, 1) := by decide +kernel
theorem dX5_offerTwo_86 : decode cX5_offerTwo 86 = .ok (.aload_n 0, 1) := by decide +kernel
theorem dX5_offerTwo_87 : decode cX5_offerTwo 87 = .ok (.getfield 70, 3) := by decide +kernel
theorem dX5_offerTwo_90 : decode cX5_offerTwo 90 = .ok (.aload_n 0, 1) := by decide +kernel
theorem dX5_offerTwo_91 : decode cX5_offerTwo 91 = .ok (.iload_n 1, 1) := by decide +kernel
theorem dX5_offerTwo_92 : decode cX5_offerTwo 92 = .ok (.iload_n 3, 1) := by decide +kernel
theorem dX5_offerTwo_93 : decode cX5_offerTwo 93 = .ok (.iload_n 2, 1) := by decide +kernel
theorem dX5_offerTwo_94 : decode cX5_offerTwo 94 = .ok (.invokevirtual 127, 3) := by decide +kernel
theorem dX5_offerTwo_97 : decode cX5_offerTwo 97 = .ok (.iadd, 1) := by decide +kernel
theorem dX5_offerTwo_98 : decode cX5_offerTwo 98 = .ok (.istore 7, 2) := by decide +kernel
theorem dX5_offerTwo_100 : decode cX5_offerTwo 100 = .ok (.iconst 2, 1) := by decide +kernel
theorem dX5_offerTwo_101 : decode cX5_offerTwo 101 = .ok (.aload_n 0, 1) := by decide +kernel
theorem dX5_offerTwo_102 : decode cX5_offerTwo 102 = .ok (.getfield 70, 3) := by decide +kernel
theorem dX5_offerTwo_105 : decode cX5_offerTwo 105 = .ok (.imul, 1) := by decide +kernel
theorem dX5_offerTwo_106 : decode cX5_offerTwo 106 = .ok (.aload_n 0, 1) := by decide +kernel
theorem dX5_offerTwo_107 : decode cX5_offerTwo 107 = .ok (.iload_n 1, 1) := by decide +kernel
theorem dX5_offerTwo_108 : decode cX5_offerTwo 108 = .ok (.iload 4, 2) := by decide +kernel
theorem dX5_offerTwo_110 : decode cX5_offerTwo 110 = .ok (.iload_n 2, 1) := by decide +kernel
theorem dX5_offerTwo_111 : decode cX5_offerTwo 111 = .ok (.invokevirtual 127, 3) := by decide +kernel
theorem dX5_offerTwo_114 : decode cX5_offerTwo 114 = .ok (.iadd, 1) := by decide +kernel
theorem dX5_offerTwo_115 : decode cX5_offerTwo 115 = .ok (.istore 8, 2) := by decide +kernel
theorem dX5_offerTwo_117 : decode cX5_offerTwo 117 = .ok (.iload 6, 2) := by decide +kernel
theorem dX5_offerTwo_119 : decode cX5_offerTwo 119 = .ok (.iload 7, 2) := by decide +kernel
theorem dX5_offerTwo_121 : decode cX5_offerTwo 121 = .ok (.invokestatic 97, 3) := by decide +kernel
theorem dX5_offerTwo_124 : decode cX5_offerTwo 124 = .ok (.istore 9, 2) := by decide +kernel
theorem dX5_offerTwo_126 : decode cX5_offerTwo 126 = .ok (.iload 6, 2) := by decide +kernel
theorem dX5_offerTwo_128 : decode cX5_offerTwo 128 = .ok (.iload 8, 2) := by decide +kernel
theorem dX5_offerTwo_130 : decode cX5_offerTwo 130 = .ok (.invokestatic 97, 3) := by decide +kernel
theorem dX5_offerTwo_133 : decode cX5_offerTwo 133 = .ok (.istore 10, 2) := by decide +kernel
theorem dX5_offerTwo_135 : decode cX5_offerTwo 135 = .ok (.iload 7, 2) := by decide +kernel
theorem dX5_offerTwo_137 : decode cX5_offerTwo 137 = .ok (.iload 8, 2) := by decide +kernel
theorem dX5_offerTwo_139 : decode cX5_offerTwo 139 = .ok (.if_icmp .gt 20, 3) := by decide +kernel
theorem dX5_offerTwo_142 : decode cX5_offerTwo 142 = .ok (.iload 9, 2) := by decide +kernel
theorem dX5_offerTwo_144 : decode cX5_offerTwo 144 = .ok (.aload_n 0, 1) := by decide +kernel
theorem dX5_offerTwo_145 : decode cX5_offerTwo 145 = .ok (.getfield 73, 3) := by decide +kernel
theorem dX5_offerTwo_148 : decode cX5_offerTwo 148 = .ok (.iadd, 1) := by decide +kernel
theorem dX5_offerTwo_149 : decode cX5_offerTwo 149 = .ok (.iload 8, 2) := by decide +kernel
theorem dX5_offerTwo_151 : decode cX5_offerTwo 151 = .ok (.invokestatic 97, 3) := by decide +kernel
theorem dX5_offerTwo_154 : decode cX5_offerTwo 154 = .ok (.istore 10, 2) := by decide +kernel
theorem dX5_offerTwo_156 : decode cX5_offerTwo 156 = .ok (.goto 17, 3) := by decide +kernel
theorem dX5_offerTwo_159 : decode cX5_offerTwo 159 = .ok (.iload 10, 2) := by decide +kernel
theorem dX5_offerTwo_161 : decode cX5_offerTwo 161 = .ok (.aload_n 0, 1) := by decide +kernel
theorem dX5_offerTwo_162 : decode cX5_offerTwo 162 = .ok (.getfield 73, 3) := by decide +kernel
theorem dX5_offerTwo_165 : decode cX5_offerTwo 165 = .ok (.iadd, 1) := by decide +kernel
theorem dX5_offerTwo_166 : decode cX5_offerTwo 166 = .ok (.iload 7, 2) := by decide +kernel
theorem dX5_offerTwo_168 : decode cX5_offerTwo 168 = .ok (.invokestatic 97, 3) := by decide +kernel
theorem dX5_offerTwo_171 : decode cX5_offerTwo 171 = .ok (.istore 9, 2) := by decide +kernel
theorem dX5_offerTwo_173 : decode cX5_offerTwo 173 = .ok (.aload_n 0, 1) := by decide +kernel
theorem dX5_offerTwo_174 : decode cX5_offerTwo 174 = .ok (.aload_n 0, 1) := by decide +kernel
theorem dX5_offerTwo_175 : decode cX5_offerTwo 175 = .ok (.getfield 70, 3) := by decide +kernel
theorem dX5_offerTwo_178 : decode cX5_offerTwo 178 = .ok (.iload 7, 2) := by decide +kernel
theorem dX5_offerTwo_180 : decode cX5_offerTwo 180 = .ok (.iload 9, 2) := by decide +kernel
theorem dX5_offerTwo_182 : decode cX5_offerTwo 182 = .ok (.invokevirtual 131, 3) := by decide +kernel
theorem dX5_offerTwo_185 : decode cX5_offerTwo 185 = .ok (.ifCond .eq 50, 3) := by decide +kernel
theorem dX5_offerTwo_188 : decode cX5_offerTwo 188 = .ok (.aload_n 0, 1) := by decide +kernel
theorem dX5_offerTwo_189 : decode cX5_offerTwo 189 = .ok (.iconst 2, 1) := by decide +kernel
theorem dX5_offerTwo_190 : decode cX5_offerTwo 190 = .ok (.aload_n 0, 1) := by decide +kernel
theorem dX5_offerTwo_191 : decode cX5_offerTwo 191 = .ok (.getfield 70, 3) := by decide +kernel
theorem dX5_offerTwo_194 : decode cX5_offerTwo 194 = .ok (.imul, 1) := by decide +kernel
theorem dX5_offerTwo_195 : decode cX5_offerTwo 195 = .ok (.iload 8, 2) := by decide +kernel
theorem dX5_offerTwo_197 : decode cX5_offerTwo 197 = .ok (.iload 10, 2) := by decide +kernel
theorem dX5_offerTwo_199 : decode cX5_offerTwo 199 = .ok (.invokevirtual 131, 3) := by decide +kernel
theorem dX5_offerTwo_202 : decode cX5_offerTwo 202 = .ok (.ifCond .eq 33, 3) := by decide +kernel
theorem dX5_offerTwo_205 : decode cX5_offerTwo 205 = .ok (.aload_n 0, 1) := by decide +kernel
theorem dX5_offerTwo_206 : decode cX5_offerTwo 206 = .ok (.iload_n 1, 1) := by decide +kernel
theorem dX5_offerTwo_207 : decode cX5_offerTwo 207 = .ok (.iload_n 2, 1) := by decide +kernel
theorem dX5_offerTwo_208 : decode cX5_offerTwo 208 = .ok (.iload_n 1, 1) := by decide +kernel
theorem dX5_offerTwo_209 : decode cX5_offerTwo 209 = .ok (.iload_n 3, 1) := by decide +kernel
theorem dX5_offerTwo_210 : decode cX5_offerTwo 210 = .ok (.invokestatic 135, 3) := by decide +kernel
theorem dX5_offerTwo_213 : decode cX5_offerTwo 213 = .ok (.iload_n 1, 1) := by decide +kernel
theorem dX5_offerTwo_214 : decode cX5_offerTwo 214 = .ok (.iload 4, 2) := by decide +kernel
theorem dX5_offerTwo_216 : decode cX5_offerTwo 216 = .ok (.invokestatic 135, 3) := by decide +kernel
theorem dX5_offerTwo_219 : decode cX5_offerTwo 219 = .ok (.ior, 1) := by decide +kernel
theorem dX5_offerTwo_220 : decode cX5_offerTwo 220 = .ok (.iload 9, 2) := by decide +kernel
theorem dX5_offerTwo_222 : decode cX5_offerTwo 222 = .ok (.iload 10, 2) := by decide +kernel
theorem dX5_offerTwo_224 : decode cX5_offerTwo 224 = .ok (.invokestatic 97, 3) := by decide +kernel
theorem dX5_offerTwo_227 : decode cX5_offerTwo 227 = .ok (.aload_n 0, 1) := by decide +kernel
theorem dX5_offerTwo_228 : decode cX5_offerTwo 228 = .ok (.getfield 73, 3) := by decide +kernel
theorem dX5_offerTwo_231 : decode cX5_offerTwo 231 = .ok (.iadd, 1) := by decide +kernel
theorem dX5_offerTwo_232 : decode cX5_offerTwo 232 = .ok (.invokevirtual 138, 3) := by decide +kernel
theorem dX5_offerTwo_235 : decode cX5_offerTwo 235 = .ok (.return_, 1) := by decide +kernel
def pX5_offerTwo (x1 : Int32) (x2 : Int32) (x3 : Int32) (x4 : Int32) (M : Mm) : Option (Mm) :=
Option.bind (α := Int32) (if x4 = (x3 + 1) then
((pX5_spared x3 x4 M).bind fun v28 =>
some v28)
else
((pX5_spared x3 x3 M).bind fun v30 =>
(pX5_spared x4 x4 M).bind fun v32 =>
some (v30 + v32))) fun j1 =>
(ald M 23 10 x2).bind fun v4 =>
(ald M 23 10 x1).bind fun v6 =>
bnd ((((2 * (M 17 2)) + v4) - v6) - j1) fun v8 =>
(ald M 24 10 x1).bind fun v9 =>
(ald M 24 10 x2).bind fun v11 =>
if ((v9 + v8) + (2 * (M 17 3))) ≤ v11 then
((pX5_trip x1 x3 x2 M).bind fun v13 =>
bnd ((M 17 2) + v13) fun v15 =>
(pX5_trip x1 x4 x2 M).bind fun v16 =>
bnd ((2 * (M 17 2)) + v16) fun v18 =>
bnd (mmax v8 v15) fun v19 =>
bnd (mmax v8 v18) fun v20 =>
bnd (α := Int32 × Int32) (if v18 < v15 then
(bnd (mmax (v20 + (M 17 3)) v15) fun v26 =>
(v26, v20))
else
(bnd (mmax (v19 + (M 17 3)) v18) fun v27 =>
(v19, v27))) fun j21 =>
if (pX5_lasts (M 17 2) v15 j21.1 M) = 0 then
(some M)
else
(if (pX5_lasts (2 * (M 17 2)) v18 j21.2 M) = 0 then
(some M)
else
((pX5_offer x1 x2 ((pX5_bit x1 x3) ||| (pX5_bit x1 x4)) ((mmax j21.1 j21.2) + (M 17 3)) M).bind fun v24 =>
some v24)))
else
(some M)
abbrev zX5_offerTwo : Zx := (cX5_offerTwo, RX5, 11, 2, none)
set_option maxRecDepth 100000 in
set_option maxHeartbeats 4000000 in
theorem tX5_offerTwo {l : Launch} {Y : Sx} {M : Mm} {x1 : Int32} {x2 : Int32} {x3 : Int32} {x4 : Int32} {q : Mm} (hY : isA Y) (h : pX5_offerTwo x1 x2 x3 x4 M = some q) : Ct l Y yX5_offerTwo cX5_offerTwo 11 none 2 [.ref (adr Y 17), .int x1, .int x2, .int x3, .int x4] M none q := by
  refine Ct.of (by decide) rfl (lv := [(0, .ref (adr Y 17)), (1, .int x1), (2, .int x2), (3, .int x3), (4, .int x4)]) rfl ?_
  intro K hkl C
  change Cx K zX5_offerTwo Y at C
  subst hkl
  unfold pX5_offerTwo at h
  show Wp K zX5_offerTwo Y (Qm K Y none q) M 0 [(0, .ref (adr Y 17)), (1, .int x1), (2, .int x2), (3, .int x3), (4, .int x4)] []
  refine w_iload C (pc := 0) dX5_offerTwo_0 4 rfl ?_
  refine w_iload_n C (pc := 2) dX5_offerTwo_2 3 rfl ?_
  refine w_iconst C (pc := 3) dX5_offerTwo_3 (v := 1) (by decide) ?_
  refine w_iadd C (pc := 4) dX5_offerTwo_4 ?_
  obtain ⟨j1, e2, h3⟩ := ob h
  have Jj1 : Wp K zX5_offerTwo Y (Qm K Y none q) M 33 [(0, .ref (adr Y 17)), (1, .int x1), (2, .int x2), (3, .int x3), (4, .int x4)] [.int j1] := by
    refine w_istore C (pc := 33) dX5_offerTwo_33 (lv' := [(0, .ref (adr Y 17)), (1, .int x1), (2, .int x2), (3, .int x3), (4, .int x4), (5, .int j1)]) rfl rfl rfl ?_
    refine w_iconst C (pc := 35) dX5_offerTwo_35 (v := 2) (by decide) ?_
    refine w_aload_n C (pc := 36) dX5_offerTwo_36 0 rfl ?_
    refine w_getI C (pc := 37) dX5_offerTwo_37 f_X5_70 (sA_17 hY) rfl ?_
    refine w_imul C (pc := 40) dX5_offerTwo_40 ?_
    refine w_aload_n C (pc := 41) dX5_offerTwo_41 0 rfl ?_
    refine w_getR C (pc := 42) dX5_offerTwo_42 f_X5_28 (sA_17 hY) rfl ?_
    refine w_iload_n C (pc := 45) dX5_offerTwo_45 2 rfl ?_
    obtain ⟨v4, e5, h3⟩ := ob h3
    refine w_iald C (pc := 46) dX5_offerTwo_46 (sA_23 hY) e5 ?_
    refine w_iadd C (pc := 47) dX5_offerTwo_47 ?_
    refine w_aload_n C (pc := 48) dX5_offerTwo_48 0 rfl ?_
    refine w_getR C (pc := 49) dX5_offerTwo_49 f_X5_28 (sA_17 hY) rfl ?_
    refine w_iload_n C (pc := 52) dX5_offerTwo_52 1 rfl ?_
    obtain ⟨v6, e7, h3⟩ := ob h3
    refine w_iald C (pc := 53) dX5_offerTwo_53 (sA_23 hY) e7 ?_
    refine w_isub C (pc := 54) dX5_offerTwo_54 ?_
    refine w_iload C (pc := 55) dX5_offerTwo_55 5 rfl ?_
    refine w_isub C (pc := 57) dX5_offerTwo_57 ?_
    refine w_bnd h3 (fun v8 h3 => ?_)
    refine w_istore C (pc := 58) dX5_offerTwo_58 (lv' := [(0, .ref (adr Y 17)), (1, .int x1), (2, .int x2), (3, .int x3), (4, .int x4), (5, .int j1), (6, .int v8)]) rfl rfl rfl ?_
    refine w_aload_n C (pc := 60) dX5_offerTwo_60 0 rfl ?_
    refine w_getR C (pc := 61) dX5_offerTwo_61 f_X5_31 (sA_17 hY) rfl ?_
    refine w_iload_n C (pc := 64) dX5_offerTwo_64 1 rfl ?_
    obtain ⟨v9, e10, h3⟩ := ob h3
    refine w_iald C (pc := 65) dX5_offerTwo_65 (sA_24 hY) e10 ?_
    refine w_iload C (pc := 66) dX5_offerTwo_66 6 rfl ?_
    refine w_iadd C (pc := 68) dX5_offerTwo_68 ?_
    refine w_iconst C (pc := 69) dX5_offerTwo_69 (v := 2) (by decide) ?_
    refine w_aload_n C (pc := 70) dX5_offerTwo_70 0 rfl ?_
    refine w_getI C (pc := 71) dX5_offerTwo_71 f_X5_73 (sA_17 hY) rfl ?_
    refine w_imul C (pc := 74) dX5_offerTwo_74 ?_
    refine w_iadd C (pc := 75) dX5_offerTwo_75 ?_
    refine w_aload_n C (pc := 76) dX5_offerTwo_76 0 rfl ?_
    refine w_getR C (pc := 77) dX5_offerTwo_77 f_X5_31 (sA_17 hY) rfl ?_
    refine w_iload_n C (pc := 80) dX5_offerTwo_80 2 rfl ?_
    obtain ⟨v11, e12, h3⟩ := ob h3
    refine w_iald C (pc := 81) dX5_offerTwo_81 (sA_24 hY) e12 ?_
    refine w_icle C (pc := 82) 86 dX5_offerTwo_82 (by decide) (fun c => ?_) (fun c => ?_)
    · have h3 := it_t h3 c
      refine w_aload_n C (pc := 86) dX5_offerTwo_86 0 rfl ?_
      refine w_getI C (pc := 87) dX5_offerTwo_87 f_X5_70 (sA_17 hY) rfl ?_
      refine w_aload_n C (pc := 90) dX5_offerTwo_90 0 rfl ?_
      refine w_iload_n C (pc := 91) dX5_offerTwo_91 1 rfl ?_
      refine w_iload_n C (pc := 92) dX5_offerTwo_92 3 rfl ?_
      refine w_iload_n C (pc := 93) dX5_offerTwo_93 2 rfl ?_
      obtain ⟨v13, e14, h3⟩ := ob h3
      refine w_cVi C (pc := 94) dX5_offerTwo_94 my_X5_trip mi_X5_trip ml_X5_127 (sA_17 hY) rfl rfl rfl [.int x1, .int x3, .int x2] rfl rfl (Nat.le_of_ble_eq_true rfl) (tX5_trip hY  e14) ?_
      refine w_iadd C (pc := 97) dX5_offerTwo_97 ?_
      refine w_bnd h3 (fun v15 h3 => ?_)
      refine w_istore C (pc := 98) dX5_offerTwo_98 (lv' := [(0, .ref (adr Y 17)), (1, .int x1), (2, .int x2), (3, .int x3), (4, .int x4), (5, .int j1), (6, .int v8), (7, .int v15)]) rfl rfl rfl ?_
      refine w_iconst C (pc := 100) dX5_offerTwo_100 (v := 2) (by decide) ?_
      refine w_aload_n C (pc := 101) dX5_offerTwo_101 0 rfl ?_
      refine w_getI C (pc := 102) dX5_offerTwo_102 f_X5_70 (sA_17 hY) rfl ?_
      refine w_imul C (pc := 105) dX5_offerTwo_105 ?_
      refine w_aload_n C (pc := 106) dX5_offerTwo_106 0 rfl ?_
      refine w_iload_n C (pc := 107) dX5_offerTwo_107 1 rfl ?_
      refine w_iload C (pc := 108) dX5_offerTwo_108 4 rfl ?_
      refine w_iload_n C (pc := 110) dX5_offerTwo_110 2 rfl ?_
      obtain ⟨v16, e17, h3⟩ := ob h3
      refine w_cVi C (pc := 111) dX5_offerTwo_111 my_X5_trip mi_X5_trip ml_X5_127 (sA_17 hY) rfl rfl rfl [.int x1, .int x4, .int x2] rfl rfl (Nat.le_of_ble_eq_true rfl) (tX5_trip hY  e17) ?_
      refine w_iadd C (pc := 114) dX5_offerTwo_114 ?_
      refine w_bnd h3 (fun v18 h3 => ?_)
      refine w_istore C (pc := 115) dX5_offerTwo_115 (lv' := [(0, .ref (adr Y 17)), (1, .int x1), (2, .int x2), (3, .int x3), (4, .int x4), (5, .int j1), (6, .int v8), (7, .int v15), (8, .int v18)]) rfl rfl rfl ?_
      refine w_iload C (pc := 117) dX5_offerTwo_117 6 rfl ?_
      refine w_iload C (pc := 119) dX5_offerTwo_119 7 rfl ?_
      refine w_max C (pc := 121) dX5_offerTwo_121 mmax_X5_97 rfl (Nat.le_of_ble_eq_true rfl) ?_
      refine w_bnd h3 (fun v19 h3 => ?_)
      refine w_istore C (pc := 124) dX5_offerTwo_124 (lv' := [(0, .ref (adr Y 17)), (1, .int x1), (2, .int x2), (3, .int x3), (4, .int x4), (5, .int j1), (6, .int v8), (7, .int v15), (8, .int v18), (9, .int v19)]) rfl rfl rfl ?_
      refine w_iload C (pc := 126) dX5_offerTwo_126 6 rfl ?_
      refine w_iload C (pc := 128) dX5_offerTwo_128 8 rfl ?_
      refine w_max C (pc := 130) dX5_offerTwo_130 mmax_X5_97 rfl (Nat.le_of_ble_eq_true rfl) ?_
      refine w_bnd h3 (fun v20 h3 => ?_)
      refine w_istore C (pc := 133) dX5_offerTwo_133 (lv' := [(0, .ref (adr Y 17)), (1, .int x1), (2, .int x2), (3, .int x3), (4, .int x4), (5, .int j1), (6, .int v8), (7, .int v15), (8, .int v18), (9, .int v19), (10, .int v20)]) rfl rfl rfl ?_
      refine w_iload C (pc := 135) dX5_offerTwo_135 7 rfl ?_
      refine w_iload C (pc := 137) dX5_offerTwo_137 8 rfl ?_
      obtain ⟨j21, e22, h23⟩ := bn h3
      have Jj21 : Wp K zX5_offerTwo Y (Qm K Y none q) M 173 [(0, .ref (adr Y 17)), (1, .int x1), (2, .int x2), (3, .int x3), (4, .int x4), (5, .int j1), (6, .int v8), (7, .int v15), (8, .int v18), (9, .int j21.1), (10, .int j21.2)] [] := by
        refine w_aload_n C (pc := 173) dX5_offerTwo_173 0 rfl ?_
        refine w_aload_n C (pc := 174) dX5_offerTwo_174 0 rfl ?_
        refine w_getI C (pc := 175) dX5_offerTwo_175 f_X5_70 (sA_17 hY) rfl ?_
        refine w_iload C (pc := 178) dX5_offerTwo_178 7 rfl ?_
        refine w_iload C (pc := 180) dX5_offerTwo_180 9 rfl ?_
        refine w_cVi C (pc := 182) dX5_offerTwo_182 my_X5_lasts mi_X5_lasts ml_X5_131 (sA_17 hY) rfl rfl rfl [.int (M 17 2), .int v15, .int j21.1] rfl rfl (Nat.le_of_ble_eq_true rfl) (tX5_lasts hY  rfl) ?_
        refine w_ifeq C (pc := 185) 235 dX5_offerTwo_185 (by decide) (fun c => ?_) (fun c => ?_)
        · have h23 := it_t h23 c
          exact w_retV C (pc := 235) dX5_offerTwo_235 rfl (Option.some.inj h23)
        · have h23 := it_f h23 c
          refine w_aload_n C (pc := 188) dX5_offerTwo_188 0 rfl ?_
          refine w_iconst C (pc := 189) dX5_offerTwo_189 (v := 2) (by decide) ?_
          refine w_aload_n C (pc := 190) dX5_offerTwo_190 0 rfl ?_
          refine w_getI C (pc := 191) dX5_offerTwo_191 f_X5_70 (sA_17 hY) rfl ?_
          refine w_imul C (pc := 194) dX5_offerTwo_194 ?_
          refine w_iload C (pc := 195) dX5_offerTwo_195 8 rfl ?_
          refine w_iload C (pc := 197) dX5_offerTwo_197 10 rfl ?_
          refine w_cVi C (pc := 199) dX5_offerTwo_199 my_X5_lasts mi_X5_lasts ml_X5_131 (sA_17 hY) rfl rfl rfl [.int (2 * (M 17 2)), .int v18, .int j21.2] rfl rfl (Nat.le_of_ble_eq_true rfl) (tX5_lasts hY  rfl) ?_
          refine w_ifeq C (pc := 202) 235 dX5_offerTwo_202 (by decide) (fun c => ?_) (fun c => ?_)
          · have h23 := it_t h23 c
            exact w_retV C (pc := 235) dX5_offerTwo_235 rfl (Option.some.inj h23)
          · have h23 := it_f h23 c
            refine w_aload_n C (pc := 205) dX5_offerTwo_205 0 rfl ?_
            refine w_iload_n C (pc := 206) dX5_offerTwo_206 1 rfl ?_
            refine w_iload_n C (pc := 207) dX5_offerTwo_207 2 rfl ?_
            refine w_iload_n C (pc := 208) dX5_offerTwo_208 1 rfl ?_
            refine w_iload_n C (pc := 209) dX5_offerTwo_209 3 rfl ?_
            refine w_cSi C (pc := 210) dX5_offerTwo_210 my_X5_bit ms_X5_bit ml_X5_135 rfl rfl [.int x1, .int x3] rfl rfl (Nat.le_of_ble_eq_true rfl) (tX5_bit  rfl) ?_
            refine w_iload_n C (pc := 213) dX5_offerTwo_213 1 rfl ?_
            refine w_iload C (pc := 214) dX5_offerTwo_214 4 rfl ?_
            refine w_cSi C (pc := 216) dX5_offerTwo_216 my_X5_bit ms_X5_bit ml_X5_135 rfl rfl [.int x1, .int x4] rfl rfl (Nat.le_of_ble_eq_true rfl) (tX5_bit  rfl) ?_
            refine w_ior C (pc := 219) dX5_offerTwo_219 ?_
            refine w_iload C (pc := 220) dX5_offerTwo_220 9 rfl ?_
            refine w_iload C (pc := 222) dX5_offerTwo_222 10 rfl ?_
            refine w_max C (pc := 224) dX5_offerTwo_224 mmax_X5_97 rfl (Nat.le_of_ble_eq_true rfl) ?_
            refine w_aload_n C (pc := 227) dX5_offerTwo_227 0 rfl ?_
            refine w_getI C (pc := 228) dX5_offerTwo_228 f_X5_73 (sA_17 hY) rfl ?_
            refine w_iadd C (pc := 231) dX5_offerTwo_231 ?_
            obtain ⟨v24, e25, h23⟩ := ob h23
            refine w_cVv C (pc := 232) dX5_offerTwo_232 my_X5_offer mi_X5_offer ml_X5_138 (sA_17 hY) rfl rfl rfl [.int x1, .int x2, .int ((pX5_bit x1 x3) ||| (pX5_bit x1 x4)), .int ((mmax j21.1 j21.2) + (M 17 3))] rfl rfl (Nat.le_of_ble_eq_true rfl) (tX5_offer hY  e25) ?_
            exact w_retV C (pc := 235) dX5_offerTwo_235 rfl (Option.some.inj h23)
      refine w_icgt C (pc := 139) 159 dX5_offerTwo_139 (by decide) (fun c => ?_) (fun c => ?_)
      · have e22 := it_t e22 c
        refine w_iload C (pc := 159) dX5_offerTwo_159 10 rfl ?_
        refine w_aload_n C (pc := 161) dX5_offerTwo_161 0 rfl ?_
        refine w_getI C (pc := 162) dX5_offerTwo_162 f_X5_73 (sA_17 hY) rfl ?_
        refine w_iadd C (pc := 165) dX5_offerTwo_165 ?_
        refine w_iload C (pc := 166) dX5_offerTwo_166 7 rfl ?_
        refine w_max C (pc := 168) dX5_offerTwo_168 mmax_X5_97 rfl (Nat.le_of_ble_eq_true rfl) ?_
        refine w_bnd e22 (fun v26 e22 => ?_)
        refine w_istore C (pc := 171) dX5_offerTwo_171 (lv' := [(0, .ref (adr Y 17)), (1, .int x1), (2, .int x2), (3, .int x3), (4, .int x4), (5, .int j1), (6, .int v8), (7, .int v15), (8, .int v18), (9, .int v26), (10, .int v20)]) rfl rfl rfl ?_
        obtain rfl := e22
        exact Jj21
      · have e22 := it_f e22 c
        refine w_iload C (pc := 142) dX5_offerTwo_142 9 rfl ?_
        refine w_aload_n C (pc := 144) dX5_offerTwo_144 0 rfl ?_
        refine w_getI C (pc := 145) dX5_offerTwo_145 f_X5_73 (sA_17 hY) rfl ?_
        refine w_iadd C (pc := 148) dX5_offerTwo_148 ?_
        refine w_iload C (pc := 149) dX5_offerTwo_149 8 rfl ?_
        refine w_max C (pc := 151) dX5_offerTwo_151 mmax_X5_97 rfl (Nat.le_of_ble_eq_true rfl) ?_
        refine w_bnd e22 (fun v27 e22 => ?_)
        refine w_istore C (pc := 154) dX5_offerTwo_154 (lv' := [(0, .ref (adr Y 17)), (1, .int x1), (2, .int x2), (3, .int x3), (4, .int x4), (5, .int j1), (6, .int v8), (7, .int v15), (8, .int v18), (9, .int v19), (10, .int v27)]) rfl rfl rfl ?_
        refine w_goto C (pc := 156) 173 dX5_offerTwo_156 (by decide) ?_
        obtain rfl := e22
        exact Jj21
    · have h3 := it_f h3 c
      exact w_retV C (pc := 85) dX5_offerTwo_85 rfl (Option.some.inj h3)
  refine w_icne C (pc := 5) 18 dX5_offerTwo_5 (by decide) (fun c => ?_) (fun c => ?_)
  · have e2 := it_t e2 c
    refine w_aload_n C (pc := 8) dX5_offerTwo_8 0 rfl ?_
    refine w_iload_n C (pc := 9) dX5_offerTwo_9 3 rfl ?_
    refine w_iload C (pc := 10) dX5_offerTwo_10 4 rfl ?_
    obtain ⟨v28, e29, e2⟩ := ob e2
    refine w_cVi C (pc := 12) dX5_offerTwo_12 my_X5_spared mi_X5_spared ml_X5_124 (sA_17 hY) rfl rfl rfl [.int x3, .int x4] rfl rfl (Nat.le_of_ble_eq_true rfl) (tX5_spared hY  e29) ?_
    refine w_goto C (pc := 15) 33 dX5_offerTwo_15 (by decide) ?_
    obtain rfl := Option.some.inj e2
    exact Jj1
  · have e2 := it_f e2 c
    refine w_aload_n C (pc := 18) dX5_offerTwo_18 0 rfl ?_
    refine w_iload_n C (pc := 19) dX5_offerTwo_19 3 rfl ?_
    refine w_iload_n C (pc := 20) dX5_offerTwo_20 3 rfl ?_
    obtain ⟨v30, e31, e2⟩ := ob e2
    refine w_cVi C (pc := 21) dX5_offerTwo_21 my_X5_spared mi_X5_spared ml_X5_124 (sA_17 hY) rfl rfl rfl [.int x3, .int x3] rfl rfl (Nat.le_of_ble_eq_true rfl) (tX5_spared hY  e31) ?_
    refine w_aload_n C (pc := 24) dX5_offerTwo_24 0 rfl ?_
    refine w_iload C (pc := 25) dX5_offerTwo_25 4 rfl ?_
    refine w_iload C (pc := 27) dX5_offerTwo_27 4 rfl ?_
    obtain ⟨v32, e33, e2⟩ := ob e2
    refine w_cVi C (pc := 29) dX5_offerTwo_29 my_X5_spared mi_X5_spared ml_X5_124 (sA_17 hY) rfl rfl rfl [.int x4, .int x4] rfl rfl (Nat.le_of_ble_eq_true rfl) (tX5_spared hY  e33) ?_
    refine w_iadd C (pc := 32) dX5_offerTwo_32 ?_
    obtain rfl := Option.some.inj e2
    exact Jj1
theorem dX5_offerBlocks_0 : decode cX5_offerBlocks 0 = .ok (.iload_n 1, 1) := by decide +kernel
theorem dX5_offerBlocks_1 : decode cX5_offerBlocks 1 = .ok (.iconst 1, 1) := by decide +kernel
theorem dX5_offerBlocks_2 : decode cX5_offerBlocks 2 = .ok (.iadd, 1) := by decide +kernel
theorem dX5_offerBlocks_3 : decode cX5_offerBlocks 3 = .ok (.istore_n 3, 1) := by decide +kernel
theorem dX5_offerBlocks_4 : decode cX5_offerBlocks 4 = .ok (.iload_n 3, 1) := by decide +kernel
theorem dX5_offerBlocks_5 : decode cX5_offerBlocks 5 = .ok (.iload_n 2, 1) := by decide +kernel
theorem dX5_offerBlocks_6 : decode cX5_offerBlocks 6 = .ok (.if_icmp .ge 82, 3) := by decide +kernel
theorem dX5_offerBlocks_9 : decode cX5_offerBlocks 9 = .ok (.aload_n 0, 1) := by decide +kernel
theorem dX5_offerBlocks_10 : decode cX5_offerBlocks 10 = .ok (.getfield 21, 3) := by decide +kernel
theorem dX5_offerBlocks_13 : decode cX5_offerBlocks 13 = .ok (.aload_n 0, 1) := by decide +kernel
theorem dX5_offerBlocks_14 : decode cX5_offerBlocks 14 = .ok (.getfield 25, 3) := by decide +kernel
theorem dX5_offerBlocks_17 : decode cX5_offerBlocks 17 = .ok (.iload_n 3, 1) := by decide +kernel
theorem dX5_offerBlocks_18 : decode cX5_offerBlocks 18 = .ok (.iaload, 1) := by decide +kernel
theorem dX5_offerBlocks_19 : decode cX5_offerBlocks 19 = .ok (.baload, 1) := by decide +kernel
theorem dX5_offerBlocks_20 : decode cX5_offerBlocks 20 = .ok (.ifCond .ne 6, 3) := by decide +kernel
theorem dX5_offerBlocks_23 : decode cX5_offerBlocks 23 = .ok (.goto 59, 3) := by decide +kernel
theorem dX5_offerBlocks_26 : decode cX5_offerBlocks 26 = .ok (.aload_n 0, 1) := by decide +kernel
theorem dX5_offerBlocks_27 : decode cX5_offerBlocks 27 = .ok (.iload_n 1, 1) := by decide +kernel
theorem dX5_offerBlocks_28 : decode cX5_offerBlocks 28 = .ok (.iload_n 2, 1) := by decide +kernel
theorem dX5_offerBlocks_29 : decode cX5_offerBlocks 29 = .ok (.iload_n 3, 1) := by decide +kernel
theorem dX5_offerBlocks_30 : decode cX5_offerBlocks 30 = .ok (.invokevirtual 116, 3) := by decide +kernel
theorem dX5_offerBlocks_33 : decode cX5_offerBlocks 33 = .ok (.iload_n 1, 1) := by decide +kernel
theorem dX5_offerBlocks_34 : decode cX5_offerBlocks 34 = .ok (.iconst 1, 1) := by decide +kernel
theorem dX5_offerBlocks_35 : decode cX5_offerBlocks 35 = .ok (.iadd, 1) := by decide +kernel
theorem dX5_offerBlocks_36 : decode cX5_offerBlocks 36 = .ok (.istore 4, 2) := by decide +kernel
theorem dX5_offerBlocks_38 : decode cX5_offerBlocks 38 = .ok (.iload 4, 2) := by decide +kernel
theorem dX5_offerBlocks_40 : decode cX5_offerBlocks 40 = .ok (.iload_n 3, 1) := by decide +kernel
theorem dX5_offerBlocks_41 : decode cX5_offerBlocks 41 = .ok (.if_icmp .ge 41, 3) := by decide +kernel
theorem dX5_offerBlocks_44 : decode cX5_offerBlocks 44 = .ok (.aload_n 0, 1) := by decide +kernel
theorem dX5_offerBlocks_45 : decode cX5_offerBlocks 45 = .ok (.getfield 63, 3) := by decide +kernel
theorem dX5_offerBlocks_48 : decode cX5_offerBlocks 48 = .ok (.iconst 1, 1) := by decide +kernel
theorem dX5_offerBlocks_49 : decode cX5_offerBlocks 49 = .ok (.if_icmp .le 33, 3) := by decide +kernel
theorem dX5_offerBlocks_52 : decode cX5_offerBlocks 52 = .ok (.aload_n 0, 1) := by decide +kernel
theorem dX5_offerBlocks_53 : decode cX5_offerBlocks 53 = .ok (.getfield 21, 3) := by decide +kernel
theorem dX5_offerBlocks_56 : decode cX5_offerBlocks 56 = .ok (.aload_n 0, 1) := by decide +kernel
theorem dX5_offerBlocks_57 : decode cX5_offerBlocks 57 = .ok (.getfield 25, 3) := by decide +kernel
theorem dX5_offerBlocks_60 : decode cX5_offerBlocks 60 = .ok (.iload 4, 2) := by decide +kernel
theorem dX5_offerBlocks_62 : decode cX5_offerBlocks 62 = .ok (.iaload, 1) := by decide +kernel
theorem dX5_offerBlocks_63 : decode cX5_offerBlocks 63 = .ok (.baload, 1) := by decide +kernel
theorem dX5_offerBlocks_64 : decode cX5_offerBlocks 64 = .ok (.ifCond .eq 12, 3) := by decide +kernel
theorem dX5_offerBlocks_67 : decode cX5_offerBlocks 67 = .ok (.aload_n 0, 1) := by decide +kernel
theorem dX5_offerBlocks_68 : decode cX5_offerBlocks 68 = .ok (.iload_n 1, 1) := by decide +kernel
theorem dX5_offerBlocks_69 : decode cX5_offerBlocks 69 = .ok (.iload_n 2, 1) := by decide +kernel
theorem dX5_offerBlocks_70 : decode cX5_offerBlocks 70 = .ok (.iload 4, 2) := by decide +kernel
theorem dX5_offerBlocks_72 : decode cX5_offerBlocks 72 = .ok (.iload_n 3, 1) := by decide +kernel
theorem dX5_offerBlocks_73 : decode cX5_offerBlocks 73 = .ok (.invokevirtual 120, 3) := by decide +kernel
theorem dX5_offerBlocks_76 : decode cX5_offerBlocks 76 = .ok (.iinc 4 1, 3) := by decide +kernel
theorem dX5_offerBlocks_79 : decode cX5_offerBlocks 79 = .ok (.goto (-41), 3) := by decide +kernel
theorem dX5_offerBlocks_82 : decode cX5_offerBlocks 82 = .ok (.iinc 3 1, 3) := by decide +kernel
theorem dX5_offerBlocks_85 : decode cX5_offerBlocks 85 = .ok (.goto (-81), 3) := by decide +kernel
theorem dX5_offerBlocks_88 : decode cX5_offerBlocks 88 = .ok (.return_, 1) := by decide +kernel
def pX5_offerBlocks_L38 (x1 : Int32) (x2 : Int32) (x3 : Int32) (s : Int32 × Mm) : Option ((Int32 × Mm) ⊕ (Mm)) :=
if x3 ≤ s.1 then
(some (Sum.inr s.2))
else
(if (s.2 17 1) ≤ 1 then
(some (Sum.inr s.2))
else
((ald s.2 22 10 s.1).bind fun v9 =>
(ald s.2 21 9 v9).bind fun v11 =>
if v11 = 0 then
(some (Sum.inl (s.1 + 1, s.2)))
else
((pX5_offerTwo x1 x2 s.1 x3 s.2).bind fun v13 =>
some (Sum.inl (s.1 + 1, v13)))))
def pX5_offerBlocks_L4 (x1 : Int32) (x2 : Int32) (s : Int32 × Mm) : Option ((Int32 × Mm) ⊕ (Mm)) :=
if x2 ≤ s.1 then
(some (Sum.inr s.2))
else
((ald s.2 22 10 s.1).bind fun v2 =>
(ald s.2 21 9 v2).bind fun v4 =>
if v4 = 0 then
(some (Sum.inl (s.1 + 1, s.2)))
else
((pX5_offerOne x1 x2 s.1 s.2).bind fun v6 =>
bnd (x1 + 1) fun v8 =>
(itr (pX5_offerBlocks_L38 x1 x2 s.1) fuel (v8, v6)).bind fun x15 =>
some (Sum.inl (s.1 + 1, x15))))
def pX5_offerBlocks (x1 : Int32) (x2 : Int32) (M : Mm) : Option (Mm) :=
bnd (x1 + 1) fun v1 =>
(itr (pX5_offerBlocks_L4 x1 x2) fuel (v1, M)).bind fun x28 =>
some x28
abbrev zX5_offerBlocks : Zx := (cX5_offerBlocks, RX5, 5, 3, none)
set_option maxRecDepth 100000 in
set_option maxHeartbeats 4000000 in
theorem tX5_offerBlocks {l : Launch} {Y : Sx} {M : Mm} {x1 : Int32} {x2 : Int32} {q : Mm} (hY : isA Y) (h : pX5_offerBlocks x1 x2 M = some q) : Ct l Y yX5_offerBlocks cX5_offerBlocks 5 none 3 [.ref (adr Y 17), .int x1, .int x2] M none q := by
  refine Ct.of (by decide) rfl (lv := [(0, .ref (adr Y 17)), (1, .int x1), (2, .int x2)]) rfl ?_
  intro K hkl C
  change Cx K zX5_offerBlocks Y at C
  subst hkl
  unfold pX5_offerBlocks at h
  show Wp K zX5_offerBlocks Y (Qm K Y none q) M 0 [(0, .ref (adr Y 17)), (1, .int x1), (2, .int x2)] []
  refine w_iload_n C (pc := 0) dX5_offerBlocks_0 1 rfl ?_
  refine w_iconst C (pc := 1) dX5_offerBlocks_1 (v := 1) (by decide) ?_
  refine w_iadd C (pc := 2) dX5_offerBlocks_2 ?_
  refine w_bnd h (fun v1 h => ?_)
  refine w_istore_n C (pc := 3) dX5_offerBlocks_3 (lv' := [(0, .ref (adr Y 17)), (1, .int x1), (2, .int x2), (3, .int v1)]) rfl rfl rfl ?_
  obtain ⟨x28, e29, h⟩ := ob h
  refine itr_W (P := fun s30 => Wp K zX5_offerBlocks Y (Qm K Y none q) s30.2 4 [(0, .ref (adr Y 17)), (1, .int x1), (2, .int x2), (3, .int s30.1)] []) (R := fun x28 => Wp K zX5_offerBlocks Y (Qm K Y none q) x28 88 [(0, .ref (adr Y 17)), (1, .int x1), (2, .int x2)] []) ?_ fuel (v1, M) x28 e29 ?_
  · intro s30 r31 h34 ki32 kx33
    unfold pX5_offerBlocks_L4 at h34
    show Wp K zX5_offerBlocks Y (Qm K Y none q) s30.2 4 [(0, .ref (adr Y 17)), (1, .int x1), (2, .int x2), (3, .int s30.1)] []
    refine w_iload_n C (pc := 4) dX5_offerBlocks_4 3 rfl ?_
    refine w_iload_n C (pc := 5) dX5_offerBlocks_5 2 rfl ?_
    refine w_icge C (pc := 6) 88 dX5_offerBlocks_6 (by decide) (fun c => ?_) (fun c => ?_)
    · have h34 := it_t h34 c
      obtain rfl := Option.some.inj h34
      refine w_lv [0, 1, 2] rfl ?_
      exact kx33 _ rfl
    · have h34 := it_f h34 c
      refine w_aload_n C (pc := 9) dX5_offerBlocks_9 0 rfl ?_
      refine w_getR C (pc := 10) dX5_offerBlocks_10 f_X5_21 (sA_17 hY) rfl ?_
      refine w_aload_n C (pc := 13) dX5_offerBlocks_13 0 rfl ?_
      refine w_getR C (pc := 14) dX5_offerBlocks_14 f_X5_25 (sA_17 hY) rfl ?_
      refine w_iload_n C (pc := 17) dX5_offerBlocks_17 3 rfl ?_
      obtain ⟨v35, e36, h34⟩ := ob h34
      refine w_iald C (pc := 18) dX5_offerBlocks_18 (sA_22 hY) e36 ?_
      obtain ⟨v37, e38, h34⟩ := ob h34
      refine w_zald C (pc := 19) dX5_offerBlocks_19 (sA_21 hY) e38 ?_
      refine w_ifne C (pc := 20) 26 dX5_offerBlocks_20 (by decide) (fun c => ?_) (fun c => ?_)
      · have h34 := it_t h34 c
        refine w_goto C (pc := 23) 82 dX5_offerBlocks_23 (by decide) ?_
        refine w_iinc C (pc := 82) dX5_offerBlocks_82 3 rfl (v := 1) (lv' := [(0, .ref (adr Y 17)), (1, .int x1), (2, .int x2), (3, .int (s30.1 + 1))]) (by decide) rfl rfl rfl ?_
        refine w_goto C (pc := 85) 4 dX5_offerBlocks_85 (by decide) ?_
        obtain rfl := Option.some.inj h34
        exact ki32 _ rfl
      · have h34 := it_f h34 c
        refine w_aload_n C (pc := 26) dX5_offerBlocks_26 0 rfl ?_
        refine w_iload_n C (pc := 27) dX5_offerBlocks_27 1 rfl ?_
        refine w_iload_n C (pc := 28) dX5_offerBlocks_28 2 rfl ?_
        refine w_iload_n C (pc := 29) dX5_offerBlocks_29 3 rfl ?_
        obtain ⟨v39, e40, h34⟩ := ob h34
        refine w_cVv C (pc := 30) dX5_offerBlocks_30 my_X5_offerOne mi_X5_offerOne ml_X5_116 (sA_17 hY) rfl rfl rfl [.int x1, .int x2, .int s30.1] rfl rfl (Nat.le_of_ble_eq_true rfl) (tX5_offerOne hY  e40) ?_
        refine w_iload_n C (pc := 33) dX5_offerBlocks_33 1 rfl ?_
        refine w_iconst C (pc := 34) dX5_offerBlocks_34 (v := 1) (by decide) ?_
        refine w_iadd C (pc := 35) dX5_offerBlocks_35 ?_
        refine w_bnd h34 (fun v41 h34 => ?_)
        refine w_istore C (pc := 36) dX5_offerBlocks_36 (lv' := [(0, .ref (adr Y 17)), (1, .int x1), (2, .int x2), (3, .int s30.1), (4, .int v41)]) rfl rfl rfl ?_
        obtain ⟨x42, e43, h34⟩ := ob h34
        refine itr_W (P := fun s44 => Wp K zX5_offerBlocks Y (Qm K Y none q) s44.2 38 [(0, .ref (adr Y 17)), (1, .int x1), (2, .int x2), (3, .int s30.1), (4, .int s44.1)] []) (R := fun x42 => Wp K zX5_offerBlocks Y (Qm K Y none q) x42 82 [(0, .ref (adr Y 17)), (1, .int x1), (2, .int x2), (3, .int s30.1)] []) ?_ fuel (v41, v39) x42 e43 ?_
        · intro s44 r45 h48 ki46 kx47
          unfold pX5_offerBlocks_L38 at h48
          show Wp K zX5_offerBlocks Y (Qm K Y none q) s44.2 38 [(0, .ref (adr Y 17)), (1, .int x1), (2, .int x2), (3, .int s30.1), (4, .int s44.1)] []
          refine w_iload C (pc := 38) dX5_offerBlocks_38 4 rfl ?_
          refine w_iload_n C (pc := 40) dX5_offerBlocks_40 3 rfl ?_
          refine w_icge C (pc := 41) 82 dX5_offerBlocks_41 (by decide) (fun c => ?_) (fun c => ?_)
          · have h48 := it_t h48 c
            obtain rfl := Option.some.inj h48
            refine w_lv [0, 1, 2, 3] rfl ?_
            exact kx47 _ rfl
          · have h48 := it_f h48 c
            refine w_aload_n C (pc := 44) dX5_offerBlocks_44 0 rfl ?_
            refine w_getI C (pc := 45) dX5_offerBlocks_45 f_X5_63 (sA_17 hY) rfl ?_
            refine w_iconst C (pc := 48) dX5_offerBlocks_48 (v := 1) (by decide) ?_
            refine w_icle C (pc := 49) 82 dX5_offerBlocks_49 (by decide) (fun c => ?_) (fun c => ?_)
            · have h48 := it_t h48 c
              obtain rfl := Option.some.inj h48
              refine w_lv [0, 1, 2, 3] rfl ?_
              exact kx47 _ rfl
            · have h48 := it_f h48 c
              refine w_aload_n C (pc := 52) dX5_offerBlocks_52 0 rfl ?_
              refine w_getR C (pc := 53) dX5_offerBlocks_53 f_X5_21 (sA_17 hY) rfl ?_
              refine w_aload_n C (pc := 56) dX5_offerBlocks_56 0 rfl ?_
              refine w_getR C (pc := 57) dX5_offerBlocks_57 f_X5_25 (sA_17 hY) rfl ?_
              refine w_iload C (pc := 60) dX5_offerBlocks_60 4 rfl ?_
              obtain ⟨v49, e50, h48⟩ := ob h48
              refine w_iald C (pc := 62) dX5_offerBlocks_62 (sA_22 hY) e50 ?_
              obtain ⟨v51, e52, h48⟩ := ob h48
              refine w_zald C (pc := 63) dX5_offerBlocks_63 (sA_21 hY) e52 ?_
              refine w_ifeq C (pc := 64) 76 dX5_offerBlocks_64 (by decide) (fun c => ?_) (fun c => ?_)
              · have h48 := it_t h48 c
                refine w_iinc C (pc := 76) dX5_offerBlocks_76 4 rfl (v := 1) (lv' := [(0, .ref (adr Y 17)), (1, .int x1), (2, .int x2), (3, .int s30.1), (4, .int (s44.1 + 1))]) (by decide) rfl rfl rfl ?_
                refine w_goto C (pc := 79) 38 dX5_offerBlocks_79 (by decide) ?_
                obtain rfl := Option.some.inj h48
                exact ki46 _ rfl
              · have h48 := it_f h48 c
                refine w_aload_n C (pc := 67) dX5_offerBlocks_67 0 rfl ?_
                refine w_iload_n C (pc := 68) dX5_offerBlocks_68 1 rfl ?_
                refine w_iload_n C (pc := 69) dX5_offerBlocks_69 2 rfl ?_
                refine w_iload C (pc := 70) dX5_offerBlocks_70 4 rfl ?_
                refine w_iload_n C (pc := 72) dX5_offerBlocks_72 3 rfl ?_
                obtain ⟨v53, e54, h48⟩ := ob h48
                refine w_cVv C (pc := 73) dX5_offerBlocks_73 my_X5_offerTwo mi_X5_offerTwo ml_X5_120 (sA_17 hY) rfl rfl rfl [.int x1, .int x2, .int s44.1, .int s30.1] rfl rfl (Nat.le_of_ble_eq_true rfl) (tX5_offerTwo hY  e54) ?_
                refine w_iinc C (pc := 76) dX5_offerBlocks_76 4 rfl (v := 1) (lv' := [(0, .ref (adr Y 17)), (1, .int x1), (2, .int x2), (3, .int s30.1), (4, .int (s44.1 + 1))]) (by decide) rfl rfl rfl ?_
                refine w_goto C (pc := 79) 38 dX5_offerBlocks_79 (by decide) ?_
                obtain rfl := Option.some.inj h48
                exact ki46 _ rfl
        · refine w_iinc C (pc := 82) dX5_offerBlocks_82 3 rfl (v := 1) (lv' := [(0, .ref (adr Y 17)), (1, .int x1), (2, .int x2), (3, .int (s30.1 + 1))]) (by decide) rfl rfl rfl ?_
          refine w_goto C (pc := 85) 4 dX5_offerBlocks_85 (by decide) ?_
          obtain rfl := Option.some.inj h34
          exact ki32 _ rfl
  · exact w_retV C (pc := 88) dX5_offerBlocks_88 rfl (Option.some.inj h)
theorem dX5_fill_0 : decode cX5_fill 0 = .ok (.iconst 1, 1) := by decide +kernel
theorem dX5_fill_1 : decode cX5_fill 1 = .ok (.iload_n 1, 1) := by decide +kernel
theorem dX5_fill_2 : decode cX5_fill 2 = .ok (.invokestatic 97, 3) := by decide +kernel
theorem dX5_fill_5 : decode cX5_fill 5 = .ok (.istore_n 2, 1) := by decide +kernel
theorem dX5_fill_6 : decode cX5_fill 6 = .ok (.iload_n 2, 1) := by decide +kernel
theorem dX5_fill_7 : decode cX5_fill 7 = .ok (.aload_n 0, 1) := by decide +kernel
theorem dX5_fill_8 : decode cX5_fill 8 = .ok (.getfield 56, 3) := by decide +kernel
theorem dX5_fill_11 : decode cX5_fill 11 = .ok (.if_icmp .gt 56, 3) := by decide +kernel
theorem dX5_fill_14 : decode cX5_fill 14 = .ok (.aload_n 0, 1) := by decide +kernel
theorem dX5_fill_15 : decode cX5_fill 15 = .ok (.iload_n 2, 1) := by decide +kernel
theorem dX5_fill_16 : decode cX5_fill 16 = .ok (.invokevirtual 102, 3) := by decide +kernel
theorem dX5_fill_19 : decode cX5_fill 19 = .ok (.iload_n 2, 1) := by decide +kernel
theorem dX5_fill_20 : decode cX5_fill 20 = .ok (.iconst 2, 1) := by decide +kernel
theorem dX5_fill_21 : decode cX5_fill 21 = .ok (.isub, 1) := by decide +kernel
theorem dX5_fill_22 : decode cX5_fill 22 = .ok (.istore_n 3, 1) := by decide +kernel
theorem dX5_fill_23 : decode cX5_fill 23 = .ok (.iload_n 3, 1) := by decide +kernel
theorem dX5_fill_24 : decode cX5_fill 24 = .ok (.ifCond .lt 37, 3) := by decide +kernel
theorem dX5_fill_27 : decode cX5_fill 27 = .ok (.aload_n 0, 1) := by decide +kernel
theorem dX5_fill_28 : decode cX5_fill 28 = .ok (.getfield 63, 3) := by decide +kernel
theorem dX5_fill_31 : decode cX5_fill 31 = .ok (.ifCond .le 30, 3) := by decide +kernel
theorem dX5_fill_34 : decode cX5_fill 34 = .ok (.aload_n 0, 1) := by decide +kernel
theorem dX5_fill_35 : decode cX5_fill 35 = .ok (.iload_n 3, 1) := by decide +kernel
theorem dX5_fill_36 : decode cX5_fill 36 = .ok (.iload_n 2, 1) := by decide +kernel
theorem dX5_fill_37 : decode cX5_fill 37 = .ok (.invokevirtual 106, 3) := by decide +kernel
theorem dX5_fill_40 : decode cX5_fill 40 = .ok (.aload_n 0, 1) := by decide +kernel
theorem dX5_fill_41 : decode cX5_fill 41 = .ok (.getfield 31, 3) := by decide +kernel
theorem dX5_fill_44 : decode cX5_fill 44 = .ok (.iload_n 2, 1) := by decide +kernel
theorem dX5_fill_45 : decode cX5_fill 45 = .ok (.iaload, 1) := by decide +kernel
theorem dX5_fill_46 : decode cX5_fill 46 = .ok (.if_icmp .gt 9, 3) := by decide +kernel
theorem dX5_fill_49 : decode cX5_fill 49 = .ok (.aload_n 0, 1) := by decide +kernel
theorem dX5_fill_50 : decode cX5_fill 50 = .ok (.iload_n 3, 1) := by decide +kernel
theorem dX5_fill_51 : decode cX5_fill 51 = .ok (.iload_n 2, 1) := by decide +kernel
theorem dX5_fill_52 : decode cX5_fill 52 = .ok (.invokevirtual 109, 3) := by decide +kernel
theorem dX5_fill_55 : decode cX5_fill 55 = .ok (.iinc 3 (-1), 3) := by decide +kernel
theorem dX5_fill_58 : decode cX5_fill 58 = .ok (.goto (-35), 3) := by decide +kernel
theorem dX5_fill_61 : decode cX5_fill 61 = .ok (.iinc 2 1, 3) := by decide +kernel
theorem dX5_fill_64 : decode cX5_fill 64 = .ok (.goto (-58), 3) := by decide +kernel
theorem dX5_fill_67 : decode cX5_fill 67 = .ok (.return_, 1) := by decide +kernel
def pX5_fill_L23 (x2 : Int32) (s : Int32 × Mm) : Option ((Int32 × Mm) ⊕ (Mm)) :=
if s.1 < 0 then
(some (Sum.inr s.2))
else
(if (s.2 17 1) ≤ 0 then
(some (Sum.inr s.2))
else
((pX5_soonest s.1 x2 s.2).bind fun v5 =>
(ald s.2 24 10 x2).bind fun v7 =>
if v7 < v5 then
(some (Sum.inl (s.1 + (-1), s.2)))
else
((pX5_offerBlocks s.1 x2 s.2).bind fun v9 =>
some (Sum.inl (s.1 + (-1), v9)))))
def pX5_fill_L6 (s : Int32 × Mm) : Option ((Int32 × Mm) ⊕ (Mm)) :=
if (s.2 17 6) < s.1 then
(some (Sum.inr s.2))
else
((pX5_beginWithVan s.1 s.2).bind fun v2 =>
bnd (s.1 - 2) fun v4 =>
(itr (pX5_fill_L23 s.1) fuel (v4, v2)).bind fun x11 =>
some (Sum.inl (s.1 + 1, x11)))
def pX5_fill (x1 : Int32) (M : Mm) : Option (Mm) :=
bnd (mmax 1 x1) fun v1 =>
(itr (pX5_fill_L6) fuel (v1, M)).bind fun x24 =>
some x24
abbrev zX5_fill : Zx := (cX5_fill, RX5, 4, 4, none)
set_option maxRecDepth 100000 in
set_option maxHeartbeats 4000000 in
theorem tX5_fill {l : Launch} {Y : Sx} {M : Mm} {x1 : Int32} {q : Mm} (hY : isA Y) (h : pX5_fill x1 M = some q) : Ct l Y yX5_fill cX5_fill 4 none 4 [.ref (adr Y 17), .int x1] M none q := by
  refine Ct.of (by decide) rfl (lv := [(0, .ref (adr Y 17)), (1, .int x1)]) rfl ?_
  intro K hkl C
  change Cx K zX5_fill Y at C
  subst hkl
  unfold pX5_fill at h
  show Wp K zX5_fill Y (Qm K Y none q) M 0 [(0, .ref (adr Y 17)), (1, .int x1)] []
  refine w_iconst C (pc := 0) dX5_fill_0 (v := 1) (by decide) ?_
  refine w_iload_n C (pc := 1) dX5_fill_1 1 rfl ?_
  refine w_max C (pc := 2) dX5_fill_2 mmax_X5_97 rfl (Nat.le_of_ble_eq_true rfl) ?_
  refine w_bnd h (fun v1 h => ?_)
  refine w_istore_n C (pc := 5) dX5_fill_5 (lv' := [(0, .ref (adr Y 17)), (1, .int x1), (2, .int v1)]) rfl rfl rfl ?_
  obtain ⟨x24, e25, h⟩ := ob h
  refine itr_W (P := fun s26 => Wp K zX5_fill Y (Qm K Y none q) s26.2 6 [(0, .ref (adr Y 17)), (1, .int x1), (2, .int s26.1)] []) (R := fun x24 => Wp K zX5_fill Y (Qm K Y none q) x24 67 [(0, .ref (adr Y 17)), (1, .int x1)] []) ?_ fuel (v1, M) x24 e25 ?_
  · intro s26 r27 h30 ki28 kx29
    unfold pX5_fill_L6 at h30
    show Wp K zX5_fill Y (Qm K Y none q) s26.2 6 [(0, .ref (adr Y 17)), (1, .int x1), (2, .int s26.1)] []
    refine w_iload_n C (pc := 6) dX5_fill_6 2 rfl ?_
    refine w_aload_n C (pc := 7) dX5_fill_7 0 rfl ?_
    refine w_getI C (pc := 8) dX5_fill_8 f_X5_56 (sA_17 hY) rfl ?_
    refine w_icgt C (pc := 11) 67 dX5_fill_11 (by decide) (fun c => ?_) (fun c => ?_)
    · have h30 := it_t h30 c
      obtain rfl := Option.some.inj h30
      refine w_lv [0, 1] rfl ?_
      exact kx29 _ rfl
    · have h30 := it_f h30 c
      refine w_aload_n C (pc := 14) dX5_fill_14 0 rfl ?_
      refine w_iload_n C (pc := 15) dX5_fill_15 2 rfl ?_
      obtain ⟨v31, e32, h30⟩ := ob h30
      refine w_cVv C (pc := 16) dX5_fill_16 my_X5_beginWithVan mi_X5_beginWithVan ml_X5_102 (sA_17 hY) rfl rfl rfl [.int s26.1] rfl rfl (Nat.le_of_ble_eq_true rfl) (tX5_beginWithVan hY  e32) ?_
      refine w_iload_n C (pc := 19) dX5_fill_19 2 rfl ?_
      refine w_iconst C (pc := 20) dX5_fill_20 (v := 2) (by decide) ?_
      refine w_isub C (pc := 21) dX5_fill_21 ?_
      refine w_bnd h30 (fun v33 h30 => ?_)
      refine w_istore_n C (pc := 22) dX5_fill_22 (lv' := [(0, .ref (adr Y 17)), (1, .int x1), (2, .int s26.1), (3, .int v33)]) rfl rfl rfl ?_
      obtain ⟨x34, e35, h30⟩ := ob h30
      refine itr_W (P := fun s36 => Wp K zX5_fill Y (Qm K Y none q) s36.2 23 [(0, .ref (adr Y 17)), (1, .int x1), (2, .int s26.1), (3, .int s36.1)] []) (R := fun x34 => Wp K zX5_fill Y (Qm K Y none q) x34 61 [(0, .ref (adr Y 17)), (1, .int x1), (2, .int s26.1)] []) ?_ fuel (v33, v31) x34 e35 ?_
      · intro s36 r37 h40 ki38 kx39
        unfold pX5_fill_L23 at h40
        show Wp K zX5_fill Y (Qm K Y none q) s36.2 23 [(0, .ref (adr Y 17)), (1, .int x1), (2, .int s26.1), (3, .int s36.1)] []
        refine w_iload_n C (pc := 23) dX5_fill_23 3 rfl ?_
        refine w_iflt C (pc := 24) 61 dX5_fill_24 (by decide) (fun c => ?_) (fun c => ?_)
        · have h40 := it_t h40 c
          obtain rfl := Option.some.inj h40
          refine w_lv [0, 1, 2] rfl ?_
          exact kx39 _ rfl
        · have h40 := it_f h40 c
          refine w_aload_n C (pc := 27) dX5_fill_27 0 rfl ?_
          refine w_getI C (pc := 28) dX5_fill_28 f_X5_63 (sA_17 hY) rfl ?_
          refine w_ifle C (pc := 31) 61 dX5_fill_31 (by decide) (fun c => ?_) (fun c => ?_)
          · have h40 := it_t h40 c
            obtain rfl := Option.some.inj h40
            refine w_lv [0, 1, 2] rfl ?_
            exact kx39 _ rfl
          · have h40 := it_f h40 c
            refine w_aload_n C (pc := 34) dX5_fill_34 0 rfl ?_
            refine w_iload_n C (pc := 35) dX5_fill_35 3 rfl ?_
            refine w_iload_n C (pc := 36) dX5_fill_36 2 rfl ?_
            obtain ⟨v41, e42, h40⟩ := ob h40
            refine w_cVi C (pc := 37) dX5_fill_37 my_X5_soonest mi_X5_soonest ml_X5_106 (sA_17 hY) rfl rfl rfl [.int s36.1, .int s26.1] rfl rfl (Nat.le_of_ble_eq_true rfl) (tX5_soonest hY  e42) ?_
            refine w_aload_n C (pc := 40) dX5_fill_40 0 rfl ?_
            refine w_getR C (pc := 41) dX5_fill_41 f_X5_31 (sA_17 hY) rfl ?_
            refine w_iload_n C (pc := 44) dX5_fill_44 2 rfl ?_
            obtain ⟨v43, e44, h40⟩ := ob h40
            refine w_iald C (pc := 45) dX5_fill_45 (sA_24 hY) e44 ?_
            refine w_icgt C (pc := 46) 55 dX5_fill_46 (by decide) (fun c => ?_) (fun c => ?_)
            · have h40 := it_t h40 c
              refine w_iinc C (pc := 55) dX5_fill_55 3 rfl (v := (-1)) (lv' := [(0, .ref (adr Y 17)), (1, .int x1), (2, .int s26.1), (3, .int (s36.1 + (-1)))]) (by decide) rfl rfl rfl ?_
              refine w_goto C (pc := 58) 23 dX5_fill_58 (by decide) ?_
              obtain rfl := Option.some.inj h40
              exact ki38 _ rfl
            · have h40 := it_f h40 c
              refine w_aload_n C (pc := 49) dX5_fill_49 0 rfl ?_
              refine w_iload_n C (pc := 50) dX5_fill_50 3 rfl ?_
              refine w_iload_n C (pc := 51) dX5_fill_51 2 rfl ?_
              obtain ⟨v45, e46, h40⟩ := ob h40
              refine w_cVv C (pc := 52) dX5_fill_52 my_X5_offerBlocks mi_X5_offerBlocks ml_X5_109 (sA_17 hY) rfl rfl rfl [.int s36.1, .int s26.1] rfl rfl (Nat.le_of_ble_eq_true rfl) (tX5_offerBlocks hY  e46) ?_
              refine w_iinc C (pc := 55) dX5_fill_55 3 rfl (v := (-1)) (lv' := [(0, .ref (adr Y 17)), (1, .int x1), (2, .int s26.1), (3, .int (s36.1 + (-1)))]) (by decide) rfl rfl rfl ?_
              refine w_goto C (pc := 58) 23 dX5_fill_58 (by decide) ?_
              obtain rfl := Option.some.inj h40
              exact ki38 _ rfl
      · refine w_iinc C (pc := 61) dX5_fill_61 2 rfl (v := 1) (lv' := [(0, .ref (adr Y 17)), (1, .int x1), (2, .int (s26.1 + 1))]) (by decide) rfl rfl rfl ?_
        refine w_goto C (pc := 64) 6 dX5_fill_64 (by decide) ?_
        obtain rfl := Option.some.inj h30
        exact ki28 _ rfl
  · exact w_retV C (pc := 67) dX5_fill_67 rfl (Option.some.inj h)
theorem dX5_isFlown_0 : decode cX5_isFlown 0 = .ok (.aload_n 0, 1) := by decide +kernel
theorem dX5_isFlown_1 : decode cX5_isFlown 1 = .ok (.getfield 40, 3) := by decide +kernel
theorem dX5_isFlown_4 : decode cX5_isFlown 4 = .ok (.iload_n 2, 1) := by decide +kernel
theorem dX5_isFlown_5 : decode cX5_isFlown 5 = .ok (.iaload, 1) := by decide +kernel
theorem dX5_isFlown_6 : decode cX5_isFlown 6 = .ok (.iload_n 1, 1) := by decide +kernel
theorem dX5_isFlown_7 : decode cX5_isFlown 7 = .ok (.iload_n 3, 1) := by decide +kernel
theorem dX5_isFlown_8 : decode cX5_isFlown 8 = .ok (.invokestatic 135, 3) := by decide +kernel
theorem dX5_isFlown_11 : decode cX5_isFlown 11 = .ok (.iand, 1) := by decide +kernel
theorem dX5_isFlown_12 : decode cX5_isFlown 12 = .ok (.ifCond .eq 7, 3) := by decide +kernel
theorem dX5_isFlown_15 : decode cX5_isFlown 15 = .ok (.iconst 1, 1) := by decide +kernel
theorem dX5_isFlown_16 : decode cX5_isFlown 16 = .ok (.goto 4, 3) := by decide +kernel
theorem dX5_isFlown_19 : decode cX5_isFlown 19 = .ok (.iconst 0, 1) := by decide +kernel
theorem dX5_isFlown_20 : decode cX5_isFlown 20 = .ok (.ireturn, 1) := by decide +kernel
def pX5_isFlown (x1 : Int32) (x2 : Int32) (x3 : Int32) (M : Mm) : Option (Int32) :=
(ald M 27 10 x2).bind fun v1 =>
if (v1 &&& (pX5_bit x1 x3)) = 0 then
(some 0)
else
(some 1)
abbrev zX5_isFlown : Zx := (cX5_isFlown, RX5, 4, 1, (some .boolean))
set_option maxRecDepth 100000 in
set_option maxHeartbeats 4000000 in
theorem tX5_isFlown {l : Launch} {Y : Sx} {M : Mm} {x1 : Int32} {x2 : Int32} {x3 : Int32} {q : Int32} (hY : isA Y) (h : pX5_isFlown x1 x2 x3 M = some q) : Ct l Y yX5_isFlown cX5_isFlown 4 (some .boolean) 1 [.ref (adr Y 17), .int x1, .int x2, .int x3] M (some q) M := by
  refine Ct.of (by decide) rfl (lv := [(0, .ref (adr Y 17)), (1, .int x1), (2, .int x2), (3, .int x3)]) rfl ?_
  intro K hkl C
  change Cx K zX5_isFlown Y at C
  subst hkl
  unfold pX5_isFlown at h
  show Wp K zX5_isFlown Y (Qm K Y (some q) M) M 0 [(0, .ref (adr Y 17)), (1, .int x1), (2, .int x2), (3, .int x3)] []
  refine w_aload_n C (pc := 0) dX5_isFlown_0 0 rfl ?_
  refine w_getR C (pc := 1) dX5_isFlown_1 f_X5_40 (sA_17 hY) rfl ?_
  refine w_iload_n C (pc := 4) dX5_isFlown_4 2 rfl ?_
  obtain ⟨v1, e2, h⟩ := ob h
  refine w_iald C (pc := 5) dX5_isFlown_5 (sA_27 hY) e2 ?_
  refine w_iload_n C (pc := 6) dX5_isFlown_6 1 rfl ?_
  refine w_iload_n C (pc := 7) dX5_isFlown_7 3 rfl ?_
  refine w_cSi C (pc := 8) dX5_isFlown_8 my_X5_bit ms_X5_bit ml_X5_135 rfl rfl [.int x1, .int x3] rfl rfl (Nat.le_of_ble_eq_true rfl) (tX5_bit  rfl) ?_
  refine w_iand C (pc := 11) dX5_isFlown_11 ?_
  refine w_ifeq C (pc := 12) 19 dX5_isFlown_12 (by decide) (fun c => ?_) (fun c => ?_)
  · have h := it_t h c
    refine w_iconst C (pc := 19) dX5_isFlown_19 (v := 0) (by decide) ?_
    exact w_retzR C (pc := 20) dX5_isFlown_20 rfl (by decide) (Option.some.inj h)
  · have h := it_f h c
    refine w_iconst C (pc := 15) dX5_isFlown_15 (v := 1) (by decide) ?_
    refine w_goto C (pc := 16) 20 dX5_isFlown_16 (by decide) ?_
    exact w_retzR C (pc := 20) dX5_isFlown_20 rfl (by decide) (Option.some.inj h)
theorem dX5_lastEnd_0 : decode cX5_lastEnd 0 = .ok (.aload_n 0, 1) := by decide +kernel
theorem dX5_lastEnd_1 : decode cX5_lastEnd 1 = .ok (.getfield 31, 3) := by decide +kernel
theorem dX5_lastEnd_4 : decode cX5_lastEnd 4 = .ok (.aload_n 0, 1) := by decide +kernel
theorem dX5_lastEnd_5 : decode cX5_lastEnd 5 = .ok (.getfield 56, 3) := by decide +kernel
theorem dX5_lastEnd_8 : decode cX5_lastEnd 8 = .ok (.iaload, 1) := by decide +kernel
theorem dX5_lastEnd_9 : decode cX5_lastEnd 9 = .ok (.ireturn, 1) := by decide +kernel
def pX5_lastEnd (M : Mm) : Option (Int32) :=
(ald M 24 10 (M 17 6)).bind fun v1 =>
some v1
abbrev zX5_lastEnd : Zx := (cX5_lastEnd, RX5, 1, 0, (some .int))
set_option maxRecDepth 100000 in
set_option maxHeartbeats 4000000 in
theorem tX5_lastEnd {l : Launch} {Y : Sx} {M : Mm} {q : Int32} (hY : isA Y) (h : pX5_lastEnd M = some q) : Ct l Y yX5_lastEnd cX5_lastEnd 1 (some .int) 0 [.ref (adr Y 17)] M (some q) M := by
  refine Ct.of (by decide) rfl (lv := [(0, .ref (adr Y 17))]) rfl ?_
  intro K hkl C
  change Cx K zX5_lastEnd Y at C
  subst hkl
  unfold pX5_lastEnd at h
  show Wp K zX5_lastEnd Y (Qm K Y (some q) M) M 0 [(0, .ref (adr Y 17))] []
  refine w_aload_n C (pc := 0) dX5_lastEnd_0 0 rfl ?_
  refine w_getR C (pc := 1) dX5_lastEnd_1 f_X5_31 (sA_17 hY) rfl ?_
  refine w_aload_n C (pc := 4) dX5_lastEnd_4 0 rfl ?_
  refine w_getI C (pc := 5) dX5_lastEnd_5 f_X5_56 (sA_17 hY) rfl ?_
  obtain ⟨v1, e2, h⟩ := ob h
  refine w_iald C (pc := 8) dX5_lastEnd_8 (sA_24 hY) e2 ?_
  exact w_retR C (pc := 9) dX5_lastEnd_9 rfl (Option.some.inj h)
theorem dX5_linkBlocks_0 : decode cX5_linkBlocks 0 = .ok (.iconst 0, 1) := by decide +kernel
theorem dX5_linkBlocks_1 : decode cX5_linkBlocks 1 = .ok (.istore_n 1, 1) := by decide +kernel
theorem dX5_linkBlocks_2 : decode cX5_linkBlocks 2 = .ok (.iload_n 1, 1) := by decide +kernel
theorem dX5_linkBlocks_3 : decode cX5_linkBlocks 3 = .ok (.aload_n 0, 1) := by decide +kernel
theorem dX5_linkBlocks_4 : decode cX5_linkBlocks 4 = .ok (.getfield 56, 3) := by decide +kernel
theorem dX5_linkBlocks_7 : decode cX5_linkBlocks 7 = .ok (.if_icmp .gt 16, 3) := by decide +kernel
theorem dX5_linkBlocks_10 : decode cX5_linkBlocks 10 = .ok (.aload_n 0, 1) := by decide +kernel
theorem dX5_linkBlocks_11 : decode cX5_linkBlocks 11 = .ok (.getfield 43, 3) := by decide +kernel
theorem dX5_linkBlocks_14 : decode cX5_linkBlocks 14 = .ok (.iload_n 1, 1) := by decide +kernel
theorem dX5_linkBlocks_15 : decode cX5_linkBlocks 15 = .ok (.iconst (-1), 1) := by decide +kernel
theorem dX5_linkBlocks_16 : decode cX5_linkBlocks 16 = .ok (.iastore, 1) := by decide +kernel
theorem dX5_linkBlocks_17 : decode cX5_linkBlocks 17 = .ok (.iinc 1 1, 3) := by decide +kernel
theorem dX5_linkBlocks_20 : decode cX5_linkBlocks 20 = .ok (.goto (-18), 3) := by decide +kernel
theorem dX5_linkBlocks_23 : decode cX5_linkBlocks 23 = .ok (.aload_n 0, 1) := by decide +kernel
theorem dX5_linkBlocks_24 : decode cX5_linkBlocks 24 = .ok (.getfield 56, 3) := by decide +kernel
theorem dX5_linkBlocks_27 : decode cX5_linkBlocks 27 = .ok (.istore_n 1, 1) := by decide +kernel
theorem dX5_linkBlocks_28 : decode cX5_linkBlocks 28 = .ok (.iconst 0, 1) := by decide +kernel
theorem dX5_linkBlocks_29 : decode cX5_linkBlocks 29 = .ok (.istore_n 2, 1) := by decide +kernel
theorem dX5_linkBlocks_30 : decode cX5_linkBlocks 30 = .ok (.iload_n 2, 1) := by decide +kernel
theorem dX5_linkBlocks_31 : decode cX5_linkBlocks 31 = .ok (.bipush 10, 2) := by decide +kernel
theorem dX5_linkBlocks_33 : decode cX5_linkBlocks 33 = .ok (.if_icmp .ge 32, 3) := by decide +kernel
theorem dX5_linkBlocks_36 : decode cX5_linkBlocks 36 = .ok (.iload_n 1, 1) := by decide +kernel
theorem dX5_linkBlocks_37 : decode cX5_linkBlocks 37 = .ok (.ifCond .le 28, 3) := by decide +kernel
theorem dX5_linkBlocks_40 : decode cX5_linkBlocks 40 = .ok (.aload_n 0, 1) := by decide +kernel
theorem dX5_linkBlocks_41 : decode cX5_linkBlocks 41 = .ok (.getfield 43, 3) := by decide +kernel
theorem dX5_linkBlocks_44 : decode cX5_linkBlocks 44 = .ok (.aload_n 0, 1) := by decide +kernel
theorem dX5_linkBlocks_45 : decode cX5_linkBlocks 45 = .ok (.getfield 37, 3) := by decide +kernel
theorem dX5_linkBlocks_48 : decode cX5_linkBlocks 48 = .ok (.iload_n 1, 1) := by decide +kernel
theorem dX5_linkBlocks_49 : decode cX5_linkBlocks 49 = .ok (.iaload, 1) := by decide +kernel
theorem dX5_linkBlocks_50 : decode cX5_linkBlocks 50 = .ok (.iload_n 1, 1) := by decide +kernel
theorem dX5_linkBlocks_51 : decode cX5_linkBlocks 51 = .ok (.iastore, 1) := by decide +kernel
theorem dX5_linkBlocks_52 : decode cX5_linkBlocks 52 = .ok (.aload_n 0, 1) := by decide +kernel
theorem dX5_linkBlocks_53 : decode cX5_linkBlocks 53 = .ok (.getfield 37, 3) := by decide +kernel
theorem dX5_linkBlocks_56 : decode cX5_linkBlocks 56 = .ok (.iload_n 1, 1) := by decide +kernel
theorem dX5_linkBlocks_57 : decode cX5_linkBlocks 57 = .ok (.iaload, 1) := by decide +kernel
theorem dX5_linkBlocks_58 : decode cX5_linkBlocks 58 = .ok (.istore_n 1, 1) := by decide +kernel
theorem dX5_linkBlocks_59 : decode cX5_linkBlocks 59 = .ok (.iinc 2 1, 3) := by decide +kernel
theorem dX5_linkBlocks_62 : decode cX5_linkBlocks 62 = .ok (.goto (-32), 3) := by decide +kernel
theorem dX5_linkBlocks_65 : decode cX5_linkBlocks 65 = .ok (.return_, 1) := by decide +kernel
def pX5_linkBlocks_L2 (s : Int32 × Mm) : Option ((Int32 × Mm) ⊕ (Mm)) :=
if (s.2 17 6) < s.1 then
(some (Sum.inr s.2))
else
((ast s.2 28 10 s.1 (-1)).bind fun M1 =>
some (Sum.inl (s.1 + 1, M1)))
def pX5_linkBlocks_L30 (s : Int32 × Int32 × Mm) : Option ((Int32 × Int32 × Mm) ⊕ (Mm)) :=
if 10 ≤ s.2.1 then
(some (Sum.inr s.2.2))
else
(if s.1 ≤ 0 then
(some (Sum.inr s.2.2))
else
((ald s.2.2 26 10 s.1).bind fun v13 =>
(ast s.2.2 28 10 v13 s.1).bind fun M15 =>
(ald M15 26 10 s.1).bind fun v17 =>
some (Sum.inl (v17, s.2.1 + 1, M15))))
def pX5_linkBlocks (M : Mm) : Option (Mm) :=
(itr (pX5_linkBlocks_L2) fuel (0, M)).bind fun x3 =>
bnd (x3 17 6) fun v12 =>
(itr (pX5_linkBlocks_L30) fuel (v12, 0, x3)).bind fun x19 =>
some x19
abbrev zX5_linkBlocks : Zx := (cX5_linkBlocks, RX5, 3, 0, none)
set_option maxRecDepth 100000 in
set_option maxHeartbeats 4000000 in
theorem tX5_linkBlocks {l : Launch} {Y : Sx} {M : Mm} {q : Mm} (hY : isA Y) (h : pX5_linkBlocks M = some q) : Ct l Y yX5_linkBlocks cX5_linkBlocks 3 none 0 [.ref (adr Y 17)] M none q := by
  refine Ct.of (by decide) rfl (lv := [(0, .ref (adr Y 17))]) rfl ?_
  intro K hkl C
  change Cx K zX5_linkBlocks Y at C
  subst hkl
  unfold pX5_linkBlocks at h
  show Wp K zX5_linkBlocks Y (Qm K Y none q) M 0 [(0, .ref (adr Y 17))] []
  refine w_iconst C (pc := 0) dX5_linkBlocks_0 (v := 0) (by decide) ?_
  refine w_istore_n C (pc := 1) dX5_linkBlocks_1 (lv' := [(0, .ref (adr Y 17)), (1, .int 0)]) rfl rfl rfl ?_
  obtain ⟨x3, e4, h⟩ := ob h
  refine itr_W (P := fun s5 => Wp K zX5_linkBlocks Y (Qm K Y none q) s5.2 2 [(0, .ref (adr Y 17)), (1, .int s5.1)] []) (R := fun x3 => Wp K zX5_linkBlocks Y (Qm K Y none q) x3 23 [(0, .ref (adr Y 17))] []) ?_ fuel (0, M) x3 e4 ?_
  · intro s5 r6 h9 ki7 kx8
    unfold pX5_linkBlocks_L2 at h9
    show Wp K zX5_linkBlocks Y (Qm K Y none q) s5.2 2 [(0, .ref (adr Y 17)), (1, .int s5.1)] []
    refine w_iload_n C (pc := 2) dX5_linkBlocks_2 1 rfl ?_
    refine w_aload_n C (pc := 3) dX5_linkBlocks_3 0 rfl ?_
    refine w_getI C (pc := 4) dX5_linkBlocks_4 f_X5_56 (sA_17 hY) rfl ?_
    refine w_icgt C (pc := 7) 23 dX5_linkBlocks_7 (by decide) (fun c => ?_) (fun c => ?_)
    · have h9 := it_t h9 c
      obtain rfl := Option.some.inj h9
      refine w_lv [0] rfl ?_
      exact kx8 _ rfl
    · have h9 := it_f h9 c
      refine w_aload_n C (pc := 10) dX5_linkBlocks_10 0 rfl ?_
      refine w_getR C (pc := 11) dX5_linkBlocks_11 f_X5_43 (sA_17 hY) rfl ?_
      refine w_iload_n C (pc := 14) dX5_linkBlocks_14 1 rfl ?_
      refine w_iconst C (pc := 15) dX5_linkBlocks_15 (v := (-1)) (by decide) ?_
      obtain ⟨M10, e11, h9⟩ := ob h9
      refine w_iast C (pc := 16) dX5_linkBlocks_16 (sA_28 hY) e11 ?_
      refine w_iinc C (pc := 17) dX5_linkBlocks_17 1 rfl (v := 1) (lv' := [(0, .ref (adr Y 17)), (1, .int (s5.1 + 1))]) (by decide) rfl rfl rfl ?_
      refine w_goto C (pc := 20) 2 dX5_linkBlocks_20 (by decide) ?_
      obtain rfl := Option.some.inj h9
      exact ki7 _ rfl
  · refine w_aload_n C (pc := 23) dX5_linkBlocks_23 0 rfl ?_
    refine w_getI C (pc := 24) dX5_linkBlocks_24 f_X5_56 (sA_17 hY) rfl ?_
    refine w_bnd h (fun v12 h => ?_)
    refine w_istore_n C (pc := 27) dX5_linkBlocks_27 (lv' := [(0, .ref (adr Y 17)), (1, .int v12)]) rfl rfl rfl ?_
    refine w_iconst C (pc := 28) dX5_linkBlocks_28 (v := 0) (by decide) ?_
    refine w_istore_n C (pc := 29) dX5_linkBlocks_29 (lv' := [(0, .ref (adr Y 17)), (1, .int v12), (2, .int 0)]) rfl rfl rfl ?_
    obtain ⟨x19, e20, h⟩ := ob h
    refine itr_W (P := fun s21 => Wp K zX5_linkBlocks Y (Qm K Y none q) s21.2.2 30 [(0, .ref (adr Y 17)), (1, .int s21.1), (2, .int s21.2.1)] []) (R := fun x19 => Wp K zX5_linkBlocks Y (Qm K Y none q) x19 65 [(0, .ref (adr Y 17))] []) ?_ fuel (v12, 0, x3) x19 e20 ?_
    · intro s21 r22 h25 ki23 kx24
      unfold pX5_linkBlocks_L30 at h25
      show Wp K zX5_linkBlocks Y (Qm K Y none q) s21.2.2 30 [(0, .ref (adr Y 17)), (1, .int s21.1), (2, .int s21.2.1)] []
      refine w_iload_n C (pc := 30) dX5_linkBlocks_30 2 rfl ?_
      refine w_bipush C (pc := 31) dX5_linkBlocks_31 (v := 10) (by decide) ?_
      refine w_icge C (pc := 33) 65 dX5_linkBlocks_33 (by decide) (fun c => ?_) (fun c => ?_)
      · have h25 := it_t h25 c
        obtain rfl := Option.some.inj h25
        refine w_lv [0] rfl ?_
        exact kx24 _ rfl
      · have h25 := it_f h25 c
        refine w_iload_n C (pc := 36) dX5_linkBlocks_36 1 rfl ?_
        refine w_ifle C (pc := 37) 65 dX5_linkBlocks_37 (by decide) (fun c => ?_) (fun c => ?_)
        · have h25 := it_t h25 c
          obtain rfl := Option.some.inj h25
          refine w_lv [0] rfl ?_
          exact kx24 _ rfl
        · have h25 := it_f h25 c
          refine w_aload_n C (pc := 40) dX5_linkBlocks_40 0 rfl ?_
          refine w_getR C (pc := 41) dX5_linkBlocks_41 f_X5_43 (sA_17 hY) rfl ?_
          refine w_aload_n C (pc := 44) dX5_linkBlocks_44 0 rfl ?_
          refine w_getR C (pc := 45) dX5_linkBlocks_45 f_X5_37 (sA_17 hY) rfl ?_
          refine w_iload_n C (pc := 48) dX5_linkBlocks_48 1 rfl ?_
          obtain ⟨v26, e27, h25⟩ := ob h25
          refine w_iald C (pc := 49) dX5_linkBlocks_49 (sA_26 hY) e27 ?_
          refine w_iload_n C (pc := 50) dX5_linkBlocks_50 1 rfl ?_
          obtain ⟨M28, e29, h25⟩ := ob h25
          refine w_iast C (pc := 51) dX5_linkBlocks_51 (sA_28 hY) e29 ?_
          refine w_aload_n C (pc := 52) dX5_linkBlocks_52 0 rfl ?_
          refine w_getR C (pc := 53) dX5_linkBlocks_53 f_X5_37 (sA_17 hY) rfl ?_
          refine w_iload_n C (pc := 56) dX5_linkBlocks_56 1 rfl ?_
          obtain ⟨v30, e31, h25⟩ := ob h25
          refine w_iald C (pc := 57) dX5_linkBlocks_57 (sA_26 hY) e31 ?_
          refine w_istore_n C (pc := 58) dX5_linkBlocks_58 (lv' := [(0, .ref (adr Y 17)), (1, .int v30), (2, .int s21.2.1)]) rfl rfl rfl ?_
          refine w_iinc C (pc := 59) dX5_linkBlocks_59 2 rfl (v := 1) (lv' := [(0, .ref (adr Y 17)), (1, .int v30), (2, .int (s21.2.1 + 1))]) (by decide) rfl rfl rfl ?_
          refine w_goto C (pc := 62) 30 dX5_linkBlocks_62 (by decide) ?_
          obtain rfl := Option.some.inj h25
          exact ki23 _ rfl
    · exact w_retV C (pc := 65) dX5_linkBlocks_65 rfl (Option.some.inj h)
theorem dX5_swap_0 : decode cX5_swap 0 = .ok (.aload_n 0, 1) := by decide +kernel
theorem dX5_swap_1 : decode cX5_swap 1 = .ok (.getfield 25, 3) := by decide +kernel
theorem dX5_swap_4 : decode cX5_swap 4 = .ok (.iload_n 1, 1) := by decide +kernel
theorem dX5_swap_5 : decode cX5_swap 5 = .ok (.iaload, 1) := by decide +kernel
theorem dX5_swap_6 : decode cX5_swap 6 = .ok (.istore_n 3, 1) := by decide +kernel
theorem dX5_swap_7 : decode cX5_swap 7 = .ok (.aload_n 0, 1) := by decide +kernel
theorem dX5_swap_8 : decode cX5_swap 8 = .ok (.getfield 25, 3) := by decide +kernel
theorem dX5_swap_11 : decode cX5_swap 11 = .ok (.iload_n 1, 1) := by decide +kernel
theorem dX5_swap_12 : decode cX5_swap 12 = .ok (.aload_n 0, 1) := by decide +kernel
theorem dX5_swap_13 : decode cX5_swap 13 = .ok (.getfield 25, 3) := by decide +kernel
theorem dX5_swap_16 : decode cX5_swap 16 = .ok (.iload_n 2, 1) := by decide +kernel
theorem dX5_swap_17 : decode cX5_swap 17 = .ok (.iaload, 1) := by decide +kernel
theorem dX5_swap_18 : decode cX5_swap 18 = .ok (.iastore, 1) := by decide +kernel
theorem dX5_swap_19 : decode cX5_swap 19 = .ok (.aload_n 0, 1) := by decide +kernel
theorem dX5_swap_20 : decode cX5_swap 20 = .ok (.getfield 25, 3) := by decide +kernel
theorem dX5_swap_23 : decode cX5_swap 23 = .ok (.iload_n 2, 1) := by decide +kernel
theorem dX5_swap_24 : decode cX5_swap 24 = .ok (.iload_n 3, 1) := by decide +kernel
theorem dX5_swap_25 : decode cX5_swap 25 = .ok (.iastore, 1) := by decide +kernel
theorem dX5_swap_26 : decode cX5_swap 26 = .ok (.return_, 1) := by decide +kernel
def pX5_swap (x1 : Int32) (x2 : Int32) (M : Mm) : Option (Mm) :=
(ald M 22 10 x1).bind fun v1 =>
(ald M 22 10 x2).bind fun v3 =>
(ast M 22 10 x1 v3).bind fun M5 =>
(ast M5 22 10 x2 v1).bind fun M7 =>
some M7
abbrev zX5_swap : Zx := (cX5_swap, RX5, 4, 0, none)
set_option maxRecDepth 100000 in
set_option maxHeartbeats 4000000 in
theorem tX5_swap {l : Launch} {Y : Sx} {M : Mm} {x1 : Int32} {x2 : Int32} {q : Mm} (hY : isA Y) (h : pX5_swap x1 x2 M = some q) : Ct l Y yX5_swap cX5_swap 4 none 0 [.ref (adr Y 17), .int x1, .int x2] M none q := by
  refine Ct.of (by decide) rfl (lv := [(0, .ref (adr Y 17)), (1, .int x1), (2, .int x2)]) rfl ?_
  intro K hkl C
  change Cx K zX5_swap Y at C
  subst hkl
  unfold pX5_swap at h
  show Wp K zX5_swap Y (Qm K Y none q) M 0 [(0, .ref (adr Y 17)), (1, .int x1), (2, .int x2)] []
  refine w_aload_n C (pc := 0) dX5_swap_0 0 rfl ?_
  refine w_getR C (pc := 1) dX5_swap_1 f_X5_25 (sA_17 hY) rfl ?_
  refine w_iload_n C (pc := 4) dX5_swap_4 1 rfl ?_
  obtain ⟨v1, e2, h⟩ := ob h
  refine w_iald C (pc := 5) dX5_swap_5 (sA_22 hY) e2 ?_
  refine w_istore_n C (pc := 6) dX5_swap_6 (lv' := [(0, .ref (adr Y 17)), (1, .int x1), (2, .int x2), (3, .int v1)]) rfl rfl rfl ?_
  refine w_aload_n C (pc := 7) dX5_swap_7 0 rfl ?_
  refine w_getR C (pc := 8) dX5_swap_8 f_X5_25 (sA_17 hY) rfl ?_
  refine w_iload_n C (pc := 11) dX5_swap_11 1 rfl ?_
  refine w_aload_n C (pc := 12) dX5_swap_12 0 rfl ?_
  refine w_getR C (pc := 13) dX5_swap_13 f_X5_25 (sA_17 hY) rfl ?_
  refine w_iload_n C (pc := 16) dX5_swap_16 2 rfl ?_
  obtain ⟨v3, e4, h⟩ := ob h
  refine w_iald C (pc := 17) dX5_swap_17 (sA_22 hY) e4 ?_
  obtain ⟨M5, e6, h⟩ := ob h
  refine w_iast C (pc := 18) dX5_swap_18 (sA_22 hY) e6 ?_
  refine w_aload_n C (pc := 19) dX5_swap_19 0 rfl ?_
  refine w_getR C (pc := 20) dX5_swap_20 f_X5_25 (sA_17 hY) rfl ?_
  refine w_iload_n C (pc := 23) dX5_swap_23 2 rfl ?_
  refine w_iload_n C (pc := 24) dX5_swap_24 3 rfl ?_
  obtain ⟨M7, e8, h⟩ := ob h
  refine w_iast C (pc := 25) dX5_swap_25 (sA_22 hY) e8 ?_
  exact w_retV C (pc := 26) dX5_swap_26 rfl (Option.some.inj h)
theorem dX5_nextOrder_0 : decode cX5_nextOrder 0 = .ok (.aload_n 0, 1) := by decide +kernel
theorem dX5_nextOrder_1 : decode cX5_nextOrder 1 = .ok (.getfield 56, 3) := by decide +kernel
theorem dX5_nextOrder_4 : decode cX5_nextOrder 4 = .ok (.iconst 2, 1) := by decide +kernel
theorem dX5_nextOrder_5 : decode cX5_nextOrder 5 = .ok (.isub, 1) := by decide +kernel
theorem dX5_nextOrder_6 : decode cX5_nextOrder 6 = .ok (.istore_n 1, 1) := by decide +kernel
theorem dX5_nextOrder_7 : decode cX5_nextOrder 7 = .ok (.iload_n 1, 1) := by decide +kernel
theorem dX5_nextOrder_8 : decode cX5_nextOrder 8 = .ok (.iconst 1, 1) := by decide +kernel
theorem dX5_nextOrder_9 : decode cX5_nextOrder 9 = .ok (.if_icmp .lt 26, 3) := by decide +kernel
theorem dX5_nextOrder_12 : decode cX5_nextOrder 12 = .ok (.aload_n 0, 1) := by decide +kernel
theorem dX5_nextOrder_13 : decode cX5_nextOrder 13 = .ok (.getfield 25, 3) := by decide +kernel
theorem dX5_nextOrder_16 : decode cX5_nextOrder 16 = .ok (.iload_n 1, 1) := by decide +kernel
theorem dX5_nextOrder_17 : decode cX5_nextOrder 17 = .ok (.iaload, 1) := by decide +kernel
theorem dX5_nextOrder_18 : decode cX5_nextOrder 18 = .ok (.aload_n 0, 1) := by decide +kernel
theorem dX5_nextOrder_19 : decode cX5_nextOrder 19 = .ok (.getfield 25, 3) := by decide +kernel
theorem dX5_nextOrder_22 : decode cX5_nextOrder 22 = .ok (.iload_n 1, 1) := by decide +kernel
theorem dX5_nextOrder_23 : decode cX5_nextOrder 23 = .ok (.iconst 1, 1) := by decide +kernel
theorem dX5_nextOrder_24 : decode cX5_nextOrder 24 = .ok (.iadd, 1) := by decide +kernel
theorem dX5_nextOrder_25 : decode cX5_nextOrder 25 = .ok (.iaload, 1) := by decide +kernel
theorem dX5_nextOrder_26 : decode cX5_nextOrder 26 = .ok (.if_icmp .le 9, 3) := by decide +kernel
theorem dX5_nextOrder_29 : decode cX5_nextOrder 29 = .ok (.iinc 1 (-1), 3) := by decide +kernel
theorem dX5_nextOrder_32 : decode cX5_nextOrder 32 = .ok (.goto (-25), 3) := by decide +kernel
theorem dX5_nextOrder_35 : decode cX5_nextOrder 35 = .ok (.iload_n 1, 1) := by decide +kernel
theorem dX5_nextOrder_36 : decode cX5_nextOrder 36 = .ok (.iconst 1, 1) := by decide +kernel
theorem dX5_nextOrder_37 : decode cX5_nextOrder 37 = .ok (.if_icmp .ge 5, 3) := by decide +kernel
theorem dX5_nextOrder_40 : decode cX5_nextOrder 40 = .ok (.iconst (-1), 1) := by decide +kernel
theorem dX5_nextOrder_41 : decode cX5_nextOrder 41 = .ok (.ireturn, 1) := by decide +kernel
theorem dX5_nextOrder_42 : decode cX5_nextOrder 42 = .ok (.aload_n 0, 1) := by decide +kernel
theorem dX5_nextOrder_43 : decode cX5_nextOrder 43 = .ok (.getfield 56, 3) := by decide +kernel
theorem dX5_nextOrder_46 : decode cX5_nextOrder 46 = .ok (.iconst 1, 1) := by decide +kernel
theorem dX5_nextOrder_47 : decode cX5_nextOrder 47 = .ok (.isub, 1) := by decide +kernel
theorem dX5_nextOrder_48 : decode cX5_nextOrder 48 = .ok (.istore_n 2, 1) := by decide +kernel
theorem dX5_nextOrder_49 : decode cX5_nextOrder 49 = .ok (.iload_n 2, 1) := by decide +kernel
theorem dX5_nextOrder_50 : decode cX5_nextOrder 50 = .ok (.iload_n 1, 1) := by decide +kernel
theorem dX5_nextOrder_51 : decode cX5_nextOrder 51 = .ok (.iconst 1, 1) := by decide +kernel
theorem dX5_nextOrder_52 : decode cX5_nextOrder 52 = .ok (.iadd, 1) := by decide +kernel
theorem dX5_nextOrder_53 : decode cX5_nextOrder 53 = .ok (.if_icmp .le 24, 3) := by decide +kernel
theorem dX5_nextOrder_56 : decode cX5_nextOrder 56 = .ok (.aload_n 0, 1) := by decide +kernel
theorem dX5_nextOrder_57 : decode cX5_nextOrder 57 = .ok (.getfield 25, 3) := by decide +kernel
theorem dX5_nextOrder_60 : decode cX5_nextOrder 60 = .ok (.iload_n 2, 1) := by decide +kernel
theorem dX5_nextOrder_61 : decode cX5_nextOrder 61 = .ok (.iaload, 1) := by decide +kernel
theorem dX5_nextOrder_62 : decode cX5_nextOrder 62 = .ok (.aload_n 0, 1) := by decide +kernel
theorem dX5_nextOrder_63 : decode cX5_nextOrder 63 = .ok (.getfield 25, 3) := by decide +kernel
theorem dX5_nextOrder_66 : decode cX5_nextOrder 66 = .ok (.iload_n 1, 1) := by decide +kernel
theorem dX5_nextOrder_67 : decode cX5_nextOrder 67 = .ok (.iaload, 1) := by decide +kernel
theorem dX5_nextOrder_68 : decode cX5_nextOrder 68 = .ok (.if_icmp .ge 9, 3) := by decide +kernel
theorem dX5_nextOrder_71 : decode cX5_nextOrder 71 = .ok (.iinc 2 (-1), 3) := by decide +kernel
theorem dX5_nextOrder_74 : decode cX5_nextOrder 74 = .ok (.goto (-25), 3) := by decide +kernel
theorem dX5_nextOrder_77 : decode cX5_nextOrder 77 = .ok (.aload_n 0, 1) := by decide +kernel
theorem dX5_nextOrder_78 : decode cX5_nextOrder 78 = .ok (.iload_n 1, 1) := by decide +kernel
theorem dX5_nextOrder_79 : decode cX5_nextOrder 79 = .ok (.iload_n 2, 1) := by decide +kernel
theorem dX5_nextOrder_80 : decode cX5_nextOrder 80 = .ok (.invokevirtual 167, 3) := by decide +kernel
theorem dX5_nextOrder_83 : decode cX5_nextOrder 83 = .ok (.iload_n 1, 1) := by decide +kernel
theorem dX5_nextOrder_84 : decode cX5_nextOrder 84 = .ok (.iconst 1, 1) := by decide +kernel
theorem dX5_nextOrder_85 : decode cX5_nextOrder 85 = .ok (.iadd, 1) := by decide +kernel
theorem dX5_nextOrder_86 : decode cX5_nextOrder 86 = .ok (.istore_n 3, 1) := by decide +kernel
theorem dX5_nextOrder_87 : decode cX5_nextOrder 87 = .ok (.aload_n 0, 1) := by decide +kernel
theorem dX5_nextOrder_88 : decode cX5_nextOrder 88 = .ok (.getfield 56, 3) := by decide +kernel
theorem dX5_nextOrder_91 : decode cX5_nextOrder 91 = .ok (.iconst 1, 1) := by decide +kernel
theorem dX5_nextOrder_92 : decode cX5_nextOrder 92 = .ok (.isub, 1) := by decide +kernel
theorem dX5_nextOrder_93 : decode cX5_nextOrder 93 = .ok (.istore 4, 2) := by decide +kernel
theorem dX5_nextOrder_95 : decode cX5_nextOrder 95 = .ok (.iload_n 3, 1) := by decide +kernel
theorem dX5_nextOrder_96 : decode cX5_nextOrder 96 = .ok (.iload 4, 2) := by decide +kernel
theorem dX5_nextOrder_98 : decode cX5_nextOrder 98 = .ok (.if_icmp .ge 19, 3) := by decide +kernel
theorem dX5_nextOrder_101 : decode cX5_nextOrder 101 = .ok (.aload_n 0, 1) := by decide +kernel
theorem dX5_nextOrder_102 : decode cX5_nextOrder 102 = .ok (.iload_n 3, 1) := by decide +kernel
theorem dX5_nextOrder_103 : decode cX5_nextOrder 103 = .ok (.iload 4, 2) := by decide +kernel
theorem dX5_nextOrder_105 : decode cX5_nextOrder 105 = .ok (.invokevirtual 167, 3) := by decide +kernel
theorem dX5_nextOrder_108 : decode cX5_nextOrder 108 = .ok (.iinc 3 1, 3) := by decide +kernel
theorem dX5_nextOrder_111 : decode cX5_nextOrder 111 = .ok (.iinc 4 (-1), 3) := by decide +kernel
theorem dX5_nextOrder_114 : decode cX5_nextOrder 114 = .ok (.goto (-19), 3) := by decide +kernel
theorem dX5_nextOrder_117 : decode cX5_nextOrder 117 = .ok (.iload_n 1, 1) := by decide +kernel
theorem dX5_nextOrder_118 : decode cX5_nextOrder 118 = .ok (.ireturn, 1) := by decide +kernel
def pX5_nextOrder_L7 (M : Mm) (s : Int32) : Option ((Int32) ⊕ (Int32)) :=
if s < 1 then
(some (Sum.inr s))
else
((ald M 22 10 s).bind fun v2 =>
(ald M 22 10 (s + 1)).bind fun v4 =>
if v2 ≤ v4 then
(some (Sum.inr s))
else
(some (Sum.inl (s + (-1)))))
def pX5_nextOrder_L49 (x1 : Int32) (M : Mm) (s : Int32) : Option ((Int32) ⊕ (Int32)) :=
if s ≤ (x1 + 1) then
(some (Sum.inr s))
else
((ald M 22 10 s).bind fun v18 =>
(ald M 22 10 x1).bind fun v20 =>
if v20 ≤ v18 then
(some (Sum.inr s))
else
(some (Sum.inl (s + (-1)))))
def pX5_nextOrder_L95 (x1 : Int32) (s : Int32 × Int32 × Mm) : Option ((Int32 × Int32 × Mm) ⊕ (Mm)) :=
if s.2.1 ≤ s.1 then
(some (Sum.inr s.2.2))
else
((pX5_swap s.1 s.2.1 s.2.2).bind fun v37 =>
some (Sum.inl (s.1 + 1, s.2.1 + (-1), v37)))
def pX5_nextOrder (M : Mm) : Option (Int32 × Mm) :=
bnd ((M 17 6) - 2) fun v1 =>
(itr (pX5_nextOrder_L7 M) fuel v1).bind fun x6 =>
if 1 ≤ x6 then
(bnd ((M 17 6) - 1) fun v17 =>
(itr (pX5_nextOrder_L49 x6 M) fuel v17).bind fun x22 =>
(pX5_swap x6 x22 M).bind fun v33 =>
bnd (x6 + 1) fun v35 =>
bnd ((v33 17 6) - 1) fun v36 =>
(itr (pX5_nextOrder_L95 x6) fuel (v35, v36, v33)).bind fun x39 =>
some (x6, x39))
else
(some ((-1), M))
abbrev zX5_nextOrder : Zx := (cX5_nextOrder, RX5, 5, 1, (some .int))
set_option maxRecDepth 100000 in
set_option maxHeartbeats 4000000 in
theorem tX5_nextOrder {l : Launch} {Y : Sx} {M : Mm} {q : Int32 × Mm} (hY : isA Y) (h : pX5_nextOrder M = some q) : Ct l Y yX5_nextOrder cX5_nextOrder 5 (some .int) 1 [.ref (adr Y 17)] M (some q.1) q.2 := by
  refine Ct.of (by decide) rfl (lv := [(0, .ref (adr Y 17))]) rfl ?_
  intro K hkl C
  change Cx K zX5_nextOrder Y at C
  subst hkl
  unfold pX5_nextOrder at h
  show Wp K zX5_nextOrder Y (Qm K Y (some q.1) q.2) M 0 [(0, .ref (adr Y 17))] []
  refine w_aload_n C (pc := 0) dX5_nextOrder_0 0 rfl ?_
  refine w_getI C (pc := 1) dX5_nextOrder_1 f_X5_56 (sA_17 hY) rfl ?_
  refine w_iconst C (pc := 4) dX5_nextOrder_4 (v := 2) (by decide) ?_
  refine w_isub C (pc := 5) dX5_nextOrder_5 ?_
  refine w_bnd h (fun v1 h => ?_)
  refine w_istore_n C (pc := 6) dX5_nextOrder_6 (lv' := [(0, .ref (adr Y 17)), (1, .int v1)]) rfl rfl rfl ?_
  obtain ⟨x6, e7, h⟩ := ob h
  refine itr_W (P := fun s8 => Wp K zX5_nextOrder Y (Qm K Y (some q.1) q.2) M 7 [(0, .ref (adr Y 17)), (1, .int s8)] []) (R := fun x6 => Wp K zX5_nextOrder Y (Qm K Y (some q.1) q.2) M 35 [(0, .ref (adr Y 17)), (1, .int x6)] []) ?_ fuel v1 x6 e7 ?_
  · intro s8 r9 h12 ki10 kx11
    unfold pX5_nextOrder_L7 at h12
    show Wp K zX5_nextOrder Y (Qm K Y (some q.1) q.2) M 7 [(0, .ref (adr Y 17)), (1, .int s8)] []
    refine w_iload_n C (pc := 7) dX5_nextOrder_7 1 rfl ?_
    refine w_iconst C (pc := 8) dX5_nextOrder_8 (v := 1) (by decide) ?_
    refine w_iclt C (pc := 9) 35 dX5_nextOrder_9 (by decide) (fun c => ?_) (fun c => ?_)
    · have h12 := it_t h12 c
      obtain rfl := Option.some.inj h12
      exact kx11 _ rfl
    · have h12 := it_f h12 c
      refine w_aload_n C (pc := 12) dX5_nextOrder_12 0 rfl ?_
      refine w_getR C (pc := 13) dX5_nextOrder_13 f_X5_25 (sA_17 hY) rfl ?_
      refine w_iload_n C (pc := 16) dX5_nextOrder_16 1 rfl ?_
      obtain ⟨v13, e14, h12⟩ := ob h12
      refine w_iald C (pc := 17) dX5_nextOrder_17 (sA_22 hY) e14 ?_
      refine w_aload_n C (pc := 18) dX5_nextOrder_18 0 rfl ?_
      refine w_getR C (pc := 19) dX5_nextOrder_19 f_X5_25 (sA_17 hY) rfl ?_
      refine w_iload_n C (pc := 22) dX5_nextOrder_22 1 rfl ?_
      refine w_iconst C (pc := 23) dX5_nextOrder_23 (v := 1) (by decide) ?_
      refine w_iadd C (pc := 24) dX5_nextOrder_24 ?_
      obtain ⟨v15, e16, h12⟩ := ob h12
      refine w_iald C (pc := 25) dX5_nextOrder_25 (sA_22 hY) e16 ?_
      refine w_icle C (pc := 26) 35 dX5_nextOrder_26 (by decide) (fun c => ?_) (fun c => ?_)
      · have h12 := it_t h12 c
        obtain rfl := Option.some.inj h12
        exact kx11 _ rfl
      · have h12 := it_f h12 c
        refine w_iinc C (pc := 29) dX5_nextOrder_29 1 rfl (v := (-1)) (lv' := [(0, .ref (adr Y 17)), (1, .int (s8 + (-1)))]) (by decide) rfl rfl rfl ?_
        refine w_goto C (pc := 32) 7 dX5_nextOrder_32 (by decide) ?_
        obtain rfl := Option.some.inj h12
        exact ki10 _ rfl
  · refine w_iload_n C (pc := 35) dX5_nextOrder_35 1 rfl ?_
    refine w_iconst C (pc := 36) dX5_nextOrder_36 (v := 1) (by decide) ?_
    refine w_icge C (pc := 37) 42 dX5_nextOrder_37 (by decide) (fun c => ?_) (fun c => ?_)
    · have h := it_t h c
      refine w_aload_n C (pc := 42) dX5_nextOrder_42 0 rfl ?_
      refine w_getI C (pc := 43) dX5_nextOrder_43 f_X5_56 (sA_17 hY) rfl ?_
      refine w_iconst C (pc := 46) dX5_nextOrder_46 (v := 1) (by decide) ?_
      refine w_isub C (pc := 47) dX5_nextOrder_47 ?_
      refine w_bnd h (fun v17 h => ?_)
      refine w_istore_n C (pc := 48) dX5_nextOrder_48 (lv' := [(0, .ref (adr Y 17)), (1, .int x6), (2, .int v17)]) rfl rfl rfl ?_
      obtain ⟨x22, e23, h⟩ := ob h
      refine itr_W (P := fun s24 => Wp K zX5_nextOrder Y (Qm K Y (some q.1) q.2) M 49 [(0, .ref (adr Y 17)), (1, .int x6), (2, .int s24)] []) (R := fun x22 => Wp K zX5_nextOrder Y (Qm K Y (some q.1) q.2) M 77 [(0, .ref (adr Y 17)), (1, .int x6), (2, .int x22)] []) ?_ fuel v17 x22 e23 ?_
      · intro s24 r25 h28 ki26 kx27
        unfold pX5_nextOrder_L49 at h28
        show Wp K zX5_nextOrder Y (Qm K Y (some q.1) q.2) M 49 [(0, .ref (adr Y 17)), (1, .int x6), (2, .int s24)] []
        refine w_iload_n C (pc := 49) dX5_nextOrder_49 2 rfl ?_
        refine w_iload_n C (pc := 50) dX5_nextOrder_50 1 rfl ?_
        refine w_iconst C (pc := 51) dX5_nextOrder_51 (v := 1) (by decide) ?_
        refine w_iadd C (pc := 52) dX5_nextOrder_52 ?_
        refine w_icle C (pc := 53) 77 dX5_nextOrder_53 (by decide) (fun c => ?_) (fun c => ?_)
        · have h28 := it_t h28 c
          obtain rfl := Option.some.inj h28
          exact kx27 _ rfl
        · have h28 := it_f h28 c
          refine w_aload_n C (pc := 56) dX5_nextOrder_56 0 rfl ?_
          refine w_getR C (pc := 57) dX5_nextOrder_57 f_X5_25 (sA_17 hY) rfl ?_
          refine w_iload_n C (pc := 60) dX5_nextOrder_60 2 rfl ?_
          obtain ⟨v29, e30, h28⟩ := ob h28
          refine w_iald C (pc := 61) dX5_nextOrder_61 (sA_22 hY) e30 ?_
          refine w_aload_n C (pc := 62) dX5_nextOrder_62 0 rfl ?_
          refine w_getR C (pc := 63) dX5_nextOrder_63 f_X5_25 (sA_17 hY) rfl ?_
          refine w_iload_n C (pc := 66) dX5_nextOrder_66 1 rfl ?_
          obtain ⟨v31, e32, h28⟩ := ob h28
          refine w_iald C (pc := 67) dX5_nextOrder_67 (sA_22 hY) e32 ?_
          refine w_icge C (pc := 68) 77 dX5_nextOrder_68 (by decide) (fun c => ?_) (fun c => ?_)
          · have h28 := it_t h28 c
            obtain rfl := Option.some.inj h28
            exact kx27 _ rfl
          · have h28 := it_f h28 c
            refine w_iinc C (pc := 71) dX5_nextOrder_71 2 rfl (v := (-1)) (lv' := [(0, .ref (adr Y 17)), (1, .int x6), (2, .int (s24 + (-1)))]) (by decide) rfl rfl rfl ?_
            refine w_goto C (pc := 74) 49 dX5_nextOrder_74 (by decide) ?_
            obtain rfl := Option.some.inj h28
            exact ki26 _ rfl
      · refine w_aload_n C (pc := 77) dX5_nextOrder_77 0 rfl ?_
        refine w_iload_n C (pc := 78) dX5_nextOrder_78 1 rfl ?_
        refine w_iload_n C (pc := 79) dX5_nextOrder_79 2 rfl ?_
        obtain ⟨v33, e34, h⟩ := ob h
        refine w_cVv C (pc := 80) dX5_nextOrder_80 my_X5_swap mi_X5_swap ml_X5_167 (sA_17 hY) rfl rfl rfl [.int x6, .int x22] rfl rfl (Nat.le_of_ble_eq_true rfl) (tX5_swap hY  e34) ?_
        refine w_iload_n C (pc := 83) dX5_nextOrder_83 1 rfl ?_
        refine w_iconst C (pc := 84) dX5_nextOrder_84 (v := 1) (by decide) ?_
        refine w_iadd C (pc := 85) dX5_nextOrder_85 ?_
        refine w_bnd h (fun v35 h => ?_)
        refine w_istore_n C (pc := 86) dX5_nextOrder_86 (lv' := [(0, .ref (adr Y 17)), (1, .int x6), (2, .int x22), (3, .int v35)]) rfl rfl rfl ?_
        refine w_aload_n C (pc := 87) dX5_nextOrder_87 0 rfl ?_
        refine w_getI C (pc := 88) dX5_nextOrder_88 f_X5_56 (sA_17 hY) rfl ?_
        refine w_iconst C (pc := 91) dX5_nextOrder_91 (v := 1) (by decide) ?_
        refine w_isub C (pc := 92) dX5_nextOrder_92 ?_
        refine w_bnd h (fun v36 h => ?_)
        refine w_istore C (pc := 93) dX5_nextOrder_93 (lv' := [(0, .ref (adr Y 17)), (1, .int x6), (2, .int x22), (3, .int v35), (4, .int v36)]) rfl rfl rfl ?_
        obtain ⟨x39, e40, h⟩ := ob h
        refine itr_W (P := fun s41 => Wp K zX5_nextOrder Y (Qm K Y (some q.1) q.2) s41.2.2 95 [(0, .ref (adr Y 17)), (1, .int x6), (2, .int x22), (3, .int s41.1), (4, .int s41.2.1)] []) (R := fun x39 => Wp K zX5_nextOrder Y (Qm K Y (some q.1) q.2) x39 117 [(0, .ref (adr Y 17)), (1, .int x6), (2, .int x22)] []) ?_ fuel (v35, v36, v33) x39 e40 ?_
        · intro s41 r42 h45 ki43 kx44
          unfold pX5_nextOrder_L95 at h45
          show Wp K zX5_nextOrder Y (Qm K Y (some q.1) q.2) s41.2.2 95 [(0, .ref (adr Y 17)), (1, .int x6), (2, .int x22), (3, .int s41.1), (4, .int s41.2.1)] []
          refine w_iload_n C (pc := 95) dX5_nextOrder_95 3 rfl ?_
          refine w_iload C (pc := 96) dX5_nextOrder_96 4 rfl ?_
          refine w_icge C (pc := 98) 117 dX5_nextOrder_98 (by decide) (fun c => ?_) (fun c => ?_)
          · have h45 := it_t h45 c
            obtain rfl := Option.some.inj h45
            refine w_lv [0, 1, 2] rfl ?_
            exact kx44 _ rfl
          · have h45 := it_f h45 c
            refine w_aload_n C (pc := 101) dX5_nextOrder_101 0 rfl ?_
            refine w_iload_n C (pc := 102) dX5_nextOrder_102 3 rfl ?_
            refine w_iload C (pc := 103) dX5_nextOrder_103 4 rfl ?_
            obtain ⟨v46, e47, h45⟩ := ob h45
            refine w_cVv C (pc := 105) dX5_nextOrder_105 my_X5_swap mi_X5_swap ml_X5_167 (sA_17 hY) rfl rfl rfl [.int s41.1, .int s41.2.1] rfl rfl (Nat.le_of_ble_eq_true rfl) (tX5_swap hY  e47) ?_
            refine w_iinc C (pc := 108) dX5_nextOrder_108 3 rfl (v := 1) (lv' := [(0, .ref (adr Y 17)), (1, .int x6), (2, .int x22), (3, .int (s41.1 + 1)), (4, .int s41.2.1)]) (by decide) rfl rfl rfl ?_
            refine w_iinc C (pc := 111) dX5_nextOrder_111 4 rfl (v := (-1)) (lv' := [(0, .ref (adr Y 17)), (1, .int x6), (2, .int x22), (3, .int (s41.1 + 1)), (4, .int (s41.2.1 + (-1)))]) (by decide) rfl rfl rfl ?_
            refine w_goto C (pc := 114) 95 dX5_nextOrder_114 (by decide) ?_
            obtain rfl := Option.some.inj h45
            exact ki43 _ rfl
        · refine w_iload_n C (pc := 117) dX5_nextOrder_117 1 rfl ?_
          exact w_ret C (pc := 118) dX5_nextOrder_118 rfl (Option.some.inj h)
    · have h := it_f h c
      refine w_iconst C (pc := 40) dX5_nextOrder_40 (v := (-1)) (by decide) ?_
      exact w_ret C (pc := 41) dX5_nextOrder_41 rfl (Option.some.inj h)
theorem dX5_orderNumber_0 : decode cX5_orderNumber 0 = .ok (.iconst 0, 1) := by decide +kernel
theorem dX5_orderNumber_1 : decode cX5_orderNumber 1 = .ok (.istore_n 1, 1) := by decide +kernel
theorem dX5_orderNumber_2 : decode cX5_orderNumber 2 = .ok (.iconst 1, 1) := by decide +kernel
theorem dX5_orderNumber_3 : decode cX5_orderNumber 3 = .ok (.istore_n 2, 1) := by decide +kernel
theorem dX5_orderNumber_4 : decode cX5_orderNumber 4 = .ok (.iload_n 2, 1) := by decide +kernel
theorem dX5_orderNumber_5 : decode cX5_orderNumber 5 = .ok (.aload_n 0, 1) := by decide +kernel
theorem dX5_orderNumber_6 : decode cX5_orderNumber 6 = .ok (.getfield 56, 3) := by decide +kernel
theorem dX5_orderNumber_9 : decode cX5_orderNumber 9 = .ok (.if_icmp .ge 21, 3) := by decide +kernel
theorem dX5_orderNumber_12 : decode cX5_orderNumber 12 = .ok (.iload_n 1, 1) := by decide +kernel
theorem dX5_orderNumber_13 : decode cX5_orderNumber 13 = .ok (.bipush 10, 2) := by decide +kernel
theorem dX5_orderNumber_15 : decode cX5_orderNumber 15 = .ok (.imul, 1) := by decide +kernel
theorem dX5_orderNumber_16 : decode cX5_orderNumber 16 = .ok (.aload_n 0, 1) := by decide +kernel
theorem dX5_orderNumber_17 : decode cX5_orderNumber 17 = .ok (.getfield 25, 3) := by decide +kernel
theorem dX5_orderNumber_20 : decode cX5_orderNumber 20 = .ok (.iload_n 2, 1) := by decide +kernel
theorem dX5_orderNumber_21 : decode cX5_orderNumber 21 = .ok (.iaload, 1) := by decide +kernel
theorem dX5_orderNumber_22 : decode cX5_orderNumber 22 = .ok (.iadd, 1) := by decide +kernel
theorem dX5_orderNumber_23 : decode cX5_orderNumber 23 = .ok (.istore_n 1, 1) := by decide +kernel
theorem dX5_orderNumber_24 : decode cX5_orderNumber 24 = .ok (.iinc 2 1, 3) := by decide +kernel
theorem dX5_orderNumber_27 : decode cX5_orderNumber 27 = .ok (.goto (-23), 3) := by decide +kernel
theorem dX5_orderNumber_30 : decode cX5_orderNumber 30 = .ok (.iload_n 1, 1) := by decide +kernel
theorem dX5_orderNumber_31 : decode cX5_orderNumber 31 = .ok (.ireturn, 1) := by decide +kernel
def pX5_orderNumber_L4 (M : Mm) (s : Int32 × Int32) : Option ((Int32 × Int32) ⊕ (Int32)) :=
if (M 17 6) ≤ s.2 then
(some (Sum.inr s.1))
else
((ald M 22 10 s.2).bind fun v1 =>
bnd ((s.1 * 10) + v1) fun v3 =>
some (Sum.inl (v3, s.2 + 1)))
def pX5_orderNumber (M : Mm) : Option (Int32) :=
(itr (pX5_orderNumber_L4 M) fuel (0, 1)).bind fun x4 =>
some x4
abbrev zX5_orderNumber : Zx := (cX5_orderNumber, RX5, 3, 0, (some .int))
set_option maxRecDepth 100000 in
set_option maxHeartbeats 4000000 in
theorem tX5_orderNumber {l : Launch} {Y : Sx} {M : Mm} {q : Int32} (hY : isA Y) (h : pX5_orderNumber M = some q) : Ct l Y yX5_orderNumber cX5_orderNumber 3 (some .int) 0 [.ref (adr Y 17)] M (some q) M := by
  refine Ct.of (by decide) rfl (lv := [(0, .ref (adr Y 17))]) rfl ?_
  intro K hkl C
  change Cx K zX5_orderNumber Y at C
  subst hkl
  unfold pX5_orderNumber at h
  show Wp K zX5_orderNumber Y (Qm K Y (some q) M) M 0 [(0, .ref (adr Y 17))] []
  refine w_iconst C (pc := 0) dX5_orderNumber_0 (v := 0) (by decide) ?_
  refine w_istore_n C (pc := 1) dX5_orderNumber_1 (lv' := [(0, .ref (adr Y 17)), (1, .int 0)]) rfl rfl rfl ?_
  refine w_iconst C (pc := 2) dX5_orderNumber_2 (v := 1) (by decide) ?_
  refine w_istore_n C (pc := 3) dX5_orderNumber_3 (lv' := [(0, .ref (adr Y 17)), (1, .int 0), (2, .int 1)]) rfl rfl rfl ?_
  obtain ⟨x4, e5, h⟩ := ob h
  refine itr_W (P := fun s6 => Wp K zX5_orderNumber Y (Qm K Y (some q) M) M 4 [(0, .ref (adr Y 17)), (1, .int s6.1), (2, .int s6.2)] []) (R := fun x4 => Wp K zX5_orderNumber Y (Qm K Y (some q) M) M 30 [(0, .ref (adr Y 17)), (1, .int x4)] []) ?_ fuel (0, 1) x4 e5 ?_
  · intro s6 r7 h10 ki8 kx9
    unfold pX5_orderNumber_L4 at h10
    show Wp K zX5_orderNumber Y (Qm K Y (some q) M) M 4 [(0, .ref (adr Y 17)), (1, .int s6.1), (2, .int s6.2)] []
    refine w_iload_n C (pc := 4) dX5_orderNumber_4 2 rfl ?_
    refine w_aload_n C (pc := 5) dX5_orderNumber_5 0 rfl ?_
    refine w_getI C (pc := 6) dX5_orderNumber_6 f_X5_56 (sA_17 hY) rfl ?_
    refine w_icge C (pc := 9) 30 dX5_orderNumber_9 (by decide) (fun c => ?_) (fun c => ?_)
    · have h10 := it_t h10 c
      obtain rfl := Option.some.inj h10
      refine w_lv [0, 1] rfl ?_
      exact kx9 _ rfl
    · have h10 := it_f h10 c
      refine w_iload_n C (pc := 12) dX5_orderNumber_12 1 rfl ?_
      refine w_bipush C (pc := 13) dX5_orderNumber_13 (v := 10) (by decide) ?_
      refine w_imul C (pc := 15) dX5_orderNumber_15 ?_
      refine w_aload_n C (pc := 16) dX5_orderNumber_16 0 rfl ?_
      refine w_getR C (pc := 17) dX5_orderNumber_17 f_X5_25 (sA_17 hY) rfl ?_
      refine w_iload_n C (pc := 20) dX5_orderNumber_20 2 rfl ?_
      obtain ⟨v11, e12, h10⟩ := ob h10
      refine w_iald C (pc := 21) dX5_orderNumber_21 (sA_22 hY) e12 ?_
      refine w_iadd C (pc := 22) dX5_orderNumber_22 ?_
      refine w_bnd h10 (fun v13 h10 => ?_)
      refine w_istore_n C (pc := 23) dX5_orderNumber_23 (lv' := [(0, .ref (adr Y 17)), (1, .int v13), (2, .int s6.2)]) rfl rfl rfl ?_
      refine w_iinc C (pc := 24) dX5_orderNumber_24 2 rfl (v := 1) (lv' := [(0, .ref (adr Y 17)), (1, .int v13), (2, .int (s6.2 + 1))]) (by decide) rfl rfl rfl ?_
      refine w_goto C (pc := 27) 4 dX5_orderNumber_27 (by decide) ?_
      obtain rfl := Option.some.inj h10
      exact ki8 _ rfl
  · refine w_iload_n C (pc := 30) dX5_orderNumber_30 1 rfl ?_
    exact w_retR C (pc := 31) dX5_orderNumber_31 rfl (Option.some.inj h)
theorem dX5_prepare_0 : decode cX5_prepare 0 = .ok (.aload_n 0, 1) := by decide +kernel
theorem dX5_prepare_1 : decode cX5_prepare 1 = .ok (.iload_n 1, 1) := by decide +kernel
theorem dX5_prepare_2 : decode cX5_prepare 2 = .ok (.putfield 63, 3) := by decide +kernel
theorem dX5_prepare_5 : decode cX5_prepare 5 = .ok (.aload_n 0, 1) := by decide +kernel
theorem dX5_prepare_6 : decode cX5_prepare 6 = .ok (.aload_n 0, 1) := by decide +kernel
theorem dX5_prepare_7 : decode cX5_prepare 7 = .ok (.getfield 46, 3) := by decide +kernel
theorem dX5_prepare_10 : decode cX5_prepare 10 = .ok (.bipush 6, 2) := by decide +kernel
theorem dX5_prepare_12 : decode cX5_prepare 12 = .ok (.invokevirtual 66, 3) := by decide +kernel
theorem dX5_prepare_15 : decode cX5_prepare 15 = .ok (.putfield 70, 3) := by decide +kernel
theorem dX5_prepare_18 : decode cX5_prepare 18 = .ok (.aload_n 0, 1) := by decide +kernel
theorem dX5_prepare_19 : decode cX5_prepare 19 = .ok (.aload_n 0, 1) := by decide +kernel
theorem dX5_prepare_20 : decode cX5_prepare 20 = .ok (.getfield 46, 3) := by decide +kernel
theorem dX5_prepare_23 : decode cX5_prepare 23 = .ok (.bipush 7, 2) := by decide +kernel
theorem dX5_prepare_25 : decode cX5_prepare 25 = .ok (.invokevirtual 66, 3) := by decide +kernel
theorem dX5_prepare_28 : decode cX5_prepare 28 = .ok (.putfield 73, 3) := by decide +kernel
theorem dX5_prepare_31 : decode cX5_prepare 31 = .ok (.aload_n 0, 1) := by decide +kernel
theorem dX5_prepare_32 : decode cX5_prepare 32 = .ok (.aload_n 0, 1) := by decide +kernel
theorem dX5_prepare_33 : decode cX5_prepare 33 = .ok (.getfield 46, 3) := by decide +kernel
theorem dX5_prepare_36 : decode cX5_prepare 36 = .ok (.iconst 5, 1) := by decide +kernel
theorem dX5_prepare_37 : decode cX5_prepare 37 = .ok (.invokevirtual 66, 3) := by decide +kernel
theorem dX5_prepare_40 : decode cX5_prepare 40 = .ok (.putfield 76, 3) := by decide +kernel
theorem dX5_prepare_43 : decode cX5_prepare 43 = .ok (.aload_n 0, 1) := by decide +kernel
theorem dX5_prepare_44 : decode cX5_prepare 44 = .ok (.aload_n 0, 1) := by decide +kernel
theorem dX5_prepare_45 : decode cX5_prepare 45 = .ok (.getfield 46, 3) := by decide +kernel
theorem dX5_prepare_48 : decode cX5_prepare 48 = .ok (.bipush 9, 2) := by decide +kernel
theorem dX5_prepare_50 : decode cX5_prepare 50 = .ok (.invokevirtual 66, 3) := by decide +kernel
theorem dX5_prepare_53 : decode cX5_prepare 53 = .ok (.iconst 1, 1) := by decide +kernel
theorem dX5_prepare_54 : decode cX5_prepare 54 = .ok (.if_icmp .ne 7, 3) := by decide +kernel
theorem dX5_prepare_57 : decode cX5_prepare 57 = .ok (.iconst 1, 1) := by decide +kernel
theorem dX5_prepare_58 : decode cX5_prepare 58 = .ok (.goto 4, 3) := by decide +kernel
theorem dX5_prepare_61 : decode cX5_prepare 61 = .ok (.iconst 0, 1) := by decide +kernel
theorem dX5_prepare_62 : decode cX5_prepare 62 = .ok (.putfield 79, 3) := by decide +kernel
theorem dX5_prepare_65 : decode cX5_prepare 65 = .ok (.iconst 0, 1) := by decide +kernel
theorem dX5_prepare_66 : decode cX5_prepare 66 = .ok (.istore 4, 2) := by decide +kernel
theorem dX5_prepare_68 : decode cX5_prepare 68 = .ok (.iload 4, 2) := by decide +kernel
theorem dX5_prepare_70 : decode cX5_prepare 70 = .ok (.aload_n 0, 1) := by decide +kernel
theorem dX5_prepare_71 : decode cX5_prepare 71 = .ok (.getfield 46, 3) := by decide +kernel
theorem dX5_prepare_74 : decode cX5_prepare 74 = .ok (.getfield 50, 3) := by decide +kernel
theorem dX5_prepare_77 : decode cX5_prepare 77 = .ok (.if_icmp .gt 124, 3) := by decide +kernel
theorem dX5_prepare_80 : decode cX5_prepare 80 = .ok (.aload_n 0, 1) := by decide +kernel
theorem dX5_prepare_81 : decode cX5_prepare 81 = .ok (.getfield 18, 3) := by decide +kernel
theorem dX5_prepare_84 : decode cX5_prepare 84 = .ok (.iload 4, 2) := by decide +kernel
theorem dX5_prepare_86 : decode cX5_prepare 86 = .ok (.aload_n 0, 1) := by decide +kernel
theorem dX5_prepare_87 : decode cX5_prepare 87 = .ok (.getfield 46, 3) := by decide +kernel
theorem dX5_prepare_90 : decode cX5_prepare 90 = .ok (.iload 4, 2) := by decide +kernel
theorem dX5_prepare_92 : decode cX5_prepare 92 = .ok (.iconst 3, 1) := by decide +kernel
theorem dX5_prepare_93 : decode cX5_prepare 93 = .ok (.invokevirtual 83, 3) := by decide +kernel
theorem dX5_prepare_96 : decode cX5_prepare 96 = .ok (.iastore, 1) := by decide +kernel
theorem dX5_prepare_97 : decode cX5_prepare 97 = .ok (.aload_n 0, 1) := by decide +kernel
theorem dX5_prepare_98 : decode cX5_prepare 98 = .ok (.getfield 21, 3) := by decide +kernel
theorem dX5_prepare_101 : decode cX5_prepare 101 = .ok (.iload 4, 2) := by decide +kernel
theorem dX5_prepare_103 : decode cX5_prepare 103 = .ok (.aload_n 0, 1) := by decide +kernel
theorem dX5_prepare_104 : decode cX5_prepare 104 = .ok (.getfield 46, 3) := by decide +kernel
theorem dX5_prepare_107 : decode cX5_prepare 107 = .ok (.iload 4, 2) := by decide +kernel
theorem dX5_prepare_109 : decode cX5_prepare 109 = .ok (.invokevirtual 87, 3) := by decide +kernel
theorem dX5_prepare_112 : decode cX5_prepare 112 = .ok (.bastore, 1) := by decide +kernel
theorem dX5_prepare_113 : decode cX5_prepare 113 = .ok (.iconst 0, 1) := by decide +kernel
theorem dX5_prepare_114 : decode cX5_prepare 114 = .ok (.istore 5, 2) := by decide +kernel
theorem dX5_prepare_116 : decode cX5_prepare 116 = .ok (.iload 5, 2) := by decide +kernel
theorem dX5_prepare_118 : decode cX5_prepare 118 = .ok (.aload_n 0, 1) := by decide +kernel
theorem dX5_prepare_119 : decode cX5_prepare 119 = .ok (.getfield 46, 3) := by decide +kernel
theorem dX5_prepare_122 : decode cX5_prepare 122 = .ok (.getfield 50, 3) := by decide +kernel
theorem dX5_prepare_125 : decode cX5_prepare 125 = .ok (.if_icmp .gt 70, 3) := by decide +kernel
theorem dX5_prepare_128 : decode cX5_prepare 128 = .ok (.aload_n 0, 1) := by decide +kernel
theorem dX5_prepare_129 : decode cX5_prepare 129 = .ok (.getfield 9, 3) := by decide +kernel
theorem dX5_prepare_132 : decode cX5_prepare 132 = .ok (.iload 4, 2) := by decide +kernel
theorem dX5_prepare_134 : decode cX5_prepare 134 = .ok (.bipush 9, 2) := by decide +kernel
theorem dX5_prepare_136 : decode cX5_prepare 136 = .ok (.imul, 1) := by decide +kernel
theorem dX5_prepare_137 : decode cX5_prepare 137 = .ok (.iload 5, 2) := by decide +kernel
theorem dX5_prepare_139 : decode cX5_prepare 139 = .ok (.iadd, 1) := by decide +kernel
theorem dX5_prepare_140 : decode cX5_prepare 140 = .ok (.aload_n 0, 1) := by decide +kernel
theorem dX5_prepare_141 : decode cX5_prepare 141 = .ok (.getfield 46, 3) := by decide +kernel
theorem dX5_prepare_144 : decode cX5_prepare 144 = .ok (.iload 4, 2) := by decide +kernel
theorem dX5_prepare_146 : decode cX5_prepare 146 = .ok (.iload 5, 2) := by decide +kernel
theorem dX5_prepare_148 : decode cX5_prepare 148 = .ok (.invokevirtual 90, 3) := by decide +kernel
theorem dX5_prepare_151 : decode cX5_prepare 151 = .ok (.aload_n 0, 1) := by decide +kernel
theorem dX5_prepare_152 : decode cX5_prepare 152 = .ok (.getfield 46, 3) := by decide +kernel
theorem dX5_prepare_155 : decode cX5_prepare 155 = .ok (.iload 5, 2) := by decide +kernel
theorem dX5_prepare_157 : decode cX5_prepare 157 = .ok (.iconst 2, 1) := by decide +kernel
theorem dX5_prepare_158 : decode cX5_prepare 158 = .ok (.invokevirtual 83, 3) := by decide +kernel
theorem dX5_prepare_161 : decode cX5_prepare 161 = .ok (.iadd, 1) := by decide +kernel
theorem dX5_prepare_162 : decode cX5_prepare 162 = .ok (.iastore, 1) := by decide +kernel
theorem dX5_prepare_163 : decode cX5_prepare 163 = .ok (.aload_n 0, 1) := by decide +kernel
theorem dX5_prepare_164 : decode cX5_prepare 164 = .ok (.getfield 15, 3) := by decide +kernel
theorem dX5_prepare_167 : decode cX5_prepare 167 = .ok (.iload 4, 2) := by decide +kernel
theorem dX5_prepare_169 : decode cX5_prepare 169 = .ok (.bipush 9, 2) := by decide +kernel
theorem dX5_prepare_171 : decode cX5_prepare 171 = .ok (.imul, 1) := by decide +kernel
theorem dX5_prepare_172 : decode cX5_prepare 172 = .ok (.iload 5, 2) := by decide +kernel
theorem dX5_prepare_174 : decode cX5_prepare 174 = .ok (.iadd, 1) := by decide +kernel
theorem dX5_prepare_175 : decode cX5_prepare 175 = .ok (.aload_n 0, 1) := by decide +kernel
theorem dX5_prepare_176 : decode cX5_prepare 176 = .ok (.getfield 46, 3) := by decide +kernel
theorem dX5_prepare_179 : decode cX5_prepare 179 = .ok (.iload 4, 2) := by decide +kernel
theorem dX5_prepare_181 : decode cX5_prepare 181 = .ok (.iload 5, 2) := by decide +kernel
theorem dX5_prepare_183 : decode cX5_prepare 183 = .ok (.iload_n 2, 1) := by decide +kernel
theorem dX5_prepare_184 : decode cX5_prepare 184 = .ok (.iload_n 3, 1) := by decide +kernel
theorem dX5_prepare_185 : decode cX5_prepare 185 = .ok (.invokevirtual 93, 3) := by decide +kernel
theorem dX5_prepare_188 : decode cX5_prepare 188 = .ok (.iastore, 1) := by decide +kernel
theorem dX5_prepare_189 : decode cX5_prepare 189 = .ok (.iinc 5 1, 3) := by decide +kernel
theorem dX5_prepare_192 : decode cX5_prepare 192 = .ok (.goto (-76), 3) := by decide +kernel
theorem dX5_prepare_195 : decode cX5_prepare 195 = .ok (.iinc 4 1, 3) := by decide +kernel
theorem dX5_prepare_198 : decode cX5_prepare 198 = .ok (.goto (-130), 3) := by decide +kernel
theorem dX5_prepare_201 : decode cX5_prepare 201 = .ok (.return_, 1) := by decide +kernel
def pX5_prepare_L116 (x2 : Int32) (x3 : Int32) (x4 : Int32) (s : Int32 × Mm) : Option ((Int32 × Mm) ⊕ (Mm)) :=
if (s.2 1 0) < s.1 then
(some (Sum.inr s.2))
else
((pX3_drive 1 x4 s.1 s.2).bind fun v32 =>
(pX3_fact 1 s.1 2 s.2).bind fun v34 =>
(ast s.2 18 81 ((x4 * 9) + s.1) (v32 + v34)).bind fun M36 =>
(pX3_flight 1 x4 s.1 x2 x3 M36).bind fun v38 =>
(ast M36 19 81 ((x4 * 9) + s.1) v38).bind fun M40 =>
some (Sum.inl (s.1 + 1, M40)))
def pX5_prepare_L68 (x2 : Int32) (x3 : Int32) (s : Int32 × Mm) : Option ((Int32 × Mm) ⊕ (Mm)) :=
if (s.2 1 0) < s.1 then
(some (Sum.inr s.2))
else
((pX3_fact 1 s.1 3 s.2).bind fun v24 =>
(ast s.2 20 9 s.1 v24).bind fun M26 =>
(pX3_isLight 1 s.1 M26).bind fun v28 =>
(ast M26 21 9 s.1 (vp_nar .boolean v28)).bind fun M30 =>
(itr (pX5_prepare_L116 x2 x3 s.1) fuel (0, M30)).bind fun x42 =>
some (Sum.inl (s.1 + 1, x42)))
def pX5_prepare (x1 : Int32) (x2 : Int32) (x3 : Int32) (M : Mm) : Option (Mm) :=
bnd (mset M 17 1 x1) fun M1 =>
(pX3_setting 1 6 M1).bind fun v3 =>
bnd (mset M1 17 2 v3) fun M5 =>
(pX3_setting 1 7 M5).bind fun v7 =>
bnd (mset M5 17 3 v7) fun M9 =>
(pX3_setting 1 5 M9).bind fun v11 =>
bnd (mset M9 17 4 v11) fun M13 =>
(pX3_setting 1 9 M13).bind fun v15 =>
bnd (α := Int32) (if v15 = 1 then
(1)
else
(0)) fun j17 =>
(zo j17).bind fun v20 =>
bnd (mset M13 17 5 j17) fun M22 =>
(itr (pX5_prepare_L68 x2 x3) fuel (0, M22)).bind fun x59 =>
some x59
abbrev zX5_prepare : Zx := (cX5_prepare, RX5, 6, 2, none)
set_option maxRecDepth 100000 in
set_option maxHeartbeats 4000000 in
theorem tX5_prepare {l : Launch} {Y : Sx} {M : Mm} {x1 : Int32} {x2 : Int32} {x3 : Int32} {q : Mm} (hY : isA Y) (h : pX5_prepare x1 x2 x3 M = some q) : Ct l Y yX5_prepare cX5_prepare 6 none 2 [.ref (adr Y 17), .int x1, .int x2, .int x3] M none q := by
  refine Ct.of (by decide) rfl (lv := [(0, .ref (adr Y 17)), (1, .int x1), (2, .int x2), (3, .int x3)]) rfl ?_
  intro K hkl C
  change Cx K zX5_prepare Y at C
  subst hkl
  unfold pX5_prepare at h
  show Wp K zX5_prepare Y (Qm K Y none q) M 0 [(0, .ref (adr Y 17)), (1, .int x1), (2, .int x2), (3, .int x3)] []
  refine w_aload_n C (pc := 0) dX5_prepare_0 0 rfl ?_
  refine w_iload_n C (pc := 1) dX5_prepare_1 1 rfl ?_
  obtain ⟨M1, e2, h⟩ := bn h
  refine w_putI C (pc := 2) dX5_prepare_2 fp_X5_63 (sA_17 hY) rfl ?_
  rw [e2]
  refine w_aload_n C (pc := 5) dX5_prepare_5 0 rfl ?_
  refine w_aload_n C (pc := 6) dX5_prepare_6 0 rfl ?_
  refine w_getR C (pc := 7) dX5_prepare_7 f_X5_46 (sA_17 hY) rfl ?_
  refine w_bipush C (pc := 10) dX5_prepare_10 (v := 6) (by decide) ?_
  obtain ⟨v3, e4, h⟩ := ob h
  refine w_cVi C (pc := 12) dX5_prepare_12 my_X3_setting mi_X3_setting ml_X5_66 (sA_1 hY) rfl rfl rfl [.int 6] rfl rfl (Nat.le_of_ble_eq_true rfl) (tX3_setting (kLand_1 hY) e4) ?_
  obtain ⟨M5, e6, h⟩ := bn h
  refine w_putI C (pc := 15) dX5_prepare_15 fp_X5_70 (sA_17 hY) rfl ?_
  rw [e6]
  refine w_aload_n C (pc := 18) dX5_prepare_18 0 rfl ?_
  refine w_aload_n C (pc := 19) dX5_prepare_19 0 rfl ?_
  refine w_getR C (pc := 20) dX5_prepare_20 f_X5_46 (sA_17 hY) rfl ?_
  refine w_bipush C (pc := 23) dX5_prepare_23 (v := 7) (by decide) ?_
  obtain ⟨v7, e8, h⟩ := ob h
  refine w_cVi C (pc := 25) dX5_prepare_25 my_X3_setting mi_X3_setting ml_X5_66 (sA_1 hY) rfl rfl rfl [.int 7] rfl rfl (Nat.le_of_ble_eq_true rfl) (tX3_setting (kLand_1 hY) e8) ?_
  obtain ⟨M9, e10, h⟩ := bn h
  refine w_putI C (pc := 28) dX5_prepare_28 fp_X5_73 (sA_17 hY) rfl ?_
  rw [e10]
  refine w_aload_n C (pc := 31) dX5_prepare_31 0 rfl ?_
  refine w_aload_n C (pc := 32) dX5_prepare_32 0 rfl ?_
  refine w_getR C (pc := 33) dX5_prepare_33 f_X5_46 (sA_17 hY) rfl ?_
  refine w_iconst C (pc := 36) dX5_prepare_36 (v := 5) (by decide) ?_
  obtain ⟨v11, e12, h⟩ := ob h
  refine w_cVi C (pc := 37) dX5_prepare_37 my_X3_setting mi_X3_setting ml_X5_66 (sA_1 hY) rfl rfl rfl [.int 5] rfl rfl (Nat.le_of_ble_eq_true rfl) (tX3_setting (kLand_1 hY) e12) ?_
  obtain ⟨M13, e14, h⟩ := bn h
  refine w_putI C (pc := 40) dX5_prepare_40 fp_X5_76 (sA_17 hY) rfl ?_
  rw [e14]
  refine w_aload_n C (pc := 43) dX5_prepare_43 0 rfl ?_
  refine w_aload_n C (pc := 44) dX5_prepare_44 0 rfl ?_
  refine w_getR C (pc := 45) dX5_prepare_45 f_X5_46 (sA_17 hY) rfl ?_
  refine w_bipush C (pc := 48) dX5_prepare_48 (v := 9) (by decide) ?_
  obtain ⟨v15, e16, h⟩ := ob h
  refine w_cVi C (pc := 50) dX5_prepare_50 my_X3_setting mi_X3_setting ml_X5_66 (sA_1 hY) rfl rfl rfl [.int 9] rfl rfl (Nat.le_of_ble_eq_true rfl) (tX3_setting (kLand_1 hY) e16) ?_
  refine w_iconst C (pc := 53) dX5_prepare_53 (v := 1) (by decide) ?_
  obtain ⟨j17, e18, h19⟩ := bn h
  have Jj17 : Wp K zX5_prepare Y (Qm K Y none q) M13 62 [(0, .ref (adr Y 17)), (1, .int x1), (2, .int x2), (3, .int x3)] [.int j17, .ref (adr Y 17)] := by
    obtain ⟨v20, e21, h19⟩ := ob h19
    rw [← (zo_some e21).2] at h19
    obtain ⟨M22, e23, h19⟩ := bn h19
    refine w_putZ C (pc := 62) dX5_prepare_62 fp_X5_79 (sA_17 hY) rfl (zo_some e21).1 ?_
    rw [e23]
    refine w_iconst C (pc := 65) dX5_prepare_65 (v := 0) (by decide) ?_
    refine w_istore C (pc := 66) dX5_prepare_66 (lv' := [(0, .ref (adr Y 17)), (1, .int x1), (2, .int x2), (3, .int x3), (4, .int 0)]) rfl rfl rfl ?_
    obtain ⟨x59, e60, h19⟩ := ob h19
    refine itr_W (P := fun s61 => Wp K zX5_prepare Y (Qm K Y none q) s61.2 68 [(0, .ref (adr Y 17)), (1, .int x1), (2, .int x2), (3, .int x3), (4, .int s61.1)] []) (R := fun x59 => Wp K zX5_prepare Y (Qm K Y none q) x59 201 [(0, .ref (adr Y 17)), (1, .int x1), (2, .int x2), (3, .int x3)] []) ?_ fuel (0, M22) x59 e60 ?_
    · intro s61 r62 h65 ki63 kx64
      unfold pX5_prepare_L68 at h65
      show Wp K zX5_prepare Y (Qm K Y none q) s61.2 68 [(0, .ref (adr Y 17)), (1, .int x1), (2, .int x2), (3, .int x3), (4, .int s61.1)] []
      refine w_iload C (pc := 68) dX5_prepare_68 4 rfl ?_
      refine w_aload_n C (pc := 70) dX5_prepare_70 0 rfl ?_
      refine w_getR C (pc := 71) dX5_prepare_71 f_X5_46 (sA_17 hY) rfl ?_
      refine w_getI C (pc := 74) dX5_prepare_74 f_X5_50 (sA_1 hY) rfl ?_
      refine w_icgt C (pc := 77) 201 dX5_prepare_77 (by decide) (fun c => ?_) (fun c => ?_)
      · have h65 := it_t h65 c
        obtain rfl := Option.some.inj h65
        refine w_lv [0, 1, 2, 3] rfl ?_
        exact kx64 _ rfl
      · have h65 := it_f h65 c
        refine w_aload_n C (pc := 80) dX5_prepare_80 0 rfl ?_
        refine w_getR C (pc := 81) dX5_prepare_81 f_X5_18 (sA_17 hY) rfl ?_
        refine w_iload C (pc := 84) dX5_prepare_84 4 rfl ?_
        refine w_aload_n C (pc := 86) dX5_prepare_86 0 rfl ?_
        refine w_getR C (pc := 87) dX5_prepare_87 f_X5_46 (sA_17 hY) rfl ?_
        refine w_iload C (pc := 90) dX5_prepare_90 4 rfl ?_
        refine w_iconst C (pc := 92) dX5_prepare_92 (v := 3) (by decide) ?_
        obtain ⟨v66, e67, h65⟩ := ob h65
        refine w_cVi C (pc := 93) dX5_prepare_93 my_X3_fact mi_X3_fact ml_X5_83 (sA_1 hY) rfl rfl rfl [.int s61.1, .int 3] rfl rfl (Nat.le_of_ble_eq_true rfl) (tX3_fact (kLand_1 hY) e67) ?_
        obtain ⟨M68, e69, h65⟩ := ob h65
        refine w_iast C (pc := 96) dX5_prepare_96 (sA_20 hY) e69 ?_
        refine w_aload_n C (pc := 97) dX5_prepare_97 0 rfl ?_
        refine w_getR C (pc := 98) dX5_prepare_98 f_X5_21 (sA_17 hY) rfl ?_
        refine w_iload C (pc := 101) dX5_prepare_101 4 rfl ?_
        refine w_aload_n C (pc := 103) dX5_prepare_103 0 rfl ?_
        refine w_getR C (pc := 104) dX5_prepare_104 f_X5_46 (sA_17 hY) rfl ?_
        refine w_iload C (pc := 107) dX5_prepare_107 4 rfl ?_
        obtain ⟨v70, e71, h65⟩ := ob h65
        refine w_cVi C (pc := 109) dX5_prepare_109 my_X3_isLight mi_X3_isLight ml_X5_87 (sA_1 hY) rfl rfl rfl [.int s61.1] rfl rfl (Nat.le_of_ble_eq_true rfl) (tX3_isLight (kLand_1 hY) e71) ?_
        obtain ⟨M72, e73, h65⟩ := ob h65
        refine w_zast C (pc := 112) dX5_prepare_112 (sA_21 hY) e73 ?_
        refine w_iconst C (pc := 113) dX5_prepare_113 (v := 0) (by decide) ?_
        refine w_istore C (pc := 114) dX5_prepare_114 (lv' := [(0, .ref (adr Y 17)), (1, .int x1), (2, .int x2), (3, .int x3), (4, .int s61.1), (5, .int 0)]) rfl rfl rfl ?_
        obtain ⟨x74, e75, h65⟩ := ob h65
        refine itr_W (P := fun s76 => Wp K zX5_prepare Y (Qm K Y none q) s76.2 116 [(0, .ref (adr Y 17)), (1, .int x1), (2, .int x2), (3, .int x3), (4, .int s61.1), (5, .int s76.1)] []) (R := fun x74 => Wp K zX5_prepare Y (Qm K Y none q) x74 195 [(0, .ref (adr Y 17)), (1, .int x1), (2, .int x2), (3, .int x3), (4, .int s61.1)] []) ?_ fuel (0, M72) x74 e75 ?_
        · intro s76 r77 h80 ki78 kx79
          unfold pX5_prepare_L116 at h80
          show Wp K zX5_prepare Y (Qm K Y none q) s76.2 116 [(0, .ref (adr Y 17)), (1, .int x1), (2, .int x2), (3, .int x3), (4, .int s61.1), (5, .int s76.1)] []
          refine w_iload C (pc := 116) dX5_prepare_116 5 rfl ?_
          refine w_aload_n C (pc := 118) dX5_prepare_118 0 rfl ?_
          refine w_getR C (pc := 119) dX5_prepare_119 f_X5_46 (sA_17 hY) rfl ?_
          refine w_getI C (pc := 122) dX5_prepare_122 f_X5_50 (sA_1 hY) rfl ?_
          refine w_icgt C (pc := 125) 195 dX5_prepare_125 (by decide) (fun c => ?_) (fun c => ?_)
          · have h80 := it_t h80 c
            obtain rfl := Option.some.inj h80
            refine w_lv [0, 1, 2, 3, 4] rfl ?_
            exact kx79 _ rfl
          · have h80 := it_f h80 c
            refine w_aload_n C (pc := 128) dX5_prepare_128 0 rfl ?_
            refine w_getR C (pc := 129) dX5_prepare_129 f_X5_9 (sA_17 hY) rfl ?_
            refine w_iload C (pc := 132) dX5_prepare_132 4 rfl ?_
            refine w_bipush C (pc := 134) dX5_prepare_134 (v := 9) (by decide) ?_
            refine w_imul C (pc := 136) dX5_prepare_136 ?_
            refine w_iload C (pc := 137) dX5_prepare_137 5 rfl ?_
            refine w_iadd C (pc := 139) dX5_prepare_139 ?_
            refine w_aload_n C (pc := 140) dX5_prepare_140 0 rfl ?_
            refine w_getR C (pc := 141) dX5_prepare_141 f_X5_46 (sA_17 hY) rfl ?_
            refine w_iload C (pc := 144) dX5_prepare_144 4 rfl ?_
            refine w_iload C (pc := 146) dX5_prepare_146 5 rfl ?_
            obtain ⟨v81, e82, h80⟩ := ob h80
            refine w_cVi C (pc := 148) dX5_prepare_148 my_X3_drive mi_X3_drive ml_X5_90 (sA_1 hY) rfl rfl rfl [.int s61.1, .int s76.1] rfl rfl (Nat.le_of_ble_eq_true rfl) (tX3_drive (kLand_1 hY) e82) ?_
            refine w_aload_n C (pc := 151) dX5_prepare_151 0 rfl ?_
            refine w_getR C (pc := 152) dX5_prepare_152 f_X5_46 (sA_17 hY) rfl ?_
            refine w_iload C (pc := 155) dX5_prepare_155 5 rfl ?_
            refine w_iconst C (pc := 157) dX5_prepare_157 (v := 2) (by decide) ?_
            obtain ⟨v83, e84, h80⟩ := ob h80
            refine w_cVi C (pc := 158) dX5_prepare_158 my_X3_fact mi_X3_fact ml_X5_83 (sA_1 hY) rfl rfl rfl [.int s76.1, .int 2] rfl rfl (Nat.le_of_ble_eq_true rfl) (tX3_fact (kLand_1 hY) e84) ?_
            refine w_iadd C (pc := 161) dX5_prepare_161 ?_
            obtain ⟨M85, e86, h80⟩ := ob h80
            refine w_iast C (pc := 162) dX5_prepare_162 (sA_18 hY) e86 ?_
            refine w_aload_n C (pc := 163) dX5_prepare_163 0 rfl ?_
            refine w_getR C (pc := 164) dX5_prepare_164 f_X5_15 (sA_17 hY) rfl ?_
            refine w_iload C (pc := 167) dX5_prepare_167 4 rfl ?_
            refine w_bipush C (pc := 169) dX5_prepare_169 (v := 9) (by decide) ?_
            refine w_imul C (pc := 171) dX5_prepare_171 ?_
            refine w_iload C (pc := 172) dX5_prepare_172 5 rfl ?_
            refine w_iadd C (pc := 174) dX5_prepare_174 ?_
            refine w_aload_n C (pc := 175) dX5_prepare_175 0 rfl ?_
            refine w_getR C (pc := 176) dX5_prepare_176 f_X5_46 (sA_17 hY) rfl ?_
            refine w_iload C (pc := 179) dX5_prepare_179 4 rfl ?_
            refine w_iload C (pc := 181) dX5_prepare_181 5 rfl ?_
            refine w_iload_n C (pc := 183) dX5_prepare_183 2 rfl ?_
            refine w_iload_n C (pc := 184) dX5_prepare_184 3 rfl ?_
            obtain ⟨v87, e88, h80⟩ := ob h80
            refine w_cVi C (pc := 185) dX5_prepare_185 my_X3_flight mi_X3_flight ml_X5_93 (sA_1 hY) rfl rfl rfl [.int s61.1, .int s76.1, .int x2, .int x3] rfl rfl (Nat.le_of_ble_eq_true rfl) (tX3_flight (kLand_1 hY) e88) ?_
            obtain ⟨M89, e90, h80⟩ := ob h80
            refine w_iast C (pc := 188) dX5_prepare_188 (sA_19 hY) e90 ?_
            refine w_iinc C (pc := 189) dX5_prepare_189 5 rfl (v := 1) (lv' := [(0, .ref (adr Y 17)), (1, .int x1), (2, .int x2), (3, .int x3), (4, .int s61.1), (5, .int (s76.1 + 1))]) (by decide) rfl rfl rfl ?_
            refine w_goto C (pc := 192) 116 dX5_prepare_192 (by decide) ?_
            obtain rfl := Option.some.inj h80
            exact ki78 _ rfl
        · refine w_iinc C (pc := 195) dX5_prepare_195 4 rfl (v := 1) (lv' := [(0, .ref (adr Y 17)), (1, .int x1), (2, .int x2), (3, .int x3), (4, .int (s61.1 + 1))]) (by decide) rfl rfl rfl ?_
          refine w_goto C (pc := 198) 68 dX5_prepare_198 (by decide) ?_
          obtain rfl := Option.some.inj h65
          exact ki63 _ rfl
    · exact w_retV C (pc := 201) dX5_prepare_201 rfl (Option.some.inj h19)
  refine w_icne C (pc := 54) 61 dX5_prepare_54 (by decide) (fun c => ?_) (fun c => ?_)
  · have e18 := it_t e18 c
    refine w_iconst C (pc := 57) dX5_prepare_57 (v := 1) (by decide) ?_
    refine w_goto C (pc := 58) 62 dX5_prepare_58 (by decide) ?_
    obtain rfl := e18
    exact Jj17
  · have e18 := it_f e18 c
    refine w_iconst C (pc := 61) dX5_prepare_61 (v := 0) (by decide) ?_
    obtain rfl := e18
    exact Jj17
theorem dX5_readOrder_0 : decode cX5_readOrder 0 = .ok (.iload_n 1, 1) := by decide +kernel
theorem dX5_readOrder_1 : decode cX5_readOrder 1 = .ok (.istore_n 2, 1) := by decide +kernel
theorem dX5_readOrder_2 : decode cX5_readOrder 2 = .ok (.iconst 0, 1) := by decide +kernel
theorem dX5_readOrder_3 : decode cX5_readOrder 3 = .ok (.istore_n 3, 1) := by decide +kernel
theorem dX5_readOrder_4 : decode cX5_readOrder 4 = .ok (.aload_n 0, 1) := by decide +kernel
theorem dX5_readOrder_5 : decode cX5_readOrder 5 = .ok (.aload_n 0, 1) := by decide +kernel
theorem dX5_readOrder_6 : decode cX5_readOrder 6 = .ok (.getfield 46, 3) := by decide +kernel
theorem dX5_readOrder_9 : decode cX5_readOrder 9 = .ok (.getfield 50, 3) := by decide +kernel
theorem dX5_readOrder_12 : decode cX5_readOrder 12 = .ok (.iconst 1, 1) := by decide +kernel
theorem dX5_readOrder_13 : decode cX5_readOrder 13 = .ok (.iadd, 1) := by decide +kernel
theorem dX5_readOrder_14 : decode cX5_readOrder 14 = .ok (.putfield 56, 3) := by decide +kernel
theorem dX5_readOrder_17 : decode cX5_readOrder 17 = .ok (.aload_n 0, 1) := by decide +kernel
theorem dX5_readOrder_18 : decode cX5_readOrder 18 = .ok (.getfield 25, 3) := by decide +kernel
theorem dX5_readOrder_21 : decode cX5_readOrder 21 = .ok (.iconst 0, 1) := by decide +kernel
theorem dX5_readOrder_22 : decode cX5_readOrder 22 = .ok (.iconst 0, 1) := by decide +kernel
theorem dX5_readOrder_23 : decode cX5_readOrder 23 = .ok (.iastore, 1) := by decide +kernel
theorem dX5_readOrder_24 : decode cX5_readOrder 24 = .ok (.aload_n 0, 1) := by decide +kernel
theorem dX5_readOrder_25 : decode cX5_readOrder 25 = .ok (.getfield 25, 3) := by decide +kernel
theorem dX5_readOrder_28 : decode cX5_readOrder 28 = .ok (.aload_n 0, 1) := by decide +kernel
theorem dX5_readOrder_29 : decode cX5_readOrder 29 = .ok (.getfield 56, 3) := by decide +kernel
theorem dX5_readOrder_32 : decode cX5_readOrder 32 = .ok (.iconst 0, 1) := by decide +kernel
theorem dX5_readOrder_33 : decode cX5_readOrder 33 = .ok (.iastore, 1) := by decide +kernel
theorem dX5_readOrder_34 : decode cX5_readOrder 34 = .ok (.aload_n 0, 1) := by decide +kernel
theorem dX5_readOrder_35 : decode cX5_readOrder 35 = .ok (.getfield 46, 3) := by decide +kernel
theorem dX5_readOrder_38 : decode cX5_readOrder 38 = .ok (.getfield 50, 3) := by decide +kernel
theorem dX5_readOrder_41 : decode cX5_readOrder 41 = .ok (.istore 4, 2) := by decide +kernel
theorem dX5_readOrder_43 : decode cX5_readOrder 43 = .ok (.iload 4, 2) := by decide +kernel
theorem dX5_readOrder_45 : decode cX5_readOrder 45 = .ok (.iconst 1, 1) := by decide +kernel
theorem dX5_readOrder_46 : decode cX5_readOrder 46 = .ok (.if_icmp .lt 60, 3) := by decide +kernel
theorem dX5_readOrder_49 : decode cX5_readOrder 49 = .ok (.iload_n 2, 1) := by decide +kernel
theorem dX5_readOrder_50 : decode cX5_readOrder 50 = .ok (.bipush 10, 2) := by decide +kernel
theorem dX5_readOrder_52 : decode cX5_readOrder 52 = .ok (.irem, 1) := by decide +kernel
theorem dX5_readOrder_53 : decode cX5_readOrder 53 = .ok (.istore 5, 2) := by decide +kernel
theorem dX5_readOrder_55 : decode cX5_readOrder 55 = .ok (.aload_n 0, 1) := by decide +kernel
theorem dX5_readOrder_56 : decode cX5_readOrder 56 = .ok (.getfield 46, 3) := by decide +kernel
theorem dX5_readOrder_59 : decode cX5_readOrder 59 = .ok (.iload 5, 2) := by decide +kernel
theorem dX5_readOrder_61 : decode cX5_readOrder 61 = .ok (.invokevirtual 59, 3) := by decide +kernel
theorem dX5_readOrder_64 : decode cX5_readOrder 64 = .ok (.ifCond .eq 13, 3) := by decide +kernel
theorem dX5_readOrder_67 : decode cX5_readOrder 67 = .ok (.iload_n 3, 1) := by decide +kernel
theorem dX5_readOrder_68 : decode cX5_readOrder 68 = .ok (.iload 5, 2) := by decide +kernel
theorem dX5_readOrder_70 : decode cX5_readOrder 70 = .ok (.ishr, 1) := by decide +kernel
theorem dX5_readOrder_71 : decode cX5_readOrder 71 = .ok (.iconst 1, 1) := by decide +kernel
theorem dX5_readOrder_72 : decode cX5_readOrder 72 = .ok (.iand, 1) := by decide +kernel
theorem dX5_readOrder_73 : decode cX5_readOrder 73 = .ok (.iconst 1, 1) := by decide +kernel
theorem dX5_readOrder_74 : decode cX5_readOrder 74 = .ok (.if_icmp .ne 5, 3) := by decide +kernel
theorem dX5_readOrder_77 : decode cX5_readOrder 77 = .ok (.iconst 0, 1) := by decide +kernel
theorem dX5_readOrder_78 : decode cX5_readOrder 78 = .ok (.ireturn, 1) := by decide +kernel
theorem dX5_readOrder_79 : decode cX5_readOrder 79 = .ok (.iload_n 3, 1) := by decide +kernel
theorem dX5_readOrder_80 : decode cX5_readOrder 80 = .ok (.iconst 1, 1) := by decide +kernel
theorem dX5_readOrder_81 : decode cX5_readOrder 81 = .ok (.iload 5, 2) := by decide +kernel
theorem dX5_readOrder_83 : decode cX5_readOrder 83 = .ok (.ishl, 1) := by decide +kernel
theorem dX5_readOrder_84 : decode cX5_readOrder 84 = .ok (.ior, 1) := by decide +kernel
theorem dX5_readOrder_85 : decode cX5_readOrder 85 = .ok (.istore_n 3, 1) := by decide +kernel
theorem dX5_readOrder_86 : decode cX5_readOrder 86 = .ok (.aload_n 0, 1) := by decide +kernel
theorem dX5_readOrder_87 : decode cX5_readOrder 87 = .ok (.getfield 25, 3) := by decide +kernel
theorem dX5_readOrder_90 : decode cX5_readOrder 90 = .ok (.iload 4, 2) := by decide +kernel
theorem dX5_readOrder_92 : decode cX5_readOrder 92 = .ok (.iload 5, 2) := by decide +kernel
theorem dX5_readOrder_94 : decode cX5_readOrder 94 = .ok (.iastore, 1) := by decide +kernel
theorem dX5_readOrder_95 : decode cX5_readOrder 95 = .ok (.iload_n 2, 1) := by decide +kernel
theorem dX5_readOrder_96 : decode cX5_readOrder 96 = .ok (.bipush 10, 2) := by decide +kernel
theorem dX5_readOrder_98 : decode cX5_readOrder 98 = .ok (.idiv, 1) := by decide +kernel
theorem dX5_readOrder_99 : decode cX5_readOrder 99 = .ok (.istore_n 2, 1) := by decide +kernel
theorem dX5_readOrder_100 : decode cX5_readOrder 100 = .ok (.iinc 4 (-1), 3) := by decide +kernel
theorem dX5_readOrder_103 : decode cX5_readOrder 103 = .ok (.goto (-60), 3) := by decide +kernel
theorem dX5_readOrder_106 : decode cX5_readOrder 106 = .ok (.iload_n 2, 1) := by decide +kernel
theorem dX5_readOrder_107 : decode cX5_readOrder 107 = .ok (.ifCond .ne 7, 3) := by decide +kernel
theorem dX5_readOrder_110 : decode cX5_readOrder 110 = .ok (.iconst 1, 1) := by decide +kernel
theorem dX5_readOrder_111 : decode cX5_readOrder 111 = .ok (.goto 4, 3) := by decide +kernel
theorem dX5_readOrder_114 : decode cX5_readOrder 114 = .ok (.iconst 0, 1) := by decide +kernel
theorem dX5_readOrder_115 : decode cX5_readOrder 115 = .ok (.ireturn, 1) := by decide +kernel
def pX5_readOrder_L43 (s : Int32 × Int32 × Int32 × Mm) : Option ((Int32 × Int32 × Int32 × Mm) ⊕ ((Int32 × Mm) ⊕ (Int32 × Mm))) :=
if s.2.2.1 < 1 then
(some (Sum.inr (Sum.inl (s.1, s.2.2.2))))
else
(bnd (rmi s.1 10) fun v8 =>
if (pX3_isCustomer 1 v8 s.2.2.2) = 0 then
(some (Sum.inr (Sum.inr (0, s.2.2.2))))
else
(if ((s.2.1 >>> (v8 &&& 31)) &&& 1) = 1 then
(some (Sum.inr (Sum.inr (0, s.2.2.2))))
else
(bnd (s.2.1 ||| (1 <<< (v8 &&& 31))) fun v11 =>
(ast s.2.2.2 22 10 s.2.2.1 v8).bind fun M12 =>
bnd (s.1 / 10) fun v14 =>
some (Sum.inl (v14, v11, s.2.2.1 + (-1), M12)))))
def pX5_readOrder (x1 : Int32) (M : Mm) : Option (Int32 × Mm) :=
bnd (mset M 17 6 ((M 1 0) + 1)) fun M1 =>
(ast M1 22 10 0 0).bind fun M3 =>
(ast M3 22 10 (M3 17 6) 0).bind fun M5 =>
bnd (M5 1 0) fun v7 =>
(itr (pX5_readOrder_L43) fuel (x1, 0, v7, M5)).bind fun x15 =>
Sum.elim (fun yx15 =>
if yx15.1 = 0 then
(some (1, yx15.2))
else
(some (0, yx15.2))) (fun r => some r) x15
abbrev zX5_readOrder : Zx := (cX5_readOrder, RX5, 6, 1, (some .boolean))
set_option maxRecDepth 100000 in
set_option maxHeartbeats 4000000 in
theorem tX5_readOrder {l : Launch} {Y : Sx} {M : Mm} {x1 : Int32} {q : Int32 × Mm} (hY : isA Y) (h : pX5_readOrder x1 M = some q) : Ct l Y yX5_readOrder cX5_readOrder 6 (some .boolean) 1 [.ref (adr Y 17), .int x1] M (some q.1) q.2 := by
  refine Ct.of (by decide) rfl (lv := [(0, .ref (adr Y 17)), (1, .int x1)]) rfl ?_
  intro K hkl C
  change Cx K zX5_readOrder Y at C
  subst hkl
  unfold pX5_readOrder at h
  show Wp K zX5_readOrder Y (Qm K Y (some q.1) q.2) M 0 [(0, .ref (adr Y 17)), (1, .int x1)] []
  refine w_iload_n C (pc := 0) dX5_readOrder_0 1 rfl ?_
  refine w_istore_n C (pc := 1) dX5_readOrder_1 (lv' := [(0, .ref (adr Y 17)), (1, .int x1), (2, .int x1)]) rfl rfl rfl ?_
  refine w_iconst C (pc := 2) dX5_readOrder_2 (v := 0) (by decide) ?_
  refine w_istore_n C (pc := 3) dX5_readOrder_3 (lv' := [(0, .ref (adr Y 17)), (1, .int x1), (2, .int x1), (3, .int 0)]) rfl rfl rfl ?_
  refine w_aload_n C (pc := 4) dX5_readOrder_4 0 rfl ?_
  refine w_aload_n C (pc := 5) dX5_readOrder_5 0 rfl ?_
  refine w_getR C (pc := 6) dX5_readOrder_6 f_X5_46 (sA_17 hY) rfl ?_
  refine w_getI C (pc := 9) dX5_readOrder_9 f_X5_50 (sA_1 hY) rfl ?_
  refine w_iconst C (pc := 12) dX5_readOrder_12 (v := 1) (by decide) ?_
  refine w_iadd C (pc := 13) dX5_readOrder_13 ?_
  obtain ⟨M1, e2, h⟩ := bn h
  refine w_putI C (pc := 14) dX5_readOrder_14 fp_X5_56 (sA_17 hY) rfl ?_
  rw [e2]
  refine w_aload_n C (pc := 17) dX5_readOrder_17 0 rfl ?_
  refine w_getR C (pc := 18) dX5_readOrder_18 f_X5_25 (sA_17 hY) rfl ?_
  refine w_iconst C (pc := 21) dX5_readOrder_21 (v := 0) (by decide) ?_
  refine w_iconst C (pc := 22) dX5_readOrder_22 (v := 0) (by decide) ?_
  obtain ⟨M3, e4, h⟩ := ob h
  refine w_iast C (pc := 23) dX5_readOrder_23 (sA_22 hY) e4 ?_
  refine w_aload_n C (pc := 24) dX5_readOrder_24 0 rfl ?_
  refine w_getR C (pc := 25) dX5_readOrder_25 f_X5_25 (sA_17 hY) rfl ?_
  refine w_aload_n C (pc := 28) dX5_readOrder_28 0 rfl ?_
  refine w_getI C (pc := 29) dX5_readOrder_29 f_X5_56 (sA_17 hY) rfl ?_
  refine w_iconst C (pc := 32) dX5_readOrder_32 (v := 0) (by decide) ?_
  obtain ⟨M5, e6, h⟩ := ob h
  refine w_iast C (pc := 33) dX5_readOrder_33 (sA_22 hY) e6 ?_
  refine w_aload_n C (pc := 34) dX5_readOrder_34 0 rfl ?_
  refine w_getR C (pc := 35) dX5_readOrder_35 f_X5_46 (sA_17 hY) rfl ?_
  refine w_getI C (pc := 38) dX5_readOrder_38 f_X5_50 (sA_1 hY) rfl ?_
  refine w_bnd h (fun v7 h => ?_)
  refine w_istore C (pc := 41) dX5_readOrder_41 (lv' := [(0, .ref (adr Y 17)), (1, .int x1), (2, .int x1), (3, .int 0), (4, .int v7)]) rfl rfl rfl ?_
  obtain ⟨x15, e16, h⟩ := ob h
  refine itr_W (P := fun s17 => Wp K zX5_readOrder Y (Qm K Y (some q.1) q.2) s17.2.2.2 43 [(0, .ref (adr Y 17)), (1, .int x1), (2, .int s17.1), (3, .int s17.2.1), (4, .int s17.2.2.1)] []) (R := fun x9 => (∀ yx15, x9 = Sum.inl yx15 → Wp K zX5_readOrder Y (Qm K Y (some q.1) q.2) yx15.2 106 [(0, .ref (adr Y 17)), (1, .int x1), (2, .int yx15.1)] []) ∧ (∀ v9, x9 = Sum.inr v9 → some v9 = some q)) ?_ fuel (x1, 0, v7, M5) x15 e16 ?_
  · intro s17 r18 h21 ki19 kx20
    unfold pX5_readOrder_L43 at h21
    show Wp K zX5_readOrder Y (Qm K Y (some q.1) q.2) s17.2.2.2 43 [(0, .ref (adr Y 17)), (1, .int x1), (2, .int s17.1), (3, .int s17.2.1), (4, .int s17.2.2.1)] []
    refine w_iload C (pc := 43) dX5_readOrder_43 4 rfl ?_
    refine w_iconst C (pc := 45) dX5_readOrder_45 (v := 1) (by decide) ?_
    refine w_iclt C (pc := 46) 106 dX5_readOrder_46 (by decide) (fun c => ?_) (fun c => ?_)
    · have h21 := it_t h21 c
      obtain rfl := Option.some.inj h21
      refine w_lv [0, 1, 2] rfl ?_
      exact (kx20 _ rfl).1 _ rfl
    · have h21 := it_f h21 c
      refine w_iload_n C (pc := 49) dX5_readOrder_49 2 rfl ?_
      refine w_bipush C (pc := 50) dX5_readOrder_50 (v := 10) (by decide) ?_
      refine w_irem C (pc := 52) dX5_readOrder_52 (by decide) ?_
      refine w_bnd h21 (fun v22 h21 => ?_)
      refine w_istore C (pc := 53) dX5_readOrder_53 (lv' := [(0, .ref (adr Y 17)), (1, .int x1), (2, .int s17.1), (3, .int s17.2.1), (4, .int s17.2.2.1), (5, .int v22)]) rfl rfl rfl ?_
      refine w_aload_n C (pc := 55) dX5_readOrder_55 0 rfl ?_
      refine w_getR C (pc := 56) dX5_readOrder_56 f_X5_46 (sA_17 hY) rfl ?_
      refine w_iload C (pc := 59) dX5_readOrder_59 5 rfl ?_
      refine w_cVi C (pc := 61) dX5_readOrder_61 my_X3_isCustomer mi_X3_isCustomer ml_X5_59 (sA_1 hY) rfl rfl rfl [.int v22] rfl rfl (Nat.le_of_ble_eq_true rfl) (tX3_isCustomer (kLand_1 hY) rfl) ?_
      refine w_ifeq C (pc := 64) 77 dX5_readOrder_64 (by decide) (fun c => ?_) (fun c => ?_)
      · have h21 := it_t h21 c
        refine w_iconst C (pc := 77) dX5_readOrder_77 (v := 0) (by decide) ?_
        obtain rfl := Option.some.inj h21
        have h23 := (kx20 _ rfl).2 _ rfl
        exact w_retz C (pc := 78) dX5_readOrder_78 rfl (by decide) (Option.some.inj h23)
      · have h21 := it_f h21 c
        refine w_iload_n C (pc := 67) dX5_readOrder_67 3 rfl ?_
        refine w_iload C (pc := 68) dX5_readOrder_68 5 rfl ?_
        refine w_ishr C (pc := 70) dX5_readOrder_70 ?_
        refine w_iconst C (pc := 71) dX5_readOrder_71 (v := 1) (by decide) ?_
        refine w_iand C (pc := 72) dX5_readOrder_72 ?_
        refine w_iconst C (pc := 73) dX5_readOrder_73 (v := 1) (by decide) ?_
        refine w_icne C (pc := 74) 79 dX5_readOrder_74 (by decide) (fun c => ?_) (fun c => ?_)
        · have h21 := it_t h21 c
          refine w_iconst C (pc := 77) dX5_readOrder_77 (v := 0) (by decide) ?_
          obtain rfl := Option.some.inj h21
          have h24 := (kx20 _ rfl).2 _ rfl
          exact w_retz C (pc := 78) dX5_readOrder_78 rfl (by decide) (Option.some.inj h24)
        · have h21 := it_f h21 c
          refine w_iload_n C (pc := 79) dX5_readOrder_79 3 rfl ?_
          refine w_iconst C (pc := 80) dX5_readOrder_80 (v := 1) (by decide) ?_
          refine w_iload C (pc := 81) dX5_readOrder_81 5 rfl ?_
          refine w_ishl C (pc := 83) dX5_readOrder_83 ?_
          refine w_ior C (pc := 84) dX5_readOrder_84 ?_
          refine w_bnd h21 (fun v25 h21 => ?_)
          refine w_istore_n C (pc := 85) dX5_readOrder_85 (lv' := [(0, .ref (adr Y 17)), (1, .int x1), (2, .int s17.1), (3, .int v25), (4, .int s17.2.2.1), (5, .int v22)]) rfl rfl rfl ?_
          refine w_aload_n C (pc := 86) dX5_readOrder_86 0 rfl ?_
          refine w_getR C (pc := 87) dX5_readOrder_87 f_X5_25 (sA_17 hY) rfl ?_
          refine w_iload C (pc := 90) dX5_readOrder_90 4 rfl ?_
          refine w_iload C (pc := 92) dX5_readOrder_92 5 rfl ?_
          obtain ⟨M26, e27, h21⟩ := ob h21
          refine w_iast C (pc := 94) dX5_readOrder_94 (sA_22 hY) e27 ?_
          refine w_iload_n C (pc := 95) dX5_readOrder_95 2 rfl ?_
          refine w_bipush C (pc := 96) dX5_readOrder_96 (v := 10) (by decide) ?_
          refine w_idiv C (pc := 98) dX5_readOrder_98 (by decide) ?_
          refine w_bnd h21 (fun v28 h21 => ?_)
          refine w_istore_n C (pc := 99) dX5_readOrder_99 (lv' := [(0, .ref (adr Y 17)), (1, .int x1), (2, .int v28), (3, .int v25), (4, .int s17.2.2.1), (5, .int v22)]) rfl rfl rfl ?_
          refine w_iinc C (pc := 100) dX5_readOrder_100 4 rfl (v := (-1)) (lv' := [(0, .ref (adr Y 17)), (1, .int x1), (2, .int v28), (3, .int v25), (4, .int (s17.2.2.1 + (-1))), (5, .int v22)]) (by decide) rfl rfl rfl ?_
          refine w_goto C (pc := 103) 43 dX5_readOrder_103 (by decide) ?_
          obtain rfl := Option.some.inj h21
          refine w_lv [0, 1, 2, 3, 4] rfl ?_
          exact ki19 _ rfl
  · refine ⟨fun yx15 hy => ?_, fun v9 hv => ?_⟩
    · subst hy
      dsimp only [Sum.elim] at h
      refine w_iload_n C (pc := 106) dX5_readOrder_106 2 rfl ?_
      refine w_ifne C (pc := 107) 114 dX5_readOrder_107 (by decide) (fun c => ?_) (fun c => ?_)
      · have h := it_t h c
        refine w_iconst C (pc := 110) dX5_readOrder_110 (v := 1) (by decide) ?_
        refine w_goto C (pc := 111) 115 dX5_readOrder_111 (by decide) ?_
        exact w_retz C (pc := 115) dX5_readOrder_115 rfl (by decide) (Option.some.inj h)
      · have h := it_f h c
        refine w_iconst C (pc := 114) dX5_readOrder_114 (v := 0) (by decide) ?_
        exact w_retz C (pc := 115) dX5_readOrder_115 rfl (by decide) (Option.some.inj h)
    · subst hv
      exact h
theorem dX5_search_0 : decode cX5_search 0 = .ok (.aload_n 0, 1) := by decide +kernel
theorem dX5_search_1 : decode cX5_search 1 = .ok (.aload_n 0, 1) := by decide +kernel
theorem dX5_search_2 : decode cX5_search 2 = .ok (.getfield 46, 3) := by decide +kernel
theorem dX5_search_5 : decode cX5_search 5 = .ok (.getfield 50, 3) := by decide +kernel
theorem dX5_search_8 : decode cX5_search 8 = .ok (.iconst 1, 1) := by decide +kernel
theorem dX5_search_9 : decode cX5_search 9 = .ok (.iadd, 1) := by decide +kernel
theorem dX5_search_10 : decode cX5_search 10 = .ok (.putfield 56, 3) := by decide +kernel
theorem dX5_search_13 : decode cX5_search 13 = .ok (.iconst 0, 1) := by decide +kernel
theorem dX5_search_14 : decode cX5_search 14 = .ok (.istore_n 2, 1) := by decide +kernel
theorem dX5_search_15 : decode cX5_search 15 = .ok (.iload_n 2, 1) := by decide +kernel
theorem dX5_search_16 : decode cX5_search 16 = .ok (.aload_n 0, 1) := by decide +kernel
theorem dX5_search_17 : decode cX5_search 17 = .ok (.getfield 56, 3) := by decide +kernel
theorem dX5_search_20 : decode cX5_search 20 = .ok (.if_icmp .ge 16, 3) := by decide +kernel
theorem dX5_search_23 : decode cX5_search 23 = .ok (.aload_n 0, 1) := by decide +kernel
theorem dX5_search_24 : decode cX5_search 24 = .ok (.getfield 25, 3) := by decide +kernel
theorem dX5_search_27 : decode cX5_search 27 = .ok (.iload_n 2, 1) := by decide +kernel
theorem dX5_search_28 : decode cX5_search 28 = .ok (.iload_n 2, 1) := by decide +kernel
theorem dX5_search_29 : decode cX5_search 29 = .ok (.iastore, 1) := by decide +kernel
theorem dX5_search_30 : decode cX5_search 30 = .ok (.iinc 2 1, 3) := by decide +kernel
theorem dX5_search_33 : decode cX5_search 33 = .ok (.goto (-18), 3) := by decide +kernel
theorem dX5_search_36 : decode cX5_search 36 = .ok (.aload_n 0, 1) := by decide +kernel
theorem dX5_search_37 : decode cX5_search 37 = .ok (.getfield 25, 3) := by decide +kernel
theorem dX5_search_40 : decode cX5_search 40 = .ok (.aload_n 0, 1) := by decide +kernel
theorem dX5_search_41 : decode cX5_search 41 = .ok (.getfield 56, 3) := by decide +kernel
theorem dX5_search_44 : decode cX5_search 44 = .ok (.iconst 0, 1) := by decide +kernel
theorem dX5_search_45 : decode cX5_search 45 = .ok (.iastore, 1) := by decide +kernel
theorem dX5_search_46 : decode cX5_search 46 = .ok (.aload_n 0, 1) := by decide +kernel
theorem dX5_search_47 : decode cX5_search 47 = .ok (.iconst 1, 1) := by decide +kernel
theorem dX5_search_48 : decode cX5_search 48 = .ok (.invokevirtual 146, 3) := by decide +kernel
theorem dX5_search_51 : decode cX5_search 51 = .ok (.aload_n 1, 1) := by decide +kernel
theorem dX5_search_52 : decode cX5_search 52 = .ok (.aload_n 0, 1) := by decide +kernel
theorem dX5_search_53 : decode cX5_search 53 = .ok (.invokevirtual 149, 3) := by decide +kernel
theorem dX5_search_56 : decode cX5_search 56 = .ok (.aload_n 0, 1) := by decide +kernel
theorem dX5_search_57 : decode cX5_search 57 = .ok (.invokevirtual 153, 3) := by decide +kernel
theorem dX5_search_60 : decode cX5_search 60 = .ok (.invokevirtual 156, 3) := by decide +kernel
theorem dX5_search_63 : decode cX5_search 63 = .ok (.iconst 1, 1) := by decide +kernel
theorem dX5_search_64 : decode cX5_search 64 = .ok (.istore_n 2, 1) := by decide +kernel
theorem dX5_search_65 : decode cX5_search 65 = .ok (.iload_n 2, 1) := by decide +kernel
theorem dX5_search_66 : decode cX5_search 66 = .ok (.sipush 5040, 3) := by decide +kernel
theorem dX5_search_69 : decode cX5_search 69 = .ok (.if_icmp .ge 48, 3) := by decide +kernel
theorem dX5_search_72 : decode cX5_search 72 = .ok (.aload_n 0, 1) := by decide +kernel
theorem dX5_search_73 : decode cX5_search 73 = .ok (.invokevirtual 161, 3) := by decide +kernel
theorem dX5_search_76 : decode cX5_search 76 = .ok (.istore_n 3, 1) := by decide +kernel
theorem dX5_search_77 : decode cX5_search 77 = .ok (.iload_n 3, 1) := by decide +kernel
theorem dX5_search_78 : decode cX5_search 78 = .ok (.iconst (-1), 1) := by decide +kernel
theorem dX5_search_79 : decode cX5_search 79 = .ok (.if_icmp .ne 4, 3) := by decide +kernel
theorem dX5_search_82 : decode cX5_search 82 = .ok (.return_, 1) := by decide +kernel
theorem dX5_search_83 : decode cX5_search 83 = .ok (.aload_n 0, 1) := by decide +kernel
theorem dX5_search_84 : decode cX5_search 84 = .ok (.iload_n 3, 1) := by decide +kernel
theorem dX5_search_85 : decode cX5_search 85 = .ok (.invokevirtual 146, 3) := by decide +kernel
theorem dX5_search_88 : decode cX5_search 88 = .ok (.aload_n 0, 1) := by decide +kernel
theorem dX5_search_89 : decode cX5_search 89 = .ok (.invokevirtual 149, 3) := by decide +kernel
theorem dX5_search_92 : decode cX5_search 92 = .ok (.aload_n 1, 1) := by decide +kernel
theorem dX5_search_93 : decode cX5_search 93 = .ok (.getfield 164, 3) := by decide +kernel
theorem dX5_search_96 : decode cX5_search 96 = .ok (.if_icmp .ge 15, 3) := by decide +kernel
theorem dX5_search_99 : decode cX5_search 99 = .ok (.aload_n 1, 1) := by decide +kernel
theorem dX5_search_100 : decode cX5_search 100 = .ok (.aload_n 0, 1) := by decide +kernel
theorem dX5_search_101 : decode cX5_search 101 = .ok (.invokevirtual 149, 3) := by decide +kernel
theorem dX5_search_104 : decode cX5_search 104 = .ok (.aload_n 0, 1) := by decide +kernel
theorem dX5_search_105 : decode cX5_search 105 = .ok (.invokevirtual 153, 3) := by decide +kernel
theorem dX5_search_108 : decode cX5_search 108 = .ok (.invokevirtual 156, 3) := by decide +kernel
theorem dX5_search_111 : decode cX5_search 111 = .ok (.iinc 2 1, 3) := by decide +kernel
theorem dX5_search_114 : decode cX5_search 114 = .ok (.goto (-49), 3) := by decide +kernel
theorem dX5_search_117 : decode cX5_search 117 = .ok (.return_, 1) := by decide +kernel
def pX5_search_L15 (f : Nat) (s : Int32 × Mm) : Option ((Int32 × Mm) ⊕ (Mm)) :=
if (s.2 17 6) ≤ s.1 then
(some (Sum.inr s.2))
else
((ast s.2 22 10 s.1 s.1).bind fun M3 =>
some (Sum.inl (s.1 + 1, M3)))
def pX5_search_L65 (f : Nat) (s : Int32 × Mm) : Option ((Int32 × Mm) ⊕ ((Mm) ⊕ (Mm))) :=
if 5040 ≤ s.1 then
(some (Sum.inr (Sum.inl s.2)))
else
((pX5_nextOrder s.2).bind fun v24 =>
bnd (v24.1) fun v26 =>
if v26 = (-1) then
(some (Sum.inr (Sum.inr v24.2)))
else
((pX5_fill v26 v24.2).bind fun v28 =>
(pX5_lastEnd v28).bind fun v30 =>
if (v28 f 1) ≤ v30 then
(some (Sum.inl (s.1 + 1, v28)))
else
((pX5_lastEnd v28).bind fun v32 =>
(pX5_orderNumber v28).bind fun v34 =>
bnd (pX2_keep f v32 v34 v28) fun v36 =>
some (Sum.inl (s.1 + 1, v36)))))
def pX5_search (f : Nat) (M : Mm) : Option (Mm) :=
bnd (mset M 17 6 ((M 1 0) + 1)) fun M1 =>
(itr (pX5_search_L15 f) fuel (0, M1)).bind fun x5 =>
(ast x5 22 10 (x5 17 6) 0).bind fun M14 =>
(pX5_fill 1 M14).bind fun v16 =>
(pX5_lastEnd v16).bind fun v18 =>
(pX5_orderNumber v16).bind fun v20 =>
bnd (pX2_keep f v18 v20 v16) fun v22 =>
(itr (pX5_search_L65 f) fuel (1, v22)).bind fun x38 =>
Sum.elim (fun yx38 =>
some yx38) (fun r => some r) x38
abbrev zX5_search : Zx := (cX5_search, RX5, 4, 5, none)
set_option maxRecDepth 100000 in
set_option maxHeartbeats 4000000 in
theorem tX5_search {l : Launch} {Y : Sx} {M : Mm} {f : Nat} {q : Mm} (hY : isA Y) (h_f : isFound Y f) (h : pX5_search f M = some q) : Ct l Y yX5_search cX5_search 4 none 5 [.ref (adr Y 17), .ref (adr Y f)] M none q := by
  refine Ct.of (by decide) rfl (lv := [(0, .ref (adr Y 17)), (1, .ref (adr Y f))]) rfl ?_
  intro K hkl C
  change Cx K zX5_search Y at C
  subst hkl
  unfold pX5_search at h
  show Wp K zX5_search Y (Qm K Y none q) M 0 [(0, .ref (adr Y 17)), (1, .ref (adr Y f))] []
  refine w_aload_n C (pc := 0) dX5_search_0 0 rfl ?_
  refine w_aload_n C (pc := 1) dX5_search_1 0 rfl ?_
  refine w_getR C (pc := 2) dX5_search_2 f_X5_46 (sA_17 hY) rfl ?_
  refine w_getI C (pc := 5) dX5_search_5 f_X5_50 (sA_1 hY) rfl ?_
  refine w_iconst C (pc := 8) dX5_search_8 (v := 1) (by decide) ?_
  refine w_iadd C (pc := 9) dX5_search_9 ?_
  obtain ⟨M1, e2, h⟩ := bn h
  refine w_putI C (pc := 10) dX5_search_10 fp_X5_56 (sA_17 hY) rfl ?_
  rw [e2]
  refine w_iconst C (pc := 13) dX5_search_13 (v := 0) (by decide) ?_
  refine w_istore_n C (pc := 14) dX5_search_14 (lv' := [(0, .ref (adr Y 17)), (1, .ref (adr Y f)), (2, .int 0)]) rfl rfl rfl ?_
  obtain ⟨x5, e6, h⟩ := ob h
  refine itr_W (P := fun s7 => Wp K zX5_search Y (Qm K Y none q) s7.2 15 [(0, .ref (adr Y 17)), (1, .ref (adr Y f)), (2, .int s7.1)] []) (R := fun x5 => Wp K zX5_search Y (Qm K Y none q) x5 36 [(0, .ref (adr Y 17)), (1, .ref (adr Y f))] []) ?_ fuel (0, M1) x5 e6 ?_
  · intro s7 r8 h11 ki9 kx10
    unfold pX5_search_L15 at h11
    show Wp K zX5_search Y (Qm K Y none q) s7.2 15 [(0, .ref (adr Y 17)), (1, .ref (adr Y f)), (2, .int s7.1)] []
    refine w_iload_n C (pc := 15) dX5_search_15 2 rfl ?_
    refine w_aload_n C (pc := 16) dX5_search_16 0 rfl ?_
    refine w_getI C (pc := 17) dX5_search_17 f_X5_56 (sA_17 hY) rfl ?_
    refine w_icge C (pc := 20) 36 dX5_search_20 (by decide) (fun c => ?_) (fun c => ?_)
    · have h11 := it_t h11 c
      obtain rfl := Option.some.inj h11
      refine w_lv [0, 1] rfl ?_
      exact kx10 _ rfl
    · have h11 := it_f h11 c
      refine w_aload_n C (pc := 23) dX5_search_23 0 rfl ?_
      refine w_getR C (pc := 24) dX5_search_24 f_X5_25 (sA_17 hY) rfl ?_
      refine w_iload_n C (pc := 27) dX5_search_27 2 rfl ?_
      refine w_iload_n C (pc := 28) dX5_search_28 2 rfl ?_
      obtain ⟨M12, e13, h11⟩ := ob h11
      refine w_iast C (pc := 29) dX5_search_29 (sA_22 hY) e13 ?_
      refine w_iinc C (pc := 30) dX5_search_30 2 rfl (v := 1) (lv' := [(0, .ref (adr Y 17)), (1, .ref (adr Y f)), (2, .int (s7.1 + 1))]) (by decide) rfl rfl rfl ?_
      refine w_goto C (pc := 33) 15 dX5_search_33 (by decide) ?_
      obtain rfl := Option.some.inj h11
      exact ki9 _ rfl
  · refine w_aload_n C (pc := 36) dX5_search_36 0 rfl ?_
    refine w_getR C (pc := 37) dX5_search_37 f_X5_25 (sA_17 hY) rfl ?_
    refine w_aload_n C (pc := 40) dX5_search_40 0 rfl ?_
    refine w_getI C (pc := 41) dX5_search_41 f_X5_56 (sA_17 hY) rfl ?_
    refine w_iconst C (pc := 44) dX5_search_44 (v := 0) (by decide) ?_
    obtain ⟨M14, e15, h⟩ := ob h
    refine w_iast C (pc := 45) dX5_search_45 (sA_22 hY) e15 ?_
    refine w_aload_n C (pc := 46) dX5_search_46 0 rfl ?_
    refine w_iconst C (pc := 47) dX5_search_47 (v := 1) (by decide) ?_
    obtain ⟨v16, e17, h⟩ := ob h
    refine w_cVv C (pc := 48) dX5_search_48 my_X5_fill mi_X5_fill ml_X5_146 (sA_17 hY) rfl rfl rfl [.int 1] rfl rfl (Nat.le_of_ble_eq_true rfl) (tX5_fill hY  e17) ?_
    refine w_aload_n C (pc := 51) dX5_search_51 1 rfl ?_
    refine w_aload_n C (pc := 52) dX5_search_52 0 rfl ?_
    obtain ⟨v18, e19, h⟩ := ob h
    refine w_cVi C (pc := 53) dX5_search_53 my_X5_lastEnd mi_X5_lastEnd ml_X5_149 (sA_17 hY) rfl rfl rfl [] rfl rfl (Nat.le_of_ble_eq_true rfl) (tX5_lastEnd hY  e19) ?_
    refine w_aload_n C (pc := 56) dX5_search_56 0 rfl ?_
    obtain ⟨v20, e21, h⟩ := ob h
    refine w_cVi C (pc := 57) dX5_search_57 my_X5_orderNumber mi_X5_orderNumber ml_X5_153 (sA_17 hY) rfl rfl rfl [] rfl rfl (Nat.le_of_ble_eq_true rfl) (tX5_orderNumber hY  e21) ?_
    obtain ⟨v22, e23, h⟩ := bn h
    refine w_cVv C (pc := 60) dX5_search_60 my_X2_keep mi_X2_keep ml_X5_156 h_f rfl rfl rfl [.int v18, .int v20] rfl rfl (Nat.le_of_ble_eq_true rfl) (tX2_keep h_f e23) ?_
    refine w_iconst C (pc := 63) dX5_search_63 (v := 1) (by decide) ?_
    refine w_istore_n C (pc := 64) dX5_search_64 (lv' := [(0, .ref (adr Y 17)), (1, .ref (adr Y f)), (2, .int 1)]) rfl rfl rfl ?_
    obtain ⟨x38, e39, h⟩ := ob h
    refine itr_W (P := fun s40 => Wp K zX5_search Y (Qm K Y none q) s40.2 65 [(0, .ref (adr Y 17)), (1, .ref (adr Y f)), (2, .int s40.1)] []) (R := fun x9 => (∀ yx38, x9 = Sum.inl yx38 → Wp K zX5_search Y (Qm K Y none q) yx38 117 [(0, .ref (adr Y 17)), (1, .ref (adr Y f))] []) ∧ (∀ v9, x9 = Sum.inr v9 → some v9 = some q)) ?_ fuel (1, v22) x38 e39 ?_
    · intro s40 r41 h44 ki42 kx43
      unfold pX5_search_L65 at h44
      show Wp K zX5_search Y (Qm K Y none q) s40.2 65 [(0, .ref (adr Y 17)), (1, .ref (adr Y f)), (2, .int s40.1)] []
      refine w_iload_n C (pc := 65) dX5_search_65 2 rfl ?_
      refine w_sipush C (pc := 66) dX5_search_66 (v := 5040) (by decide) ?_
      refine w_icge C (pc := 69) 117 dX5_search_69 (by decide) (fun c => ?_) (fun c => ?_)
      · have h44 := it_t h44 c
        obtain rfl := Option.some.inj h44
        refine w_lv [0, 1] rfl ?_
        exact (kx43 _ rfl).1 _ rfl
      · have h44 := it_f h44 c
        refine w_aload_n C (pc := 72) dX5_search_72 0 rfl ?_
        obtain ⟨v45, e46, h44⟩ := ob h44
        refine w_cVi C (pc := 73) dX5_search_73 my_X5_nextOrder mi_X5_nextOrder ml_X5_161 (sA_17 hY) rfl rfl rfl [] rfl rfl (Nat.le_of_ble_eq_true rfl) (tX5_nextOrder hY  e46) ?_
        refine w_bnd h44 (fun v47 h44 => ?_)
        refine w_istore_n C (pc := 76) dX5_search_76 (lv' := [(0, .ref (adr Y 17)), (1, .ref (adr Y f)), (2, .int s40.1), (3, .int v47)]) rfl rfl rfl ?_
        refine w_iload_n C (pc := 77) dX5_search_77 3 rfl ?_
        refine w_iconst C (pc := 78) dX5_search_78 (v := (-1)) (by decide) ?_
        refine w_icne C (pc := 79) 83 dX5_search_79 (by decide) (fun c => ?_) (fun c => ?_)
        · have h44 := it_t h44 c
          obtain rfl := Option.some.inj h44
          have h48 := (kx43 _ rfl).2 _ rfl
          exact w_retV C (pc := 82) dX5_search_82 rfl (Option.some.inj h48)
        · have h44 := it_f h44 c
          refine w_aload_n C (pc := 83) dX5_search_83 0 rfl ?_
          refine w_iload_n C (pc := 84) dX5_search_84 3 rfl ?_
          obtain ⟨v49, e50, h44⟩ := ob h44
          refine w_cVv C (pc := 85) dX5_search_85 my_X5_fill mi_X5_fill ml_X5_146 (sA_17 hY) rfl rfl rfl [.int v47] rfl rfl (Nat.le_of_ble_eq_true rfl) (tX5_fill hY  e50) ?_
          refine w_aload_n C (pc := 88) dX5_search_88 0 rfl ?_
          obtain ⟨v51, e52, h44⟩ := ob h44
          refine w_cVi C (pc := 89) dX5_search_89 my_X5_lastEnd mi_X5_lastEnd ml_X5_149 (sA_17 hY) rfl rfl rfl [] rfl rfl (Nat.le_of_ble_eq_true rfl) (tX5_lastEnd hY  e52) ?_
          refine w_aload_n C (pc := 92) dX5_search_92 1 rfl ?_
          refine w_getI C (pc := 93) dX5_search_93 f_X5_164 h_f rfl ?_
          refine w_icge C (pc := 96) 111 dX5_search_96 (by decide) (fun c => ?_) (fun c => ?_)
          · have h44 := it_t h44 c
            refine w_iinc C (pc := 111) dX5_search_111 2 rfl (v := 1) (lv' := [(0, .ref (adr Y 17)), (1, .ref (adr Y f)), (2, .int (s40.1 + 1)), (3, .int v47)]) (by decide) rfl rfl rfl ?_
            refine w_goto C (pc := 114) 65 dX5_search_114 (by decide) ?_
            obtain rfl := Option.some.inj h44
            refine w_lv [0, 1, 2] rfl ?_
            exact ki42 _ rfl
          · have h44 := it_f h44 c
            refine w_aload_n C (pc := 99) dX5_search_99 1 rfl ?_
            refine w_aload_n C (pc := 100) dX5_search_100 0 rfl ?_
            obtain ⟨v53, e54, h44⟩ := ob h44
            refine w_cVi C (pc := 101) dX5_search_101 my_X5_lastEnd mi_X5_lastEnd ml_X5_149 (sA_17 hY) rfl rfl rfl [] rfl rfl (Nat.le_of_ble_eq_true rfl) (tX5_lastEnd hY  e54) ?_
            refine w_aload_n C (pc := 104) dX5_search_104 0 rfl ?_
            obtain ⟨v55, e56, h44⟩ := ob h44
            refine w_cVi C (pc := 105) dX5_search_105 my_X5_orderNumber mi_X5_orderNumber ml_X5_153 (sA_17 hY) rfl rfl rfl [] rfl rfl (Nat.le_of_ble_eq_true rfl) (tX5_orderNumber hY  e56) ?_
            obtain ⟨v57, e58, h44⟩ := bn h44
            refine w_cVv C (pc := 108) dX5_search_108 my_X2_keep mi_X2_keep ml_X5_156 h_f rfl rfl rfl [.int v53, .int v55] rfl rfl (Nat.le_of_ble_eq_true rfl) (tX2_keep h_f e58) ?_
            refine w_iinc C (pc := 111) dX5_search_111 2 rfl (v := 1) (lv' := [(0, .ref (adr Y 17)), (1, .ref (adr Y f)), (2, .int (s40.1 + 1)), (3, .int v47)]) (by decide) rfl rfl rfl ?_
            refine w_goto C (pc := 114) 65 dX5_search_114 (by decide) ?_
            obtain rfl := Option.some.inj h44
            refine w_lv [0, 1, 2] rfl ?_
            exact ki42 _ rfl
    · refine ⟨fun yx38 hy => ?_, fun v9 hv => ?_⟩
      · subst hy
        dsimp only [Sum.elim] at h
        exact w_retV C (pc := 117) dX5_search_117 rfl (Option.some.inj h)
      · subst hv
        exact h
theorem dX5_writeBlock_0 : decode cX5_writeBlock 0 = .ok (.aload_n 1, 1) := by decide +kernel
theorem dX5_writeBlock_1 : decode cX5_writeBlock 1 = .ok (.getfield 182, 3) := by decide +kernel
theorem dX5_writeBlock_4 : decode cX5_writeBlock 4 = .ok (.istore 4, 2) := by decide +kernel
theorem dX5_writeBlock_6 : decode cX5_writeBlock 6 = .ok (.iload_n 2, 1) := by decide +kernel
theorem dX5_writeBlock_7 : decode cX5_writeBlock 7 = .ok (.iconst 1, 1) := by decide +kernel
theorem dX5_writeBlock_8 : decode cX5_writeBlock 8 = .ok (.iadd, 1) := by decide +kernel
theorem dX5_writeBlock_9 : decode cX5_writeBlock 9 = .ok (.istore 5, 2) := by decide +kernel
theorem dX5_writeBlock_11 : decode cX5_writeBlock 11 = .ok (.iload 5, 2) := by decide +kernel
theorem dX5_writeBlock_13 : decode cX5_writeBlock 13 = .ok (.iload_n 3, 1) := by decide +kernel
theorem dX5_writeBlock_14 : decode cX5_writeBlock 14 = .ok (.if_icmp .ge 32, 3) := by decide +kernel
theorem dX5_writeBlock_17 : decode cX5_writeBlock 17 = .ok (.aload_n 0, 1) := by decide +kernel
theorem dX5_writeBlock_18 : decode cX5_writeBlock 18 = .ok (.iload_n 2, 1) := by decide +kernel
theorem dX5_writeBlock_19 : decode cX5_writeBlock 19 = .ok (.iload_n 3, 1) := by decide +kernel
theorem dX5_writeBlock_20 : decode cX5_writeBlock 20 = .ok (.iload 5, 2) := by decide +kernel
theorem dX5_writeBlock_22 : decode cX5_writeBlock 22 = .ok (.invokevirtual 185, 3) := by decide +kernel
theorem dX5_writeBlock_25 : decode cX5_writeBlock 25 = .ok (.ifCond .ne 15, 3) := by decide +kernel
theorem dX5_writeBlock_28 : decode cX5_writeBlock 28 = .ok (.aload_n 1, 1) := by decide +kernel
theorem dX5_writeBlock_29 : decode cX5_writeBlock 29 = .ok (.aload_n 0, 1) := by decide +kernel
theorem dX5_writeBlock_30 : decode cX5_writeBlock 30 = .ok (.getfield 25, 3) := by decide +kernel
theorem dX5_writeBlock_33 : decode cX5_writeBlock 33 = .ok (.iload 5, 2) := by decide +kernel
theorem dX5_writeBlock_35 : decode cX5_writeBlock 35 = .ok (.iaload, 1) := by decide +kernel
theorem dX5_writeBlock_36 : decode cX5_writeBlock 36 = .ok (.invokevirtual 188, 3) := by decide +kernel
theorem dX5_writeBlock_39 : decode cX5_writeBlock 39 = .ok (.pop, 1) := by decide +kernel
theorem dX5_writeBlock_40 : decode cX5_writeBlock 40 = .ok (.iinc 5 1, 3) := by decide +kernel
theorem dX5_writeBlock_43 : decode cX5_writeBlock 43 = .ok (.goto (-32), 3) := by decide +kernel
theorem dX5_writeBlock_46 : decode cX5_writeBlock 46 = .ok (.aload_n 1, 1) := by decide +kernel
theorem dX5_writeBlock_47 : decode cX5_writeBlock 47 = .ok (.getfield 182, 3) := by decide +kernel
theorem dX5_writeBlock_50 : decode cX5_writeBlock 50 = .ok (.iconst 1, 1) := by decide +kernel
theorem dX5_writeBlock_51 : decode cX5_writeBlock 51 = .ok (.iadd, 1) := by decide +kernel
theorem dX5_writeBlock_52 : decode cX5_writeBlock 52 = .ok (.istore 5, 2) := by decide +kernel
theorem dX5_writeBlock_54 : decode cX5_writeBlock 54 = .ok (.iconst 0, 1) := by decide +kernel
theorem dX5_writeBlock_55 : decode cX5_writeBlock 55 = .ok (.istore 6, 2) := by decide +kernel
theorem dX5_writeBlock_57 : decode cX5_writeBlock 57 = .ok (.iload_n 2, 1) := by decide +kernel
theorem dX5_writeBlock_58 : decode cX5_writeBlock 58 = .ok (.iconst 1, 1) := by decide +kernel
theorem dX5_writeBlock_59 : decode cX5_writeBlock 59 = .ok (.iadd, 1) := by decide +kernel
theorem dX5_writeBlock_60 : decode cX5_writeBlock 60 = .ok (.istore 7, 2) := by decide +kernel
theorem dX5_writeBlock_62 : decode cX5_writeBlock 62 = .ok (.iload 7, 2) := by decide +kernel
theorem dX5_writeBlock_64 : decode cX5_writeBlock 64 = .ok (.iload_n 3, 1) := by decide +kernel
theorem dX5_writeBlock_65 : decode cX5_writeBlock 65 = .ok (.if_icmp .ge 41, 3) := by decide +kernel
theorem dX5_writeBlock_68 : decode cX5_writeBlock 68 = .ok (.aload_n 0, 1) := by decide +kernel
theorem dX5_writeBlock_69 : decode cX5_writeBlock 69 = .ok (.iload_n 2, 1) := by decide +kernel
theorem dX5_writeBlock_70 : decode cX5_writeBlock 70 = .ok (.iload_n 3, 1) := by decide +kernel
theorem dX5_writeBlock_71 : decode cX5_writeBlock 71 = .ok (.iload 7, 2) := by decide +kernel
theorem dX5_writeBlock_73 : decode cX5_writeBlock 73 = .ok (.invokevirtual 185, 3) := by decide +kernel
theorem dX5_writeBlock_76 : decode cX5_writeBlock 76 = .ok (.ifCond .eq 24, 3) := by decide +kernel
theorem dX5_writeBlock_79 : decode cX5_writeBlock 79 = .ok (.aload_n 1, 1) := by decide +kernel
theorem dX5_writeBlock_80 : decode cX5_writeBlock 80 = .ok (.iload 6, 2) := by decide +kernel
theorem dX5_writeBlock_82 : decode cX5_writeBlock 82 = .ok (.iload 4, 2) := by decide +kernel
theorem dX5_writeBlock_84 : decode cX5_writeBlock 84 = .ok (.aload_n 0, 1) := by decide +kernel
theorem dX5_writeBlock_85 : decode cX5_writeBlock 85 = .ok (.getfield 25, 3) := by decide +kernel
theorem dX5_writeBlock_88 : decode cX5_writeBlock 88 = .ok (.iload 7, 2) := by decide +kernel
theorem dX5_writeBlock_90 : decode cX5_writeBlock 90 = .ok (.iaload, 1) := by decide +kernel
theorem dX5_writeBlock_91 : decode cX5_writeBlock 91 = .ok (.iload 5, 2) := by decide +kernel
theorem dX5_writeBlock_93 : decode cX5_writeBlock 93 = .ok (.invokevirtual 191, 3) := by decide +kernel
theorem dX5_writeBlock_96 : decode cX5_writeBlock 96 = .ok (.pop, 1) := by decide +kernel
theorem dX5_writeBlock_97 : decode cX5_writeBlock 97 = .ok (.iinc 6 1, 3) := by decide +kernel
theorem dX5_writeBlock_100 : decode cX5_writeBlock 100 = .ok (.iinc 7 1, 3) := by decide +kernel
theorem dX5_writeBlock_103 : decode cX5_writeBlock 103 = .ok (.goto (-41), 3) := by decide +kernel
theorem dX5_writeBlock_106 : decode cX5_writeBlock 106 = .ok (.iload_n 3, 1) := by decide +kernel
theorem dX5_writeBlock_107 : decode cX5_writeBlock 107 = .ok (.aload_n 0, 1) := by decide +kernel
theorem dX5_writeBlock_108 : decode cX5_writeBlock 108 = .ok (.getfield 56, 3) := by decide +kernel
theorem dX5_writeBlock_111 : decode cX5_writeBlock 111 = .ok (.if_icmp .ge 14, 3) := by decide +kernel
theorem dX5_writeBlock_114 : decode cX5_writeBlock 114 = .ok (.aload_n 1, 1) := by decide +kernel
theorem dX5_writeBlock_115 : decode cX5_writeBlock 115 = .ok (.aload_n 0, 1) := by decide +kernel
theorem dX5_writeBlock_116 : decode cX5_writeBlock 116 = .ok (.getfield 25, 3) := by decide +kernel
theorem dX5_writeBlock_119 : decode cX5_writeBlock 119 = .ok (.iload_n 3, 1) := by decide +kernel
theorem dX5_writeBlock_120 : decode cX5_writeBlock 120 = .ok (.iaload, 1) := by decide +kernel
theorem dX5_writeBlock_121 : decode cX5_writeBlock 121 = .ok (.invokevirtual 188, 3) := by decide +kernel
theorem dX5_writeBlock_124 : decode cX5_writeBlock 124 = .ok (.pop, 1) := by decide +kernel
theorem dX5_writeBlock_125 : decode cX5_writeBlock 125 = .ok (.return_, 1) := by decide +kernel
def pX5_writeBlock_L11 (x2 : Int32) (x3 : Int32) (x4 : Int32) (s : Int32 × Mm) : Option ((Int32 × Mm) ⊕ (Mm)) :=
if x3 ≤ s.1 then
(some (Sum.inr s.2))
else
((pX5_isFlown x2 x3 s.1 s.2).bind fun v3 =>
if v3 = 0 then
((ald s.2 22 10 s.1).bind fun v5 =>
(pX4_addStop 4 v5 s.2).bind fun v7 =>
some (Sum.inl (s.1 + 1, v7.2)))
else
(some (Sum.inl (s.1 + 1, s.2))))
def pX5_writeBlock_L62 (x2 : Int32) (x3 : Int32) (x4 : Int32) (x5 : Int32) (s : Int32 × Int32 × Mm) : Option ((Int32 × Int32 × Mm) ⊕ (Mm)) :=
if x3 ≤ s.2.1 then
(some (Sum.inr s.2.2))
else
((pX5_isFlown x2 x3 s.2.1 s.2.2).bind fun v24 =>
if v24 = 0 then
(some (Sum.inl (s.1, s.2.1 + 1, s.2.2)))
else
((ald s.2.2 22 10 s.2.1).bind fun v26 =>
(pX4_addSortie 4 s.1 x4 v26 x5 s.2.2).bind fun v28 =>
some (Sum.inl (s.1 + 1, s.2.1 + 1, v28.2))))
def pX5_writeBlock (x2 : Int32) (x3 : Int32) (M : Mm) : Option (Mm) :=
bnd (M 4 0) fun v1 =>
bnd (x2 + 1) fun v2 =>
(itr (pX5_writeBlock_L11 x2 x3 v1) fuel (v2, M)).bind fun x9 =>
bnd ((x9 4 0) + 1) fun v22 =>
bnd (x2 + 1) fun v23 =>
(itr (pX5_writeBlock_L62 x2 x3 v1 v22) fuel (0, v23, x9)).bind fun x30 =>
if (x30 17 6) ≤ x3 then
(some x30)
else
((ald x30 22 10 x3).bind fun v43 =>
(pX4_addStop 4 v43 x30).bind fun v45 =>
some v45.2)
abbrev zX5_writeBlock : Zx := (cX5_writeBlock, RX5, 8, 2, none)
set_option maxRecDepth 100000 in
set_option maxHeartbeats 4000000 in
theorem tX5_writeBlock {l : Launch} {Y : Sx} {M : Mm} {x2 : Int32} {x3 : Int32} {q : Mm} (hY : isA Y) (h : pX5_writeBlock x2 x3 M = some q) : Ct l Y yX5_writeBlock cX5_writeBlock 8 none 2 [.ref (adr Y 17), .ref (adr Y 4), .int x2, .int x3] M none q := by
  refine Ct.of (by decide) rfl (lv := [(0, .ref (adr Y 17)), (1, .ref (adr Y 4)), (2, .int x2), (3, .int x3)]) rfl ?_
  intro K hkl C
  change Cx K zX5_writeBlock Y at C
  subst hkl
  unfold pX5_writeBlock at h
  show Wp K zX5_writeBlock Y (Qm K Y none q) M 0 [(0, .ref (adr Y 17)), (1, .ref (adr Y 4)), (2, .int x2), (3, .int x3)] []
  refine w_aload_n C (pc := 0) dX5_writeBlock_0 1 rfl ?_
  refine w_getI C (pc := 1) dX5_writeBlock_1 f_X5_182 (sA_4 hY) rfl ?_
  refine w_bnd h (fun v1 h => ?_)
  refine w_istore C (pc := 4) dX5_writeBlock_4 (lv' := [(0, .ref (adr Y 17)), (1, .ref (adr Y 4)), (2, .int x2), (3, .int x3), (4, .int v1)]) rfl rfl rfl ?_
  refine w_iload_n C (pc := 6) dX5_writeBlock_6 2 rfl ?_
  refine w_iconst C (pc := 7) dX5_writeBlock_7 (v := 1) (by decide) ?_
  refine w_iadd C (pc := 8) dX5_writeBlock_8 ?_
  refine w_bnd h (fun v2 h => ?_)
  refine w_istore C (pc := 9) dX5_writeBlock_9 (lv' := [(0, .ref (adr Y 17)), (1, .ref (adr Y 4)), (2, .int x2), (3, .int x3), (4, .int v1), (5, .int v2)]) rfl rfl rfl ?_
  obtain ⟨x9, e10, h⟩ := ob h
  refine itr_W (P := fun s11 => Wp K zX5_writeBlock Y (Qm K Y none q) s11.2 11 [(0, .ref (adr Y 17)), (1, .ref (adr Y 4)), (2, .int x2), (3, .int x3), (4, .int v1), (5, .int s11.1)] []) (R := fun x9 => Wp K zX5_writeBlock Y (Qm K Y none q) x9 46 [(0, .ref (adr Y 17)), (1, .ref (adr Y 4)), (2, .int x2), (3, .int x3), (4, .int v1)] []) ?_ fuel (v2, M) x9 e10 ?_
  · intro s11 r12 h15 ki13 kx14
    unfold pX5_writeBlock_L11 at h15
    show Wp K zX5_writeBlock Y (Qm K Y none q) s11.2 11 [(0, .ref (adr Y 17)), (1, .ref (adr Y 4)), (2, .int x2), (3, .int x3), (4, .int v1), (5, .int s11.1)] []
    refine w_iload C (pc := 11) dX5_writeBlock_11 5 rfl ?_
    refine w_iload_n C (pc := 13) dX5_writeBlock_13 3 rfl ?_
    refine w_icge C (pc := 14) 46 dX5_writeBlock_14 (by decide) (fun c => ?_) (fun c => ?_)
    · have h15 := it_t h15 c
      obtain rfl := Option.some.inj h15
      refine w_lv [0, 1, 2, 3, 4] rfl ?_
      exact kx14 _ rfl
    · have h15 := it_f h15 c
      refine w_aload_n C (pc := 17) dX5_writeBlock_17 0 rfl ?_
      refine w_iload_n C (pc := 18) dX5_writeBlock_18 2 rfl ?_
      refine w_iload_n C (pc := 19) dX5_writeBlock_19 3 rfl ?_
      refine w_iload C (pc := 20) dX5_writeBlock_20 5 rfl ?_
      obtain ⟨v16, e17, h15⟩ := ob h15
      refine w_cVi C (pc := 22) dX5_writeBlock_22 my_X5_isFlown mi_X5_isFlown ml_X5_185 (sA_17 hY) rfl rfl rfl [.int x2, .int x3, .int s11.1] rfl rfl (Nat.le_of_ble_eq_true rfl) (tX5_isFlown hY  e17) ?_
      refine w_ifne C (pc := 25) 40 dX5_writeBlock_25 (by decide) (fun c => ?_) (fun c => ?_)
      · have h15 := it_t h15 c
        refine w_aload_n C (pc := 28) dX5_writeBlock_28 1 rfl ?_
        refine w_aload_n C (pc := 29) dX5_writeBlock_29 0 rfl ?_
        refine w_getR C (pc := 30) dX5_writeBlock_30 f_X5_25 (sA_17 hY) rfl ?_
        refine w_iload C (pc := 33) dX5_writeBlock_33 5 rfl ?_
        obtain ⟨v18, e19, h15⟩ := ob h15
        refine w_iald C (pc := 35) dX5_writeBlock_35 (sA_22 hY) e19 ?_
        obtain ⟨v20, e21, h15⟩ := ob h15
        refine w_cVi C (pc := 36) dX5_writeBlock_36 my_X4_addStop mi_X4_addStop ml_X5_188 (sA_4 hY) rfl rfl rfl [.int v18] rfl rfl (Nat.le_of_ble_eq_true rfl) (tX4_addStop (kPlan_4 hY) e21) ?_
        refine w_pop C (pc := 39) dX5_writeBlock_39 rfl ?_
        refine w_iinc C (pc := 40) dX5_writeBlock_40 5 rfl (v := 1) (lv' := [(0, .ref (adr Y 17)), (1, .ref (adr Y 4)), (2, .int x2), (3, .int x3), (4, .int v1), (5, .int (s11.1 + 1))]) (by decide) rfl rfl rfl ?_
        refine w_goto C (pc := 43) 11 dX5_writeBlock_43 (by decide) ?_
        obtain rfl := Option.some.inj h15
        exact ki13 _ rfl
      · have h15 := it_f h15 c
        refine w_iinc C (pc := 40) dX5_writeBlock_40 5 rfl (v := 1) (lv' := [(0, .ref (adr Y 17)), (1, .ref (adr Y 4)), (2, .int x2), (3, .int x3), (4, .int v1), (5, .int (s11.1 + 1))]) (by decide) rfl rfl rfl ?_
        refine w_goto C (pc := 43) 11 dX5_writeBlock_43 (by decide) ?_
        obtain rfl := Option.some.inj h15
        exact ki13 _ rfl
  · refine w_aload_n C (pc := 46) dX5_writeBlock_46 1 rfl ?_
    refine w_getI C (pc := 47) dX5_writeBlock_47 f_X5_182 (sA_4 hY) rfl ?_
    refine w_iconst C (pc := 50) dX5_writeBlock_50 (v := 1) (by decide) ?_
    refine w_iadd C (pc := 51) dX5_writeBlock_51 ?_
    refine w_bnd h (fun v22 h => ?_)
    refine w_istore C (pc := 52) dX5_writeBlock_52 (lv' := [(0, .ref (adr Y 17)), (1, .ref (adr Y 4)), (2, .int x2), (3, .int x3), (4, .int v1), (5, .int v22)]) rfl rfl rfl ?_
    refine w_iconst C (pc := 54) dX5_writeBlock_54 (v := 0) (by decide) ?_
    refine w_istore C (pc := 55) dX5_writeBlock_55 (lv' := [(0, .ref (adr Y 17)), (1, .ref (adr Y 4)), (2, .int x2), (3, .int x3), (4, .int v1), (5, .int v22), (6, .int 0)]) rfl rfl rfl ?_
    refine w_iload_n C (pc := 57) dX5_writeBlock_57 2 rfl ?_
    refine w_iconst C (pc := 58) dX5_writeBlock_58 (v := 1) (by decide) ?_
    refine w_iadd C (pc := 59) dX5_writeBlock_59 ?_
    refine w_bnd h (fun v23 h => ?_)
    refine w_istore C (pc := 60) dX5_writeBlock_60 (lv' := [(0, .ref (adr Y 17)), (1, .ref (adr Y 4)), (2, .int x2), (3, .int x3), (4, .int v1), (5, .int v22), (6, .int 0), (7, .int v23)]) rfl rfl rfl ?_
    obtain ⟨x30, e31, h⟩ := ob h
    refine itr_W (P := fun s32 => Wp K zX5_writeBlock Y (Qm K Y none q) s32.2.2 62 [(0, .ref (adr Y 17)), (1, .ref (adr Y 4)), (2, .int x2), (3, .int x3), (4, .int v1), (5, .int v22), (6, .int s32.1), (7, .int s32.2.1)] []) (R := fun x30 => Wp K zX5_writeBlock Y (Qm K Y none q) x30 106 [(0, .ref (adr Y 17)), (1, .ref (adr Y 4)), (2, .int x2), (3, .int x3), (4, .int v1), (5, .int v22)] []) ?_ fuel (0, v23, x9) x30 e31 ?_
    · intro s32 r33 h36 ki34 kx35
      unfold pX5_writeBlock_L62 at h36
      show Wp K zX5_writeBlock Y (Qm K Y none q) s32.2.2 62 [(0, .ref (adr Y 17)), (1, .ref (adr Y 4)), (2, .int x2), (3, .int x3), (4, .int v1), (5, .int v22), (6, .int s32.1), (7, .int s32.2.1)] []
      refine w_iload C (pc := 62) dX5_writeBlock_62 7 rfl ?_
      refine w_iload_n C (pc := 64) dX5_writeBlock_64 3 rfl ?_
      refine w_icge C (pc := 65) 106 dX5_writeBlock_65 (by decide) (fun c => ?_) (fun c => ?_)
      · have h36 := it_t h36 c
        obtain rfl := Option.some.inj h36
        refine w_lv [0, 1, 2, 3, 4, 5] rfl ?_
        exact kx35 _ rfl
      · have h36 := it_f h36 c
        refine w_aload_n C (pc := 68) dX5_writeBlock_68 0 rfl ?_
        refine w_iload_n C (pc := 69) dX5_writeBlock_69 2 rfl ?_
        refine w_iload_n C (pc := 70) dX5_writeBlock_70 3 rfl ?_
        refine w_iload C (pc := 71) dX5_writeBlock_71 7 rfl ?_
        obtain ⟨v37, e38, h36⟩ := ob h36
        refine w_cVi C (pc := 73) dX5_writeBlock_73 my_X5_isFlown mi_X5_isFlown ml_X5_185 (sA_17 hY) rfl rfl rfl [.int x2, .int x3, .int s32.2.1] rfl rfl (Nat.le_of_ble_eq_true rfl) (tX5_isFlown hY  e38) ?_
        refine w_ifeq C (pc := 76) 100 dX5_writeBlock_76 (by decide) (fun c => ?_) (fun c => ?_)
        · have h36 := it_t h36 c
          refine w_iinc C (pc := 100) dX5_writeBlock_100 7 rfl (v := 1) (lv' := [(0, .ref (adr Y 17)), (1, .ref (adr Y 4)), (2, .int x2), (3, .int x3), (4, .int v1), (5, .int v22), (6, .int s32.1), (7, .int (s32.2.1 + 1))]) (by decide) rfl rfl rfl ?_
          refine w_goto C (pc := 103) 62 dX5_writeBlock_103 (by decide) ?_
          obtain rfl := Option.some.inj h36
          exact ki34 _ rfl
        · have h36 := it_f h36 c
          refine w_aload_n C (pc := 79) dX5_writeBlock_79 1 rfl ?_
          refine w_iload C (pc := 80) dX5_writeBlock_80 6 rfl ?_
          refine w_iload C (pc := 82) dX5_writeBlock_82 4 rfl ?_
          refine w_aload_n C (pc := 84) dX5_writeBlock_84 0 rfl ?_
          refine w_getR C (pc := 85) dX5_writeBlock_85 f_X5_25 (sA_17 hY) rfl ?_
          refine w_iload C (pc := 88) dX5_writeBlock_88 7 rfl ?_
          obtain ⟨v39, e40, h36⟩ := ob h36
          refine w_iald C (pc := 90) dX5_writeBlock_90 (sA_22 hY) e40 ?_
          refine w_iload C (pc := 91) dX5_writeBlock_91 5 rfl ?_
          obtain ⟨v41, e42, h36⟩ := ob h36
          refine w_cVi C (pc := 93) dX5_writeBlock_93 my_X4_addSortie mi_X4_addSortie ml_X5_191 (sA_4 hY) rfl rfl rfl [.int s32.1, .int v1, .int v39, .int v22] rfl rfl (Nat.le_of_ble_eq_true rfl) (tX4_addSortie (kPlan_4 hY) e42) ?_
          refine w_pop C (pc := 96) dX5_writeBlock_96 rfl ?_
          refine w_iinc C (pc := 97) dX5_writeBlock_97 6 rfl (v := 1) (lv' := [(0, .ref (adr Y 17)), (1, .ref (adr Y 4)), (2, .int x2), (3, .int x3), (4, .int v1), (5, .int v22), (6, .int (s32.1 + 1)), (7, .int s32.2.1)]) (by decide) rfl rfl rfl ?_
          refine w_iinc C (pc := 100) dX5_writeBlock_100 7 rfl (v := 1) (lv' := [(0, .ref (adr Y 17)), (1, .ref (adr Y 4)), (2, .int x2), (3, .int x3), (4, .int v1), (5, .int v22), (6, .int (s32.1 + 1)), (7, .int (s32.2.1 + 1))]) (by decide) rfl rfl rfl ?_
          refine w_goto C (pc := 103) 62 dX5_writeBlock_103 (by decide) ?_
          obtain rfl := Option.some.inj h36
          exact ki34 _ rfl
    · refine w_iload_n C (pc := 106) dX5_writeBlock_106 3 rfl ?_
      refine w_aload_n C (pc := 107) dX5_writeBlock_107 0 rfl ?_
      refine w_getI C (pc := 108) dX5_writeBlock_108 f_X5_56 (sA_17 hY) rfl ?_
      refine w_icge C (pc := 111) 125 dX5_writeBlock_111 (by decide) (fun c => ?_) (fun c => ?_)
      · have h := it_t h c
        exact w_retV C (pc := 125) dX5_writeBlock_125 rfl (Option.some.inj h)
      · have h := it_f h c
        refine w_aload_n C (pc := 114) dX5_writeBlock_114 1 rfl ?_
        refine w_aload_n C (pc := 115) dX5_writeBlock_115 0 rfl ?_
        refine w_getR C (pc := 116) dX5_writeBlock_116 f_X5_25 (sA_17 hY) rfl ?_
        refine w_iload_n C (pc := 119) dX5_writeBlock_119 3 rfl ?_
        obtain ⟨v43, e44, h⟩ := ob h
        refine w_iald C (pc := 120) dX5_writeBlock_120 (sA_22 hY) e44 ?_
        obtain ⟨v45, e46, h⟩ := ob h
        refine w_cVi C (pc := 121) dX5_writeBlock_121 my_X4_addStop mi_X4_addStop ml_X5_188 (sA_4 hY) rfl rfl rfl [.int v43] rfl rfl (Nat.le_of_ble_eq_true rfl) (tX4_addStop (kPlan_4 hY) e46) ?_
        refine w_pop C (pc := 124) dX5_writeBlock_124 rfl ?_
        exact w_retV C (pc := 125) dX5_writeBlock_125 rfl (Option.some.inj h)
theorem dX5_writePlan_0 : decode cX5_writePlan 0 = .ok (.aload_n 0, 1) := by decide +kernel
theorem dX5_writePlan_1 : decode cX5_writePlan 1 = .ok (.invokevirtual 170, 3) := by decide +kernel
theorem dX5_writePlan_4 : decode cX5_writePlan 4 = .ok (.aload_n 1, 1) := by decide +kernel
theorem dX5_writePlan_5 : decode cX5_writePlan 5 = .ok (.invokevirtual 173, 3) := by decide +kernel
theorem dX5_writePlan_8 : decode cX5_writePlan 8 = .ok (.iconst 0, 1) := by decide +kernel
theorem dX5_writePlan_9 : decode cX5_writePlan 9 = .ok (.istore_n 2, 1) := by decide +kernel
theorem dX5_writePlan_10 : decode cX5_writePlan 10 = .ok (.iload_n 2, 1) := by decide +kernel
theorem dX5_writePlan_11 : decode cX5_writePlan 11 = .ok (.aload_n 0, 1) := by decide +kernel
theorem dX5_writePlan_12 : decode cX5_writePlan 12 = .ok (.getfield 56, 3) := by decide +kernel
theorem dX5_writePlan_15 : decode cX5_writePlan 15 = .ok (.if_icmp .ge 31, 3) := by decide +kernel
theorem dX5_writePlan_18 : decode cX5_writePlan 18 = .ok (.aload_n 0, 1) := by decide +kernel
theorem dX5_writePlan_19 : decode cX5_writePlan 19 = .ok (.getfield 43, 3) := by decide +kernel
theorem dX5_writePlan_22 : decode cX5_writePlan 22 = .ok (.iload_n 2, 1) := by decide +kernel
theorem dX5_writePlan_23 : decode cX5_writePlan 23 = .ok (.iaload, 1) := by decide +kernel
theorem dX5_writePlan_24 : decode cX5_writePlan 24 = .ok (.iconst (-1), 1) := by decide +kernel
theorem dX5_writePlan_25 : decode cX5_writePlan 25 = .ok (.if_icmp .eq 15, 3) := by decide +kernel
theorem dX5_writePlan_28 : decode cX5_writePlan 28 = .ok (.aload_n 0, 1) := by decide +kernel
theorem dX5_writePlan_29 : decode cX5_writePlan 29 = .ok (.aload_n 1, 1) := by decide +kernel
theorem dX5_writePlan_30 : decode cX5_writePlan 30 = .ok (.iload_n 2, 1) := by decide +kernel
theorem dX5_writePlan_31 : decode cX5_writePlan 31 = .ok (.aload_n 0, 1) := by decide +kernel
theorem dX5_writePlan_32 : decode cX5_writePlan 32 = .ok (.getfield 43, 3) := by decide +kernel
theorem dX5_writePlan_35 : decode cX5_writePlan 35 = .ok (.iload_n 2, 1) := by decide +kernel
theorem dX5_writePlan_36 : decode cX5_writePlan 36 = .ok (.iaload, 1) := by decide +kernel
theorem dX5_writePlan_37 : decode cX5_writePlan 37 = .ok (.invokevirtual 178, 3) := by decide +kernel
theorem dX5_writePlan_40 : decode cX5_writePlan 40 = .ok (.iinc 2 1, 3) := by decide +kernel
theorem dX5_writePlan_43 : decode cX5_writePlan 43 = .ok (.goto (-33), 3) := by decide +kernel
theorem dX5_writePlan_46 : decode cX5_writePlan 46 = .ok (.return_, 1) := by decide +kernel
def pX5_writePlan_L10 (s : Int32 × Mm) : Option ((Int32 × Mm) ⊕ (Mm)) :=
if (s.2 17 6) ≤ s.1 then
(some (Sum.inr s.2))
else
((ald s.2 28 10 s.1).bind fun v5 =>
if v5 = (-1) then
(some (Sum.inl (s.1 + 1, s.2)))
else
((ald s.2 28 10 s.1).bind fun v7 =>
(pX5_writeBlock s.1 v7 s.2).bind fun v9 =>
some (Sum.inl (s.1 + 1, v9))))
def pX5_writePlan (M : Mm) : Option (Mm) :=
(pX5_linkBlocks M).bind fun v1 =>
bnd (pX4_empty 4 v1) fun v3 =>
(itr (pX5_writePlan_L10) fuel (0, v3)).bind fun x11 =>
some x11
abbrev zX5_writePlan : Zx := (cX5_writePlan, RX5, 3, 3, none)
set_option maxRecDepth 100000 in
set_option maxHeartbeats 4000000 in
theorem tX5_writePlan {l : Launch} {Y : Sx} {M : Mm} {q : Mm} (hY : isA Y) (h : pX5_writePlan M = some q) : Ct l Y yX5_writePlan cX5_writePlan 3 none 3 [.ref (adr Y 17), .ref (adr Y 4)] M none q := by
  refine Ct.of (by decide) rfl (lv := [(0, .ref (adr Y 17)), (1, .ref (adr Y 4))]) rfl ?_
  intro K hkl C
  change Cx K zX5_writePlan Y at C
  subst hkl
  unfold pX5_writePlan at h
  show Wp K zX5_writePlan Y (Qm K Y none q) M 0 [(0, .ref (adr Y 17)), (1, .ref (adr Y 4))] []
  refine w_aload_n C (pc := 0) dX5_writePlan_0 0 rfl ?_
  obtain ⟨v1, e2, h⟩ := ob h
  refine w_cVv C (pc := 1) dX5_writePlan_1 my_X5_linkBlocks mi_X5_linkBlocks ml_X5_170 (sA_17 hY) rfl rfl rfl [] rfl rfl (Nat.le_of_ble_eq_true rfl) (tX5_linkBlocks hY  e2) ?_
  refine w_aload_n C (pc := 4) dX5_writePlan_4 1 rfl ?_
  obtain ⟨v3, e4, h⟩ := bn h
  refine w_cVv C (pc := 5) dX5_writePlan_5 my_X4_empty mi_X4_empty ml_X5_173 (sA_4 hY) rfl rfl rfl [] rfl rfl (Nat.le_of_ble_eq_true rfl) (tX4_empty (kPlan_4 hY) e4) ?_
  refine w_iconst C (pc := 8) dX5_writePlan_8 (v := 0) (by decide) ?_
  refine w_istore_n C (pc := 9) dX5_writePlan_9 (lv' := [(0, .ref (adr Y 17)), (1, .ref (adr Y 4)), (2, .int 0)]) rfl rfl rfl ?_
  obtain ⟨x11, e12, h⟩ := ob h
  refine itr_W (P := fun s13 => Wp K zX5_writePlan Y (Qm K Y none q) s13.2 10 [(0, .ref (adr Y 17)), (1, .ref (adr Y 4)), (2, .int s13.1)] []) (R := fun x11 => Wp K zX5_writePlan Y (Qm K Y none q) x11 46 [(0, .ref (adr Y 17)), (1, .ref (adr Y 4))] []) ?_ fuel (0, v3) x11 e12 ?_
  · intro s13 r14 h17 ki15 kx16
    unfold pX5_writePlan_L10 at h17
    show Wp K zX5_writePlan Y (Qm K Y none q) s13.2 10 [(0, .ref (adr Y 17)), (1, .ref (adr Y 4)), (2, .int s13.1)] []
    refine w_iload_n C (pc := 10) dX5_writePlan_10 2 rfl ?_
    refine w_aload_n C (pc := 11) dX5_writePlan_11 0 rfl ?_
    refine w_getI C (pc := 12) dX5_writePlan_12 f_X5_56 (sA_17 hY) rfl ?_
    refine w_icge C (pc := 15) 46 dX5_writePlan_15 (by decide) (fun c => ?_) (fun c => ?_)
    · have h17 := it_t h17 c
      obtain rfl := Option.some.inj h17
      refine w_lv [0, 1] rfl ?_
      exact kx16 _ rfl
    · have h17 := it_f h17 c
      refine w_aload_n C (pc := 18) dX5_writePlan_18 0 rfl ?_
      refine w_getR C (pc := 19) dX5_writePlan_19 f_X5_43 (sA_17 hY) rfl ?_
      refine w_iload_n C (pc := 22) dX5_writePlan_22 2 rfl ?_
      obtain ⟨v18, e19, h17⟩ := ob h17
      refine w_iald C (pc := 23) dX5_writePlan_23 (sA_28 hY) e19 ?_
      refine w_iconst C (pc := 24) dX5_writePlan_24 (v := (-1)) (by decide) ?_
      refine w_iceq C (pc := 25) 40 dX5_writePlan_25 (by decide) (fun c => ?_) (fun c => ?_)
      · have h17 := it_t h17 c
        refine w_iinc C (pc := 40) dX5_writePlan_40 2 rfl (v := 1) (lv' := [(0, .ref (adr Y 17)), (1, .ref (adr Y 4)), (2, .int (s13.1 + 1))]) (by decide) rfl rfl rfl ?_
        refine w_goto C (pc := 43) 10 dX5_writePlan_43 (by decide) ?_
        obtain rfl := Option.some.inj h17
        exact ki15 _ rfl
      · have h17 := it_f h17 c
        refine w_aload_n C (pc := 28) dX5_writePlan_28 0 rfl ?_
        refine w_aload_n C (pc := 29) dX5_writePlan_29 1 rfl ?_
        refine w_iload_n C (pc := 30) dX5_writePlan_30 2 rfl ?_
        refine w_aload_n C (pc := 31) dX5_writePlan_31 0 rfl ?_
        refine w_getR C (pc := 32) dX5_writePlan_32 f_X5_43 (sA_17 hY) rfl ?_
        refine w_iload_n C (pc := 35) dX5_writePlan_35 2 rfl ?_
        obtain ⟨v20, e21, h17⟩ := ob h17
        refine w_iald C (pc := 36) dX5_writePlan_36 (sA_28 hY) e21 ?_
        obtain ⟨v22, e23, h17⟩ := ob h17
        refine w_cVv C (pc := 37) dX5_writePlan_37 my_X5_writeBlock mi_X5_writeBlock ml_X5_178 (sA_17 hY) rfl rfl rfl [.ref (adr Y 4), .int s13.1, .int v20] rfl rfl (Nat.le_of_ble_eq_true rfl) (tX5_writeBlock hY  e23) ?_
        refine w_iinc C (pc := 40) dX5_writePlan_40 2 rfl (v := 1) (lv' := [(0, .ref (adr Y 17)), (1, .ref (adr Y 4)), (2, .int (s13.1 + 1))]) (by decide) rfl rfl rfl ?_
        refine w_goto C (pc := 43) 10 dX5_writePlan_43 (by decide) ?_
        obtain rfl := Option.some.inj h17
        exact ki15 _ rfl
  · exact w_retV C (pc := 46) dX5_writePlan_46 rfl (Option.some.inj h)
end
