section
-- ===== PART A: goes FIRST, ahead of the names: the tables' words, and 'selects' of the private methods out of them =====
/-- a private method of a class that the tables say can be made, by its rows of tables_1 -/
def lw_okq (q : MethodName × Nat) : Prop := (q.1.cls ≠ "java/lang/invoke/MethodHandle" ∧ q.1.cls ≠ "java/lang/invoke/VarHandle") ∧ Cond.instantiable q.1.cls q.2 ∈ tables_1 ∧ Cond.privateMethod q.1 ∈ tables_1 ∧ Cond.instanceMethod q.1 ∈ tables_1
theorem lw_p0 : lw_okq (⟨"WidthWords", "requireRoom", "()V"⟩, 9) := ⟨⟨by decide +kernel, by decide +kernel⟩, List.mem_of_getElem? (i := 19) (by decide +kernel), List.mem_of_getElem? (i := 174) (by decide +kernel), List.mem_of_getElem? (i := 175) (by decide +kernel)⟩
theorem lw_p1 : lw_okq (⟨"java/lang/Throwable", "fillInStackTrace", "(I)Ljava/lang/Throwable;"⟩, 6) := ⟨⟨by decide +kernel, by decide +kernel⟩, List.mem_of_getElem? (i := 217) (by decide +kernel), List.mem_of_getElem? (i := 215) (by decide +kernel), List.mem_of_getElem? (i := 216) (by decide +kernel)⟩
theorem lw_p2 : lw_okq (⟨"WidthWords", "keepMade", "(I)I"⟩, 9) := ⟨⟨by decide +kernel, by decide +kernel⟩, List.mem_of_getElem? (i := 19) (by decide +kernel), List.mem_of_getElem? (i := 250) (by decide +kernel), List.mem_of_getElem? (i := 251) (by decide +kernel)⟩
theorem lw_p3 : lw_okq (⟨"WidthWords", "requireWord", "(I)V"⟩, 9) := ⟨⟨by decide +kernel, by decide +kernel⟩, List.mem_of_getElem? (i := 19) (by decide +kernel), List.mem_of_getElem? (i := 272) (by decide +kernel), List.mem_of_getElem? (i := 273) (by decide +kernel)⟩
theorem lw_p4 : lw_okq (⟨"WidthWords", "requireLimb", "(II)V"⟩, 9) := ⟨⟨by decide +kernel, by decide +kernel⟩, List.mem_of_getElem? (i := 19) (by decide +kernel), List.mem_of_getElem? (i := 297) (by decide +kernel), List.mem_of_getElem? (i := 298) (by decide +kernel)⟩
theorem lw_p5 : lw_okq (⟨"WidthWords", "requireKind", "(II)V"⟩, 9) := ⟨⟨by decide +kernel, by decide +kernel⟩, List.mem_of_getElem? (i := 19) (by decide +kernel), List.mem_of_getElem? (i := 312) (by decide +kernel), List.mem_of_getElem? (i := 313) (by decide +kernel)⟩
theorem lw_p6 : lw_okq (⟨"WidthWords", "requireOneWidth", "(II)V"⟩, 9) := ⟨⟨by decide +kernel, by decide +kernel⟩, List.mem_of_getElem? (i := 19) (by decide +kernel), List.mem_of_getElem? (i := 332) (by decide +kernel), List.mem_of_getElem? (i := 333) (by decide +kernel)⟩
theorem lw_p7 : lw_okq (⟨"WidthWords", "load", "(I[J)V"⟩, 9) := ⟨⟨by decide +kernel, by decide +kernel⟩, List.mem_of_getElem? (i := 19) (by decide +kernel), List.mem_of_getElem? (i := 338) (by decide +kernel), List.mem_of_getElem? (i := 339) (by decide +kernel)⟩
theorem lw_p8 : lw_okq (⟨"WidthWords$Operations", "sum", "([J[J[J)V"⟩, 7) := ⟨⟨by decide +kernel, by decide +kernel⟩, List.mem_of_getElem? (i := 27) (by decide +kernel), List.mem_of_getElem? (i := 365) (by decide +kernel), List.mem_of_getElem? (i := 366) (by decide +kernel)⟩
theorem lw_p9 : lw_okq (⟨"WidthWords$Operations", "highest", "([J)I"⟩, 7) := ⟨⟨by decide +kernel, by decide +kernel⟩, List.mem_of_getElem? (i := 27) (by decide +kernel), List.mem_of_getElem? (i := 378) (by decide +kernel), List.mem_of_getElem? (i := 379) (by decide +kernel)⟩
theorem lw_p10 : lw_okq (⟨"WidthWords$Operations", "difference", "([J[J[J)V"⟩, 7) := ⟨⟨by decide +kernel, by decide +kernel⟩, List.mem_of_getElem? (i := 27) (by decide +kernel), List.mem_of_getElem? (i := 382) (by decide +kernel), List.mem_of_getElem? (i := 383) (by decide +kernel)⟩
theorem lw_p11 : lw_okq (⟨"WidthWords$Operations", "product", "(I[J[J[J)V"⟩, 7) := ⟨⟨by decide +kernel, by decide +kernel⟩, List.mem_of_getElem? (i := 27) (by decide +kernel), List.mem_of_getElem? (i := 389) (by decide +kernel), List.mem_of_getElem? (i := 390) (by decide +kernel)⟩
theorem lw_p12 : lw_okq (⟨"WidthWords$Digits", "addMultiple", "(JII)V"⟩, 7) := ⟨⟨by decide +kernel, by decide +kernel⟩, List.mem_of_getElem? (i := 33) (by decide +kernel), List.mem_of_getElem? (i := 405) (by decide +kernel), List.mem_of_getElem? (i := 406) (by decide +kernel)⟩
theorem lw_p13 : lw_okq (⟨"WidthWords$Operations", "fitsWithSign", "([J[J[J)Z"⟩, 7) := ⟨⟨by decide +kernel, by decide +kernel⟩, List.mem_of_getElem? (i := 27) (by decide +kernel), List.mem_of_getElem? (i := 419) (by decide +kernel), List.mem_of_getElem? (i := 420) (by decide +kernel)⟩
theorem lw_p14 : lw_okq (⟨"WidthWords$Operations", "quotientOrRest", "(I[J[J[J)V"⟩, 7) := ⟨⟨by decide +kernel, by decide +kernel⟩, List.mem_of_getElem? (i := 27) (by decide +kernel), List.mem_of_getElem? (i := 431) (by decide +kernel), List.mem_of_getElem? (i := 432) (by decide +kernel)⟩
theorem lw_p15 : lw_okq (⟨"WidthWords$Digits", "takeMultiple", "(II)J"⟩, 7) := ⟨⟨by decide +kernel, by decide +kernel⟩, List.mem_of_getElem? (i := 33) (by decide +kernel), List.mem_of_getElem? (i := 446) (by decide +kernel), List.mem_of_getElem? (i := 447) (by decide +kernel)⟩
def lw_privs_1 : List (MethodName × Nat) := [(⟨"WidthWords", "requireRoom", "()V"⟩, 9), (⟨"java/lang/Throwable", "fillInStackTrace", "(I)Ljava/lang/Throwable;"⟩, 6), (⟨"WidthWords", "keepMade", "(I)I"⟩, 9), (⟨"WidthWords", "requireWord", "(I)V"⟩, 9), (⟨"WidthWords", "requireLimb", "(II)V"⟩, 9), (⟨"WidthWords", "requireKind", "(II)V"⟩, 9), (⟨"WidthWords", "requireOneWidth", "(II)V"⟩, 9), (⟨"WidthWords", "load", "(I[J)V"⟩, 9), (⟨"WidthWords$Operations", "sum", "([J[J[J)V"⟩, 7), (⟨"WidthWords$Operations", "highest", "([J)I"⟩, 7), (⟨"WidthWords$Operations", "difference", "([J[J[J)V"⟩, 7), (⟨"WidthWords$Operations", "product", "(I[J[J[J)V"⟩, 7), (⟨"WidthWords$Digits", "addMultiple", "(JII)V"⟩, 7), (⟨"WidthWords$Operations", "fitsWithSign", "([J[J[J)Z"⟩, 7), (⟨"WidthWords$Operations", "quotientOrRest", "(I[J[J[J)V"⟩, 7), (⟨"WidthWords$Digits", "takeMultiple", "(II)J"⟩, 7)]
theorem lw_r1 : ∀ q ∈ lw_privs_1, lw_okq q := List.forall_mem_cons.mpr ⟨lw_p0, List.forall_mem_cons.mpr ⟨lw_p1, List.forall_mem_cons.mpr ⟨lw_p2, List.forall_mem_cons.mpr ⟨lw_p3, List.forall_mem_cons.mpr ⟨lw_p4, List.forall_mem_cons.mpr ⟨lw_p5, List.forall_mem_cons.mpr ⟨lw_p6, List.forall_mem_cons.mpr ⟨lw_p7, List.forall_mem_cons.mpr ⟨lw_p8, List.forall_mem_cons.mpr ⟨lw_p9, List.forall_mem_cons.mpr ⟨lw_p10, List.forall_mem_cons.mpr ⟨lw_p11, List.forall_mem_cons.mpr ⟨lw_p12, List.forall_mem_cons.mpr ⟨lw_p13, List.forall_mem_cons.mpr ⟨lw_p14, List.forall_mem_cons.mpr ⟨lw_p15, fun _ h => absurd h List.not_mem_nil⟩⟩⟩⟩⟩⟩⟩⟩⟩⟩⟩⟩⟩⟩⟩⟩
theorem lw_p16 : lw_okq (⟨"WidthWords$Digits", "subtractMultiple", "(JII)Z"⟩, 7) := ⟨⟨by decide +kernel, by decide +kernel⟩, List.mem_of_getElem? (i := 33) (by decide +kernel), List.mem_of_getElem? (i := 456) (by decide +kernel), List.mem_of_getElem? (i := 457) (by decide +kernel)⟩
theorem lw_p17 : lw_okq (⟨"WidthWords$Digits", "addBack", "(II)Z"⟩, 7) := ⟨⟨by decide +kernel, by decide +kernel⟩, List.mem_of_getElem? (i := 33) (by decide +kernel), List.mem_of_getElem? (i := 460) (by decide +kernel), List.mem_of_getElem? (i := 461) (by decide +kernel)⟩
theorem lw_p18 : lw_okq (⟨"WidthWords$Operations", "moved", "(I[J[J[J)V"⟩, 7) := ⟨⟨by decide +kernel, by decide +kernel⟩, List.mem_of_getElem? (i := 27) (by decide +kernel), List.mem_of_getElem? (i := 464) (by decide +kernel), List.mem_of_getElem? (i := 465) (by decide +kernel)⟩
theorem lw_p19 : lw_okq (⟨"WidthWords$Operations", "turned", "(I[J[J[J)V"⟩, 7) := ⟨⟨by decide +kernel, by decide +kernel⟩, List.mem_of_getElem? (i := 27) (by decide +kernel), List.mem_of_getElem? (i := 474) (by decide +kernel), List.mem_of_getElem? (i := 475) (by decide +kernel)⟩
theorem lw_p20 : lw_okq (⟨"WidthWords$Operations", "bitByBit", "(I[J[J[J)V"⟩, 7) := ⟨⟨by decide +kernel, by decide +kernel⟩, List.mem_of_getElem? (i := 27) (by decide +kernel), List.mem_of_getElem? (i := 485) (by decide +kernel), List.mem_of_getElem? (i := 486) (by decide +kernel)⟩
theorem lw_p21 : lw_okq (⟨"WidthWords$Operations", "reversed", "(I[J[J)V"⟩, 7) := ⟨⟨by decide +kernel, by decide +kernel⟩, List.mem_of_getElem? (i := 27) (by decide +kernel), List.mem_of_getElem? (i := 490) (by decide +kernel), List.mem_of_getElem? (i := 491) (by decide +kernel)⟩
theorem lw_p22 : lw_okq (⟨"WidthWords", "isNegative", "(I)Z"⟩, 9) := ⟨⟨by decide +kernel, by decide +kernel⟩, List.mem_of_getElem? (i := 19) (by decide +kernel), List.mem_of_getElem? (i := 543) (by decide +kernel), List.mem_of_getElem? (i := 544) (by decide +kernel)⟩
theorem lw_p23 : lw_okq (⟨"WidthWords", "hasBit", "(II)Z"⟩, 9) := ⟨⟨by decide +kernel, by decide +kernel⟩, List.mem_of_getElem? (i := 19) (by decide +kernel), List.mem_of_getElem? (i := 547) (by decide +kernel), List.mem_of_getElem? (i := 548) (by decide +kernel)⟩
theorem lw_p24 : lw_okq (⟨"WidthWords$PointNumbers", "isNone", "(J)Z"⟩, 9) := ⟨⟨by decide +kernel, by decide +kernel⟩, List.mem_of_getElem? (i := 92) (by decide +kernel), List.mem_of_getElem? (i := 591) (by decide +kernel), List.mem_of_getElem? (i := 592) (by decide +kernel)⟩
theorem lw_p25 : lw_okq (⟨"WidthWords$PointNumbers", "exponentOf", "(J)I"⟩, 9) := ⟨⟨by decide +kernel, by decide +kernel⟩, List.mem_of_getElem? (i := 92) (by decide +kernel), List.mem_of_getElem? (i := 595) (by decide +kernel), List.mem_of_getElem? (i := 596) (by decide +kernel)⟩
theorem lw_p26 : lw_okq (⟨"WidthWords$PointNumbers", "fractionOf", "(J)J"⟩, 9) := ⟨⟨by decide +kernel, by decide +kernel⟩, List.mem_of_getElem? (i := 92) (by decide +kernel), List.mem_of_getElem? (i := 599) (by decide +kernel), List.mem_of_getElem? (i := 600) (by decide +kernel)⟩
theorem lw_p27 : lw_okq (⟨"WidthWords$PointNumbers", "none", "()J"⟩, 9) := ⟨⟨by decide +kernel, by decide +kernel⟩, List.mem_of_getElem? (i := 92) (by decide +kernel), List.mem_of_getElem? (i := 603) (by decide +kernel), List.mem_of_getElem? (i := 604) (by decide +kernel)⟩
theorem lw_p28 : lw_okq (⟨"WidthWords$PointNumbers", "infinite", "(Z)J"⟩, 9) := ⟨⟨by decide +kernel, by decide +kernel⟩, List.mem_of_getElem? (i := 92) (by decide +kernel), List.mem_of_getElem? (i := 607) (by decide +kernel), List.mem_of_getElem? (i := 608) (by decide +kernel)⟩
theorem lw_p29 : lw_okq (⟨"WidthWords$PointNumbers", "withSign", "(ZJ)J"⟩, 9) := ⟨⟨by decide +kernel, by decide +kernel⟩, List.mem_of_getElem? (i := 92) (by decide +kernel), List.mem_of_getElem? (i := 611) (by decide +kernel), List.mem_of_getElem? (i := 612) (by decide +kernel)⟩
theorem lw_p30 : lw_okq (⟨"WidthWords$PointNumbers", "isInfinite", "(J)Z"⟩, 9) := ⟨⟨by decide +kernel, by decide +kernel⟩, List.mem_of_getElem? (i := 92) (by decide +kernel), List.mem_of_getElem? (i := 615) (by decide +kernel), List.mem_of_getElem? (i := 616) (by decide +kernel)⟩
theorem lw_p31 : lw_okq (⟨"WidthWords$PointNumbers", "isNought", "(J)Z"⟩, 9) := ⟨⟨by decide +kernel, by decide +kernel⟩, List.mem_of_getElem? (i := 92) (by decide +kernel), List.mem_of_getElem? (i := 619) (by decide +kernel), List.mem_of_getElem? (i := 620) (by decide +kernel)⟩
def lw_privs_2 : List (MethodName × Nat) := [(⟨"WidthWords$Digits", "subtractMultiple", "(JII)Z"⟩, 7), (⟨"WidthWords$Digits", "addBack", "(II)Z"⟩, 7), (⟨"WidthWords$Operations", "moved", "(I[J[J[J)V"⟩, 7), (⟨"WidthWords$Operations", "turned", "(I[J[J[J)V"⟩, 7), (⟨"WidthWords$Operations", "bitByBit", "(I[J[J[J)V"⟩, 7), (⟨"WidthWords$Operations", "reversed", "(I[J[J)V"⟩, 7), (⟨"WidthWords", "isNegative", "(I)Z"⟩, 9), (⟨"WidthWords", "hasBit", "(II)Z"⟩, 9), (⟨"WidthWords$PointNumbers", "isNone", "(J)Z"⟩, 9), (⟨"WidthWords$PointNumbers", "exponentOf", "(J)I"⟩, 9), (⟨"WidthWords$PointNumbers", "fractionOf", "(J)J"⟩, 9), (⟨"WidthWords$PointNumbers", "none", "()J"⟩, 9), (⟨"WidthWords$PointNumbers", "infinite", "(Z)J"⟩, 9), (⟨"WidthWords$PointNumbers", "withSign", "(ZJ)J"⟩, 9), (⟨"WidthWords$PointNumbers", "isInfinite", "(J)Z"⟩, 9), (⟨"WidthWords$PointNumbers", "isNought", "(J)Z"⟩, 9)]
theorem lw_r2 : ∀ q ∈ lw_privs_2, lw_okq q := List.forall_mem_cons.mpr ⟨lw_p16, List.forall_mem_cons.mpr ⟨lw_p17, List.forall_mem_cons.mpr ⟨lw_p18, List.forall_mem_cons.mpr ⟨lw_p19, List.forall_mem_cons.mpr ⟨lw_p20, List.forall_mem_cons.mpr ⟨lw_p21, List.forall_mem_cons.mpr ⟨lw_p22, List.forall_mem_cons.mpr ⟨lw_p23, List.forall_mem_cons.mpr ⟨lw_p24, List.forall_mem_cons.mpr ⟨lw_p25, List.forall_mem_cons.mpr ⟨lw_p26, List.forall_mem_cons.mpr ⟨lw_p27, List.forall_mem_cons.mpr ⟨lw_p28, List.forall_mem_cons.mpr ⟨lw_p29, List.forall_mem_cons.mpr ⟨lw_p30, List.forall_mem_cons.mpr ⟨lw_p31, fun _ h => absurd h List.not_mem_nil⟩⟩⟩⟩⟩⟩⟩⟩⟩⟩⟩⟩⟩⟩⟩⟩
theorem lw_p32 : lw_okq (⟨"WidthWords$PointNumbers", "withoutRounding", "(IJJ)J"⟩, 9) := ⟨⟨by decide +kernel, by decide +kernel⟩, List.mem_of_getElem? (i := 92) (by decide +kernel), List.mem_of_getElem? (i := 624) (by decide +kernel), List.mem_of_getElem? (i := 625) (by decide +kernel)⟩
theorem lw_p33 : lw_okq (⟨"WidthWords$PointNumbers", "signOf", "(J)Z"⟩, 9) := ⟨⟨by decide +kernel, by decide +kernel⟩, List.mem_of_getElem? (i := 92) (by decide +kernel), List.mem_of_getElem? (i := 628) (by decide +kernel), List.mem_of_getElem? (i := 629) (by decide +kernel)⟩
theorem lw_p34 : lw_okq (⟨"WidthWords$PointNumbers", "notValid", "()J"⟩, 9) := ⟨⟨by decide +kernel, by decide +kernel⟩, List.mem_of_getElem? (i := 92) (by decide +kernel), List.mem_of_getElem? (i := 632) (by decide +kernel), List.mem_of_getElem? (i := 633) (by decide +kernel)⟩
theorem lw_p35 : lw_okq (⟨"WidthWords$PointNumbers", "divide", "(JJ)V"⟩, 9) := ⟨⟨by decide +kernel, by decide +kernel⟩, List.mem_of_getElem? (i := 92) (by decide +kernel), List.mem_of_getElem? (i := 636) (by decide +kernel), List.mem_of_getElem? (i := 637) (by decide +kernel)⟩
theorem lw_p36 : lw_okq (⟨"WidthWords$PointNumbers", "wholeOf", "(J)J"⟩, 9) := ⟨⟨by decide +kernel, by decide +kernel⟩, List.mem_of_getElem? (i := 92) (by decide +kernel), List.mem_of_getElem? (i := 640) (by decide +kernel), List.mem_of_getElem? (i := 641) (by decide +kernel)⟩
theorem lw_p37 : lw_okq (⟨"WidthWords$PointNumbers", "powerOf", "(J)I"⟩, 9) := ⟨⟨by decide +kernel, by decide +kernel⟩, List.mem_of_getElem? (i := 92) (by decide +kernel), List.mem_of_getElem? (i := 645) (by decide +kernel), List.mem_of_getElem? (i := 646) (by decide +kernel)⟩
theorem lw_p38 : lw_okq (⟨"WidthWords$PointNumbers", "multiply", "(JJ)V"⟩, 9) := ⟨⟨by decide +kernel, by decide +kernel⟩, List.mem_of_getElem? (i := 92) (by decide +kernel), List.mem_of_getElem? (i := 650) (by decide +kernel), List.mem_of_getElem? (i := 651) (by decide +kernel)⟩
theorem lw_p39 : lw_okq (⟨"WidthWords$PointNumbers", "add", "(JJ)V"⟩, 9) := ⟨⟨by decide +kernel, by decide +kernel⟩, List.mem_of_getElem? (i := 92) (by decide +kernel), List.mem_of_getElem? (i := 654) (by decide +kernel), List.mem_of_getElem? (i := 655) (by decide +kernel)⟩
theorem lw_p40 : lw_okq (⟨"WidthWords$PointNumbers", "rounded", "()J"⟩, 9) := ⟨⟨by decide +kernel, by decide +kernel⟩, List.mem_of_getElem? (i := 92) (by decide +kernel), List.mem_of_getElem? (i := 664) (by decide +kernel), List.mem_of_getElem? (i := 665) (by decide +kernel)⟩
theorem lw_p41 : lw_okq (⟨"WidthWords$PointNumbers", "finite", "(JI)J"⟩, 9) := ⟨⟨by decide +kernel, by decide +kernel⟩, List.mem_of_getElem? (i := 92) (by decide +kernel), List.mem_of_getElem? (i := 668) (by decide +kernel), List.mem_of_getElem? (i := 669) (by decide +kernel)⟩
theorem lw_p42 : lw_okq (⟨"WidthWords$PointNumbers", "tooGreat", "()J"⟩, 9) := ⟨⟨by decide +kernel, by decide +kernel⟩, List.mem_of_getElem? (i := 92) (by decide +kernel), List.mem_of_getElem? (i := 672) (by decide +kernel), List.mem_of_getElem? (i := 673) (by decide +kernel)⟩
theorem lw_p43 : lw_okq (⟨"WidthWords$PointNumbers", "goesAway", "(JJJ)Z"⟩, 9) := ⟨⟨by decide +kernel, by decide +kernel⟩, List.mem_of_getElem? (i := 92) (by decide +kernel), List.mem_of_getElem? (i := 676) (by decide +kernel), List.mem_of_getElem? (i := 677) (by decide +kernel)⟩
theorem lw_p44 : lw_okq (⟨"WidthWordsModel", "throwing", "(ZZZZ)Z"⟩, 15) := ⟨⟨by decide +kernel, by decide +kernel⟩, List.mem_of_getElem? (i := 700) (by decide +kernel), List.mem_of_getElem? (i := 761) (by decide +kernel), List.mem_of_getElem? (i := 762) (by decide +kernel)⟩
theorem lw_p45 : lw_okq (⟨"WidthWordsModel", "make", "(I)I"⟩, 15) := ⟨⟨by decide +kernel, by decide +kernel⟩, List.mem_of_getElem? (i := 700) (by decide +kernel), List.mem_of_getElem? (i := 765) (by decide +kernel), List.mem_of_getElem? (i := 766) (by decide +kernel)⟩
theorem lw_p46 : lw_okq (⟨"WidthWordsModel", "isLimb", "(II)Z"⟩, 15) := ⟨⟨by decide +kernel, by decide +kernel⟩, List.mem_of_getElem? (i := 700) (by decide +kernel), List.mem_of_getElem? (i := 773) (by decide +kernel), List.mem_of_getElem? (i := 774) (by decide +kernel)⟩
theorem lw_p47 : lw_okq (⟨"WidthWordsModel", "isWord", "(I)Z"⟩, 15) := ⟨⟨by decide +kernel, by decide +kernel⟩, List.mem_of_getElem? (i := 700) (by decide +kernel), List.mem_of_getElem? (i := 777) (by decide +kernel), List.mem_of_getElem? (i := 778) (by decide +kernel)⟩
def lw_privs_3 : List (MethodName × Nat) := [(⟨"WidthWords$PointNumbers", "withoutRounding", "(IJJ)J"⟩, 9), (⟨"WidthWords$PointNumbers", "signOf", "(J)Z"⟩, 9), (⟨"WidthWords$PointNumbers", "notValid", "()J"⟩, 9), (⟨"WidthWords$PointNumbers", "divide", "(JJ)V"⟩, 9), (⟨"WidthWords$PointNumbers", "wholeOf", "(J)J"⟩, 9), (⟨"WidthWords$PointNumbers", "powerOf", "(J)I"⟩, 9), (⟨"WidthWords$PointNumbers", "multiply", "(JJ)V"⟩, 9), (⟨"WidthWords$PointNumbers", "add", "(JJ)V"⟩, 9), (⟨"WidthWords$PointNumbers", "rounded", "()J"⟩, 9), (⟨"WidthWords$PointNumbers", "finite", "(JI)J"⟩, 9), (⟨"WidthWords$PointNumbers", "tooGreat", "()J"⟩, 9), (⟨"WidthWords$PointNumbers", "goesAway", "(JJJ)Z"⟩, 9), (⟨"WidthWordsModel", "throwing", "(ZZZZ)Z"⟩, 15), (⟨"WidthWordsModel", "make", "(I)I"⟩, 15), (⟨"WidthWordsModel", "isLimb", "(II)Z"⟩, 15), (⟨"WidthWordsModel", "isWord", "(I)Z"⟩, 15)]
theorem lw_r3 : ∀ q ∈ lw_privs_3, lw_okq q := List.forall_mem_cons.mpr ⟨lw_p32, List.forall_mem_cons.mpr ⟨lw_p33, List.forall_mem_cons.mpr ⟨lw_p34, List.forall_mem_cons.mpr ⟨lw_p35, List.forall_mem_cons.mpr ⟨lw_p36, List.forall_mem_cons.mpr ⟨lw_p37, List.forall_mem_cons.mpr ⟨lw_p38, List.forall_mem_cons.mpr ⟨lw_p39, List.forall_mem_cons.mpr ⟨lw_p40, List.forall_mem_cons.mpr ⟨lw_p41, List.forall_mem_cons.mpr ⟨lw_p42, List.forall_mem_cons.mpr ⟨lw_p43, List.forall_mem_cons.mpr ⟨lw_p44, List.forall_mem_cons.mpr ⟨lw_p45, List.forall_mem_cons.mpr ⟨lw_p46, List.forall_mem_cons.mpr ⟨lw_p47, fun _ h => absurd h List.not_mem_nil⟩⟩⟩⟩⟩⟩⟩⟩⟩⟩⟩⟩⟩⟩⟩⟩
theorem lw_p48 : lw_okq (⟨"WidthWordsModel", "bitOf", "(II)I"⟩, 15) := ⟨⟨by decide +kernel, by decide +kernel⟩, List.mem_of_getElem? (i := 700) (by decide +kernel), List.mem_of_getElem? (i := 785) (by decide +kernel), List.mem_of_getElem? (i := 786) (by decide +kernel)⟩
theorem lw_p49 : lw_okq (⟨"WidthWordsModel", "load", "(II)V"⟩, 15) := ⟨⟨by decide +kernel, by decide +kernel⟩, List.mem_of_getElem? (i := 700) (by decide +kernel), List.mem_of_getElem? (i := 793) (by decide +kernel), List.mem_of_getElem? (i := 794) (by decide +kernel)⟩
theorem lw_p50 : lw_okq (⟨"WidthWordsModel", "isNought", "([III)Z"⟩, 15) := ⟨⟨by decide +kernel, by decide +kernel⟩, List.mem_of_getElem? (i := 700) (by decide +kernel), List.mem_of_getElem? (i := 797) (by decide +kernel), List.mem_of_getElem? (i := 798) (by decide +kernel)⟩
theorem lw_p51 : lw_okq (⟨"WidthWordsModel", "sums", "(II)V"⟩, 15) := ⟨⟨by decide +kernel, by decide +kernel⟩, List.mem_of_getElem? (i := 700) (by decide +kernel), List.mem_of_getElem? (i := 801) (by decide +kernel), List.mem_of_getElem? (i := 802) (by decide +kernel)⟩
theorem lw_p52 : lw_okq (⟨"WidthWordsModel", "add", "(IZ)I"⟩, 15) := ⟨⟨by decide +kernel, by decide +kernel⟩, List.mem_of_getElem? (i := 700) (by decide +kernel), List.mem_of_getElem? (i := 805) (by decide +kernel), List.mem_of_getElem? (i := 806) (by decide +kernel)⟩
theorem lw_p53 : lw_okq (⟨"WidthWordsModel", "amounts", "(I)V"⟩, 15) := ⟨⟨by decide +kernel, by decide +kernel⟩, List.mem_of_getElem? (i := 700) (by decide +kernel), List.mem_of_getElem? (i := 809) (by decide +kernel), List.mem_of_getElem? (i := 810) (by decide +kernel)⟩
theorem lw_p54 : lw_okq (⟨"WidthWordsModel", "multiply", "(I)V"⟩, 15) := ⟨⟨by decide +kernel, by decide +kernel⟩, List.mem_of_getElem? (i := 700) (by decide +kernel), List.mem_of_getElem? (i := 813) (by decide +kernel), List.mem_of_getElem? (i := 814) (by decide +kernel)⟩
theorem lw_p55 : lw_okq (⟨"WidthWordsModel", "fits", "(IZ)Z"⟩, 15) := ⟨⟨by decide +kernel, by decide +kernel⟩, List.mem_of_getElem? (i := 700) (by decide +kernel), List.mem_of_getElem? (i := 817) (by decide +kernel), List.mem_of_getElem? (i := 818) (by decide +kernel)⟩
theorem lw_p56 : lw_okq (⟨"WidthWordsModel", "quotients", "(II)V"⟩, 15) := ⟨⟨by decide +kernel, by decide +kernel⟩, List.mem_of_getElem? (i := 700) (by decide +kernel), List.mem_of_getElem? (i := 821) (by decide +kernel), List.mem_of_getElem? (i := 822) (by decide +kernel)⟩
theorem lw_p57 : lw_okq (⟨"WidthWordsModel", "divide", "(I)V"⟩, 15) := ⟨⟨by decide +kernel, by decide +kernel⟩, List.mem_of_getElem? (i := 700) (by decide +kernel), List.mem_of_getElem? (i := 825) (by decide +kernel), List.mem_of_getElem? (i := 826) (by decide +kernel)⟩
theorem lw_p58 : lw_okq (⟨"WidthWordsModel", "takeRest", "(I)V"⟩, 15) := ⟨⟨by decide +kernel, by decide +kernel⟩, List.mem_of_getElem? (i := 700) (by decide +kernel), List.mem_of_getElem? (i := 829) (by decide +kernel), List.mem_of_getElem? (i := 830) (by decide +kernel)⟩
theorem lw_p59 : lw_okq (⟨"WidthWordsModel", "turn", "(I)V"⟩, 15) := ⟨⟨by decide +kernel, by decide +kernel⟩, List.mem_of_getElem? (i := 700) (by decide +kernel), List.mem_of_getElem? (i := 833) (by decide +kernel), List.mem_of_getElem? (i := 834) (by decide +kernel)⟩
theorem lw_p60 : lw_okq (⟨"WidthWordsModel", "moves", "(II)V"⟩, 15) := ⟨⟨by decide +kernel, by decide +kernel⟩, List.mem_of_getElem? (i := 700) (by decide +kernel), List.mem_of_getElem? (i := 837) (by decide +kernel), List.mem_of_getElem? (i := 838) (by decide +kernel)⟩
theorem lw_p61 : lw_okq (⟨"WidthWordsModel", "amountOfB", "(I)I"⟩, 15) := ⟨⟨by decide +kernel, by decide +kernel⟩, List.mem_of_getElem? (i := 700) (by decide +kernel), List.mem_of_getElem? (i := 841) (by decide +kernel), List.mem_of_getElem? (i := 842) (by decide +kernel)⟩
theorem lw_p62 : lw_okq (⟨"WidthWordsModel", "others", "(II)V"⟩, 15) := ⟨⟨by decide +kernel, by decide +kernel⟩, List.mem_of_getElem? (i := 700) (by decide +kernel), List.mem_of_getElem? (i := 845) (by decide +kernel), List.mem_of_getElem? (i := 846) (by decide +kernel)⟩
theorem lw_p63 : lw_okq (⟨"WidthWordsModel", "bAround", "(I)I"⟩, 15) := ⟨⟨by decide +kernel, by decide +kernel⟩, List.mem_of_getElem? (i := 700) (by decide +kernel), List.mem_of_getElem? (i := 849) (by decide +kernel), List.mem_of_getElem? (i := 850) (by decide +kernel)⟩
def lw_privs_4 : List (MethodName × Nat) := [(⟨"WidthWordsModel", "bitOf", "(II)I"⟩, 15), (⟨"WidthWordsModel", "load", "(II)V"⟩, 15), (⟨"WidthWordsModel", "isNought", "([III)Z"⟩, 15), (⟨"WidthWordsModel", "sums", "(II)V"⟩, 15), (⟨"WidthWordsModel", "add", "(IZ)I"⟩, 15), (⟨"WidthWordsModel", "amounts", "(I)V"⟩, 15), (⟨"WidthWordsModel", "multiply", "(I)V"⟩, 15), (⟨"WidthWordsModel", "fits", "(IZ)Z"⟩, 15), (⟨"WidthWordsModel", "quotients", "(II)V"⟩, 15), (⟨"WidthWordsModel", "divide", "(I)V"⟩, 15), (⟨"WidthWordsModel", "takeRest", "(I)V"⟩, 15), (⟨"WidthWordsModel", "turn", "(I)V"⟩, 15), (⟨"WidthWordsModel", "moves", "(II)V"⟩, 15), (⟨"WidthWordsModel", "amountOfB", "(I)I"⟩, 15), (⟨"WidthWordsModel", "others", "(II)V"⟩, 15), (⟨"WidthWordsModel", "bAround", "(I)I"⟩, 15)]
theorem lw_r4 : ∀ q ∈ lw_privs_4, lw_okq q := List.forall_mem_cons.mpr ⟨lw_p48, List.forall_mem_cons.mpr ⟨lw_p49, List.forall_mem_cons.mpr ⟨lw_p50, List.forall_mem_cons.mpr ⟨lw_p51, List.forall_mem_cons.mpr ⟨lw_p52, List.forall_mem_cons.mpr ⟨lw_p53, List.forall_mem_cons.mpr ⟨lw_p54, List.forall_mem_cons.mpr ⟨lw_p55, List.forall_mem_cons.mpr ⟨lw_p56, List.forall_mem_cons.mpr ⟨lw_p57, List.forall_mem_cons.mpr ⟨lw_p58, List.forall_mem_cons.mpr ⟨lw_p59, List.forall_mem_cons.mpr ⟨lw_p60, List.forall_mem_cons.mpr ⟨lw_p61, List.forall_mem_cons.mpr ⟨lw_p62, List.forall_mem_cons.mpr ⟨lw_p63, fun _ h => absurd h List.not_mem_nil⟩⟩⟩⟩⟩⟩⟩⟩⟩⟩⟩⟩⟩⟩⟩⟩
theorem lw_p64 : lw_okq (⟨"WidthWordsModel", "keep", "(II)I"⟩, 15) := ⟨⟨by decide +kernel, by decide +kernel⟩, List.mem_of_getElem? (i := 700) (by decide +kernel), List.mem_of_getElem? (i := 853) (by decide +kernel), List.mem_of_getElem? (i := 854) (by decide +kernel)⟩
theorem lw_p65 : lw_okq (⟨"WidthWordsModel", "take", "(IIZ)V"⟩, 15) := ⟨⟨by decide +kernel, by decide +kernel⟩, List.mem_of_getElem? (i := 700) (by decide +kernel), List.mem_of_getElem? (i := 893) (by decide +kernel), List.mem_of_getElem? (i := 894) (by decide +kernel)⟩
theorem lw_p66 : lw_okq (⟨"WidthWordsModel", "sum", "(II)J"⟩, 15) := ⟨⟨by decide +kernel, by decide +kernel⟩, List.mem_of_getElem? (i := 700) (by decide +kernel), List.mem_of_getElem? (i := 912) (by decide +kernel), List.mem_of_getElem? (i := 913) (by decide +kernel)⟩
theorem lw_p67 : lw_okq (⟨"WidthWordsModel", "notValid", "(I)J"⟩, 15) := ⟨⟨by decide +kernel, by decide +kernel⟩, List.mem_of_getElem? (i := 700) (by decide +kernel), List.mem_of_getElem? (i := 916) (by decide +kernel), List.mem_of_getElem? (i := 917) (by decide +kernel)⟩
theorem lw_p68 : lw_okq (⟨"WidthWordsModel", "rounded", "(IIJII)J"⟩, 15) := ⟨⟨by decide +kernel, by decide +kernel⟩, List.mem_of_getElem? (i := 700) (by decide +kernel), List.mem_of_getElem? (i := 923) (by decide +kernel), List.mem_of_getElem? (i := 924) (by decide +kernel)⟩
theorem lw_p69 : lw_okq (⟨"WidthWordsModel", "product", "(II)J"⟩, 15) := ⟨⟨by decide +kernel, by decide +kernel⟩, List.mem_of_getElem? (i := 700) (by decide +kernel), List.mem_of_getElem? (i := 934) (by decide +kernel), List.mem_of_getElem? (i := 935) (by decide +kernel)⟩
theorem lw_p70 : lw_okq (⟨"WidthWordsModel", "quotient", "(II)J"⟩, 15) := ⟨⟨by decide +kernel, by decide +kernel⟩, List.mem_of_getElem? (i := 700) (by decide +kernel), List.mem_of_getElem? (i := 938) (by decide +kernel), List.mem_of_getElem? (i := 939) (by decide +kernel)⟩
def lw_privs_5 : List (MethodName × Nat) := [(⟨"WidthWordsModel", "keep", "(II)I"⟩, 15), (⟨"WidthWordsModel", "take", "(IIZ)V"⟩, 15), (⟨"WidthWordsModel", "sum", "(II)J"⟩, 15), (⟨"WidthWordsModel", "notValid", "(I)J"⟩, 15), (⟨"WidthWordsModel", "rounded", "(IIJII)J"⟩, 15), (⟨"WidthWordsModel", "product", "(II)J"⟩, 15), (⟨"WidthWordsModel", "quotient", "(II)J"⟩, 15)]
theorem lw_r5 : ∀ q ∈ lw_privs_5, lw_okq q := List.forall_mem_cons.mpr ⟨lw_p64, List.forall_mem_cons.mpr ⟨lw_p65, List.forall_mem_cons.mpr ⟨lw_p66, List.forall_mem_cons.mpr ⟨lw_p67, List.forall_mem_cons.mpr ⟨lw_p68, List.forall_mem_cons.mpr ⟨lw_p69, List.forall_mem_cons.mpr ⟨lw_p70, fun _ h => absurd h List.not_mem_nil⟩⟩⟩⟩⟩⟩⟩
def lw_privs : List (MethodName × Nat) := lw_privs_1 ++ (lw_privs_2 ++ (lw_privs_3 ++ (lw_privs_4 ++ (lw_privs_5))))
def lw_tbl : List Cond := k2_sels lw_privs ++ tables_1
theorem lw_privs_ok : ∀ q ∈ lw_privs, lw_okq q := by
  show ∀ q ∈ lw_privs_1 ++ (lw_privs_2 ++ (lw_privs_3 ++ (lw_privs_4 ++ (lw_privs_5)))), lw_okq q
  exact List.forall_mem_append.mpr ⟨lw_r1, List.forall_mem_append.mpr ⟨lw_r2, List.forall_mem_append.mpr ⟨lw_r3, List.forall_mem_append.mpr ⟨lw_r4, lw_r5⟩⟩⟩⟩
-- ===== end of PART A; then your names; then what follows =====
/-! ===== BEGIN words of one list among another's, by their places ===== -/
theorem goodIn_r {big : List Cond} (ws : List Cond) (ps : List Nat) (hp : ws = ps.filterMap (fun i => big[i]?)) (h : ws.all goodWord = true) : GoodIn big ws := by
  intro w hw
  have h1 := List.all_eq_true.mp h w hw
  rw [hp] at hw
  obtain ⟨i, -, hi⟩ := List.mem_filterMap.mp hw
  have hm : w ∈ big := by first | exact List.mem_of_getElem? hi | exact List.getElem?_mem hi
  exact ⟨hm, good_of_word h1⟩
theorem goodIn_app {big a b : List Cond} (ha : GoodIn big a) (hb : GoodIn big b) : GoodIn big (a ++ b) := fun w h => (List.mem_append.mp h).elim (ha w) (hb w)
theorem goodIn_ca {big a b : List Cond} {c : Cond} (ha : GoodIn big (c :: a)) (hb : GoodIn big b) : GoodIn big (c :: (a ++ b)) := fun w h => (List.mem_cons.mp h).elim (fun e => ha w (List.mem_cons.mpr (Or.inl e))) (fun h => (List.mem_append.mp h).elim (fun h => ha w (List.mem_cons.mpr (Or.inr h))) (hb w))
theorem goodIn_sub {big ws : List Cond} (hm : ∀ w ∈ ws, w ∈ big) (h : ws.all goodWord = true) : GoodIn big ws := fun w hw => ⟨hm w hw, good_of_word (List.all_eq_true.mp h w hw)⟩
/-! ===== END ===== -/

/-! ===== BEGIN exceptions that leave a method, and their catching by the caller (launches without stack traces) ===== -/
section VXA
/-! The laws vx_back, vx_callV, vx_callS, vx_callSW, vx_throw0, vx_throwS follow proofs of the library, with one case more: JvmDerived/Free/Laws.lean (Back.of_free), Shelf42/LK1.lean (callV, callS), Shelf/KitTraced.lean (throwNew0V, throwNewS). -/
/-- where a method has thrown q: the class by its name, the cell, what was written, the world -/
def vx_T (XC : String → State → State → Prop) (st : State) (q : Addr) (t : State) (mc ms : Nat) (free : Addr → Prop) : Prop :=
  ∃ (E : String) (ce : Cell) (L : List Loc), XC E st t ∧ t.heap[q]? = some ce ∧ ce.vm = .none ∧ st.vm.findClass E = some ce.cls ∧ st.WarmedH t.vm ∧ st.sameButNew ({ t with vm := st.vm } : State) L mc ms ∧ ∀ z ∈ L, free z.base
def vx_Q (Qc : Array Value → State → Outcome → State → Prop) (XC : String → State → State → Prop) (mc ms : Nat) (free : Addr → Prop) : Array Value → State → Outcome → State → Prop := fun a st o t =>
  (Qc a st o t ∧ ∃ L, FrameEnd st o t L mc ms ∧ ∀ q ∈ L, free q.base) ∨ ∃ q, o = .threw q ∧ vx_T XC st q t mc ms free
/-- a callee that returns or throws -/
def vx_Met (l : Launch) (y : MethodName) (ws : List Cond) (rm : Room) (Pc : Array Value → State → Prop) (Qc : Array Value → State → Outcome → State → Prop) (XC : String → State → State → Prop) (mc ms : Nat) (free : Addr → Prop) : Prop :=
  MetFree l y (headSpec ws rm) Pc (fun _ _ _ _ _ => True) (vx_Q Qc XC mc ms free)
def vx_Post (XC : String → State → State → Prop) (mc ms : Nat) (free : Addr → Prop) : Pt → Array Value → Addr → Pt → Prop := fun A a q B =>
  ∃ (g : JFrame) (mk : MethodId) (t : State) (L : List Loc) (E : String) (ce : Cell), B.U.heap = t.heap ∧ B.U.vm = t.vm ∧ XC E (A.U.calling g mk a) t ∧ t.heap[q]? = some ce ∧ ce.vm = .none ∧ A.U.vm.findClass E = some ce.cls ∧ B.locs = A.locs ++ L ∧ (∀ z ∈ L, free z.base) ∧ B.cells = A.cells + mc ∧ B.slots = A.slots + ms
def vx_Back (l : Launch) (R : Room) (p : Program) (e : Env) (below : List Frame) (s : State) (sargs : Array Value) (y : MethodName) (len W9 : Nat)
    (Pre : Pt → Array Value → Prop) (Post : Pt → Array Value → Option Value → Pt → Prop) (PostX : Pt → Array Value → Addr → Pt → Prop) : Prop :=
  ∀ (m : MethodId) (meth : Method) (c : Code) (A : Pt) (g : JFrame) (ig : Instr) (mk : MethodId) (a : Array Value),
    Stand p l e R s m sargs below meth c A.U A.locs A.cells A.slots → g.method = m → g.locals.size = c.maxLocals → decode c.code g.pc = .ok (ig, len) →
    2 * g.monitorRoom + (g.stack.map fun v => v.category).sum ≤ W9 → A.U.methodNamed? y = some mk → Pre A a →
    (∃ (v : Option Value) (B : Pt), Stand p l e R s m sargs below meth c B.U B.locs B.cells B.slots ∧ Post A a v B ∧
      Steps p.tables e below (doInvoke e (A.U.setTop g) [] mk a).1 (B.U.setTop { g with pc := g.pc + len, stack := v.toList ++ g.stack })) ∨
    (∃ (q : Addr) (B : Pt), Stand p l e R s m sargs below meth c B.U B.locs B.cells B.slots ∧ PostX A a q B ∧
      Steps p.tables e below (doInvoke e (A.U.setTop g) [] mk a).1 ((B.U.setTop g).pushFrame (.throwing q)))
section Payer
variable {l : Launch} {R : Room} {p : Program} {e : Env} {below : List Frame} {s : State} {sargs : Array Value} {y : MethodName} {len W9 : Nat}
theorem vx_back {ws : List Cond} {rm : Room} {Pc : Array Value → State → Prop} {Qc : Array Value → State → Outcome → State → Prop} {XC : String → State → State → Prop} {mc ms : Nat} {free : Addr → Prop} {bytes : ByteArray} {maxL : Nat} {ret : Option FieldType}
    (hM : vx_Met l y ws rm Pc Qc XC mc ms free) (hblind : FrameBlind Pc) (hrc : rm.cells = mc) (hrs : rm.slots = ms)
    (hframes : rm.frames + 1 ≤ R.frames) (hlocals : W9 + (maxL + 11) + rm.locals ≤ R.locals)
    (hws : ∀ w ∈ ws, ∀ a' U, s.WarmedH U.vm → w.before a' U = true) (hcode : Cond.code y bytes maxL ret ∈ ws) (hinit : ∀ a' U, s.WarmedH U.vm → (Cond.initialized y.cls).before a' U = true) :
    vx_Back l R p e below s sargs y len W9 (PreOf R mc ms Pc) (PostOf Qc mc ms free) (vx_Post XC mc ms free) := by
  intro m meth c A g ig mk a X hg hsize hdg hW hn hp
  have h1 : (headSpec ws rm).pre.before a A.U = true := atoms_intro fun w hw => hws w hw _ _ X.warmed
  have h2 : (Cond.code y bytes maxL ret).before a A.U = true := hws _ hcode _ _ X.warmed
  have h3 : (Cond.initialized y.cls).before a A.U = true := hinit _ _ X.warmed
  have h4 : A.cells + (headSpec ws rm).room.cells ≤ R.cells := by rw [show (headSpec ws rm).room.cells = mc from hrc]; exact hp.1
  have h5 : A.slots + (headSpec ws rm).room.slots ≤ R.slots := by rw [show (headSpec ws rm).room.slots = ms from hrs]; exact hp.2.1
  have hPc : Pc a (A.U.calling g mk a) := hblind _ _ _ _ hp.2.2
  obtain ⟨U, Ls, c0, s0⟩ := A
  dsimp only [Pt.U, Pt.locs, Pt.cells, Pt.slots] at h1 h2 h3 h4 h5 X hn hPc ⊢
  obtain ⟨methY, cY, hmY, hcY, -, hlY, -, -, -, -⟩ := Cond.code_spec hn h2
  obtain ⟨kY, hkY, -⟩ := className_of_methodNamed hn
  have hinitY : kY.init = .initialized := Cond.initialized_spec (findClass_of_methodNamed hn) hkY h3
  have h : At U g.method c below := by rw [hg]; exact X.here
  have hlocals9 : W9 + (maxL + 11) + (headSpec ws rm).room.locals ≤ R.locals := hlocals
  have happ : (headSpec ws rm).appliesLoose y e.platform (U.calling g mk a) = true :=
    Spec.appliesLoose_calling (g := g) h hdg hn hkY hinitY
      (X.room_calling (g := g) (R' := (headSpec ws rm).room) hsize hmY hcY hframes (by rw [hlY]; omega) h4 h5) h1
  obtain ⟨mid, hmid⟩ := h.above
  have hfr : (U.setTop g).frames = (.java g :: mid) ++ below := by rw [State.frames_setTop' g h.top, hmid]; rfl
  obtain ⟨o, s₂, hsteps, -, hend, hq⟩ := Steps.callFree hM p X.admits X.cas X.clock (acts := []) hfr happ hPc trivial
  have hq' : vx_Q Qc XC mc ms free a (U.calling g mk a) o s₂ := hq
  rw [State.frames_setTop' g h.top] at hend
  obtain ⟨g₀, hg0⟩ := Option.isSome_iff_exists.mp h.top
  obtain ⟨r, hr⟩ := State.topJava?_eq_some.mp hg0
  have hr' : (({ U with heap := s₂.heap, slotsUsed := s₂.slotsUsed } : State).setVm s₂.vm).frames = .java g₀ :: r := hr
  rcases hq' with ⟨hqc, L, hfe, hL⟩ | ⟨q, rfl, E, ce, L, hx, hce, hcv, hcl, hW₂, hsm, hL⟩
  · obtain ⟨⟨v, rfl⟩, hW₂, e2, q2, q3, q4, q5, q6⟩ := id hfe
    have e3 : s₂ = ({ (U.calling g mk a).setFrames s₂.frames with heap := s₂.heap, slotsUsed := s₂.slotsUsed } : State).setVm s₂.vm := by
      have : s₂ = ({ s₂ with vm := (U.calling g mk a).vm } : State).setVm s₂.vm := rfl
      rw [e2] at this
      exact this
    obtain ⟨c₂, i₂, len₂, hc₂, hd₂, hf₂⟩ := hend
    have hW' : U.WarmedH s₂.vm := hW₂
    have hcc : c₂ = c := by
      have h1 : s₂.code? g.method = U.code? g.method := by
        rw [State.code?_eq, State.code?_eq, hW'.alike.method?]
      exact Option.some.inj (hc₂.symm.trans (h1.trans h.code))
    subst hcc
    have hlen : len₂ = len := by rw [hdg] at hd₂; cases hd₂; rfl
    subst hlen
    have hs₂ : s₂ = (({ U with heap := s₂.heap, slotsUsed := s₂.slotsUsed } : State).setVm s₂.vm).setTop { g with pc := g.pc + len₂, stack := v.toList ++ g.stack } := by
      refine e3.trans ?_
      rw [hf₂, State.calling_eq h.top, State.setFrames_setFrames, State.setTop_of_frames _ hr', hr]
      rfl
    have hsame : U.sameButNew ({ U with heap := s₂.heap, slotsUsed := s₂.slotsUsed } : State) L mc ms := by
      refine ⟨?_, q2, q3, q4, q5, q6⟩
      obtain ⟨t, ht, -⟩ := State.frames_cons hr
      show ({ U with heap := s₂.heap, slotsUsed := s₂.slotsUsed } : State) = { U.setFrames U.frames with heap := s₂.heap, slotsUsed := s₂.slotsUsed }
      rw [State.setFrames_self ht]
    subst hg
    refine Or.inl ⟨v, ⟨(({ U with heap := s₂.heap, slotsUsed := s₂.slotsUsed } : State).setVm s₂.vm), Ls ++ L, c0 + mc, s0 + ms⟩,
      ⟨X.admits, X.cas, X.clock, X.frames, X.room, X.hears, X.method, X.code, (X.here.setHeapUsed s₂.heap s₂.slotsUsed).setVm hW'.alike, X.tail, State.WarmedH.trans X.warmed hW', X.limits, X.bytes, X.same.trans (hsame.setVm s.vm)⟩,
      ⟨g, mk, s₂, L, rfl, rfl, hqc, rfl, hL, rfl, rfl⟩, ?_⟩
    show Steps p.tables e below _ ((({ U with heap := s₂.heap, slotsUsed := s₂.slotsUsed } : State).setVm s₂.vm).setTop { g with pc := g.pc + len₂, stack := v.toList ++ g.stack })
    rw [← hs₂]
    exact hsteps
  · obtain ⟨e2, q2, q3, q4, q5, q6⟩ := id hsm
    have e3 : s₂ = ({ (U.calling g mk a).setFrames s₂.frames with heap := s₂.heap, slotsUsed := s₂.slotsUsed } : State).setVm s₂.vm := by
      have : s₂ = ({ s₂ with vm := (U.calling g mk a).vm } : State).setVm s₂.vm := rfl
      rw [e2] at this
      exact this
    have hf₂ : s₂.frames = .throwing q :: .java g :: U.frames.tail := hend
    have hW' : U.WarmedH s₂.vm := hW₂
    have hs₂ : s₂ = ((({ U with heap := s₂.heap, slotsUsed := s₂.slotsUsed } : State).setVm s₂.vm).setTop g).pushFrame (.throwing q) := by
      refine e3.trans ?_
      rw [hf₂, State.calling_eq h.top, State.setFrames_setFrames, State.pushFrame, State.frames_setTop _ hr', State.setTop_of_frames _ hr', State.setFrames_setFrames, hr]
      rfl
    have hsame : U.sameButNew ({ U with heap := s₂.heap, slotsUsed := s₂.slotsUsed } : State) L mc ms := by
      refine ⟨?_, q2, q3, q4, q5, q6⟩
      obtain ⟨t, ht, -⟩ := State.frames_cons hr
      show ({ U with heap := s₂.heap, slotsUsed := s₂.slotsUsed } : State) = { U.setFrames U.frames with heap := s₂.heap, slotsUsed := s₂.slotsUsed }
      rw [State.setFrames_self ht]
    subst hg
    refine Or.inr ⟨q, ⟨(({ U with heap := s₂.heap, slotsUsed := s₂.slotsUsed } : State).setVm s₂.vm), Ls ++ L, c0 + mc, s0 + ms⟩,
      ⟨X.admits, X.cas, X.clock, X.frames, X.room, X.hears, X.method, X.code, (X.here.setHeapUsed s₂.heap s₂.slotsUsed).setVm hW'.alike, X.tail, State.WarmedH.trans X.warmed hW', X.limits, X.bytes, X.same.trans (hsame.setVm s.vm)⟩,
      ⟨g, mk, s₂, L, E, ce, rfl, rfl, hx, hce, hcv, hcl, rfl, hL, rfl, rfl⟩, ?_⟩
    show Steps p.tables e below _ (((({ U with heap := s₂.heap, slotsUsed := s₂.slotsUsed } : State).setVm s₂.vm).setTop g).pushFrame (.throwing q))
    rw [← hs₂]
    exact hsteps
end Payer
section Calls
variable {p : Program} {l : Launch} {e : Env} {R : Room} {s : State} {m : MethodId} {args : Array Value} {below : List Frame} {meth : Method} {c : Code} {T : State} {locs : List Loc} {cells slots : Nat}
theorem vx_callV (X : Stand p l e R s m args below meth c T locs cells slots) (hexec : p.tables.exec = Jvm.exec) {own C : String} {index : Nat} {y : MethodName} {bytes : ByteArray} {maxL : Nat} {ret : Option FieldType}
    (hown : s.vm.findClass own = some m.cls) (hlink : (Cond.methodLink own index y).before args s = true) (hinst : (Cond.instanceMethod y).before args s = true) (hsel : (Cond.selects C y y).before args s = true)
    (hcode : (Cond.code y bytes maxL ret).before args s = true) (hy : y.cls ≠ "java/lang/invoke/MethodHandle" ∧ y.cls ≠ "java/lang/invoke/VarHandle")
    {W9 : Nat} {Pre : Pt → Array Value → Prop} {Post : Pt → Array Value → Option Value → Pt → Prop} {PostX : Pt → Array Value → Addr → Pt → Prop} (hK : vx_Back l R p e below s args y 3 W9 Pre Post PostX)
    {b : Addr} {cellB : Cell} (hcell : T.heap[b]? = some cellB) (hobj : cellB.vm.isStatics = false) (hcls : s.vm.findClass C = some cellB.cls)
    {g : JFrame} (hg : g.method = m) (hsize : g.locals.size = c.maxLocals) {argsL rest : List Value} (hlen : ∀ sig, parseMethodDescriptor y.desc = some sig → argsL.length = sig.parameters.length)
    (hstack : g.stack = argsL.reverse ++ .ref b :: rest) (hW : 2 * g.monitorRoom + (rest.map fun v => v.category).sum ≤ W9) (hdg : decode c.code g.pc = .ok (.invokevirtual index, 3))
    (hpre : ∀ vm₁, s.WarmedH vm₁ → Pre ⟨T.setVm vm₁, locs, cells, slots⟩ (Value.ref b :: argsL).toArray) :
    (∃ (v : Option Value) (vm₁ : Vm) (B : Pt), s.WarmedH vm₁ ∧ Stand p l e R s m args below meth c B.U B.locs B.cells B.slots ∧ Post ⟨T.setVm vm₁, locs, cells, slots⟩ (Value.ref b :: argsL).toArray v B ∧
      ∀ target, Steps p.tables e below (B.U.setTop { g with pc := g.pc + 3, stack := v.toList ++ rest }) target → Steps p.tables e below (T.setTop g) target) ∨
    (∃ (q : Addr) (vm₁ : Vm) (B : Pt), s.WarmedH vm₁ ∧ Stand p l e R s m args below meth c B.U B.locs B.cells B.slots ∧ PostX ⟨T.setVm vm₁, locs, cells, slots⟩ (Value.ref b :: argsL).toArray q B ∧
      Steps p.tables e below (T.setTop g) ((B.U.setTop { g with stack := rest }).pushFrame (.throwing q))) := by
  obtain ⟨mk, methM, hnamed, hmethM, hstM, habM⟩ := Cond.instanceMethod_spec hinst
  obtain ⟨methM', cM, hmethM', -, -, -, -, -, -, hsigM⟩ := Cond.code_spec hnamed hcode
  cases hmethM.symm.trans hmethM'
  obtain ⟨c2, r2, m2, q1, q2, q3, q4, kP, hkP, hkPi⟩ := Cond.selects_spec hsel
  cases hcls.symm.trans q1
  cases (State.methodFound?_of_named hnamed hy).symm.trans q2
  cases hnamed.symm.trans q3
  have hselP : selectMethod e.platform s.vm cellB.cls mk = .method mk := by rw [Launch.admits_selectMethod X.admits]; exact q4
  obtain ⟨vm₁, X₁, hstep₁⟩ := X.invokevirtual hexec hown hlink hnamed hmethM hstM hkP hkPi hy (a := b) (cell := cellB) hcell
    (fun z h => by rw [h] at hobj; cases hobj) hselP hmethM habM hkP hkPi (g := g) hg (argsL := argsL) (rest := rest) (hlen _ hsigM) hstack hdg
  rcases hK m meth c ⟨T.setVm vm₁, locs, cells, slots⟩ { g with stack := rest } (.invokevirtual index) mk (Value.ref b :: argsL).toArray X₁ hg hsize hdg hW (X₁.named hnamed) (hpre vm₁ X₁.warmed) with ⟨v, B, X', hpost, hsteps⟩ | ⟨q, B, X', hpost, hsteps⟩
  · exact Or.inl ⟨v, vm₁, B, X₁.warmed, X', hpost, fun target h => hstep₁ _ fun acts => by rw [doInvoke_state]; exact hsteps.trans h⟩
  · exact Or.inr ⟨q, vm₁, B, X₁.warmed, X', hpost, hstep₁ _ fun acts => by rw [doInvoke_state]; exact hsteps⟩
theorem vx_callS (X : Stand p l e R s m args below meth c T locs cells slots) (hexec : p.tables.exec = Jvm.exec) {own : String} {index : Nat} {y : MethodName} {bytes : ByteArray} {maxL : Nat} {ret : Option FieldType}
    (hown : s.vm.findClass own = some m.cls) (hlink : (Cond.methodLink own index y).before args s = true) (hstat : (Cond.static y).before args s = true) (hinit : (Cond.initialized y.cls).before args s = true)
    (hcode : (Cond.code y bytes maxL ret).before args s = true) (hy : y.cls ≠ "java/lang/invoke/MethodHandle" ∧ y.cls ≠ "java/lang/invoke/VarHandle")
    {W9 : Nat} {Pre : Pt → Array Value → Prop} {Post : Pt → Array Value → Option Value → Pt → Prop} {PostX : Pt → Array Value → Addr → Pt → Prop} (hK : vx_Back l R p e below s args y 3 W9 Pre Post PostX)
    {g : JFrame} (hg : g.method = m) (hsize : g.locals.size = c.maxLocals) {argsL rest : List Value} (hlen : ∀ sig, parseMethodDescriptor y.desc = some sig → argsL.length = sig.parameters.length)
    (hstack : g.stack = argsL.reverse ++ rest) (hW : 2 * g.monitorRoom + (rest.map fun v => v.category).sum ≤ W9) (hdg : decode c.code g.pc = .ok (.invokestatic index, 3))
    (hpre : ∀ vm₁, s.WarmedH vm₁ → Pre ⟨T.setVm vm₁, locs, cells, slots⟩ argsL.toArray) :
    (∃ (v : Option Value) (vm₁ : Vm) (B : Pt), s.WarmedH vm₁ ∧ Stand p l e R s m args below meth c B.U B.locs B.cells B.slots ∧ Post ⟨T.setVm vm₁, locs, cells, slots⟩ argsL.toArray v B ∧
      ∀ target, Steps p.tables e below (B.U.setTop { g with pc := g.pc + 3, stack := v.toList ++ rest }) target → Steps p.tables e below (T.setTop g) target) ∨
    (∃ (q : Addr) (vm₁ : Vm) (B : Pt), s.WarmedH vm₁ ∧ Stand p l e R s m args below meth c B.U B.locs B.cells B.slots ∧ PostX ⟨T.setVm vm₁, locs, cells, slots⟩ argsL.toArray q B ∧
      Steps p.tables e below (T.setTop g) ((B.U.setTop { g with stack := rest }).pushFrame (.throwing q))) := by
  obtain ⟨mk, hnamed⟩ := Cond.code_named hcode
  obtain ⟨methM, cM, hmethM, -, -, -, -, -, -, hsigM⟩ := Cond.code_spec hnamed hcode
  have hstatic : methM.isStatic = true := Cond.static_spec hnamed hmethM hstat
  obtain ⟨kP, hkP, -⟩ := className_of_methodNamed hnamed
  have hinitP : kP.init = .initialized := Cond.initialized_spec (findClass_of_methodNamed hnamed) hkP hinit
  obtain ⟨vm₁, X₁, hstep₁⟩ := X.invokestatic hexec hown hlink hnamed hmethM hstatic hkP hinitP hy (g := g) hg (argsL := argsL) (rest := rest) (hlen _ hsigM) hstack hdg
  rcases hK m meth c ⟨T.setVm vm₁, locs, cells, slots⟩ { g with stack := rest } (.invokestatic index) mk argsL.toArray X₁ hg hsize hdg hW (X₁.named hnamed) (hpre vm₁ X₁.warmed) with ⟨v, B, X', hpost, hsteps⟩ | ⟨q, B, X', hpost, hsteps⟩
  · exact Or.inl ⟨v, vm₁, B, X₁.warmed, X', hpost, fun target h => hstep₁ _ fun acts => by rw [doInvoke_state]; exact hsteps.trans h⟩
  · exact Or.inr ⟨q, vm₁, B, X₁.warmed, X', hpost, hstep₁ _ fun acts => by rw [doInvoke_state]; exact hsteps⟩
end Calls
theorem vx_cls {s : State} {T : State} {vm₁ : Vm} {E : String} {k : ClassId} (hW : s.WarmedH vm₁) (h : (T.setVm vm₁).vm.findClass E = some k) : s.vm.findClass E = some k := by
  have h1 : vm₁.findClass E = some k := h
  rw [hW.alike.findClass] at h1
  exact h1
/-- the method's frame g, with q thrown over it -/
def vx_W (p : Program) (l : Launch) (e : Env) (R : Room) (s : State) (m : MethodId) (args : Array Value) (below : List Frame) (meth : Method) (c : Code) (H : Heap) (locs : List Loc) (cells slots : Nat) (Q : State → Prop) (g : JFrame) (q : Addr) : Prop :=
  ∀ T : State, T.heap = H → Stand p l e R s m args below meth c T locs cells slots → ∃ t, Steps p.tables e below ((T.setTop g).pushFrame (.throwing q)) t ∧ Q t
def vx_Run (p : Program) (l : Launch) (e : Env) (R : Room) (s : State) (m : MethodId) (args : Array Value) (below : List Frame) (meth : Method) (c : Code) (H : Heap) (locs : List Loc) (cells slots mc ms : Nat) (g : JFrame) (rest : List Value) (Qa : State → Outcome → State → Prop) (XC : String → State → State → Prop) (free : Addr → Prop) : Prop :=
  ∀ T : State, T.heap = H → Stand p l e R s m args below meth c T locs cells slots →
    (∃ (v : Option Value) (st₀ t T' : State) (L : List Loc), st₀.heap = H ∧ Stand p l e R s m args below meth c T' (locs ++ L) (cells + mc) (slots + ms) ∧ (∀ q ∈ L, free q.base) ∧ T'.heap = t.heap ∧ T'.vm = t.vm ∧ Qa st₀ (.returned v) t ∧
      Goes p e below T g T' { g with pc := g.pc + 3, stack := v.toList ++ rest }) ∨
    (∃ (q : Addr) (st₀ t T' : State) (L : List Loc) (E : String) (ce : Cell), st₀.heap = H ∧ Stand p l e R s m args below meth c T' (locs ++ L) (cells + mc) (slots + ms) ∧ (∀ z ∈ L, free z.base) ∧ T'.heap = t.heap ∧ T'.vm = t.vm ∧ XC E st₀ t ∧ t.heap[q]? = some ce ∧ ce.vm = .none ∧ s.vm.findClass E = some ce.cls ∧
      Steps p.tables e below (T.setTop g) ((T'.setTop { g with stack := rest }).pushFrame (.throwing q)))
def vx_X {S : Type} (px : S → Prop) (B : String → S → State → Prop) (A : Nat → Prop) : String → State → State → Prop := fun E st t => ∃ u : S, px u ∧ B E u t ∧ va_F A st t
section Runs
variable {p : Program} {l : Launch} {e : Env} {R : Room} {s : State} {m : MethodId} {args : Array Value} {below : List Frame} {meth : Method} {c : Code} {H : Heap} {locs : List Loc} {cells slots : Nat}
variable {y : MethodName} {bytes cc : ByteArray} {maxL nL mc ms n index : Nat} {ret : Option FieldType} {ws : List Cond} {rm : Room} {Pc : Array Value → State → Prop} {Qc : Array Value → State → Outcome → State → Prop} {XC : String → State → State → Prop} {free : Addr → Prop} {Ts : List Cond} {own C : String} {b : Addr} {As rest : List Value} {g : JFrame}
theorem vx_callBack (cb : CallB R s args own index y bytes maxL ret ws rm mc ms n) (hM : vx_Met l y ws rm Pc Qc XC mc ms free) (hbl : FrameBlind Pc) : vx_Back l R p e below s args y 3 8 (PreOf R mc ms Pc) (PostOf Qc mc ms free) (vx_Post XC mc ms free) := by
  obtain ⟨hrc, hrs, hfr, hlo, hws, hcw, -, hini, -⟩ := cb
  exact vx_back (bytes := bytes) (maxL := maxL) (ret := ret) hM hbl hrc hrs hfr hlo hws hcw (fun a' U hW => word_at hW (Or.inl (by first | rfl | simp [Cond.onTables, Cond.keeps, Cond.steady])) hini)
theorem vx_runV (S : CallFix p m c cc nL s args Ts own) (hM : vx_Met l y ws rm Pc Qc XC mc ms free) (cw : CallW R s args own C index y bytes maxL ret ws rm mc ms n) (hp : PreV s H C b Pc As)
    (hg : g.method = m) (hn : As.length = n) (hsize : g.locals.size = nL) (hstack : g.stack = As.reverse ++ .ref b :: rest) (hW : 2 * g.monitorRoom + (rest.map fun v => v.category).sum ≤ 8) (hdg : decode cc g.pc = .ok (.invokevirtual index, 3)) (hf : cells + mc ≤ R.cells ∧ slots + ms ≤ R.slots) :
    vx_Run p l e R s m args below meth c H locs cells slots mc ms g rest (Qc (Value.ref b :: As).toArray) XC free := by
  have hK : vx_Back l R p e below s args y 3 8 (PreOf R mc ms Pc) (PostOf Qc mc ms free) (vx_Post XC mc ms free) := vx_callBack cw.1 hM hp.1
  obtain ⟨⟨-, -, -, -, -, -, hcode, -, hy, hlen, hl⟩, hin, hse⟩ := cw
  obtain ⟨hx, hb, hml, ho, -⟩ := S
  obtain ⟨-, ⟨cellB, hcB, hoB, hclB⟩, hPc⟩ := hp
  intro T hT X
  rcases vx_callV X hx (C := C) (bytes := bytes) (maxL := maxL) (ret := ret) ho hl hin hse hcode hy hK (by rw [hT]; exact hcB) hoB hclB hg (hsize.trans hml.symm) (argsL := As) (rest := rest) (fun sig h => hn.trans (hlen sig h)) hstack hW (by rw [hb]; exact hdg)
    (fun vm₁ hW₁ => ⟨hf.1, hf.2, hPc (T.setVm vm₁) hT hW₁⟩) with ⟨v, vm₁, ⟨U', l2, c2, s2⟩, hW₁, X', ⟨g', mk, t, L, e1, e2, hq, h1, hL, h2, h3⟩, st⟩ | ⟨q, vm₁, ⟨U', l2, c2, s2⟩, hW₁, X', ⟨g', mk, t, L, E, ce, e1, e2, hq, hce, hcv, hcl, h1, hL, h2, h3⟩, st⟩
  · dsimp only [Pt.U, Pt.locs, Pt.cells, Pt.slots] at X' e1 e2 h1 h2 h3 st
    subst h1; subst h2; subst h3
    exact Or.inl ⟨v, (T.setVm vm₁).calling g' mk (Value.ref b :: As).toArray, t, U', L, hT, X', hL, e1, e2, hq, st⟩
  · dsimp only [Pt.U, Pt.locs, Pt.cells, Pt.slots] at X' e1 e2 h1 h2 h3 st hcl
    subst h1; subst h2; subst h3
    exact Or.inr ⟨q, (T.setVm vm₁).calling g' mk (Value.ref b :: As).toArray, t, U', L, E, ce, hT, X', hL, e1, e2, hq, hce, hcv, vx_cls hW₁ hcl, st⟩
theorem vx_runS (S : CallFix p m c cc nL s args Ts own) (hM : vx_Met l y ws rm Pc Qc XC mc ms free) (cw : CallB R s args own index y bytes maxL ret ws rm mc ms n ∧ (Cond.static y).before args s = true) (hp : PreS s H Pc As)
    (hg : g.method = m) (hn : As.length = n) (hsize : g.locals.size = nL) (hstack : g.stack = As.reverse ++ rest) (hW : 2 * g.monitorRoom + (rest.map fun v => v.category).sum ≤ 8) (hdg : decode cc g.pc = .ok (.invokestatic index, 3)) (hf : cells + mc ≤ R.cells ∧ slots + ms ≤ R.slots) :
    vx_Run p l e R s m args below meth c H locs cells slots mc ms g rest (Qc As.toArray) XC free := by
  have hK : vx_Back l R p e below s args y 3 8 (PreOf R mc ms Pc) (PostOf Qc mc ms free) (vx_Post XC mc ms free) := vx_callBack cw.1 hM hp.1
  obtain ⟨⟨-, -, -, -, -, -, hcode, hini, hy, hlen, hl⟩, hstt⟩ := cw
  obtain ⟨hx, hb, hml, ho, -⟩ := S
  intro T hT X
  rcases vx_callS X hx (bytes := bytes) (maxL := maxL) (ret := ret) ho hl hstt hini hcode hy hK hg (hsize.trans hml.symm) (argsL := As) (rest := rest) (fun sig h => hn.trans (hlen sig h)) hstack hW (by rw [hb]; exact hdg)
    (fun vm₁ hW₁ => ⟨hf.1, hf.2, hp.2 (T.setVm vm₁) hT hW₁⟩) with ⟨v, vm₁, ⟨U', l2, c2, s2⟩, hW₁, X', ⟨g', mk, t, L, e1, e2, hq, h1, hL, h2, h3⟩, st⟩ | ⟨q, vm₁, ⟨U', l2, c2, s2⟩, hW₁, X', ⟨g', mk, t, L, E, ce, e1, e2, hq, hce, hcv, hcl, h1, hL, h2, h3⟩, st⟩
  · dsimp only [Pt.U, Pt.locs, Pt.cells, Pt.slots] at X' e1 e2 h1 h2 h3 st
    subst h1; subst h2; subst h3
    exact Or.inl ⟨v, (T.setVm vm₁).calling g' mk As.toArray, t, U', L, hT, X', hL, e1, e2, hq, st⟩
  · dsimp only [Pt.U, Pt.locs, Pt.cells, Pt.slots] at X' e1 e2 h1 h2 h3 st hcl
    subst h1; subst h2; subst h3
    exact Or.inr ⟨q, (T.setVm vm₁).calling g' mk As.toArray, t, U', L, E, ce, hT, X', hL, e1, e2, hq, hce, hcv, vx_cls hW₁ hcl, st⟩
end Runs
section Rows
variable {p : Program} {l : Launch} {e : Env} {R : Room} {s : State} {m : MethodId} {args : Array Value} {below : List Frame} {meth : Method} {c : Code} {H : Heap} {locs : List Loc} {cells slots : Nat} {Q : State → Prop}
variable {mc ms : Nat} {free : Addr → Prop} {A0 A1 : Nat → Prop} {H0 : Heap} {a : Array Value} {pc : Nat} {ls : Array Slot} {st0 rest : List Value}
theorem vx_keep {st₀ t T' : State} {L : List Loc} (h0 : st₀.heap = H) (e1 : T'.heap = t.heap) (hS : va_S A0 H0 H locs) (hA : ∀ q, q < H.size → A1 q → A0 q) (hf : ∀ q, free q → A0 q) (hL : ∀ q ∈ L, free q.base) (hF : va_F A1 st₀ t) :
    H.size ≤ T'.heap.size ∧ (∀ q : Nat, q < H.size → ¬ A1 q → T'.heap[q]? = H[q]?) ∧ va_S A0 H0 T'.heap (locs ++ L) := by
  obtain ⟨hz, hk⟩ := hF
  rw [h0] at hz hk
  exact ⟨by rw [e1]; exact hz, fun q h1 h2 => by rw [e1]; exact hk q h1 h2,
    ⟨Nat.le_trans hS.1 (by rw [e1]; exact hz), fun q h1 h2 => by rw [e1, hk q (Nat.lt_of_lt_of_le h1 hS.1) (fun z => h2 (hA q (Nat.lt_of_lt_of_le h1 hS.1) z))]; exact hS.2.1 q h1 h2, fun q hq => by
      rcases List.mem_append.mp hq with h | h
      · exact hS.2.2 q h
      · exact hf _ (hL q h)⟩⟩
theorem vx_calli {S SX : Type} {post : Int32 → S → Prop} {px : SX → Prop} {B : S → State → Prop} {BX : String → SX → State → Prop} {AX : Nat → Prop} (hr : vx_Run p l e R s m args below meth c H locs cells slots mc ms (F0 m pc ls st0) rest (va_Qi post B A1 a) (vx_X px BX AX) free) (hS : va_S A0 H0 H locs) (hA : ∀ q, q < H.size → A1 q → A0 q) (hf : ∀ q, free q → A0 q) (hAX : ∀ q, q < H.size → AX q → A0 q)
    (kx : ∀ (E : String) (ce : Cell) (q9 : Addr) (u : SX) (t : State) (H1 : Heap) (locs1 : List Loc), t.heap = H1 → s.vm.Alike t.vm → px u → BX E u t → H.size ≤ H1.size → (∀ q : Nat, q < H.size → ¬ AX q → H1[q]? = H[q]?) → va_S A0 H0 H1 locs1 → H1[q9]? = some ce → ce.vm = .none → s.vm.findClass E = some ce.cls → vx_W p l e R s m args below meth c H1 locs1 (cells + mc) (slots + ms) Q (F0 m pc ls rest) q9)
    (kk : ∀ (r : Int32) (u : S) (t : State) (H1 : Heap) (locs1 : List Loc), t.heap = H1 → s.vm.Alike t.vm → post r u → B u t → H.size ≤ H1.size → (∀ q : Nat, q < H.size → ¬ A1 q → H1[q]? = H[q]?) → va_S A0 H0 H1 locs1 → W p l e R s m args below meth c H1 locs1 (cells + mc) (slots + ms) Q (F0 m (pc + 3) ls (.int r :: rest))) : W p l e R s m args below meth c H locs cells slots Q (F0 m pc ls st0) := by
  intro T hT X
  rcases hr T hT X with ⟨v, st₀, t, T', L, h0, X', hL, e1, e2, ⟨⟨r, u, hv, hp, hb⟩, hF⟩, st⟩ | ⟨q, st₀, t, T', L, E, ce, h0, X', hL, e1, e2, ⟨u, hp, hb, hF⟩, hce, hcv, hcl, st⟩
  · cases hv
    obtain ⟨k1, k2, k3⟩ := vx_keep h0 e1 hS hA hf hL hF
    obtain ⟨t2, a1, b1⟩ := kk r u t T'.heap (locs ++ L) e1.symm (by rw [← e2]; exact X'.warmed.alike) hp hb k1 k2 k3 T' rfl X'
    exact ⟨t2, st t2 a1, b1⟩
  · obtain ⟨k1, k2, k3⟩ := vx_keep h0 e1 hS hAX hf hL hF
    obtain ⟨t2, a1, b1⟩ := kx E ce q u t T'.heap (locs ++ L) e1.symm (by rw [← e2]; exact X'.warmed.alike) hp hb k1 k2 k3 (by rw [e1]; exact hce) hcv hcl T' rfl X'
    exact ⟨t2, st.trans a1, b1⟩
theorem vx_calll {S SX : Type} {post : Int64 → S → Prop} {px : SX → Prop} {B : S → State → Prop} {BX : String → SX → State → Prop} {AX : Nat → Prop} (hr : vx_Run p l e R s m args below meth c H locs cells slots mc ms (F0 m pc ls st0) rest (va_Ql post B A1 a) (vx_X px BX AX) free) (hS : va_S A0 H0 H locs) (hA : ∀ q, q < H.size → A1 q → A0 q) (hf : ∀ q, free q → A0 q) (hAX : ∀ q, q < H.size → AX q → A0 q)
    (kx : ∀ (E : String) (ce : Cell) (q9 : Addr) (u : SX) (t : State) (H1 : Heap) (locs1 : List Loc), t.heap = H1 → s.vm.Alike t.vm → px u → BX E u t → H.size ≤ H1.size → (∀ q : Nat, q < H.size → ¬ AX q → H1[q]? = H[q]?) → va_S A0 H0 H1 locs1 → H1[q9]? = some ce → ce.vm = .none → s.vm.findClass E = some ce.cls → vx_W p l e R s m args below meth c H1 locs1 (cells + mc) (slots + ms) Q (F0 m pc ls rest) q9)
    (kk : ∀ (r : Int64) (u : S) (t : State) (H1 : Heap) (locs1 : List Loc), t.heap = H1 → s.vm.Alike t.vm → post r u → B u t → H.size ≤ H1.size → (∀ q : Nat, q < H.size → ¬ A1 q → H1[q]? = H[q]?) → va_S A0 H0 H1 locs1 → W p l e R s m args below meth c H1 locs1 (cells + mc) (slots + ms) Q (F0 m (pc + 3) ls (.long r :: rest))) : W p l e R s m args below meth c H locs cells slots Q (F0 m pc ls st0) := by
  intro T hT X
  rcases hr T hT X with ⟨v, st₀, t, T', L, h0, X', hL, e1, e2, ⟨⟨r, u, hv, hp, hb⟩, hF⟩, st⟩ | ⟨q, st₀, t, T', L, E, ce, h0, X', hL, e1, e2, ⟨u, hp, hb, hF⟩, hce, hcv, hcl, st⟩
  · cases hv
    obtain ⟨k1, k2, k3⟩ := vx_keep h0 e1 hS hA hf hL hF
    obtain ⟨t2, a1, b1⟩ := kk r u t T'.heap (locs ++ L) e1.symm (by rw [← e2]; exact X'.warmed.alike) hp hb k1 k2 k3 T' rfl X'
    exact ⟨t2, st t2 a1, b1⟩
  · obtain ⟨k1, k2, k3⟩ := vx_keep h0 e1 hS hAX hf hL hF
    obtain ⟨t2, a1, b1⟩ := kx E ce q u t T'.heap (locs ++ L) e1.symm (by rw [← e2]; exact X'.warmed.alike) hp hb k1 k2 k3 (by rw [e1]; exact hce) hcv hcl T' rfl X'
    exact ⟨t2, st.trans a1, b1⟩
theorem vx_callf {S SX : Type} {post : UInt32 → S → Prop} {px : SX → Prop} {B : S → State → Prop} {BX : String → SX → State → Prop} {AX : Nat → Prop} (hr : vx_Run p l e R s m args below meth c H locs cells slots mc ms (F0 m pc ls st0) rest (va_Qf post B A1 a) (vx_X px BX AX) free) (hS : va_S A0 H0 H locs) (hA : ∀ q, q < H.size → A1 q → A0 q) (hf : ∀ q, free q → A0 q) (hAX : ∀ q, q < H.size → AX q → A0 q)
    (kx : ∀ (E : String) (ce : Cell) (q9 : Addr) (u : SX) (t : State) (H1 : Heap) (locs1 : List Loc), t.heap = H1 → s.vm.Alike t.vm → px u → BX E u t → H.size ≤ H1.size → (∀ q : Nat, q < H.size → ¬ AX q → H1[q]? = H[q]?) → va_S A0 H0 H1 locs1 → H1[q9]? = some ce → ce.vm = .none → s.vm.findClass E = some ce.cls → vx_W p l e R s m args below meth c H1 locs1 (cells + mc) (slots + ms) Q (F0 m pc ls rest) q9)
    (kk : ∀ (r : UInt32) (u : S) (t : State) (H1 : Heap) (locs1 : List Loc), t.heap = H1 → s.vm.Alike t.vm → post r u → B u t → H.size ≤ H1.size → (∀ q : Nat, q < H.size → ¬ A1 q → H1[q]? = H[q]?) → va_S A0 H0 H1 locs1 → W p l e R s m args below meth c H1 locs1 (cells + mc) (slots + ms) Q (F0 m (pc + 3) ls (.float r :: rest))) : W p l e R s m args below meth c H locs cells slots Q (F0 m pc ls st0) := by
  intro T hT X
  rcases hr T hT X with ⟨v, st₀, t, T', L, h0, X', hL, e1, e2, ⟨⟨r, u, hv, hp, hb⟩, hF⟩, st⟩ | ⟨q, st₀, t, T', L, E, ce, h0, X', hL, e1, e2, ⟨u, hp, hb, hF⟩, hce, hcv, hcl, st⟩
  · cases hv
    obtain ⟨k1, k2, k3⟩ := vx_keep h0 e1 hS hA hf hL hF
    obtain ⟨t2, a1, b1⟩ := kk r u t T'.heap (locs ++ L) e1.symm (by rw [← e2]; exact X'.warmed.alike) hp hb k1 k2 k3 T' rfl X'
    exact ⟨t2, st t2 a1, b1⟩
  · obtain ⟨k1, k2, k3⟩ := vx_keep h0 e1 hS hAX hf hL hF
    obtain ⟨t2, a1, b1⟩ := kx E ce q u t T'.heap (locs ++ L) e1.symm (by rw [← e2]; exact X'.warmed.alike) hp hb k1 k2 k3 (by rw [e1]; exact hce) hcv hcl T' rfl X'
    exact ⟨t2, st.trans a1, b1⟩
theorem vx_calld {S SX : Type} {post : UInt64 → S → Prop} {px : SX → Prop} {B : S → State → Prop} {BX : String → SX → State → Prop} {AX : Nat → Prop} (hr : vx_Run p l e R s m args below meth c H locs cells slots mc ms (F0 m pc ls st0) rest (va_Qd post B A1 a) (vx_X px BX AX) free) (hS : va_S A0 H0 H locs) (hA : ∀ q, q < H.size → A1 q → A0 q) (hf : ∀ q, free q → A0 q) (hAX : ∀ q, q < H.size → AX q → A0 q)
    (kx : ∀ (E : String) (ce : Cell) (q9 : Addr) (u : SX) (t : State) (H1 : Heap) (locs1 : List Loc), t.heap = H1 → s.vm.Alike t.vm → px u → BX E u t → H.size ≤ H1.size → (∀ q : Nat, q < H.size → ¬ AX q → H1[q]? = H[q]?) → va_S A0 H0 H1 locs1 → H1[q9]? = some ce → ce.vm = .none → s.vm.findClass E = some ce.cls → vx_W p l e R s m args below meth c H1 locs1 (cells + mc) (slots + ms) Q (F0 m pc ls rest) q9)
    (kk : ∀ (r : UInt64) (u : S) (t : State) (H1 : Heap) (locs1 : List Loc), t.heap = H1 → s.vm.Alike t.vm → post r u → B u t → H.size ≤ H1.size → (∀ q : Nat, q < H.size → ¬ A1 q → H1[q]? = H[q]?) → va_S A0 H0 H1 locs1 → W p l e R s m args below meth c H1 locs1 (cells + mc) (slots + ms) Q (F0 m (pc + 3) ls (.double r :: rest))) : W p l e R s m args below meth c H locs cells slots Q (F0 m pc ls st0) := by
  intro T hT X
  rcases hr T hT X with ⟨v, st₀, t, T', L, h0, X', hL, e1, e2, ⟨⟨r, u, hv, hp, hb⟩, hF⟩, st⟩ | ⟨q, st₀, t, T', L, E, ce, h0, X', hL, e1, e2, ⟨u, hp, hb, hF⟩, hce, hcv, hcl, st⟩
  · cases hv
    obtain ⟨k1, k2, k3⟩ := vx_keep h0 e1 hS hA hf hL hF
    obtain ⟨t2, a1, b1⟩ := kk r u t T'.heap (locs ++ L) e1.symm (by rw [← e2]; exact X'.warmed.alike) hp hb k1 k2 k3 T' rfl X'
    exact ⟨t2, st t2 a1, b1⟩
  · obtain ⟨k1, k2, k3⟩ := vx_keep h0 e1 hS hAX hf hL hF
    obtain ⟨t2, a1, b1⟩ := kx E ce q u t T'.heap (locs ++ L) e1.symm (by rw [← e2]; exact X'.warmed.alike) hp hb k1 k2 k3 (by rw [e1]; exact hce) hcv hcl T' rfl X'
    exact ⟨t2, st.trans a1, b1⟩
theorem vx_callv {S SX : Type} {post : S → Prop} {px : SX → Prop} {B : S → State → Prop} {BX : String → SX → State → Prop} {AX : Nat → Prop} (hr : vx_Run p l e R s m args below meth c H locs cells slots mc ms (F0 m pc ls st0) rest (va_Qv post B A1 a) (vx_X px BX AX) free) (hS : va_S A0 H0 H locs) (hA : ∀ q, q < H.size → A1 q → A0 q) (hf : ∀ q, free q → A0 q) (hAX : ∀ q, q < H.size → AX q → A0 q)
    (kx : ∀ (E : String) (ce : Cell) (q9 : Addr) (u : SX) (t : State) (H1 : Heap) (locs1 : List Loc), t.heap = H1 → s.vm.Alike t.vm → px u → BX E u t → H.size ≤ H1.size → (∀ q : Nat, q < H.size → ¬ AX q → H1[q]? = H[q]?) → va_S A0 H0 H1 locs1 → H1[q9]? = some ce → ce.vm = .none → s.vm.findClass E = some ce.cls → vx_W p l e R s m args below meth c H1 locs1 (cells + mc) (slots + ms) Q (F0 m pc ls rest) q9)
    (kk : ∀ (u : S) (t : State) (H1 : Heap) (locs1 : List Loc), t.heap = H1 → s.vm.Alike t.vm → post u → B u t → H.size ≤ H1.size → (∀ q : Nat, q < H.size → ¬ A1 q → H1[q]? = H[q]?) → va_S A0 H0 H1 locs1 → W p l e R s m args below meth c H1 locs1 (cells + mc) (slots + ms) Q (F0 m (pc + 3) ls (rest))) : W p l e R s m args below meth c H locs cells slots Q (F0 m pc ls st0) := by
  intro T hT X
  rcases hr T hT X with ⟨v, st₀, t, T', L, h0, X', hL, e1, e2, ⟨⟨u, hv, hp, hb⟩, hF⟩, st⟩ | ⟨q, st₀, t, T', L, E, ce, h0, X', hL, e1, e2, ⟨u, hp, hb, hF⟩, hce, hcv, hcl, st⟩
  · cases hv
    obtain ⟨k1, k2, k3⟩ := vx_keep h0 e1 hS hA hf hL hF
    obtain ⟨t2, a1, b1⟩ := kk u t T'.heap (locs ++ L) e1.symm (by rw [← e2]; exact X'.warmed.alike) hp hb k1 k2 k3 T' rfl X'
    exact ⟨t2, st t2 a1, b1⟩
  · obtain ⟨k1, k2, k3⟩ := vx_keep h0 e1 hS hAX hf hL hF
    obtain ⟨t2, a1, b1⟩ := kx E ce q u t T'.heap (locs ++ L) e1.symm (by rw [← e2]; exact X'.warmed.alike) hp hb k1 k2 k3 (by rw [e1]; exact hce) hcv hcl T' rfl X'
    exact ⟨t2, st.trans a1, b1⟩
/-! own rows: a throw that is caught in the method's own frame (the library's rows of this kind lie outside what a round imports) -/
def kc_Pass (pl : Platform) (s₀ : State) (d : ClassId) (pc : Nat) (th : ClassId) (y : ExceptionTableEntry) : Prop :=
  covers y pc = false ∨ (y.catchType ≠ 0 ∧ ∃ c, s₀.vm.ClassLinks pl d y.catchType c ∧ s₀.vm.assignable th c = false)
def kc_To (e : Env) (s : State) (f : JFrame) (a : Addr) (h : Handler) (vm' : Vm) : Prop :=
  ∀ (Q : Handler → Pre) (E : CtlPost) (d : Bool) (acts : List Action), wp (findHandler f a) Q E e d acts s ↔ Q h d acts (s.setVm vm')
theorem kc_row {Q : Handler → Pre} {E : CtlPost} {e : Env} {d : Bool} {acts : List Action} {s : State} {f : JFrame} {a : Addr} {x : ExceptionTableEntry} {t : List ExceptionTableEntry} {c : ClassId} {cell : Cell} (hx : covers x f.pc = true) (h0 : x.catchType ≠ 0)
    (hl : s.vm.ClassLinks e.platform f.method.cls x.catchType c) (hcell : s.heap[a]? = some cell) (hobj : ∀ k, cell.vm ≠ .statics k)
    (hk : ∃ k, s.vm.classes[cell.cls]? = some k) (hc : ∃ k, s.vm.classes[c]? = some k) :
    wp (findHandler.go f a (x :: t)) Q E e d acts s ↔ (if s.vm.assignable cell.cls c = true then Q (.found x.handlerPc) d acts (s.setVm (s.vm.noted f.method.cls x.catchType (.cls c)))
      else wp (findHandler.go f a t) Q E e d acts (s.setVm (s.vm.noted f.method.cls x.catchType (.cls c)))) := by
  simp only [covers] at hx
  obtain ⟨ha, ht⟩ := (resolveClass_links e.toSetting hl).op (op := VmOp.resolveClass f.method.cls x.catchType) rfl
  have hal : s.vm.Alike (s.vm.noted f.method.cls x.catchType (.cls c)) := (Vm.Alike.refl s.vm).noted _ _ _
  obtain ⟨k1, hk1⟩ := hk
  obtain ⟨k2, hk2⟩ := hc
  obtain ⟨k1', hk1', -⟩ := hal.2.2 _ _ hk1
  obtain ⟨k2', hk2', -⟩ := hal.2.2 _ _ hk2
  cases hfit : s.vm.assignable cell.cls c with
  | true =>
    have hfit' : (s.vm.noted f.method.cls x.catchType (.cls c)).assignable cell.cls c = true := by rw [hal.assignable]; exact hfit
    simp [findHandler.go, hx, h0, ha, ht, hcell, hobj, hk1', hk2', hfit', VmOp.dirties, VmOp.acts]
  | false =>
    have hfit' : (s.vm.noted f.method.cls x.catchType (.cls c)).assignable cell.cls c = false := by rw [hal.assignable]; exact hfit
    simp [findHandler.go, hx, h0, ha, ht, hcell, hobj, hk1', hk2', hfit', VmOp.dirties, VmOp.acts]
theorem kc_go {e : Env} {s₀ : State} {f : JFrame} {a : Addr} {cell : Cell} (hobj : ∀ k, cell.vm ≠ .statics k) (hk0 : ∃ k, s₀.vm.classes[cell.cls]? = some k)
    (x : ExceptionTableEntry) (rest : List ExceptionTableEntry) (hx : covers x f.pc = true) (h0 : x.catchType ≠ 0) {c : ClassId} (hl : s₀.vm.ClassLinks e.platform f.method.cls x.catchType c) (hfit : s₀.vm.assignable cell.cls c = true) :
    ∀ (pre : List ExceptionTableEntry) (S : State), s₀.WarmedH S.vm → S.heap[a]? = some cell → (∀ y ∈ pre, kc_Pass e.platform s₀ f.method.cls f.pc cell.cls y) →
      ∃ vm', s₀.WarmedH vm' ∧ ∀ (Q : Handler → Pre) (E : CtlPost) (d : Bool) (acts : List Action), wp (findHandler.go f a (pre ++ x :: rest)) Q E e d acts S ↔ Q (.found x.handlerPc) d acts (S.setVm vm') := by
  obtain ⟨k0, hk0⟩ := hk0
  intro pre
  induction pre with
  | nil =>
    intro S hW hcell _
    obtain ⟨k0', hk0', -⟩ := hW.alike.2.2 _ _ hk0
    obtain ⟨dk, _, _, kt, hd, _, _, _, _, hkt, _, hopen⟩ := hl.here
    obtain ⟨kt', hkt', -⟩ := hW.alike.2.2 _ _ hkt
    refine ⟨_, hW.noted hd hopen (State.rightAt_cls hl), fun Q E d acts => ?_⟩
    rw [List.nil_append, kc_row hx h0 (hW.classLinks hl) hcell hobj ⟨k0', hk0'⟩ ⟨kt', hkt'⟩, if_pos (by rw [hW.alike.assignable]; exact hfit)]
  | cons y ys ih =>
    intro S hW hcell hpass
    obtain ⟨k0', hk0', -⟩ := hW.alike.2.2 _ _ hk0
    have hrest : ∀ z ∈ ys, kc_Pass e.platform s₀ f.method.cls f.pc cell.cls z := fun z hz => hpass z (List.mem_cons_of_mem _ hz)
    by_cases hcov : covers y f.pc = true
    · rcases hpass y List.mem_cons_self with h | ⟨h1, c1, hl1, hno⟩
      · rw [h] at hcov; cases hcov
      · obtain ⟨dk, _, _, kt, hd, _, _, _, _, hkt, _, hopen⟩ := hl1.here
        obtain ⟨kt', hkt', -⟩ := hW.alike.2.2 _ _ hkt
        obtain ⟨vm', hW', hq⟩ := ih (S.setVm (S.vm.noted f.method.cls y.catchType (.cls c1))) (hW.noted hd hopen (State.rightAt_cls hl1)) hcell hrest
        refine ⟨vm', hW', fun Q E d acts => ?_⟩
        rw [List.cons_append, kc_row hcov h1 (hW.classLinks hl1) hcell hobj ⟨k0', hk0'⟩ ⟨kt', hkt'⟩, if_neg (by rw [hW.alike.assignable, hno]; decide)]
        exact hq Q E d acts
    · obtain ⟨vm', hW', hq⟩ := ih S hW hcell hrest
      refine ⟨vm', hW', fun Q E d acts => ?_⟩
      rw [List.cons_append, Jvm.W.findHandler_go_skip (by simpa using hcov)]
      exact hq Q E d acts
theorem kc_step {e : Env} {s : State} {a : Addr} {f : JFrame} {r : List Frame} {pc : Nat} {vm' : Vm} (hfind : kc_To e s f a (.found pc) vm') :
    (stepThrowing e s a (.java f :: r)).Is ((s.setVm vm').setFrames (.java { f with pc := pc, stack := [.ref a] } :: r)) [] := by
  simp only [stepThrowing, searchFrame, vmDo]
  generalize hr : Sem.go _ e false [] s = res
  obtain ⟨as, rfl, ha⟩ := Sem.eq_ok_of hr (a := Handler.found pc) (s' := s.setVm vm') (acts' := []) (by simp [hfind _ _ _ _])
  exact ⟨rfl, ha⟩
theorem kc_frames (u : State) (vm' : Vm) (F G : List Frame) : ((u.setFrames F).setVm vm').setFrames G = (u.setVm vm').setFrames G := by
  have h1 : (u.setFrames F).setVm vm' = (u.setVm vm').setFrames F := rfl
  rw [h1, State.setFrames_setFrames]
theorem kc_steps {tb : Tables} {e : Env} {s target : State} {g : JFrame} {c : Code} {below : List Frame} {a : Addr} (h : At s g.method c below) {pc : Nat} {vm' : Vm}
    (hfind : kc_To e ((s.setTop g).pushFrame (.throwing a)) g a (.found pc) vm') (hrest : Steps tb e below ((s.setVm vm').setTop { g with pc := pc, stack := [.ref a] }) target) :
    Steps tb e below ((s.setTop g).pushFrame (.throwing a)) target := by
  obtain ⟨hgo, hw⟩ := h.throwing a
  refine Steps.head hgo hw ?_
  rw [stepThread_throwing (frames_entered h.top _), (kc_step (s := (s.setTop g).pushFrame (.throwing a)) hfind).1]
  obtain ⟨g₀, hg⟩ := Option.isSome_iff_exists.mp h.top
  obtain ⟨r, hr⟩ := State.topJava?_eq_some.mp hg
  have hr' : (s.setVm vm').frames = .java g₀ :: r := hr
  rw [State.setTop_of_frames _ hr'] at hrest
  rw [hr, List.tail_cons, State.pushFrame, kc_frames, State.setTop_of_frames _ hr, kc_frames]
  exact hrest
theorem kc_caught {p : Program} {l : Launch} {e : Env} {R : Room} {s : State} {m : MethodId} {args : Array Value} {below : List Frame} {meth : Method} {c : Code} {T : State} {locs : List Loc} {cells slots : Nat}
    (X : Stand p l e R s m args below meth c T locs cells slots) (a : Addr) {g : JFrame} (hg : g.method = m) {cell : Cell} (hcell : T.heap[a]? = some cell) (hobj : cell.vm.isStatics = false) (hk0 : ∃ k, s.vm.classes[cell.cls]? = some k)
    (pre : List ExceptionTableEntry) (x : ExceptionTableEntry) (rest : List ExceptionTableEntry) (hsplit : c.exceptionTable.toList = pre ++ x :: rest)
    (hpass : ∀ y ∈ pre, kc_Pass e.platform s m.cls g.pc cell.cls y) (hx : covers x g.pc = true) (h0 : x.catchType ≠ 0) {cT : ClassId} (hl : s.vm.ClassLinks e.platform m.cls x.catchType cT) (hfit : s.vm.assignable cell.cls cT = true) :
    ∃ vm', Stand p l e R s m args below meth c (T.setVm vm') locs cells slots ∧
      ∀ target, Steps p.tables e below ((T.setVm vm').setTop { g with pc := x.handlerPc, stack := [.ref a] }) target → Steps p.tables e below ((T.setTop g).pushFrame (.throwing a)) target := by
  subst hg
  obtain ⟨vm', hW', hq⟩ := kc_go (e := e) (s₀ := s) (f := g) (a := a) (cell := cell) (fun k hk => by rw [hk] at hobj; cases hobj) hk0 x rest hx h0 hl hfit pre ((T.setTop g).pushFrame (.throwing a)) X.warmed hcell hpass
  refine ⟨vm', X.noted hW', fun target hrest => ?_⟩
  refine kc_steps X.here (vm' := vm') (fun Q E d acts => ?_) hrest
  rw [Jvm.W.findHandler_eq (s := (T.setTop g).pushFrame (.throwing a)) (meth := meth) (code := c) X.method' X.code, hsplit]
  exact hq Q E d acts
/-- caught by the row x of this method's table; the rows ahead don't take it -/
theorem vx_catch {own name : String} {E : String} {ce : Cell} {q : Addr} (hown : s.vm.findClass own = some m.cls) (pre : List ExceptionTableEntry) (x : ExceptionTableEntry) (suf : List ExceptionTableEntry) (hsplit : c.exceptionTable.toList = pre ++ x :: suf)
    (hpass : ∀ z ∈ pre, covers z pc = false ∨ (z.catchType ≠ 0 ∧ ∃ nm : String, (Cond.classLink own z.catchType nm).before args s = true ∧ va_Nc E nm s)) (hx : covers x pc = true) (h0 : x.catchType ≠ 0)
    (hlink : (Cond.classLink own x.catchType name).before args s = true) (hcast : (Cond.castable E name).before args s = true) (hcell : H[q]? = some ce) (hv : ce.vm = .none) (hcl : s.vm.findClass E = some ce.cls)
    (kk : W p l e R s m args below meth c H locs cells slots Q (F0 m x.handlerPc ls [.ref q])) : vx_W p l e R s m args below meth c H locs cells slots Q (F0 m pc ls rest) q := by
  intro T hT X
  have hpl : e.platform.magicAccessors = ({} : Platform).magicAccessors := by rw [X.admits.platform]
  obtain ⟨c3, c4, hc3, hc4, hasg⟩ := Cond.castable_spec hcast
  cases Option.some.inj (hc3.symm.trans hcl)
  obtain ⟨c5, hc5, hcl5⟩ := Cond.classLink_spec hown hlink e.platform hpl
  cases Option.some.inj (hc4.symm.trans hc5)
  obtain ⟨vm', X', st⟩ := kc_caught X q (g := F0 m pc ls rest) rfl (by rw [hT]; exact hcell) (by rw [hv]; rfl) (by obtain ⟨k9, h9, -⟩ := Vm.findClass_spec hcl; exact ⟨k9, h9⟩) pre x suf hsplit
    (fun z hz => by
      rcases hpass z hz with h | ⟨hz0, nm, hl1, hn1⟩
      · exact Or.inl h
      · obtain ⟨c6, hc6, hcl6⟩ := Cond.classLink_spec hown hl1 e.platform hpl
        obtain ⟨a8, b8, h1, h2, h3⟩ := hn1
        cases Option.some.inj (h1.symm.trans hcl)
        cases Option.some.inj (h2.symm.trans hc6)
        exact Or.inr ⟨hz0, _, hcl6, h3⟩) hx h0 hcl5 hasg
  obtain ⟨t, a1, b1⟩ := kk (T.setVm vm') hT X'
  exact ⟨t, st t a1, b1⟩
end Rows
section Ends
variable {p : Program} {l : Launch} {e : Env} {R : Room} {s : State} {m : MethodId} {args : Array Value} {below : List Frame} {meth : Method} {c : Code} {H : Heap} {locs : List Loc} {cells slots : Nat} {Q : State → Prop}
variable {mc ms : Nat} {free : Addr → Prop} {A0 A1 : Nat → Prop} {H0 : Heap} {a : Array Value} {ls : Array Slot} {st0 rest : List Value}
variable {Qc : Array Value → State → Outcome → State → Prop} {XC : String → State → State → Prop}
/-- what a body that may throw owes at its end -/
def vx_MQ (below : List Frame) (Qc : Array Value → State → Outcome → State → Prop) (XC : String → State → State → Prop) (a : Array Value) (s : State) (mc ms : Nat) (free : Addr → Prop) : State → Prop := fun t =>
  ∃ o, t.status = .running ∧ Ended t below o ∧ vx_Q Qc XC mc ms free a s o t
theorem vx_ret {g : JFrame} {mc ms : Nat} (k : W p l e R s m args below meth c H locs cells slots (MQ below Qc args s mc ms free) g) : W p l e R s m args below meth c H locs cells slots (vx_MQ below Qc XC args s mc ms free) g := by
  intro T hT X
  obtain ⟨t, a1, o, b1, b2, b3, b4⟩ := k T hT X
  exact ⟨t, a1, o, b1, b2, Or.inl ⟨b3, b4⟩⟩
/-- not caught here: it goes on to the caller -/
theorem vx_widen {g : JFrame} {q : Addr} {k n : Nat} (h1 : cells ≤ k) (h2 : slots ≤ n) (kk : vx_W p l e R s m args below meth c H locs k n Q g q) : vx_W p l e R s m args below meth c H locs cells slots Q g q := fun T hT X => kk T hT (stand_widen X h1 h2)
theorem vx_out {pc : Nat} {E : String} {ce : Cell} {q : Addr} {mc ms : Nat} (hout : ∀ x ∈ c.exceptionTable.toList, covers x pc = false) (hlocks : meth.locks = false) (hcell : H[q]? = some ce) (hv : ce.vm = .none) (hcl : s.vm.findClass E = some ce.cls)
    (hx : ∀ t : State, t.heap = H → s.vm.Alike t.vm → XC E s t) (hf : ∀ z ∈ locs, free z.base) (hc : cells ≤ mc) (hs : slots ≤ ms) :
    vx_W p l e R s m args below meth c H locs cells slots (vx_MQ below Qc XC args s mc ms free) (F0 m pc ls rest) q := by
  intro T hT X
  obtain ⟨st1, hrun, hend, hW, hsm⟩ := X.leaveThrown q (g := F0 m pc ls rest) rfl rfl rfl hout hlocks
  have hcell9 : (T.setFrames (.throwing q :: below)).heap[q]? = some ce := by
    show T.heap[q]? = some ce
    rw [hT]; exact hcell
  exact ⟨_, st1, .threw q, hrun, hend, Or.inr ⟨q, rfl, E, ce, locs, hx _ hT hW.alike, hcell9, hv, hcl, hW, hsm.mono hc hs, hf⟩⟩
theorem vx_frame {U : State} {k n : Nat} (h : s.sameButNew ({ U with vm := s.vm } : State) locs k n) : s.heap.size ≤ U.heap.size ∧ ∀ q : Nat, q < s.heap.size → (∀ z ∈ locs, z.base ≠ q) → U.heap[q]? = s.heap[q]? := by
  obtain ⟨-, h2, -, -, -, h6⟩ := h
  refine ⟨h2, fun q hq hz => ?_⟩
  obtain ⟨c9, e1, e2, e3, e4⟩ := h6 q _ (Array.getElem?_eq_getElem hq)
  have hs : c9.slots = (s.heap[q]).slots := Array.ext_getElem? fun i => e4 i fun hm => hz _ hm rfl
  have h9 : c9 = s.heap[q] := by
    rw [hs] at e2
    exact e2
  have e5 : U.heap[q]? = some c9 := e1
  rw [e5, h9, Array.getElem?_eq_getElem hq]
/-- the words of a throw but the four that speak of the heap -/
def vx_no (w : Cond) : Bool := decide (w ≠ .isRef (.static Bundle.tN "UNASSIGNED_STACK" Bundle.steD)) && decide (w ≠ .isRef (.static Bundle.tN "SUPPRESSED_SENTINEL" Bundle.listD)) && decide (w ≠ .laysStatic Bundle.tN "UNASSIGNED_STACK" Bundle.steD) && decide (w ≠ .laysStatic Bundle.tN "SUPPRESSED_SENTINEL" Bundle.listD)
def vx_at0 (own : String) (ic : Nat) (X : String) (names : List String) : List Cond := (Bundle.ownAtoms0 own ic X names).filter vx_no
def vx_atS (own : String) (ic : Nat) (X : String) (names : List String) : List Cond := (Bundle.ownAtoms own ic X names).filter vx_no
/-- a word that the tables alone decide, or a good one -/
def vx_ot (w : Cond) : Bool := w.onTables || goodWord w
theorem vx_ot_at {args a' : Array Value} {s U : State} {w : Cond} (hW : s.WarmedH U.vm) (hvm : s.vm = U.vm) (hg : vx_ot w = true) (h : w.before args s = true) : w.before a' U = true := by
  simp only [vx_ot, Bool.or_eq_true] at hg
  rcases hg with hg | hg
  · exact va_tabs hg hvm h
  · exact word_at hW (good_of_word hg) h
/-- a list's words: the good ones out of the method's own list, the others by premises of their own -/
theorem vx_hat {args : Array Value} {s : State} {L B : List Cond} (h1 : ∀ w ∈ L.filter goodWord, w.before args s = true) (h2 : ∀ w ∈ L.filter (fun w => !goodWord w), w ∈ B) (h3 : ∀ w ∈ B, w.before args s = true) : ∀ w ∈ L, w.before args s = true := by
  intro w hw
  by_cases g : goodWord w = true
  · exact h1 w (List.mem_filter.mpr ⟨hw, g⟩)
  · refine h3 w (h2 w (List.mem_filter.mpr ⟨hw, ?_⟩))
    show (!goodWord w) = true
    cases hgw : goodWord w
    · rfl
    · exact absurd hgw g
theorem vx_c {args : Array Value} {s : State} {w : Cond} {B : List Cond} (h : w.before args s = true) (t : ∀ w ∈ B, w.before args s = true) : ∀ w' ∈ w :: B, w'.before args s = true := fun w' h' => (List.mem_cons.mp h').elim (fun e => by rw [e]; exact h) (t w')
theorem vx_n {args : Array Value} {s : State} : ∀ w ∈ ([] : List Cond), w.before args s = true := fun _ h => nomatch h
theorem vx_own {args : Array Value} {s : State} {L : List Cond} (h1 : ∀ w ∈ L.filter vx_no, w.before args s = true)
    (hU : (Cond.isRef (.static Bundle.tN "UNASSIGNED_STACK" Bundle.steD)).before args s = true) (hN : (Cond.isRef (.static Bundle.tN "SUPPRESSED_SENTINEL" Bundle.listD)).before args s = true)
    (lU : (Cond.laysStatic Bundle.tN "UNASSIGNED_STACK" Bundle.steD).before args s = true) (lN : (Cond.laysStatic Bundle.tN "SUPPRESSED_SENTINEL" Bundle.listD).before args s = true) : ∀ w ∈ L, w.before args s = true := by
  intro w hw
  by_cases e1 : w = .isRef (.static Bundle.tN "UNASSIGNED_STACK" Bundle.steD)
  · rw [e1]; exact hU
  · by_cases e2 : w = .isRef (.static Bundle.tN "SUPPRESSED_SENTINEL" Bundle.listD)
    · rw [e2]; exact hN
    · by_cases e3 : w = .laysStatic Bundle.tN "UNASSIGNED_STACK" Bundle.steD
      · rw [e3]; exact lU
      · by_cases e4 : w = .laysStatic Bundle.tN "SUPPRESSED_SENTINEL" Bundle.listD
        · rw [e4]; exact lN
        · exact h1 w (List.mem_filter.mpr ⟨hw, by unfold vx_no; rw [decide_eq_true e1, decide_eq_true e2, decide_eq_true e3, decide_eq_true e4]; rfl⟩)
/-- where a static field lies, its class's statics cell in H -/
def vx_L (C n d : String) (A : Nat → Prop) (U : State) (H : Heap) : Prop := ∃ (c : ClassId) (k : Class) (i : Nat) (f : Field) (a : Nat) (cell : Cell), U.vm.findClass C = some c ∧ U.fieldFound? C n d = some (c, k, i, f) ∧ f.isStatic = true ∧ k.statics = some a ∧ H[a]? = some cell ∧ cell.vm.isStatics = true ∧ cell.cls = c ∧ f.slot < cell.slots.size ∧ k.staticTypes[f.slot]? = some f.type ∧ ¬ A a
theorem vx_L.moved {C n d : String} {A : Nat → Prop} {u U : State} {H : Heap} (hvm : u.vm.Alike U.vm) (h : vx_L C n d A u H) : vx_L C n d A U H := by
  obtain ⟨c, k, i, f, a, cell, h1, h2, h3, h4, h5, h6, h7, h8, h9, h10⟩ := h
  obtain ⟨k', hi', he⟩ := State.fieldFound?_setVm hvm h2
  exact ⟨c, k', i, f, a, cell, by rw [hvm.findClass]; exact h1, hi', h3, by rw [he]; exact h4, h5, h6, h7, h8, by rw [he]; exact h9, h10⟩
theorem vx_L.kept {C n d : String} {A : Nat → Prop} {U : State} {H H1 : Heap} (h : vx_L C n d A U H) (hq : ∀ a : Nat, a < H.size → ¬ A a → H1[a]? = H[a]?) : vx_L C n d A U H1 := by
  obtain ⟨c, k, i, f, a, cell, h1, h2, h3, h4, h5, h6, h7, h8, h9, h10⟩ := h
  exact ⟨c, k, i, f, a, cell, h1, h2, h3, h4, by rw [hq a (Array.getElem?_eq_some_iff.mp h5).1 h10]; exact h5, h6, h7, h8, h9, h10⟩
theorem vx_L.narrow {C n d : String} {A B : Nat → Prop} {U : State} {H : Heap} (h : vx_L C n d A U H) (hAB : ∀ q, B q → A q) : vx_L C n d B U H := by
  obtain ⟨c, k, i, f, a, cell, h1, h2, h3, h4, h5, h6, h7, h8, h9, h10⟩ := h
  exact ⟨c, k, i, f, a, cell, h1, h2, h3, h4, h5, h6, h7, h8, h9, fun z => h10 (hAB _ z)⟩
theorem vx_L.word {C n d : String} {A : Nat → Prop} {s : State} {args : Array Value} (h : vx_L C n d A s s.heap) : (Cond.laysStatic C n d).before args s = true := by
  obtain ⟨c, k, i, f, a, cell, h1, h2, h3, h4, h5, h6, h7, h8, h9, -⟩ := h
  show (Cond.laysStatic C n d).holds args s none s [] = true
  exact Cond.laysStatic_of h1 h2 h3 h4 h5 h6 h7 h8 h9
/-- .. and what it holds: null or some reference -/
def vx_Zq (C n d : String) (A : Nat → Prop) (U : State) (H : Heap) : Prop := va_Zq C n d A U H ∧ vx_L C n d A U H
theorem vx_Zq.moved {C n d : String} {A : Nat → Prop} {u U : State} {H : Heap} (hvm : u.vm.Alike U.vm) (h : vx_Zq C n d A u H) : vx_Zq C n d A U H := ⟨va_Zq.moved hvm h.1, vx_L.moved hvm h.2⟩
theorem vx_Zq.kept {C n d : String} {A : Nat → Prop} {U : State} {H H1 : Heap} (h : vx_Zq C n d A U H) (hq : ∀ a : Nat, a < H.size → ¬ A a → H1[a]? = H[a]?) : vx_Zq C n d A U H1 := ⟨va_Zq.kept h.1 hq, vx_L.kept h.2 hq⟩
theorem vx_Zq.narrow {C n d : String} {A B : Nat → Prop} {U : State} {H : Heap} (h : vx_Zq C n d A U H) (hAB : ∀ q, B q → A q) : vx_Zq C n d B U H := ⟨va_Zq.narrow h.1 hAB, vx_L.narrow h.2 hAB⟩
theorem vx_Zqof {args : Array Value} {s : State} {C n d : String} {A : Nat → Prop} (hl : (Cond.laysStatic C n d).before args s = true) (hini : (Cond.initialized C).before args s = true) (h : (Cond.isRef (.static C n d)).before args s = true) (hA : ∀ a : Nat, a < s.heap.size → ¬ A a) : vx_Zq C n d A s s.heap := by
  refine ⟨va_Zqof hl hini h hA, ?_⟩
  obtain ⟨c, k, i, f, a, cell, h1, h2, h3, h4, h5, h6, h7, h8, h9⟩ := Cond.laysStatic_spec hl
  exact ⟨c, k, i, f, a, cell, h1, h2, h3, h4, h5, h6, h7, h8, h9, hA a (Array.getElem?_eq_some_iff.mp h5).1⟩
theorem vx_isRef {C n d : String} {v : Value} {A : Nat → Prop} {s : State} {args : Array Value} (h : va_Z C n d v A s s.heap) (hv : v.isRef = true) : (Cond.isRef (.static C n d)).before args s = true := by
  obtain ⟨cf, kf, fi, f, a, cell, h1, h2, h3, h4, h5, h6, h7, -⟩ := h
  have he : (Term.static C n d).eval args s none [] s = some v := by
    simp [Term.eval, State.fieldNamed?, h1, h2, h4, h5, h6, h7]
  simp only [Cond.before, Cond.holds, Cond.value, he]
  cases v <;> simp_all [Value.isRef]
theorem vx_isRefq {C n d : String} {A : Nat → Prop} {s : State} {args : Array Value} (h : va_Zq C n d A s s.heap) : (Cond.isRef (.static C n d)).before args s = true := by
  rcases h with h | ⟨t, h⟩
  · exact vx_isRef h rfl
  · exact vx_isRef h rfl
/-- the same frame, seen from here: as if the method were called anew in this heap -/
theorem vx_rebase {T : State} (X : Stand p l e R s m args below meth c T locs cells slots) {R' : Room} (hf : R'.frames ≤ R.frames) (hl : R'.locals ≤ R.locals) (hc : cells + R'.cells ≤ R.cells) (hs : slots + R'.slots ≤ R.slots) :
    Stand p l e R' ((T.setVm s.vm).setFrames (.invoking m args :: below)) m args below meth c T [] 0 0 := by
  have htop : (T.setVm s.vm).topJava?.isSome := X.here.top
  have hF : ((T.setVm s.vm).setFrames (.invoking m args :: below)).frames = .invoking m args :: below := State.frames_setFrames _ (State.cur_lt_of_top htop)
  obtain ⟨g₀, hg0⟩ := Option.isSome_iff_exists.mp htop
  obtain ⟨r, hr⟩ := State.topJava?_eq_some.mp hg0
  have hl9 : e.platform.stackLimits (T.setVm s.vm).me = e.platform.stackLimits s.me := X.limits
  have hb9 : (T.setVm s.vm).me.stackBytes = s.me.stackBytes := X.bytes
  refine ⟨X.admits, X.cas, X.clock, hF, ?_, X.hears, X.method, X.code, X.here, X.tail, X.warmed, ?_, ?_, ?_⟩
  · have h := X.room
    have hU : ((T.setVm s.vm).setFrames (.invoking m args :: below)).localsInUse = s.localsInUse := by
      rw [State.localsInUse_invoking hF (meth := meth) (c := c) X.method X.code, State.localsInUse_invoking X.frames X.method X.code]
    simp only [State.hasRoom, Bool.and_eq_true, decide_eq_true_eq] at h ⊢
    obtain ⟨⟨⟨⟨h1, h2, h3, h4, h5, h6⟩, h7⟩, h8⟩, h9⟩ := h
    rw [X.frames, List.length_cons] at h2 h3
    have q1 := X.heapSize
    have q2 := X.used
    simp only [hF, hU, List.length_cons, State.stackLimits_setFrames, State.stackBytes_setFrames, hl9, hb9]
    refine ⟨⟨⟨⟨by omega, by omega, by omega, by omega, by omega, h6⟩, ?_⟩, ?_⟩, X.book⟩
    · show T.heap.size + R'.cells ≤ e.platform.maxCells
      omega
    · show T.slotsUsed + R'.slots ≤ e.platform.maxSlots
      omega
  · rw [State.stackLimits_setFrames]; rfl
  · rw [State.stackBytes_setFrames]; rfl
  · refine ⟨?_, Nat.le_refl _, Nat.le_refl _, ?_, ?_, fun a c9 h9 => ⟨c9, h9, rfl, rfl, fun _ _ => rfl⟩⟩
    · obtain ⟨t, ht, -⟩ := State.frames_cons hr
      show T.setVm s.vm = { ((T.setVm s.vm).setFrames (.invoking m args :: below)).setFrames (T.setVm s.vm).frames with heap := T.heap, slotsUsed := T.slotsUsed }
      rw [State.setFrames_setFrames, State.setFrames_self ht]
      rfl
    · show T.slotsUsed = T.slotsUsed + ((T.heap.toList.drop T.heap.size).map (·.slots.size)).sum
      rw [List.drop_eq_nil_of_le (Nat.le_of_eq Array.length_toList)]
      rfl
    · show ((T.heap.toList.drop T.heap.size).map (·.slots.size)).sum ≤ 0
      rw [List.drop_eq_nil_of_le (Nat.le_of_eq Array.length_toList)]
      exact Nat.le_refl _
/-- 'throw new E()': new; dup; invokespecial; athrow -/
theorem vx_throw0 {cc : ByteArray} {pc : Nat} (hexec : p.tables.exec = Jvm.exec) (hb : c.code = cc) (hl : l.stackTraces = false) {own cls : String} {names : List String} {ik ic mc ms : Nat} {A : Nat → Prop}
    (hown : s.vm.findClass own = some m.cls) (hcls : Bundle.fit cls = true) (hnames : ∀ n ∈ names, Bundle.fit n = true)
    (hk : (Cond.classLink own ik cls).before args s = true) (hini : (Cond.initialized cls).before args s = true) (hat : ∀ w ∈ vx_at0 own ic cls names, w.before args s = true)
    (hgood : ∀ w ∈ Cond.classLink own ik cls :: Cond.initialized cls :: vx_at0 own ic cls names, vx_ot w = true)
    (hU : vx_Zq Bundle.tN "UNASSIGNED_STACK" Bundle.steD A s s.heap) (hN : vx_Zq Bundle.tN "SUPPRESSED_SENTINEL" Bundle.listD A s s.heap) (hS : va_S A s.heap H locs) (hsize : ls.size = c.maxLocals)
    (d0 : decode cc pc = .ok (.new ik, 3)) (d3 : decode cc (pc + 3) = .ok (.dup, 1)) (d4 : decode cc (pc + 4) = .ok (.invokespecial ic, 3)) (d7 : decode cc (pc + 7) = .ok (.athrow, 1))
    (hout : ∀ x ∈ c.exceptionTable.toList, covers x (pc + 7) = false)
    (hRframes : names.length + 3 < R.frames) (hRlocals : (rest.map fun v => v.category).sum + (13 * (names.length + 1) + 42) ≤ R.locals) (hRcells : cells + 1 ≤ R.cells) (hRslots : slots + 6 ≤ R.slots) (hlocks : meth.locks = false)
    (hx : ∀ t : State, s.vm.Alike t.vm → H.size ≤ t.heap.size → (∀ q : Nat, q < H.size → t.heap[q]? = H[q]?) → XC cls s t)
    (hf : ∀ z ∈ locs, free z.base) (hc : cells + 1 ≤ mc) (hs : slots + 6 ≤ ms) :
    W p l e R s m args below meth c H locs cells slots (vx_MQ below Qc XC args s mc ms free) (F0 m pc ls rest) := by
  intro T hT X
  have htr : e.platform.stackTraces = false := (show e.platform.stackTraces = l.stackTraces by rw [X.admits.platform]).trans hl
  have Y := vx_rebase X (R' := { frames := R.frames, locals := R.locals, cells := 1, slots := 6 }) (Nat.le_refl _) (Nat.le_refl _) hRcells hRslots
  obtain ⟨s', hA⟩ : ∃ z, z = (T.setVm s.vm).setFrames (.invoking m args :: below) := ⟨_, rfl⟩
  rw [← hA] at Y
  have hvm : s'.vm = s.vm := by rw [hA]; rfl
  have hhp : s'.heap = H := by rw [hA]; exact hT
  have hW0 : s.WarmedH s'.vm := by rw [hvm]; exact State.WarmedH.refl s
  have hat' : ∀ w ∈ vx_at0 own ic cls names, w.before args s' = true := fun w hw => vx_ot_at hW0 hvm.symm (hgood w (List.mem_cons_of_mem _ (List.mem_cons_of_mem _ hw))) (hat w hw)
  have hk' : (Cond.classLink own ik cls).before args s' = true := vx_ot_at hW0 hvm.symm (hgood _ List.mem_cons_self) hk
  have hini' : (Cond.initialized cls).before args s' = true := vx_ot_at hW0 hvm.symm (hgood _ (List.mem_cons_of_mem _ List.mem_cons_self)) hini
  have hU' : vx_Zq Bundle.tN "UNASSIGNED_STACK" Bundle.steD A s' s'.heap := by rw [hhp]; exact vx_Zq.moved hW0.alike (hU.kept hS.2.1)
  have hN' : vx_Zq Bundle.tN "SUPPRESSED_SENTINEL" Bundle.listD A s' s'.heap := by rw [hhp]; exact vx_Zq.moved hW0.alike (hN.kept hS.2.1)
  have h : ∀ w ∈ Bundle.ownAtoms0 own ic cls names, w.before args s' = true := vx_own hat' (vx_isRefq hU'.1) (vx_isRefq hN'.1) hU'.2.word hN'.2.word
  have hown' : s'.vm.findClass own = some m.cls := by rw [hvm]; exact hown
  have hins : (Cond.instantiable cls 6).before args s' = true := h _ (by simp [Bundle.ownAtoms0])
  obtain ⟨vm₁, cX, kX, hfX, hkX, -, -, X₁, st1⟩ := Y.newCold hexec (own := own) (C := cls) (index := ik) (n := 6) hown' hk' hins hini'
    (g := F0 m pc ls rest) rfl (by rw [hb]; exact d0) (Nat.le_refl _) (Nat.le_refl _)
  generalize hT1 : (T.setVm vm₁).pushCell { cls := cX, slots := kX.instanceTypes.map defaultValue, vm := .none } = T1 at X₁ st1
  have hcat : (Value.ref T.heap.size).category = 1 := rfl
  have hcellA : T1.heap[T.heap.size]? = some (freshCell cX kX) := by rw [← hT1]; exact State.heap_pushCell_size _ _
  have d3' : decode c.code (pc + 3) = .ok (.dup, 1) := by rw [hb]; exact d3
  obtain ⟨U, hsteps, hrun, hend, hW, hsame, ce, hce, hO⟩ := X₁.ctorThrow0 hexec htr (own := own) (cls := cls) (names := names) (ic := ic) hown' hcls hnames h (fun x hx => nomatch hx) hfX hkX hcellA (by rw [hhp, hT]; exact Nat.le_refl _)
    (g := { method := m, pc := pc + 4, locals := ls, stack := .ref T.heap.size :: .ref T.heap.size :: rest, locked := none }) rfl hsize rfl rfl (rest := rest) rfl
    (by rw [hb]; exact d4) (by rw [hb]; exact d7) hout hRframes (by simp only [List.map_cons, List.sum_cons, hcat]; omega) hlocks
  obtain ⟨f1, f2⟩ := vx_frame hsame
  rw [hhp] at f1 f2
  have hWs : s.WarmedH U.vm := State.WarmedH.trans hW0 hW
  have hcl : s.vm.findClass cls = some ce.cls := by
    have h9 := hO.cls
    rw [hvm] at h9
    exact h9
  have hall : s.sameButNew ({ U with vm := s.vm } : State) locs mc ms := by
    subst hA
    obtain ⟨e1, e2⟩ := hsame
    rw [State.setFrames_setFrames] at e1
    have h2 : (T.setVm s.vm).sameButNew ({ U with vm := s.vm } : State) [] (0 + 1) (0 + 6) := ⟨e1, e2⟩
    have h3 := X.same.trans h2
    rw [List.append_nil] at h3
    exact h3.mono hc hs
  refine ⟨U, ?_, .threw T.heap.size, hrun, hend, Or.inr ⟨T.heap.size, rfl, cls, ce, locs, hx U hWs.alike f1 (fun q hq => f2 q hq (fun z hz => nomatch hz)), hce, hO.vm, hcl, hWs, hall, hf⟩⟩
  refine st1 _ ?_
  show Steps p.tables e below (T1.setTop { method := m, pc := pc + 3, locals := ls, stack := .ref T.heap.size :: rest, locked := none }) _
  jvm_step X₁.here [X₁.here.top, hexec, d3', Value.category]
  exact hsteps
/-- 'throw new E("text")': new; dup; ldc; invokespecial; athrow -/
theorem vx_throwS {cc : ByteArray} {pc : Nat} (hexec : p.tables.exec = Jvm.exec) (hb : c.code = cc) (hl : l.stackTraces = false) {own cls text : String} {names : List String} {ik is ic mc ms sa : Nat} {A : Nat → Prop}
    (hown : s.vm.findClass own = some m.cls) (hcls : Bundle.fit cls = true) (hnames : ∀ n ∈ names, Bundle.fit n = true)
    (hk : (Cond.classLink own ik cls).before args s = true) (hini : (Cond.initialized cls).before args s = true) (hstr : vk_R own is text sa s) (hat : ∀ w ∈ vx_atS own ic cls names, w.before args s = true)
    (hgood : ∀ w ∈ Cond.classLink own ik cls :: Cond.initialized cls :: vx_atS own ic cls names, vx_ot w = true)
    (hU : vx_Zq Bundle.tN "UNASSIGNED_STACK" Bundle.steD A s s.heap) (hN : vx_Zq Bundle.tN "SUPPRESSED_SENTINEL" Bundle.listD A s s.heap) (hS : va_S A s.heap H locs) (hsize : ls.size = c.maxLocals)
    (d0 : decode cc pc = .ok (.new ik, 3)) (d3 : decode cc (pc + 3) = .ok (.dup, 1)) (d4 : decode cc (pc + 4) = .ok (.ldc is, 2)) (d6 : decode cc (pc + 6) = .ok (.invokespecial ic, 3)) (d9 : decode cc (pc + 9) = .ok (.athrow, 1))
    (hout : ∀ x ∈ c.exceptionTable.toList, covers x (pc + 9) = false)
    (hRframes : names.length + 3 < R.frames) (hRlocals : (rest.map fun v => v.category).sum + (13 * (names.length + 1) + 43) ≤ R.locals) (hRcells : cells + 1 ≤ R.cells) (hRslots : slots + 6 ≤ R.slots) (hlocks : meth.locks = false)
    (hx : ∀ t : State, s.vm.Alike t.vm → H.size ≤ t.heap.size → (∀ q : Nat, q < H.size → t.heap[q]? = H[q]?) → XC cls s t)
    (hf : ∀ z ∈ locs, free z.base) (hc : cells + 1 ≤ mc) (hs : slots + 6 ≤ ms) :
    W p l e R s m args below meth c H locs cells slots (vx_MQ below Qc XC args s mc ms free) (F0 m pc ls rest) := by
  intro T hT X
  have htr : e.platform.stackTraces = false := (show e.platform.stackTraces = l.stackTraces by rw [X.admits.platform]).trans hl
  have Y := vx_rebase X (R' := { frames := R.frames, locals := R.locals, cells := 1, slots := 6 }) (Nat.le_refl _) (Nat.le_refl _) hRcells hRslots
  obtain ⟨s', hA⟩ : ∃ z, z = (T.setVm s.vm).setFrames (.invoking m args :: below) := ⟨_, rfl⟩
  rw [← hA] at Y
  have hvm : s'.vm = s.vm := by rw [hA]; rfl
  have hhp : s'.heap = H := by rw [hA]; exact hT
  have hW0 : s.WarmedH s'.vm := by rw [hvm]; exact State.WarmedH.refl s
  have hat' : ∀ w ∈ vx_atS own ic cls names, w.before args s' = true := fun w hw => vx_ot_at hW0 hvm.symm (hgood w (List.mem_cons_of_mem _ (List.mem_cons_of_mem _ hw))) (hat w hw)
  have hk' : (Cond.classLink own ik cls).before args s' = true := vx_ot_at hW0 hvm.symm (hgood _ List.mem_cons_self) hk
  have hini' : (Cond.initialized cls).before args s' = true := vx_ot_at hW0 hvm.symm (hgood _ (List.mem_cons_of_mem _ List.mem_cons_self)) hini
  have hU' : vx_Zq Bundle.tN "UNASSIGNED_STACK" Bundle.steD A s' s'.heap := by rw [hhp]; exact vx_Zq.moved hW0.alike (hU.kept hS.2.1)
  have hN' : vx_Zq Bundle.tN "SUPPRESSED_SENTINEL" Bundle.listD A s' s'.heap := by rw [hhp]; exact vx_Zq.moved hW0.alike (hN.kept hS.2.1)
  have h : ∀ w ∈ Bundle.ownAtoms own ic cls names, w.before args s' = true := vx_own hat' (vx_isRefq hU'.1) (vx_isRefq hN'.1) hU'.2.word hN'.2.word
  have hown' : s'.vm.findClass own = some m.cls := by rw [hvm]; exact hown
  have hins : (Cond.instantiable cls 6).before args s' = true := h _ (by simp [Bundle.ownAtoms])
  obtain ⟨vm₁, cX, kX, hfX, hkX, -, -, X₁, st1⟩ := Y.newCold hexec (own := own) (C := cls) (index := ik) (n := 6) hown' hk' hins hini'
    (g := F0 m pc ls rest) rfl (by rw [hb]; exact d0) (Nat.le_refl _) (Nat.le_refl _)
  generalize hT1 : (T.setVm vm₁).pushCell { cls := cX, slots := kX.instanceTypes.map defaultValue, vm := .none } = T1 at X₁ st1
  have hcat : (Value.ref T.heap.size).category = 1 := rfl
  have hcellA : T1.heap[T.heap.size]? = some (freshCell cX kX) := by rw [← hT1]; exact State.heap_pushCell_size _ _
  have d3' : decode c.code (pc + 3) = .ok (.dup, 1) := by rw [hb]; exact d3
  have d4' : decode c.code (pc + 4) = .ok (.ldc is, 2) := by rw [hb]; exact d4
  have hstr' : vk_R own is text sa s' := vk_R.warm hW0 hstr
  obtain ⟨U, hsteps, hrun, hend, hW, hsame, ce, hce, hO⟩ := X₁.ctorThrowS hexec htr (own := own) (cls := cls) (names := names) (ic := ic) hown' hcls hnames h (fun x hx => nomatch hx) hfX hkX hcellA (by rw [hhp, hT]; exact Nat.le_refl _) (msg := .ref sa) rfl
    (g := { method := m, pc := pc + 6, locals := ls, stack := .ref sa :: .ref T.heap.size :: .ref T.heap.size :: rest, locked := none }) rfl hsize rfl rfl (rest := rest) rfl
    (by rw [hb]; exact d6) (by rw [hb]; exact d9) hout hRframes (by simp only [List.map_cons, List.sum_cons, hcat]; omega) hlocks
  obtain ⟨f1, f2⟩ := vx_frame hsame
  rw [hhp] at f1 f2
  have hWs : s.WarmedH U.vm := State.WarmedH.trans hW0 hW
  have hcl : s.vm.findClass cls = some ce.cls := by
    have h9 := hO.cls
    rw [hvm] at h9
    exact h9
  have hall : s.sameButNew ({ U with vm := s.vm } : State) locs mc ms := by
    subst hA
    obtain ⟨e1, e2⟩ := hsame
    rw [State.setFrames_setFrames] at e1
    have h2 : (T.setVm s.vm).sameButNew ({ U with vm := s.vm } : State) [] (0 + 1) (0 + 6) := ⟨e1, e2⟩
    have h3 := X.same.trans h2
    rw [List.append_nil] at h3
    exact h3.mono hc hs
  refine ⟨U, ?_, .threw T.heap.size, hrun, hend, Or.inr ⟨T.heap.size, rfl, cls, ce, locs, hx U hWs.alike f1 (fun q hq => f2 q hq (fun z hz => nomatch hz)), hce, hO.vm, hcl, hWs, hall, hf⟩⟩
  refine st1 _ ?_
  show Steps p.tables e below (T1.setTop { method := m, pc := pc + 3, locals := ls, stack := .ref T.heap.size :: rest, locked := none }) _
  jvm_step X₁.here [X₁.here.top, hexec, d3', Value.category]
  exact X₁.ldcString hexec (own := own) (text := text) (index := is) (a := sa) hown' hstr'.1 hstr'.2
    (g := { method := m, pc := pc + 4, locals := ls, stack := .ref T.heap.size :: .ref T.heap.size :: rest, locked := none }) rfl d4' _ hsteps
/-- 'throw new E("text")', the text by a wide index -/
theorem vx_throwSW {cc : ByteArray} {pc : Nat} (hexec : p.tables.exec = Jvm.exec) (hb : c.code = cc) (hl : l.stackTraces = false) {own cls text : String} {names : List String} {ik is ic mc ms sa : Nat} {A : Nat → Prop}
    (hown : s.vm.findClass own = some m.cls) (hcls : Bundle.fit cls = true) (hnames : ∀ n ∈ names, Bundle.fit n = true)
    (hk : (Cond.classLink own ik cls).before args s = true) (hini : (Cond.initialized cls).before args s = true) (hstr : vk_R own is text sa s) (hat : ∀ w ∈ vx_atS own ic cls names, w.before args s = true)
    (hgood : ∀ w ∈ Cond.classLink own ik cls :: Cond.initialized cls :: vx_atS own ic cls names, vx_ot w = true)
    (hU : vx_Zq Bundle.tN "UNASSIGNED_STACK" Bundle.steD A s s.heap) (hN : vx_Zq Bundle.tN "SUPPRESSED_SENTINEL" Bundle.listD A s s.heap) (hS : va_S A s.heap H locs) (hsize : ls.size = c.maxLocals)
    (d0 : decode cc pc = .ok (.new ik, 3)) (d3 : decode cc (pc + 3) = .ok (.dup, 1)) (d4 : decode cc (pc + 4) = .ok (.ldc_w is, 3)) (d7 : decode cc (pc + 7) = .ok (.invokespecial ic, 3)) (d10 : decode cc (pc + 10) = .ok (.athrow, 1))
    (hout : ∀ x ∈ c.exceptionTable.toList, covers x (pc + 10) = false)
    (hRframes : names.length + 3 < R.frames) (hRlocals : (rest.map fun v => v.category).sum + (13 * (names.length + 1) + 43) ≤ R.locals) (hRcells : cells + 1 ≤ R.cells) (hRslots : slots + 6 ≤ R.slots) (hlocks : meth.locks = false)
    (hx : ∀ t : State, s.vm.Alike t.vm → H.size ≤ t.heap.size → (∀ q : Nat, q < H.size → t.heap[q]? = H[q]?) → XC cls s t)
    (hf : ∀ z ∈ locs, free z.base) (hc : cells + 1 ≤ mc) (hs : slots + 6 ≤ ms) :
    W p l e R s m args below meth c H locs cells slots (vx_MQ below Qc XC args s mc ms free) (F0 m pc ls rest) := by
  intro T hT X
  have htr : e.platform.stackTraces = false := (show e.platform.stackTraces = l.stackTraces by rw [X.admits.platform]).trans hl
  have Y := vx_rebase X (R' := { frames := R.frames, locals := R.locals, cells := 1, slots := 6 }) (Nat.le_refl _) (Nat.le_refl _) hRcells hRslots
  obtain ⟨s', hA⟩ : ∃ z, z = (T.setVm s.vm).setFrames (.invoking m args :: below) := ⟨_, rfl⟩
  rw [← hA] at Y
  have hvm : s'.vm = s.vm := by rw [hA]; rfl
  have hhp : s'.heap = H := by rw [hA]; exact hT
  have hW0 : s.WarmedH s'.vm := by rw [hvm]; exact State.WarmedH.refl s
  have hat' : ∀ w ∈ vx_atS own ic cls names, w.before args s' = true := fun w hw => vx_ot_at hW0 hvm.symm (hgood w (List.mem_cons_of_mem _ (List.mem_cons_of_mem _ hw))) (hat w hw)
  have hk' : (Cond.classLink own ik cls).before args s' = true := vx_ot_at hW0 hvm.symm (hgood _ List.mem_cons_self) hk
  have hini' : (Cond.initialized cls).before args s' = true := vx_ot_at hW0 hvm.symm (hgood _ (List.mem_cons_of_mem _ List.mem_cons_self)) hini
  have hU' : vx_Zq Bundle.tN "UNASSIGNED_STACK" Bundle.steD A s' s'.heap := by rw [hhp]; exact vx_Zq.moved hW0.alike (hU.kept hS.2.1)
  have hN' : vx_Zq Bundle.tN "SUPPRESSED_SENTINEL" Bundle.listD A s' s'.heap := by rw [hhp]; exact vx_Zq.moved hW0.alike (hN.kept hS.2.1)
  have h : ∀ w ∈ Bundle.ownAtoms own ic cls names, w.before args s' = true := vx_own hat' (vx_isRefq hU'.1) (vx_isRefq hN'.1) hU'.2.word hN'.2.word
  have hown' : s'.vm.findClass own = some m.cls := by rw [hvm]; exact hown
  have hins : (Cond.instantiable cls 6).before args s' = true := h _ (by simp [Bundle.ownAtoms])
  obtain ⟨vm₁, cX, kX, hfX, hkX, -, -, X₁, st1⟩ := Y.newCold hexec (own := own) (C := cls) (index := ik) (n := 6) hown' hk' hins hini'
    (g := F0 m pc ls rest) rfl (by rw [hb]; exact d0) (Nat.le_refl _) (Nat.le_refl _)
  generalize hT1 : (T.setVm vm₁).pushCell { cls := cX, slots := kX.instanceTypes.map defaultValue, vm := .none } = T1 at X₁ st1
  have hcat : (Value.ref T.heap.size).category = 1 := rfl
  have hcellA : T1.heap[T.heap.size]? = some (freshCell cX kX) := by rw [← hT1]; exact State.heap_pushCell_size _ _
  have d3' : decode c.code (pc + 3) = .ok (.dup, 1) := by rw [hb]; exact d3
  have d4' : decode c.code (pc + 4) = .ok (.ldc_w is, 3) := by rw [hb]; exact d4
  have hstr' : vk_R own is text sa s' := vk_R.warm hW0 hstr
  obtain ⟨U, hsteps, hrun, hend, hW, hsame, ce, hce, hO⟩ := X₁.ctorThrowS hexec htr (own := own) (cls := cls) (names := names) (ic := ic) hown' hcls hnames h (fun x hx => nomatch hx) hfX hkX hcellA (by rw [hhp, hT]; exact Nat.le_refl _) (msg := .ref sa) rfl
    (g := { method := m, pc := pc + 7, locals := ls, stack := .ref sa :: .ref T.heap.size :: .ref T.heap.size :: rest, locked := none }) rfl hsize rfl rfl (rest := rest) rfl
    (by rw [hb]; exact d7) (by rw [hb]; exact d10) hout hRframes (by simp only [List.map_cons, List.sum_cons, hcat]; omega) hlocks
  obtain ⟨f1, f2⟩ := vx_frame hsame
  rw [hhp] at f1 f2
  have hWs : s.WarmedH U.vm := State.WarmedH.trans hW0 hW
  have hcl : s.vm.findClass cls = some ce.cls := by
    have h9 := hO.cls
    rw [hvm] at h9
    exact h9
  have hall : s.sameButNew ({ U with vm := s.vm } : State) locs mc ms := by
    subst hA
    obtain ⟨e1, e2⟩ := hsame
    rw [State.setFrames_setFrames] at e1
    have h2 : (T.setVm s.vm).sameButNew ({ U with vm := s.vm } : State) [] (0 + 1) (0 + 6) := ⟨e1, e2⟩
    have h3 := X.same.trans h2
    rw [List.append_nil] at h3
    exact h3.mono hc hs
  refine ⟨U, ?_, .threw T.heap.size, hrun, hend, Or.inr ⟨T.heap.size, rfl, cls, ce, locs, hx U hWs.alike f1 (fun q hq => f2 q hq (fun z hz => nomatch hz)), hce, hO.vm, hcl, hWs, hall, hf⟩⟩
  refine st1 _ ?_
  show Steps p.tables e below (T1.setTop { method := m, pc := pc + 3, locals := ls, stack := .ref T.heap.size :: rest, locked := none }) _
  jvm_step X₁.here [X₁.here.top, hexec, d3', Value.category]
  exact X₁.ldcStringW hexec (own := own) (text := text) (index := is) (a := sa) hown' hstr'.1 hstr'.2
    (g := { method := m, pc := pc + 4, locals := ls, stack := .ref T.heap.size :: .ref T.heap.size :: rest, locked := none }) rfl d4' _ hsteps
end Ends
section Bodies
variable {l : Launch}
theorem vx_ofW {y : MethodName} {ws ws' : List Cond} {rm : Room} {Pc : Array Value → State → Prop} {Qc : Array Value → State → Outcome → State → Prop} {XC : String → State → State → Prop} {mc ms : Nat} {free : Addr → Prop} {cc : ByteArray} {maxL : Nat} {ret : Option FieldType}
    (hy : plainName y.cls = true) (hw : ws = Cond.code y cc maxL ret :: ws')
    (body : ∀ p e s m args below meth c s₁, BodyLoose p l y (headSpec ws rm) cc maxL ret e s m args below meth c s₁ → c.maxLocals = maxL → (∀ x ∈ c.exceptionTable.toList, False) → Pc args s →
      W p l e (headSpec ws rm).room s m args below meth c s.heap [] 0 0 (vx_MQ below Qc XC args s mc ms free) (entryFrame m args maxL)) : vx_Met l y ws rm Pc Qc XC mc ms free := by
  refine MetFree.of_bodyS (code := cc) (maxLocals := maxL) (ret := ret) hy ?_ ?_
  · intro args s m h hn
    obtain ⟨meth, c, h1, h2, h3, h4, h5, h6, -, -⟩ := Cond.code_spec hn (atoms_spec (ws := ws) h _ (by rw [hw]; exact List.mem_cons_self))
    exact ⟨meth, c, h1, h2, h3, h4, h5, h6⟩
  · intro p e s m args below meth c s₁ B hml hP _
    have hh0 : s₁.heap = s.heap := by rw [B.state]; rfl
    have ht : ∀ x ∈ c.exceptionTable.toList, False := by
      obtain ⟨meth9, c9, h1, h2, -, -, -, -, h7, -⟩ := Cond.code_spec B.named (atoms_spec (ws := ws) B.pre _ (by rw [hw]; exact List.mem_cons_self))
      cases Option.some.inj (h1.symm.trans B.method)
      cases Option.some.inj (h2.symm.trans (Stand.of_body B).code)
      intro x hx
      rw [Array.isEmpty_iff.mp h7] at hx
      cases hx
    obtain ⟨t, a1, o, b1, b2, b3⟩ := body p e s m args below meth c s₁ B hml ht hP s₁ hh0 (Stand.of_body B)
    exact ⟨t, o, a1, b1, b2, b3⟩
/-- the table of a body with handlers -/
theorem vx_table {p : Program} {x y : MethodName} {S : Spec} {cc bytes : ByteArray} {maxL maxL' : Nat} {ret ret' : Option FieldType} {e : Env} {s s₁ : State} {m : MethodId} {args : Array Value} {below : List Frame} {meth : Method} {c : Code} {hh : List (Nat × Nat × Nat × Nat)}
    (B : BodyLoose p l y S cc maxL ret e s m args below meth c s₁) (h : (Cond.codeWith y bytes maxL' ret' hh).before args s = true) : c.exceptionTable.toList = tableOf hh := by
  obtain ⟨m9, meth9, c9, hn9, h1, h2, -, -, h6, -⟩ := Cond.codeWith_spec h
  cases Option.some.inj (hn9.symm.trans B.named)
  cases Option.some.inj (h1.symm.trans B.method)
  cases Option.some.inj (h2.symm.trans (Stand.of_body B).code)
  rw [← h6, table_eq]
end Bodies
end VXA
/-! ===== END ===== -/
/-! ===== BEGIN a static call of a method with an exception table ===== -/
section VXS
variable {p : Program} {l : Launch} {e : Env} {R : Room} {s : State} {m : MethodId} {args : Array Value} {below : List Frame} {meth : Method} {c : Code} {T : State} {H : Heap} {locs : List Loc} {cells slots : Nat}
abbrev vx_CSW (R : Room) (s : State) (args : Array Value) (own : String) (index : Nat) (y : MethodName) (bytes : ByteArray) (maxL : Nat) (ret : Option FieldType) (hh : List (Nat × Nat × Nat × Nat)) (ws : List Cond) (rm : Room) (mc ms n : Nat) : Prop :=
  (rm.cells = mc ∧ rm.slots = ms ∧ rm.frames + 1 ≤ R.frames ∧ 8 + (maxL + 11) + rm.locals ≤ R.locals ∧ (∀ w ∈ ws, ∀ (a' : Array Value) (U : State), s.WarmedH U.vm → w.before a' U = true) ∧ Cond.codeWith y bytes maxL ret hh ∈ ws) ∧
  (Cond.codeWith y bytes maxL ret hh).before args s = true ∧ (Cond.initialized y.cls).before args s = true ∧ (y.cls ≠ "java/lang/invoke/MethodHandle" ∧ y.cls ≠ "java/lang/invoke/VarHandle") ∧
  (∀ sig, parseMethodDescriptor y.desc = some sig → n = sig.parameters.length) ∧ (Cond.methodLink own index y).before args s = true ∧ (Cond.static y).before args s = true
theorem vx_cwSW {own : String} {index maxL mc ms : Nat} {y : MethodName} {bytes : ByteArray} {ret : Option FieldType} {hh : List (Nat × Nat × Nat × Nat)} {Ts ws ws' : List Cond} {rm : Room} (n : Nat) (ht : ∀ w ∈ Ts, w.before args s = true) (hT : GoodIn Ts (va_wsS own index y ws)) (hw : ws = Cond.codeWith y bytes maxL ret hh :: ws') (hrc : rm.cells = mc) (hrs : rm.slots = ms)
    (hd : y.cls ≠ "java/lang/invoke/MethodHandle" ∧ y.cls ≠ "java/lang/invoke/VarHandle" ∧ (parseMethodDescriptor y.desc).map (fun d => d.parameters.length) = some n) (hR : rm.frames + 1 ≤ R.frames ∧ 8 + (maxL + 11) + rm.locals ≤ R.locals) :
    vx_CSW R s args own index y bytes maxL ret hh ws rm mc ms n := by
  have ok : ∀ w ∈ va_wsS own index y ws, w.before args s = true := fun w h => ht w (hT w h).1
  have hG : GoodIn Ts ws := fun w h => hT w (by unfold va_wsS; exact List.mem_append_right _ h)
  have hc : Cond.codeWith y bytes maxL ret hh ∈ ws := by rw [hw]; exact List.mem_cons_self
  refine ⟨⟨hrc, hrs, hR.1, hR.2, pay_in ht hG, hc⟩, ht _ (hG _ hc).1, ok _ (by simp [va_wsS]), ⟨hd.1, hd.2.1⟩, fun sig h => ?_, ok _ (by simp [va_wsS]), ok _ (by simp [va_wsS])⟩
  have h2 := hd.2.2
  rw [h] at h2
  exact (Option.some.inj h2).symm
theorem vx_callSW (X : Stand p l e R s m args below meth c T locs cells slots) (hexec : p.tables.exec = Jvm.exec) {own : String} {index : Nat} {y : MethodName} {bytes : ByteArray} {maxL : Nat} {ret : Option FieldType} {hh : List (Nat × Nat × Nat × Nat)}
    (hown : s.vm.findClass own = some m.cls) (hlink : (Cond.methodLink own index y).before args s = true) (hstat : (Cond.static y).before args s = true) (hinit : (Cond.initialized y.cls).before args s = true)
    (hcode : (Cond.codeWith y bytes maxL ret hh).before args s = true) (hy : y.cls ≠ "java/lang/invoke/MethodHandle" ∧ y.cls ≠ "java/lang/invoke/VarHandle")
    {W9 : Nat} {Pre : Pt → Array Value → Prop} {Post : Pt → Array Value → Option Value → Pt → Prop} (hK : Back l R p e below s args y 3 W9 Pre Post)
    {g : JFrame} (hg : g.method = m) (hsize : g.locals.size = c.maxLocals) {argsL rest : List Value} (hlen : ∀ sig, parseMethodDescriptor y.desc = some sig → argsL.length = sig.parameters.length)
    (hstack : g.stack = argsL.reverse ++ rest) (hW : 2 * g.monitorRoom + (rest.map fun v => v.category).sum ≤ W9) (hdg : decode c.code g.pc = .ok (.invokestatic index, 3))
    (hpre : ∀ vm₁, s.WarmedH vm₁ → Pre ⟨T.setVm vm₁, locs, cells, slots⟩ argsL.toArray) :
    ∃ (v : Option Value) (vm₁ : Vm) (B : Pt), s.WarmedH vm₁ ∧ Stand p l e R s m args below meth c B.U B.locs B.cells B.slots ∧ Post ⟨T.setVm vm₁, locs, cells, slots⟩ argsL.toArray v B ∧
      ∀ target, Steps p.tables e below (B.U.setTop { g with pc := g.pc + 3, stack := v.toList ++ rest }) target → Steps p.tables e below (T.setTop g) target := by
  obtain ⟨mk, methM, cM, hnamed, hmethM, -, -, -, -, -, -, hsigM⟩ := Cond.codeWith_spec hcode
  have hstatic : methM.isStatic = true := Cond.static_spec hnamed hmethM hstat
  obtain ⟨kP, hkP, -⟩ := className_of_methodNamed hnamed
  have hinitP : kP.init = .initialized := Cond.initialized_spec (findClass_of_methodNamed hnamed) hkP hinit
  obtain ⟨vm₁, X₁, hstep₁⟩ := X.invokestatic hexec hown hlink hnamed hmethM hstatic hkP hinitP hy (g := g) hg (argsL := argsL) (rest := rest) (hlen _ hsigM) hstack hdg
  obtain ⟨v, B, X', hpost, hsteps⟩ := hK m meth c ⟨T.setVm vm₁, locs, cells, slots⟩ { g with stack := rest } (.invokestatic index) mk argsL.toArray X₁ hg hsize hdg hW (X₁.named hnamed) (hpre vm₁ X₁.warmed)
  exact ⟨v, vm₁, B, X₁.warmed, X', hpost, fun target h => hstep₁ _ fun acts => by rw [doInvoke_state]; exact hsteps.trans h⟩
theorem vx_runSW {y : MethodName} {bytes cc : ByteArray} {maxL nL mc ms n index : Nat} {ret : Option FieldType} {hh : List (Nat × Nat × Nat × Nat)} {ws : List Cond} {rm : Room} {Pc : Array Value → State → Prop} {Qc : Array Value → State → Outcome → State → Prop} {free : Addr → Prop} {Ts : List Cond} {own : String} {As rest : List Value} {g : JFrame}
    (S : CallFix p m c cc nL s args Ts own) (hM : Met l y ws rm Pc Qc mc ms free) (cw : vx_CSW R s args own index y bytes maxL ret hh ws rm mc ms n) (hp : PreS s H Pc As)
    (hg : g.method = m) (hn : As.length = n) (hsize : g.locals.size = nL) (hstack : g.stack = As.reverse ++ rest) (hW : 2 * g.monitorRoom + (rest.map fun v => v.category).sum ≤ 8) (hdg : decode cc g.pc = .ok (.invokestatic index, 3)) (hf : cells + mc ≤ R.cells ∧ slots + ms ≤ R.slots) :
    va_Run p l e R s m args below meth c H locs cells slots mc ms g rest (Qc As.toArray) (free) := by
  obtain ⟨⟨hrc, hrs, hfr, hlo, hws, hcw⟩, hcode, hini, hy, hlen, hl, hstt⟩ := cw
  have hK : Back l R p e below s args y 3 8 (PreOf R mc ms Pc) (PostOf Qc mc ms free) := va_backW (hh := hh) (bytes := bytes) (maxL := maxL) (ret := ret) hM hp.1 hrc hrs hfr hlo hws hcw (fun a' U hW => word_at hW (Or.inl (by first | rfl | simp [Cond.onTables, Cond.keeps, Cond.steady])) hini)
  obtain ⟨hx, hb, hml, ho, -⟩ := S
  intro T hT X
  obtain ⟨v, vm₁, ⟨U', l2, c2, s2⟩, hW₁, X', ⟨g', mk, t, L, e1, e2, hq, h1, hL, h2, h3⟩, st⟩ := vx_callSW X hx (hh := hh) (bytes := bytes) (maxL := maxL) (ret := ret) ho hl hstt hini hcode hy hK hg (hsize.trans hml.symm) (argsL := As) (rest := rest) (fun sig h => hn.trans (hlen sig h)) hstack hW (by rw [hb]; exact hdg)
    (fun vm₁ hW₁ => ⟨hf.1, hf.2, hp.2 (T.setVm vm₁) hT hW₁⟩)
  dsimp only [Pt.U, Pt.locs, Pt.cells, Pt.slots] at X' e1 e2 h1 h2 h3 st
  subst h1; subst h2; subst h3
  exact ⟨v, (T.setVm vm₁).calling g' mk As.toArray, t, U', L, hT, X', hL, e1, e2, hq, st⟩
/-- a thing of a world lies in the heap -/
theorem vx_lt {D : va_G} {cl : List vw_C} {ws : va_W} {H1 : Heap} (h : va_P D cl ws H1) {k : Nat} {q : Nat × va_E} (hk : ws[k]? = some q) : q.1 < H1.size := (h k q hk).lt
end VXS
/-! ===== END ===== -/
/-! ===== BEGIN methods with a table of their own: called by a name, returning or throwing ===== -/
section VXH
/-! vx_backW, vx_callVX, vx_callSX, vx_callVW, vx_runVW, vx_runVX, vx_runSX, vx_ofWH follow the same proofs as their sisters above (Free/Laws.lean, Shelf42/LK1.lean); vx_outP calls Shelf42/NT130.lean (outThrough). -/
section
variable {l : Launch} {R : Room} {p : Program} {e : Env} {below : List Frame} {s : State} {sargs : Array Value} {y : MethodName} {len W9 : Nat}
theorem vx_backW {ws : List Cond} {rm : Room} {Pc : Array Value → State → Prop} {Qc : Array Value → State → Outcome → State → Prop} {XC : String → State → State → Prop} {mc ms : Nat} {free : Addr → Prop} {bytes : ByteArray} {maxL : Nat} {ret : Option FieldType} {hh : List (Nat × Nat × Nat × Nat)}
    (hM : vx_Met l y ws rm Pc Qc XC mc ms free) (hblind : FrameBlind Pc) (hrc : rm.cells = mc) (hrs : rm.slots = ms)
    (hframes : rm.frames + 1 ≤ R.frames) (hlocals : W9 + (maxL + 11) + rm.locals ≤ R.locals)
    (hws : ∀ w ∈ ws, ∀ a' U, s.WarmedH U.vm → w.before a' U = true) (hcode : Cond.codeWith y bytes maxL ret hh ∈ ws) (hinit : ∀ a' U, s.WarmedH U.vm → (Cond.initialized y.cls).before a' U = true) :
    vx_Back l R p e below s sargs y len W9 (PreOf R mc ms Pc) (PostOf Qc mc ms free) (vx_Post XC mc ms free) := by
  intro m meth c A g ig mk a X hg hsize hdg hW hn hp
  have h1 : (headSpec ws rm).pre.before a A.U = true := atoms_intro fun w hw => hws w hw _ _ X.warmed
  have h2 : (Cond.codeWith y bytes maxL ret hh).before a A.U = true := hws _ hcode _ _ X.warmed
  have h3 : (Cond.initialized y.cls).before a A.U = true := hinit _ _ X.warmed
  have h4 : A.cells + (headSpec ws rm).room.cells ≤ R.cells := by rw [show (headSpec ws rm).room.cells = mc from hrc]; exact hp.1
  have h5 : A.slots + (headSpec ws rm).room.slots ≤ R.slots := by rw [show (headSpec ws rm).room.slots = ms from hrs]; exact hp.2.1
  have hPc : Pc a (A.U.calling g mk a) := hblind _ _ _ _ hp.2.2
  obtain ⟨U, Ls, c0, s0⟩ := A
  dsimp only [Pt.U, Pt.locs, Pt.cells, Pt.slots] at h1 h2 h3 h4 h5 X hn hPc ⊢
  obtain ⟨m9, methY, cY, hn9, hmY, hcY, -, hlY, -⟩ := Cond.codeWith_spec h2
  cases Option.some.inj (hn9.symm.trans hn)
  obtain ⟨kY, hkY, -⟩ := className_of_methodNamed hn
  have hinitY : kY.init = .initialized := Cond.initialized_spec (findClass_of_methodNamed hn) hkY h3
  have h : At U g.method c below := by rw [hg]; exact X.here
  have hlocals9 : W9 + (maxL + 11) + (headSpec ws rm).room.locals ≤ R.locals := hlocals
  have happ : (headSpec ws rm).appliesLoose y e.platform (U.calling g mk a) = true :=
    Spec.appliesLoose_calling (g := g) h hdg hn hkY hinitY
      (X.room_calling (g := g) (R' := (headSpec ws rm).room) hsize hmY hcY hframes (by rw [hlY]; omega) h4 h5) h1
  obtain ⟨mid, hmid⟩ := h.above
  have hfr : (U.setTop g).frames = (.java g :: mid) ++ below := by rw [State.frames_setTop' g h.top, hmid]; rfl
  obtain ⟨o, s₂, hsteps, -, hend, hq⟩ := Steps.callFree hM p X.admits X.cas X.clock (acts := []) hfr happ hPc trivial
  have hq' : vx_Q Qc XC mc ms free a (U.calling g mk a) o s₂ := hq
  rw [State.frames_setTop' g h.top] at hend
  obtain ⟨g₀, hg0⟩ := Option.isSome_iff_exists.mp h.top
  obtain ⟨r, hr⟩ := State.topJava?_eq_some.mp hg0
  have hr' : (({ U with heap := s₂.heap, slotsUsed := s₂.slotsUsed } : State).setVm s₂.vm).frames = .java g₀ :: r := hr
  rcases hq' with ⟨hqc, L, hfe, hL⟩ | ⟨q, rfl, E, ce, L, hx, hce, hcv, hcl, hW₂, hsm, hL⟩
  · obtain ⟨⟨v, rfl⟩, hW₂, e2, q2, q3, q4, q5, q6⟩ := id hfe
    have e3 : s₂ = ({ (U.calling g mk a).setFrames s₂.frames with heap := s₂.heap, slotsUsed := s₂.slotsUsed } : State).setVm s₂.vm := by
      have : s₂ = ({ s₂ with vm := (U.calling g mk a).vm } : State).setVm s₂.vm := rfl
      rw [e2] at this
      exact this
    obtain ⟨c₂, i₂, len₂, hc₂, hd₂, hf₂⟩ := hend
    have hW' : U.WarmedH s₂.vm := hW₂
    have hcc : c₂ = c := by
      have h1 : s₂.code? g.method = U.code? g.method := by
        rw [State.code?_eq, State.code?_eq, hW'.alike.method?]
      exact Option.some.inj (hc₂.symm.trans (h1.trans h.code))
    subst hcc
    have hlen : len₂ = len := by rw [hdg] at hd₂; cases hd₂; rfl
    subst hlen
    have hs₂ : s₂ = (({ U with heap := s₂.heap, slotsUsed := s₂.slotsUsed } : State).setVm s₂.vm).setTop { g with pc := g.pc + len₂, stack := v.toList ++ g.stack } := by
      refine e3.trans ?_
      rw [hf₂, State.calling_eq h.top, State.setFrames_setFrames, State.setTop_of_frames _ hr', hr]
      rfl
    have hsame : U.sameButNew ({ U with heap := s₂.heap, slotsUsed := s₂.slotsUsed } : State) L mc ms := by
      refine ⟨?_, q2, q3, q4, q5, q6⟩
      obtain ⟨t, ht, -⟩ := State.frames_cons hr
      show ({ U with heap := s₂.heap, slotsUsed := s₂.slotsUsed } : State) = { U.setFrames U.frames with heap := s₂.heap, slotsUsed := s₂.slotsUsed }
      rw [State.setFrames_self ht]
    subst hg
    refine Or.inl ⟨v, ⟨(({ U with heap := s₂.heap, slotsUsed := s₂.slotsUsed } : State).setVm s₂.vm), Ls ++ L, c0 + mc, s0 + ms⟩,
      ⟨X.admits, X.cas, X.clock, X.frames, X.room, X.hears, X.method, X.code, (X.here.setHeapUsed s₂.heap s₂.slotsUsed).setVm hW'.alike, X.tail, State.WarmedH.trans X.warmed hW', X.limits, X.bytes, X.same.trans (hsame.setVm s.vm)⟩,
      ⟨g, mk, s₂, L, rfl, rfl, hqc, rfl, hL, rfl, rfl⟩, ?_⟩
    show Steps p.tables e below _ ((({ U with heap := s₂.heap, slotsUsed := s₂.slotsUsed } : State).setVm s₂.vm).setTop { g with pc := g.pc + len₂, stack := v.toList ++ g.stack })
    rw [← hs₂]
    exact hsteps
  · obtain ⟨e2, q2, q3, q4, q5, q6⟩ := id hsm
    have e3 : s₂ = ({ (U.calling g mk a).setFrames s₂.frames with heap := s₂.heap, slotsUsed := s₂.slotsUsed } : State).setVm s₂.vm := by
      have : s₂ = ({ s₂ with vm := (U.calling g mk a).vm } : State).setVm s₂.vm := rfl
      rw [e2] at this
      exact this
    have hf₂ : s₂.frames = .throwing q :: .java g :: U.frames.tail := hend
    have hW' : U.WarmedH s₂.vm := hW₂
    have hs₂ : s₂ = ((({ U with heap := s₂.heap, slotsUsed := s₂.slotsUsed } : State).setVm s₂.vm).setTop g).pushFrame (.throwing q) := by
      refine e3.trans ?_
      rw [hf₂, State.calling_eq h.top, State.setFrames_setFrames, State.pushFrame, State.frames_setTop _ hr', State.setTop_of_frames _ hr', State.setFrames_setFrames, hr]
      rfl
    have hsame : U.sameButNew ({ U with heap := s₂.heap, slotsUsed := s₂.slotsUsed } : State) L mc ms := by
      refine ⟨?_, q2, q3, q4, q5, q6⟩
      obtain ⟨t, ht, -⟩ := State.frames_cons hr
      show ({ U with heap := s₂.heap, slotsUsed := s₂.slotsUsed } : State) = { U.setFrames U.frames with heap := s₂.heap, slotsUsed := s₂.slotsUsed }
      rw [State.setFrames_self ht]
    subst hg
    refine Or.inr ⟨q, ⟨(({ U with heap := s₂.heap, slotsUsed := s₂.slotsUsed } : State).setVm s₂.vm), Ls ++ L, c0 + mc, s0 + ms⟩,
      ⟨X.admits, X.cas, X.clock, X.frames, X.room, X.hears, X.method, X.code, (X.here.setHeapUsed s₂.heap s₂.slotsUsed).setVm hW'.alike, X.tail, State.WarmedH.trans X.warmed hW', X.limits, X.bytes, X.same.trans (hsame.setVm s.vm)⟩,
      ⟨g, mk, s₂, L, E, ce, rfl, rfl, hx, hce, hcv, hcl, rfl, hL, rfl, rfl⟩, ?_⟩
    show Steps p.tables e below _ (((({ U with heap := s₂.heap, slotsUsed := s₂.slotsUsed } : State).setVm s₂.vm).setTop g).pushFrame (.throwing q))
    rw [← hs₂]
    exact hsteps
end
variable {p : Program} {l : Launch} {e : Env} {R : Room} {s : State} {m : MethodId} {args : Array Value} {below : List Frame} {meth : Method} {c : Code} {T : State} {H : Heap} {locs : List Loc} {cells slots : Nat}
theorem vx_callVX (X : Stand p l e R s m args below meth c T locs cells slots) (hexec : p.tables.exec = Jvm.exec) {own C : String} {index : Nat} {y : MethodName} {bytes : ByteArray} {maxL : Nat} {ret : Option FieldType} {hh : List (Nat × Nat × Nat × Nat)}
    (hown : s.vm.findClass own = some m.cls) (hlink : (Cond.methodLink own index y).before args s = true) (hinst : (Cond.instanceMethod y).before args s = true) (hsel : (Cond.selects C y y).before args s = true)
    (hcode : (Cond.codeWith y bytes maxL ret hh).before args s = true) (hy : y.cls ≠ "java/lang/invoke/MethodHandle" ∧ y.cls ≠ "java/lang/invoke/VarHandle")
    {W9 : Nat} {Pre : Pt → Array Value → Prop} {Post : Pt → Array Value → Option Value → Pt → Prop} {PostX : Pt → Array Value → Addr → Pt → Prop} (hK : vx_Back l R p e below s args y 3 W9 Pre Post PostX)
    {b : Addr} {cellB : Cell} (hcell : T.heap[b]? = some cellB) (hobj : cellB.vm.isStatics = false) (hcls : s.vm.findClass C = some cellB.cls)
    {g : JFrame} (hg : g.method = m) (hsize : g.locals.size = c.maxLocals) {argsL rest : List Value} (hlen : ∀ sig, parseMethodDescriptor y.desc = some sig → argsL.length = sig.parameters.length)
    (hstack : g.stack = argsL.reverse ++ .ref b :: rest) (hW : 2 * g.monitorRoom + (rest.map fun v => v.category).sum ≤ W9) (hdg : decode c.code g.pc = .ok (.invokevirtual index, 3))
    (hpre : ∀ vm₁, s.WarmedH vm₁ → Pre ⟨T.setVm vm₁, locs, cells, slots⟩ (Value.ref b :: argsL).toArray) :
    (∃ (v : Option Value) (vm₁ : Vm) (B : Pt), s.WarmedH vm₁ ∧ Stand p l e R s m args below meth c B.U B.locs B.cells B.slots ∧ Post ⟨T.setVm vm₁, locs, cells, slots⟩ (Value.ref b :: argsL).toArray v B ∧
      ∀ target, Steps p.tables e below (B.U.setTop { g with pc := g.pc + 3, stack := v.toList ++ rest }) target → Steps p.tables e below (T.setTop g) target) ∨
    (∃ (q : Addr) (vm₁ : Vm) (B : Pt), s.WarmedH vm₁ ∧ Stand p l e R s m args below meth c B.U B.locs B.cells B.slots ∧ PostX ⟨T.setVm vm₁, locs, cells, slots⟩ (Value.ref b :: argsL).toArray q B ∧
      Steps p.tables e below (T.setTop g) ((B.U.setTop { g with stack := rest }).pushFrame (.throwing q))) := by
  obtain ⟨mk, methM, hnamed, hmethM, hstM, habM⟩ := Cond.instanceMethod_spec hinst
  obtain ⟨m8, methM', cM, hn8, hmethM', -, -, -, -, -, -, hsigM⟩ := Cond.codeWith_spec hcode
  cases Option.some.inj (hn8.symm.trans hnamed)
  cases hmethM.symm.trans hmethM'
  obtain ⟨c2, r2, m2, q1, q2, q3, q4, kP, hkP, hkPi⟩ := Cond.selects_spec hsel
  cases hcls.symm.trans q1
  cases (State.methodFound?_of_named hnamed hy).symm.trans q2
  cases hnamed.symm.trans q3
  have hselP : selectMethod e.platform s.vm cellB.cls mk = .method mk := by rw [Launch.admits_selectMethod X.admits]; exact q4
  obtain ⟨vm₁, X₁, hstep₁⟩ := X.invokevirtual hexec hown hlink hnamed hmethM hstM hkP hkPi hy (a := b) (cell := cellB) hcell
    (fun z h => by rw [h] at hobj; cases hobj) hselP hmethM habM hkP hkPi (g := g) hg (argsL := argsL) (rest := rest) (hlen _ hsigM) hstack hdg
  rcases hK m meth c ⟨T.setVm vm₁, locs, cells, slots⟩ { g with stack := rest } (.invokevirtual index) mk (Value.ref b :: argsL).toArray X₁ hg hsize hdg hW (X₁.named hnamed) (hpre vm₁ X₁.warmed) with ⟨v, B, X', hpost, hsteps⟩ | ⟨q, B, X', hpost, hsteps⟩
  · exact Or.inl ⟨v, vm₁, B, X₁.warmed, X', hpost, fun target h => hstep₁ _ fun acts => by rw [doInvoke_state]; exact hsteps.trans h⟩
  · exact Or.inr ⟨q, vm₁, B, X₁.warmed, X', hpost, hstep₁ _ fun acts => by rw [doInvoke_state]; exact hsteps⟩
theorem vx_callSX (X : Stand p l e R s m args below meth c T locs cells slots) (hexec : p.tables.exec = Jvm.exec) {own : String} {index : Nat} {y : MethodName} {bytes : ByteArray} {maxL : Nat} {ret : Option FieldType} {hh : List (Nat × Nat × Nat × Nat)}
    (hown : s.vm.findClass own = some m.cls) (hlink : (Cond.methodLink own index y).before args s = true) (hstat : (Cond.static y).before args s = true) (hinit : (Cond.initialized y.cls).before args s = true)
    (hcode : (Cond.codeWith y bytes maxL ret hh).before args s = true) (hy : y.cls ≠ "java/lang/invoke/MethodHandle" ∧ y.cls ≠ "java/lang/invoke/VarHandle")
    {W9 : Nat} {Pre : Pt → Array Value → Prop} {Post : Pt → Array Value → Option Value → Pt → Prop} {PostX : Pt → Array Value → Addr → Pt → Prop} (hK : vx_Back l R p e below s args y 3 W9 Pre Post PostX)
    {g : JFrame} (hg : g.method = m) (hsize : g.locals.size = c.maxLocals) {argsL rest : List Value} (hlen : ∀ sig, parseMethodDescriptor y.desc = some sig → argsL.length = sig.parameters.length)
    (hstack : g.stack = argsL.reverse ++ rest) (hW : 2 * g.monitorRoom + (rest.map fun v => v.category).sum ≤ W9) (hdg : decode c.code g.pc = .ok (.invokestatic index, 3))
    (hpre : ∀ vm₁, s.WarmedH vm₁ → Pre ⟨T.setVm vm₁, locs, cells, slots⟩ argsL.toArray) :
    (∃ (v : Option Value) (vm₁ : Vm) (B : Pt), s.WarmedH vm₁ ∧ Stand p l e R s m args below meth c B.U B.locs B.cells B.slots ∧ Post ⟨T.setVm vm₁, locs, cells, slots⟩ argsL.toArray v B ∧
      ∀ target, Steps p.tables e below (B.U.setTop { g with pc := g.pc + 3, stack := v.toList ++ rest }) target → Steps p.tables e below (T.setTop g) target) ∨
    (∃ (q : Addr) (vm₁ : Vm) (B : Pt), s.WarmedH vm₁ ∧ Stand p l e R s m args below meth c B.U B.locs B.cells B.slots ∧ PostX ⟨T.setVm vm₁, locs, cells, slots⟩ argsL.toArray q B ∧
      Steps p.tables e below (T.setTop g) ((B.U.setTop { g with stack := rest }).pushFrame (.throwing q))) := by
  obtain ⟨mk, methM, cM, hnamed, hmethM, -, -, -, -, -, -, hsigM⟩ := Cond.codeWith_spec hcode
  have hstatic : methM.isStatic = true := Cond.static_spec hnamed hmethM hstat
  obtain ⟨kP, hkP, -⟩ := className_of_methodNamed hnamed
  have hinitP : kP.init = .initialized := Cond.initialized_spec (findClass_of_methodNamed hnamed) hkP hinit
  obtain ⟨vm₁, X₁, hstep₁⟩ := X.invokestatic hexec hown hlink hnamed hmethM hstatic hkP hinitP hy (g := g) hg (argsL := argsL) (rest := rest) (hlen _ hsigM) hstack hdg
  rcases hK m meth c ⟨T.setVm vm₁, locs, cells, slots⟩ { g with stack := rest } (.invokestatic index) mk argsL.toArray X₁ hg hsize hdg hW (X₁.named hnamed) (hpre vm₁ X₁.warmed) with ⟨v, B, X', hpost, hsteps⟩ | ⟨q, B, X', hpost, hsteps⟩
  · exact Or.inl ⟨v, vm₁, B, X₁.warmed, X', hpost, fun target h => hstep₁ _ fun acts => by rw [doInvoke_state]; exact hsteps.trans h⟩
  · exact Or.inr ⟨q, vm₁, B, X₁.warmed, X', hpost, hstep₁ _ fun acts => by rw [doInvoke_state]; exact hsteps⟩
theorem vx_callVW (X : Stand p l e R s m args below meth c T locs cells slots) (hexec : p.tables.exec = Jvm.exec) {own C : String} {index : Nat} {y : MethodName} {bytes : ByteArray} {maxL : Nat} {ret : Option FieldType} {hh : List (Nat × Nat × Nat × Nat)}
    (hown : s.vm.findClass own = some m.cls) (hlink : (Cond.methodLink own index y).before args s = true) (hinst : (Cond.instanceMethod y).before args s = true) (hsel : (Cond.selects C y y).before args s = true)
    (hcode : (Cond.codeWith y bytes maxL ret hh).before args s = true) (hy : y.cls ≠ "java/lang/invoke/MethodHandle" ∧ y.cls ≠ "java/lang/invoke/VarHandle")
    {W9 : Nat} {Pre : Pt → Array Value → Prop} {Post : Pt → Array Value → Option Value → Pt → Prop} (hK : Back l R p e below s args y 3 W9 Pre Post)
    {b : Addr} {cellB : Cell} (hcell : T.heap[b]? = some cellB) (hobj : cellB.vm.isStatics = false) (hcls : s.vm.findClass C = some cellB.cls)
    {g : JFrame} (hg : g.method = m) (hsize : g.locals.size = c.maxLocals) {argsL rest : List Value} (hlen : ∀ sig, parseMethodDescriptor y.desc = some sig → argsL.length = sig.parameters.length)
    (hstack : g.stack = argsL.reverse ++ .ref b :: rest) (hW : 2 * g.monitorRoom + (rest.map fun v => v.category).sum ≤ W9) (hdg : decode c.code g.pc = .ok (.invokevirtual index, 3))
    (hpre : ∀ vm₁, s.WarmedH vm₁ → Pre ⟨T.setVm vm₁, locs, cells, slots⟩ (Value.ref b :: argsL).toArray) :
    ∃ (v : Option Value) (vm₁ : Vm) (B : Pt), s.WarmedH vm₁ ∧ Stand p l e R s m args below meth c B.U B.locs B.cells B.slots ∧ Post ⟨T.setVm vm₁, locs, cells, slots⟩ (Value.ref b :: argsL).toArray v B ∧
      ∀ target, Steps p.tables e below (B.U.setTop { g with pc := g.pc + 3, stack := v.toList ++ rest }) target → Steps p.tables e below (T.setTop g) target := by
  obtain ⟨mk, methM, hnamed, hmethM, hstM, habM⟩ := Cond.instanceMethod_spec hinst
  obtain ⟨m8, methM', cM, hn8, hmethM', -, -, -, -, -, -, hsigM⟩ := Cond.codeWith_spec hcode
  cases Option.some.inj (hn8.symm.trans hnamed)
  cases hmethM.symm.trans hmethM'
  obtain ⟨c2, r2, m2, q1, q2, q3, q4, kP, hkP, hkPi⟩ := Cond.selects_spec hsel
  cases hcls.symm.trans q1
  cases (State.methodFound?_of_named hnamed hy).symm.trans q2
  cases hnamed.symm.trans q3
  have hselP : selectMethod e.platform s.vm cellB.cls mk = .method mk := by rw [Launch.admits_selectMethod X.admits]; exact q4
  obtain ⟨vm₁, X₁, hstep₁⟩ := X.invokevirtual hexec hown hlink hnamed hmethM hstM hkP hkPi hy (a := b) (cell := cellB) hcell
    (fun z h => by rw [h] at hobj; cases hobj) hselP hmethM habM hkP hkPi (g := g) hg (argsL := argsL) (rest := rest) (hlen _ hsigM) hstack hdg
  obtain ⟨v, B, X', hpost, hsteps⟩ := hK m meth c ⟨T.setVm vm₁, locs, cells, slots⟩ { g with stack := rest } (.invokevirtual index) mk (Value.ref b :: argsL).toArray X₁ hg hsize hdg hW (X₁.named hnamed) (hpre vm₁ X₁.warmed)
  exact ⟨v, vm₁, B, X₁.warmed, X', hpost, fun target h => hstep₁ _ fun acts => by rw [doInvoke_state]; exact hsteps.trans h⟩
abbrev vx_CVW (R : Room) (s : State) (args : Array Value) (own C : String) (index : Nat) (y : MethodName) (bytes : ByteArray) (maxL : Nat) (ret : Option FieldType) (hh : List (Nat × Nat × Nat × Nat)) (ws : List Cond) (rm : Room) (mc ms n : Nat) : Prop :=
  (rm.cells = mc ∧ rm.slots = ms ∧ rm.frames + 1 ≤ R.frames ∧ 8 + (maxL + 11) + rm.locals ≤ R.locals ∧ (∀ w ∈ ws, ∀ (a' : Array Value) (U : State), s.WarmedH U.vm → w.before a' U = true) ∧ Cond.codeWith y bytes maxL ret hh ∈ ws) ∧
  (Cond.codeWith y bytes maxL ret hh).before args s = true ∧ (Cond.initialized y.cls).before args s = true ∧ (y.cls ≠ "java/lang/invoke/MethodHandle" ∧ y.cls ≠ "java/lang/invoke/VarHandle") ∧
  (∀ sig, parseMethodDescriptor y.desc = some sig → n = sig.parameters.length) ∧ (Cond.methodLink own index y).before args s = true ∧ (Cond.instanceMethod y).before args s = true ∧ (Cond.selects C y y).before args s = true
theorem vx_cwVW {own C : String} {index maxL mc ms : Nat} {y : MethodName} {bytes : ByteArray} {ret : Option FieldType} {hh : List (Nat × Nat × Nat × Nat)} {Ts ws ws' : List Cond} {rm : Room} (n : Nat) (ht : ∀ w ∈ Ts, w.before args s = true) (hT : GoodIn Ts (wsV own index C y ws)) (hw : ws = Cond.codeWith y bytes maxL ret hh :: ws') (hrc : rm.cells = mc) (hrs : rm.slots = ms)
    (hd : y.cls = C ∧ y.cls ≠ "java/lang/invoke/MethodHandle" ∧ y.cls ≠ "java/lang/invoke/VarHandle" ∧ (parseMethodDescriptor y.desc).map (fun d => d.parameters.length) = some n) (hR : rm.frames + 1 ≤ R.frames ∧ 8 + (maxL + 11) + rm.locals ≤ R.locals) :
    vx_CVW R s args own C index y bytes maxL ret hh ws rm mc ms n := by
  obtain ⟨hC, hd⟩ := hd
  subst hC
  have ok : ∀ w ∈ wsV own index y.cls y ws, w.before args s = true := fun w h => ht w (hT w h).1
  have hG : GoodIn Ts ws := fun w h => hT w (by unfold wsV; exact List.mem_append_right _ h)
  have hc : Cond.codeWith y bytes maxL ret hh ∈ ws := by rw [hw]; exact List.mem_cons_self
  refine ⟨⟨hrc, hrs, hR.1, hR.2, pay_in ht hG, hc⟩, ht _ (hG _ hc).1, ok _ (by simp [wsV]), ⟨hd.1, hd.2.1⟩, fun sig h => ?_, ok _ (by simp [wsV]), ok _ (by simp [wsV]), ok _ (by simp [wsV])⟩
  have h2 := hd.2.2
  rw [h] at h2
  exact (Option.some.inj h2).symm
theorem vx_runVW {y : MethodName} {bytes cc : ByteArray} {maxL nL mc ms n index : Nat} {ret : Option FieldType} {hh : List (Nat × Nat × Nat × Nat)} {ws : List Cond} {rm : Room} {Pc : Array Value → State → Prop} {Qc : Array Value → State → Outcome → State → Prop} {free : Addr → Prop} {Ts : List Cond} {own C : String} {b : Addr} {As rest : List Value} {g : JFrame}
    (S : CallFix p m c cc nL s args Ts own) (hM : Met l y ws rm Pc Qc mc ms free) (cw : vx_CVW R s args own C index y bytes maxL ret hh ws rm mc ms n) (hp : PreV s H C b Pc As)
    (hg : g.method = m) (hn : As.length = n) (hsize : g.locals.size = nL) (hstack : g.stack = As.reverse ++ .ref b :: rest) (hW : 2 * g.monitorRoom + (rest.map fun v => v.category).sum ≤ 8) (hdg : decode cc g.pc = .ok (.invokevirtual index, 3)) (hf : cells + mc ≤ R.cells ∧ slots + ms ≤ R.slots) :
    va_Run p l e R s m args below meth c H locs cells slots mc ms g rest (Qc (Value.ref b :: As).toArray) free := by
  obtain ⟨⟨hrc, hrs, hfr, hlo, hws, hcw⟩, hcode, hini, hy, hlen, hl, hin, hse⟩ := cw
  have hK : Back l R p e below s args y 3 8 (PreOf R mc ms Pc) (PostOf Qc mc ms free) := va_backW (hh := hh) (bytes := bytes) (maxL := maxL) (ret := ret) hM hp.1 hrc hrs hfr hlo hws hcw (fun a' U hW => word_at hW (Or.inl (by first | rfl | simp [Cond.onTables, Cond.keeps, Cond.steady])) hini)
  obtain ⟨hx, hb, hml, ho, -⟩ := S
  obtain ⟨-, ⟨cellB, hcB, hoB, hclB⟩, hPc⟩ := hp
  intro T hT X
  obtain ⟨v, vm₁, ⟨U', l2, c2, s2⟩, hW₁, X', ⟨g', mk, t, L, e1, e2, hq, h1, hL, h2, h3⟩, st⟩ := vx_callVW X hx (C := C) (hh := hh) (bytes := bytes) (maxL := maxL) (ret := ret) ho hl hin hse hcode hy hK (by rw [hT]; exact hcB) hoB hclB hg (hsize.trans hml.symm) (argsL := As) (rest := rest) (fun sig h => hn.trans (hlen sig h)) hstack hW (by rw [hb]; exact hdg)
    (fun vm₁ hW₁ => ⟨hf.1, hf.2, hPc (T.setVm vm₁) hT hW₁⟩)
  dsimp only [Pt.U, Pt.locs, Pt.cells, Pt.slots] at X' e1 e2 h1 h2 h3 st
  subst h1; subst h2; subst h3
  exact ⟨v, (T.setVm vm₁).calling g' mk (Value.ref b :: As).toArray, t, U', L, hT, X', hL, e1, e2, hq, st⟩
section
variable {y : MethodName} {bytes cc : ByteArray} {maxL nL mc ms n index : Nat} {ret : Option FieldType} {ws : List Cond} {rm : Room} {Pc : Array Value → State → Prop} {Qc : Array Value → State → Outcome → State → Prop} {XC : String → State → State → Prop} {free : Addr → Prop} {Ts : List Cond} {own C : String} {b : Addr} {As rest : List Value} {g : JFrame}
theorem vx_runVX {hh : List (Nat × Nat × Nat × Nat)} (S : CallFix p m c cc nL s args Ts own) (hM : vx_Met l y ws rm Pc Qc XC mc ms free) (cw : vx_CVW R s args own C index y bytes maxL ret hh ws rm mc ms n) (hp : PreV s H C b Pc As)
    (hg : g.method = m) (hn : As.length = n) (hsize : g.locals.size = nL) (hstack : g.stack = As.reverse ++ .ref b :: rest) (hW : 2 * g.monitorRoom + (rest.map fun v => v.category).sum ≤ 8) (hdg : decode cc g.pc = .ok (.invokevirtual index, 3)) (hf : cells + mc ≤ R.cells ∧ slots + ms ≤ R.slots) :
    vx_Run p l e R s m args below meth c H locs cells slots mc ms g rest (Qc (Value.ref b :: As).toArray) XC free := by
  obtain ⟨⟨hrc, hrs, hfr, hlo, hws, hcw⟩, hcode, hini, hy, hlen, hl, hin, hse⟩ := cw
  have hK : vx_Back l R p e below s args y 3 8 (PreOf R mc ms Pc) (PostOf Qc mc ms free) (vx_Post XC mc ms free) := vx_backW (hh := hh) (bytes := bytes) (maxL := maxL) (ret := ret) hM hp.1 hrc hrs hfr hlo hws hcw (fun a' U hW => word_at hW (Or.inl (by first | rfl | simp [Cond.onTables, Cond.keeps, Cond.steady])) hini)
  obtain ⟨hx, hb, hml, ho, -⟩ := S
  obtain ⟨-, ⟨cellB, hcB, hoB, hclB⟩, hPc⟩ := hp
  intro T hT X
  rcases vx_callVX X hx (C := C) (hh := hh) (bytes := bytes) (maxL := maxL) (ret := ret) ho hl hin hse hcode hy hK (by rw [hT]; exact hcB) hoB hclB hg (hsize.trans hml.symm) (argsL := As) (rest := rest) (fun sig h => hn.trans (hlen sig h)) hstack hW (by rw [hb]; exact hdg)
    (fun vm₁ hW₁ => ⟨hf.1, hf.2, hPc (T.setVm vm₁) hT hW₁⟩) with ⟨v, vm₁, ⟨U', l2, c2, s2⟩, hW₁, X', ⟨g', mk, t, L, e1, e2, hq, h1, hL, h2, h3⟩, st⟩ | ⟨q, vm₁, ⟨U', l2, c2, s2⟩, hW₁, X', ⟨g', mk, t, L, E, ce, e1, e2, hq, hce, hcv, hcl, h1, hL, h2, h3⟩, st⟩
  · dsimp only [Pt.U, Pt.locs, Pt.cells, Pt.slots] at X' e1 e2 h1 h2 h3 st
    subst h1; subst h2; subst h3
    exact Or.inl ⟨v, (T.setVm vm₁).calling g' mk (Value.ref b :: As).toArray, t, U', L, hT, X', hL, e1, e2, hq, st⟩
  · dsimp only [Pt.U, Pt.locs, Pt.cells, Pt.slots] at X' e1 e2 h1 h2 h3 st hcl
    subst h1; subst h2; subst h3
    exact Or.inr ⟨q, (T.setVm vm₁).calling g' mk (Value.ref b :: As).toArray, t, U', L, E, ce, hT, X', hL, e1, e2, hq, hce, hcv, vx_cls hW₁ hcl, st⟩
theorem vx_runSX {hh : List (Nat × Nat × Nat × Nat)} (S : CallFix p m c cc nL s args Ts own) (hM : vx_Met l y ws rm Pc Qc XC mc ms free) (cw : vx_CSW R s args own index y bytes maxL ret hh ws rm mc ms n) (hp : PreS s H Pc As)
    (hg : g.method = m) (hn : As.length = n) (hsize : g.locals.size = nL) (hstack : g.stack = As.reverse ++ rest) (hW : 2 * g.monitorRoom + (rest.map fun v => v.category).sum ≤ 8) (hdg : decode cc g.pc = .ok (.invokestatic index, 3)) (hf : cells + mc ≤ R.cells ∧ slots + ms ≤ R.slots) :
    vx_Run p l e R s m args below meth c H locs cells slots mc ms g rest (Qc As.toArray) XC free := by
  obtain ⟨⟨hrc, hrs, hfr, hlo, hws, hcw⟩, hcode, hini, hy, hlen, hl, hstt⟩ := cw
  have hK : vx_Back l R p e below s args y 3 8 (PreOf R mc ms Pc) (PostOf Qc mc ms free) (vx_Post XC mc ms free) := vx_backW (hh := hh) (bytes := bytes) (maxL := maxL) (ret := ret) hM hp.1 hrc hrs hfr hlo hws hcw (fun a' U hW => word_at hW (Or.inl (by first | rfl | simp [Cond.onTables, Cond.keeps, Cond.steady])) hini)
  obtain ⟨hx, hb, hml, ho, -⟩ := S
  intro T hT X
  rcases vx_callSX X hx (hh := hh) (bytes := bytes) (maxL := maxL) (ret := ret) ho hl hstt hini hcode hy hK hg (hsize.trans hml.symm) (argsL := As) (rest := rest) (fun sig h => hn.trans (hlen sig h)) hstack hW (by rw [hb]; exact hdg)
    (fun vm₁ hW₁ => ⟨hf.1, hf.2, hp.2 (T.setVm vm₁) hT hW₁⟩) with ⟨v, vm₁, ⟨U', l2, c2, s2⟩, hW₁, X', ⟨g', mk, t, L, e1, e2, hq, h1, hL, h2, h3⟩, st⟩ | ⟨q, vm₁, ⟨U', l2, c2, s2⟩, hW₁, X', ⟨g', mk, t, L, E, ce, e1, e2, hq, hce, hcv, hcl, h1, hL, h2, h3⟩, st⟩
  · dsimp only [Pt.U, Pt.locs, Pt.cells, Pt.slots] at X' e1 e2 h1 h2 h3 st
    subst h1; subst h2; subst h3
    exact Or.inl ⟨v, (T.setVm vm₁).calling g' mk As.toArray, t, U', L, hT, X', hL, e1, e2, hq, st⟩
  · dsimp only [Pt.U, Pt.locs, Pt.cells, Pt.slots] at X' e1 e2 h1 h2 h3 st hcl
    subst h1; subst h2; subst h3
    exact Or.inr ⟨q, (T.setVm vm₁).calling g' mk As.toArray, t, U', L, E, ce, hT, X', hL, e1, e2, hq, hce, hcv, vx_cls hW₁ hcl, st⟩
end
end VXH
theorem vx_ofWH {l : Launch} {y : MethodName} {ws ws' : List Cond} {rm : Room} {Pc : Array Value → State → Prop} {Qc : Array Value → State → Outcome → State → Prop} {XC : String → State → State → Prop} {mc ms : Nat} {free : Addr → Prop} {cc : ByteArray} {maxL : Nat} {ret : Option FieldType} {hh : List (Nat × Nat × Nat × Nat)}
    (hy : plainName y.cls = true) (hw : ws = Cond.codeWith y cc maxL ret hh :: ws')
    (body : ∀ p e s m args below meth c s₁, BodyLoose p l y (headSpec ws rm) cc maxL ret e s m args below meth c s₁ → c.maxLocals = maxL → Pc args s →
      W p l e (headSpec ws rm).room s m args below meth c s.heap [] 0 0 (vx_MQ below Qc XC args s mc ms free) (entryFrame m args maxL)) : vx_Met l y ws rm Pc Qc XC mc ms free := by
  refine MetFree.of_bodyS (code := cc) (maxLocals := maxL) (ret := ret) hy ?_ ?_
  · intro args s m h hn
    obtain ⟨m9, meth, c, hn9, h1, h2, h3, h4, -, h5, h6, -⟩ := Cond.codeWith_spec (atoms_spec (ws := ws) h _ (by rw [hw]; exact List.mem_cons_self))
    cases hn.symm.trans hn9
    exact ⟨meth, c, h1, h2, h3, h4, h5, h6⟩
  · intro p e s m args below meth c s₁ B hml hP _
    have hh0 : s₁.heap = s.heap := by rw [B.state]; rfl
    obtain ⟨t, a1, o, b1, b2, b3⟩ := body p e s m args below meth c s₁ B hml hP s₁ hh0 (Stand.of_body B)
    exact ⟨t, o, a1, b1, b2, b3⟩
/-! ===== END ===== -/

def RX0 : String := "WidthWords$Digits"
def TX0 : u_T := fun k => match k with
  | 0 => ("WidthWords$Digits", "product", "[J", true)
  | 1 => ("WidthWords$Digits", "quotient", "[J", true)
  | 2 => ("WidthWords$Digits", "rest", "[J", true)
  | 3 => ("WidthWords$Digits", "moved", "[J", true)
  | 4 => ("WidthWords$Digits", "upper", "[J", true)
  | 5 => ("WidthWords$Digits", "lower", "[J", true)
  | _ => ("WidthWords$Digits", "answer", "[J", true)
def tyX0 : Nat → FieldType := fun k => match k with
  | 0 => .array .long
  | 1 => .array .long
  | 2 => .array .long
  | 3 => .array .long
  | 4 => .array .long
  | 5 => .array .long
  | _ => .array .long
theorem nmX0 : ∀ a, a < 7 → ∀ b, b < 7 → a ≠ b → (TX0 a).2.1 ≠ (TX0 b).2.1 := by decide +kernel
theorem tyX0_ok : ∀ k, k < 7 → parseFieldDescriptor (TX0 k).2.2.1 = some (tyX0 k) := by decide +kernel
abbrev cX0_init : ByteArray := prog_2_method_1_code
def yX0_init : MethodName := ⟨RX0, "<init>", "()V"⟩
abbrev cX0_multiply : ByteArray := prog_2_method_2_code
def yX0_multiply : MethodName := ⟨RX0, "multiply", "([J[JI)V"⟩
abbrev cX0_addMultiple : ByteArray := prog_2_method_3_code
def yX0_addMultiple : MethodName := ⟨RX0, "addMultiple", "(JII)V"⟩
abbrev cX0_divide : ByteArray := prog_2_method_4_code
def yX0_divide : MethodName := ⟨RX0, "divide", "([J[JI)V"⟩
abbrev cX0_takeMultiple : ByteArray := prog_2_method_5_code
def yX0_takeMultiple : MethodName := ⟨RX0, "takeMultiple", "(II)J"⟩
abbrev cX0_subtractMultiple : ByteArray := prog_2_method_6_code
def yX0_subtractMultiple : MethodName := ⟨RX0, "subtractMultiple", "(JII)Z"⟩
abbrev cX0_addBack : ByteArray := prog_2_method_7_code
def yX0_addBack : MethodName := ⟨RX0, "addBack", "(II)Z"⟩
abbrev cX0_quotientOf : ByteArray := prog_2_method_8_code
def yX0_quotientOf : MethodName := ⟨RX0, "quotientOf", "(JJ)J"⟩
abbrev cX0_digitsOf : ByteArray := prog_2_method_9_code
def yX0_digitsOf : MethodName := ⟨RX0, "digitsOf", "(I)I"⟩
abbrev cX0_split : ByteArray := prog_2_method_10_code
def yX0_split : MethodName := ⟨RX0, "split", "([J[J)V"⟩
abbrev cX0_merge : ByteArray := prog_2_method_11_code
def yX0_merge : MethodName := ⟨RX0, "merge", "([J[J)V"⟩
def RX1 : String := "WidthWords$Operations"
def TX1 : u_T := fun k => match k with
  | 0 => ("WidthWords$Operations", "carry", "I", false)
  | 1 => ("WidthWords$Operations", "overflow", "I", false)
  | 2 => ("WidthWords$Operations", "zero", "I", false)
  | 3 => ("WidthWords$Operations", "negative", "I", false)
  | 4 => ("WidthWords$Operations", "width", "I", false)
  | 5 => ("WidthWords$Operations", "digits", "LWidthWords$Digits;", true)
  | _ => ("WidthWords$Operations", "backwards", "[J", true)
def tyX1 : Nat → FieldType := fun k => match k with
  | 0 => .int
  | 1 => .int
  | 2 => .int
  | 3 => .int
  | 4 => .int
  | 5 => .object "WidthWords$Digits"
  | _ => .array .long
theorem nmX1 : ∀ a, a < 7 → ∀ b, b < 7 → a ≠ b → (TX1 a).2.1 ≠ (TX1 b).2.1 := by decide +kernel
theorem tyX1_ok : ∀ k, k < 7 → parseFieldDescriptor (TX1 k).2.2.1 = some (tyX1 k) := by decide +kernel
abbrev cX1_init : ByteArray := prog_3_method_1_code
def yX1_init : MethodName := ⟨RX1, "<init>", "()V"⟩
abbrev cX1_run : ByteArray := prog_3_method_2_code
def yX1_run : MethodName := ⟨RX1, "run", "(II[J[J[J)V"⟩
abbrev cX1_highest : ByteArray := prog_3_method_3_code
def yX1_highest : MethodName := ⟨RX1, "highest", "([J)I"⟩
abbrev cX1_sum : ByteArray := prog_3_method_4_code
def yX1_sum : MethodName := ⟨RX1, "sum", "([J[J[J)V"⟩
abbrev cX1_difference : ByteArray := prog_3_method_5_code
def yX1_difference : MethodName := ⟨RX1, "difference", "([J[J[J)V"⟩
abbrev cX1_product : ByteArray := prog_3_method_6_code
def yX1_product : MethodName := ⟨RX1, "product", "(I[J[J[J)V"⟩
abbrev cX1_fitsWithSign : ByteArray := prog_3_method_7_code
def yX1_fitsWithSign : MethodName := ⟨RX1, "fitsWithSign", "([J[J[J)Z"⟩
abbrev cX1_quotientOrRest : ByteArray := prog_3_method_8_code
def yX1_quotientOrRest : MethodName := ⟨RX1, "quotientOrRest", "(I[J[J[J)V"⟩
abbrev cX1_moved : ByteArray := prog_3_method_9_code
def yX1_moved : MethodName := ⟨RX1, "moved", "(I[J[J[J)V"⟩
abbrev cX1_turned : ByteArray := prog_3_method_10_code
def yX1_turned : MethodName := ⟨RX1, "turned", "(I[J[J[J)V"⟩
abbrev cX1_bitByBit : ByteArray := prog_3_method_11_code
def yX1_bitByBit : MethodName := ⟨RX1, "bitByBit", "(I[J[J[J)V"⟩
abbrev cX1_reversed : ByteArray := prog_3_method_12_code
def yX1_reversed : MethodName := ⟨RX1, "reversed", "(I[J[J)V"⟩
def RX2 : String := "WidthWords$PointNumbers"
def TX2 : u_T := fun k => match k with
  | 0 => ("WidthWords$PointNumbers", "raised", "I", false)
  | 1 => ("WidthWords$PointNumbers", "way", "I", false)
  | 2 => ("WidthWords$PointNumbers", "fractionBits", "I", false)
  | 3 => ("WidthWords$PointNumbers", "exponentOnes", "I", false)
  | 4 => ("WidthWords$PointNumbers", "lowestPower", "I", false)
  | 5 => ("WidthWords$PointNumbers", "signBit", "J", false)
  | 6 => ("WidthWords$PointNumbers", "sign", "Z", false)
  | 7 => ("WidthWords$PointNumbers", "whole", "J", false)
  | _ => ("WidthWords$PointNumbers", "power", "I", false)
def tyX2 : Nat → FieldType := fun k => match k with
  | 0 => .int
  | 1 => .int
  | 2 => .int
  | 3 => .int
  | 4 => .int
  | 5 => .long
  | 6 => .boolean
  | 7 => .long
  | _ => .int
theorem nmX2 : ∀ a, a < 9 → ∀ b, b < 9 → a ≠ b → (TX2 a).2.1 ≠ (TX2 b).2.1 := by decide +kernel
theorem tyX2_ok : ∀ k, k < 9 → parseFieldDescriptor (TX2 k).2.2.1 = some (tyX2 k) := by decide +kernel
abbrev cX2_init : ByteArray := prog_4_method_1_code
def yX2_init : MethodName := ⟨RX2, "<init>", "()V"⟩
abbrev cX2_choose : ByteArray := prog_4_method_2_code
def yX2_choose : MethodName := ⟨RX2, "choose", "(II)V"⟩
abbrev cX2_answer : ByteArray := prog_4_method_3_code
def yX2_answer : MethodName := ⟨RX2, "answer", "(IJJ)J"⟩
abbrev cX2_withoutRounding : ByteArray := prog_4_method_4_code
def yX2_withoutRounding : MethodName := ⟨RX2, "withoutRounding", "(IJJ)J"⟩
abbrev cX2_add : ByteArray := prog_4_method_5_code
def yX2_add : MethodName := ⟨RX2, "add", "(JJ)V"⟩
abbrev cX2_multiply : ByteArray := prog_4_method_6_code
def yX2_multiply : MethodName := ⟨RX2, "multiply", "(JJ)V"⟩
abbrev cX2_divide : ByteArray := prog_4_method_7_code
def yX2_divide : MethodName := ⟨RX2, "divide", "(JJ)V"⟩
abbrev cX2_movedDown : ByteArray := prog_4_method_8_code
def yX2_movedDown : MethodName := ⟨RX2, "movedDown", "(JI)J"⟩
abbrev cX2_rounded : ByteArray := prog_4_method_9_code
def yX2_rounded : MethodName := ⟨RX2, "rounded", "()J"⟩
abbrev cX2_goesAway : ByteArray := prog_4_method_10_code
def yX2_goesAway : MethodName := ⟨RX2, "goesAway", "(JJJ)Z"⟩
abbrev cX2_finite : ByteArray := prog_4_method_11_code
def yX2_finite : MethodName := ⟨RX2, "finite", "(JI)J"⟩
abbrev cX2_tooGreat : ByteArray := prog_4_method_12_code
def yX2_tooGreat : MethodName := ⟨RX2, "tooGreat", "()J"⟩
abbrev cX2_withSign : ByteArray := prog_4_method_13_code
def yX2_withSign : MethodName := ⟨RX2, "withSign", "(ZJ)J"⟩
abbrev cX2_infinite : ByteArray := prog_4_method_14_code
def yX2_infinite : MethodName := ⟨RX2, "infinite", "(Z)J"⟩
abbrev cX2_none : ByteArray := prog_4_method_15_code
def yX2_none : MethodName := ⟨RX2, "none", "()J"⟩
abbrev cX2_notValid : ByteArray := prog_4_method_16_code
def yX2_notValid : MethodName := ⟨RX2, "notValid", "()J"⟩
abbrev cX2_signOf : ByteArray := prog_4_method_17_code
def yX2_signOf : MethodName := ⟨RX2, "signOf", "(J)Z"⟩
abbrev cX2_exponentOf : ByteArray := prog_4_method_18_code
def yX2_exponentOf : MethodName := ⟨RX2, "exponentOf", "(J)I"⟩
abbrev cX2_fractionOf : ByteArray := prog_4_method_19_code
def yX2_fractionOf : MethodName := ⟨RX2, "fractionOf", "(J)J"⟩
abbrev cX2_isNone : ByteArray := prog_4_method_20_code
def yX2_isNone : MethodName := ⟨RX2, "isNone", "(J)Z"⟩
abbrev cX2_isInfinite : ByteArray := prog_4_method_21_code
def yX2_isInfinite : MethodName := ⟨RX2, "isInfinite", "(J)Z"⟩
abbrev cX2_isNought : ByteArray := prog_4_method_22_code
def yX2_isNought : MethodName := ⟨RX2, "isNought", "(J)Z"⟩
abbrev cX2_wholeOf : ByteArray := prog_4_method_23_code
def yX2_wholeOf : MethodName := ⟨RX2, "wholeOf", "(J)J"⟩
abbrev cX2_powerOf : ByteArray := prog_4_method_24_code
def yX2_powerOf : MethodName := ⟨RX2, "powerOf", "(J)I"⟩
def RX3 : String := "WidthWords$Rows"
def TX3 : u_T := fun k => match k with
  | _ => ("", "", "", false)
def tyX3 : Nat → FieldType := fun k => match k with
  | _ => .int
theorem nmX3 : ∀ a, a < 0 → ∀ b, b < 0 → a ≠ b → (TX3 a).2.1 ≠ (TX3 b).2.1 := by decide +kernel
theorem tyX3_ok : ∀ k, k < 0 → parseFieldDescriptor (TX3 k).2.2.1 = some (tyX3 k) := by decide +kernel
abbrev cX3_clear : ByteArray := prog_5_method_2_code
def yX3_clear : MethodName := ⟨RX3, "clear", "([J)V"⟩
abbrev cX3_maskOf : ByteArray := prog_5_method_3_code
def yX3_maskOf : MethodName := ⟨RX3, "maskOf", "(II)J"⟩
abbrev cX3_cut : ByteArray := prog_5_method_4_code
def yX3_cut : MethodName := ⟨RX3, "cut", "([JI)V"⟩
abbrev cX3_fillFrom : ByteArray := prog_5_method_5_code
def yX3_fillFrom : MethodName := ⟨RX3, "fillFrom", "([JI)V"⟩
abbrev cX3_limbOrNought : ByteArray := prog_5_method_6_code
def yX3_limbOrNought : MethodName := ⟨RX3, "limbOrNought", "([JI)J"⟩
abbrev cX3_bitOrNought : ByteArray := prog_5_method_7_code
def yX3_bitOrNought : MethodName := ⟨RX3, "bitOrNought", "([JI)I"⟩
abbrev cX3_bitsFrom : ByteArray := prog_5_method_8_code
def yX3_bitsFrom : MethodName := ⟨RX3, "bitsFrom", "([JI)J"⟩
abbrev cX3_moveUp : ByteArray := prog_5_method_9_code
def yX3_moveUp : MethodName := ⟨RX3, "moveUp", "([JI[J)V"⟩
abbrev cX3_orMovedUp : ByteArray := prog_5_method_10_code
def yX3_orMovedUp : MethodName := ⟨RX3, "orMovedUp", "([JI[J)V"⟩
abbrev cX3_isNought : ByteArray := prog_5_method_11_code
def yX3_isNought : MethodName := ⟨RX3, "isNought", "([J)Z"⟩
abbrev cX3_add : ByteArray := prog_5_method_12_code
def yX3_add : MethodName := ⟨RX3, "add", "([J[J[J)V"⟩
abbrev cX3_subtract : ByteArray := prog_5_method_13_code
def yX3_subtract : MethodName := ⟨RX3, "subtract", "([J[J[J)V"⟩
abbrev cX3_negate : ByteArray := prog_5_method_14_code
def yX3_negate : MethodName := ⟨RX3, "negate", "([JI)V"⟩
abbrev cX3_atMost : ByteArray := prog_5_method_15_code
def yX3_atMost : MethodName := ⟨RX3, "atMost", "([JI)I"⟩
abbrev cX3_restBy : ByteArray := prog_5_method_16_code
def yX3_restBy : MethodName := ⟨RX3, "restBy", "([JI)I"⟩
abbrev cX3_lengthOf : ByteArray := prog_5_method_17_code
def yX3_lengthOf : MethodName := ⟨RX3, "lengthOf", "([J)I"⟩
abbrev cX3_lengthOfLimb : ByteArray := prog_5_method_18_code
def yX3_lengthOfLimb : MethodName := ⟨RX3, "lengthOfLimb", "(J)I"⟩
abbrev cX3_bytesReversed : ByteArray := prog_5_method_19_code
def yX3_bytesReversed : MethodName := ⟨RX3, "bytesReversed", "(J)J"⟩
abbrev cX3_bitsReversed : ByteArray := prog_5_method_20_code
def yX3_bitsReversed : MethodName := ⟨RX3, "bitsReversed", "(J)J"⟩
abbrev cX3_swapped : ByteArray := prog_5_method_21_code
def yX3_swapped : MethodName := ⟨RX3, "swapped", "(JJI)J"⟩
def RX4 : String := "WidthWords"
def TX4 : u_T := fun k => match k with
  | 0 => ("WidthWords", "newWidth", "I", true)
  | 1 => ("WidthWords", "widths", "[I", true)
  | 2 => ("WidthWords", "store", "[J", true)
  | 3 => ("WidthWords", "size", "I", false)
  | 4 => ("WidthWords", "left", "[J", true)
  | 5 => ("WidthWords", "right", "[J", true)
  | 6 => ("WidthWords", "made", "[J", true)
  | 7 => ("WidthWords", "operations", "LWidthWords$Operations;", true)
  | _ => ("WidthWords", "pointNumbers", "LWidthWords$PointNumbers;", true)
def tyX4 : Nat → FieldType := fun k => match k with
  | 0 => .int
  | 1 => .array .int
  | 2 => .array .long
  | 3 => .int
  | 4 => .array .long
  | 5 => .array .long
  | 6 => .array .long
  | 7 => .object "WidthWords$Operations"
  | _ => .object "WidthWords$PointNumbers"
theorem nmX4 : ∀ a, a < 9 → ∀ b, b < 9 → a ≠ b → (TX4 a).2.1 ≠ (TX4 b).2.1 := by decide +kernel
theorem tyX4_ok : ∀ k, k < 9 → parseFieldDescriptor (TX4 k).2.2.1 = some (tyX4 k) := by decide +kernel
abbrev cX4_init : ByteArray := prog_1_method_1_code
def yX4_init : MethodName := ⟨RX4, "<init>", "(I)V"⟩
abbrev cX4_word : ByteArray := prog_1_method_2_code
def yX4_word : MethodName := ⟨RX4, "word", "()I"⟩
abbrev cX4_set : ByteArray := prog_1_method_3_code
def yX4_set : MethodName := ⟨RX4, "set", "(IIJ)Z"⟩
abbrev cX4_op : ByteArray := prog_1_method_4_code
def yX4_op : MethodName := ⟨RX4, "op", "(III)I"⟩
abbrev cX4_flag : ByteArray := prog_1_method_5_code
def yX4_flag : MethodName := ⟨RX4, "flag", "(I)I"⟩
abbrev cX4_field : ByteArray := prog_1_method_6_code
def yX4_field : MethodName := ⟨RX4, "field", "(III)I"⟩
abbrev cX4_join : ByteArray := prog_1_method_7_code
def yX4_join : MethodName := ⟨RX4, "join", "(II)I"⟩
abbrev cX4_extend : ByteArray := prog_1_method_8_code
def yX4_extend : MethodName := ⟨RX4, "extend", "(IIZ)I"⟩
abbrev cX4_compare : ByteArray := prog_1_method_9_code
def yX4_compare : MethodName := ⟨RX4, "compare", "(IIZ)I"⟩
abbrev cX4_bit : ByteArray := prog_1_method_10_code
def yX4_bit : MethodName := ⟨RX4, "bit", "(II)Z"⟩
abbrev cX4_limb : ByteArray := prog_1_method_11_code
def yX4_limb : MethodName := ⟨RX4, "limb", "(II)J"⟩
abbrev cX4_real : ByteArray := prog_1_method_12_code
def yX4_real : MethodName := ⟨RX4, "real", "(IIII)I"⟩
abbrev cX4_flags : ByteArray := prog_1_method_13_code
def yX4_flags : MethodName := ⟨RX4, "flags", "()I"⟩
abbrev cX4_count : ByteArray := prog_1_method_14_code
def yX4_count : MethodName := ⟨RX4, "count", "(I)I"⟩
abbrev cX4_width : ByteArray := prog_1_method_15_code
def yX4_width : MethodName := ⟨RX4, "width", "(I)I"⟩
abbrev cX4_requireWord : ByteArray := prog_1_method_16_code
def yX4_requireWord : MethodName := ⟨RX4, "requireWord", "(I)V"⟩
abbrev cX4_requireLimb : ByteArray := prog_1_method_17_code
def yX4_requireLimb : MethodName := ⟨RX4, "requireLimb", "(II)V"⟩
abbrev cX4_requireKind : ByteArray := prog_1_method_18_code
def yX4_requireKind : MethodName := ⟨RX4, "requireKind", "(II)V"⟩
abbrev cX4_requireOneWidth : ByteArray := prog_1_method_19_code
def yX4_requireOneWidth : MethodName := ⟨RX4, "requireOneWidth", "(II)V"⟩
abbrev cX4_requireRoom : ByteArray := prog_1_method_20_code
def yX4_requireRoom : MethodName := ⟨RX4, "requireRoom", "()V"⟩
abbrev cX4_load : ByteArray := prog_1_method_21_code
def yX4_load : MethodName := ⟨RX4, "load", "(I[J)V"⟩
abbrev cX4_keepMade : ByteArray := prog_1_method_22_code
def yX4_keepMade : MethodName := ⟨RX4, "keepMade", "(I)I"⟩
abbrev cX4_hasBit : ByteArray := prog_1_method_23_code
def yX4_hasBit : MethodName := ⟨RX4, "hasBit", "(II)Z"⟩
abbrev cX4_isNegative : ByteArray := prog_1_method_24_code
def yX4_isNegative : MethodName := ⟨RX4, "isNegative", "(I)Z"⟩
def RX5 : String := "WidthWordsModel"
def TX5 : u_T := fun k => match k with
  | 0 => ("WidthWordsModel", "thrown", "I", false)
  | 1 => ("WidthWordsModel", "wide", "I", true)
  | 2 => ("WidthWordsModel", "words", "I", false)
  | 3 => ("WidthWordsModel", "width", "[I", true)
  | 4 => ("WidthWordsModel", "bits", "[B", true)
  | 5 => ("WidthWordsModel", "flag", "[I", true)
  | 6 => ("WidthWordsModel", "realFlags", "I", false)
  | 7 => ("WidthWordsModel", "p", "[I", true)
  | 8 => ("WidthWordsModel", "q", "[I", true)
  | 9 => ("WidthWordsModel", "out", "[I", true)
  | 10 => ("WidthWordsModel", "rest", "[I", true)
  | 11 => ("WidthWordsModel", "kindOf", "[I", true)
  | 12 => ("WidthWordsModel", "signOf", "[I", true)
  | 13 => ("WidthWordsModel", "powerOf", "[I", true)
  | _ => ("WidthWordsModel", "wholeOf", "[J", true)
def tyX5 : Nat → FieldType := fun k => match k with
  | 0 => .int
  | 1 => .int
  | 2 => .int
  | 3 => .array .int
  | 4 => .array .byte
  | 5 => .array .int
  | 6 => .int
  | 7 => .array .int
  | 8 => .array .int
  | 9 => .array .int
  | 10 => .array .int
  | 11 => .array .int
  | 12 => .array .int
  | 13 => .array .int
  | _ => .array .long
theorem nmX5 : ∀ a, a < 15 → ∀ b, b < 15 → a ≠ b → (TX5 a).2.1 ≠ (TX5 b).2.1 := by decide +kernel
theorem tyX5_ok : ∀ k, k < 15 → parseFieldDescriptor (TX5 k).2.2.1 = some (tyX5 k) := by decide +kernel
abbrev cX5_init : ByteArray := prog_7_method_1_code
def yX5_init : MethodName := ⟨RX5, "<init>", "(I)V"⟩
abbrev cX5_thrown : ByteArray := prog_7_method_2_code
def yX5_thrown : MethodName := ⟨RX5, "thrown", "()I"⟩
abbrev cX5_isWord : ByteArray := prog_7_method_3_code
def yX5_isWord : MethodName := ⟨RX5, "isWord", "(I)Z"⟩
abbrev cX5_throwing : ByteArray := prog_7_method_4_code
def yX5_throwing : MethodName := ⟨RX5, "throwing", "(ZZZZ)Z"⟩
abbrev cX5_bitOf : ByteArray := prog_7_method_5_code
def yX5_bitOf : MethodName := ⟨RX5, "bitOf", "(II)I"⟩
abbrev cX5_make : ByteArray := prog_7_method_6_code
def yX5_make : MethodName := ⟨RX5, "make", "(I)I"⟩
abbrev cX5_word : ByteArray := prog_7_method_7_code
def yX5_word : MethodName := ⟨RX5, "word", "()I"⟩
abbrev cX5_isLimb : ByteArray := prog_7_method_8_code
def yX5_isLimb : MethodName := ⟨RX5, "isLimb", "(II)Z"⟩
abbrev cX5_set : ByteArray := prog_7_method_9_code
def yX5_set : MethodName := ⟨RX5, "set", "(IIJ)Z"⟩
abbrev cX5_limb : ByteArray := prog_7_method_10_code
def yX5_limb : MethodName := ⟨RX5, "limb", "(II)J"⟩
abbrev cX5_load : ByteArray := prog_7_method_11_code
def yX5_load : MethodName := ⟨RX5, "load", "(II)V"⟩
abbrev cX5_amounts : ByteArray := prog_7_method_12_code
def yX5_amounts : MethodName := ⟨RX5, "amounts", "(I)V"⟩
abbrev cX5_turn : ByteArray := prog_7_method_13_code
def yX5_turn : MethodName := ⟨RX5, "turn", "(I)V"⟩
abbrev cX5_add : ByteArray := prog_7_method_14_code
def yX5_add : MethodName := ⟨RX5, "add", "(IZ)I"⟩
abbrev cX5_multiply : ByteArray := prog_7_method_15_code
def yX5_multiply : MethodName := ⟨RX5, "multiply", "(I)V"⟩
abbrev cX5_divide : ByteArray := prog_7_method_16_code
def yX5_divide : MethodName := ⟨RX5, "divide", "(I)V"⟩
abbrev cX5_takeRest : ByteArray := prog_7_method_17_code
def yX5_takeRest : MethodName := ⟨RX5, "takeRest", "(I)V"⟩
abbrev cX5_amountOfB : ByteArray := prog_7_method_18_code
def yX5_amountOfB : MethodName := ⟨RX5, "amountOfB", "(I)I"⟩
abbrev cX5_bAround : ByteArray := prog_7_method_19_code
def yX5_bAround : MethodName := ⟨RX5, "bAround", "(I)I"⟩
abbrev cX5_isNought : ByteArray := prog_7_method_20_code
def yX5_isNought : MethodName := ⟨RX5, "isNought", "([III)Z"⟩
abbrev cX5_fits : ByteArray := prog_7_method_21_code
def yX5_fits : MethodName := ⟨RX5, "fits", "(IZ)Z"⟩
abbrev cX5_sums : ByteArray := prog_7_method_22_code
def yX5_sums : MethodName := ⟨RX5, "sums", "(II)V"⟩
abbrev cX5_quotients : ByteArray := prog_7_method_23_code
def yX5_quotients : MethodName := ⟨RX5, "quotients", "(II)V"⟩
abbrev cX5_moves : ByteArray := prog_7_method_24_code
def yX5_moves : MethodName := ⟨RX5, "moves", "(II)V"⟩
abbrev cX5_others : ByteArray := prog_7_method_25_code
def yX5_others : MethodName := ⟨RX5, "others", "(II)V"⟩
abbrev cX5_keep : ByteArray := prog_7_method_26_code
def yX5_keep : MethodName := ⟨RX5, "keep", "(II)I"⟩
abbrev cX5_op : ByteArray := prog_7_method_27_code
def yX5_op : MethodName := ⟨RX5, "op", "(III)I"⟩
abbrev cX5_flag : ByteArray := prog_7_method_28_code
def yX5_flag : MethodName := ⟨RX5, "flag", "(I)I"⟩
abbrev cX5_field : ByteArray := prog_7_method_29_code
def yX5_field : MethodName := ⟨RX5, "field", "(III)I"⟩
abbrev cX5_join : ByteArray := prog_7_method_30_code
def yX5_join : MethodName := ⟨RX5, "join", "(II)I"⟩
abbrev cX5_extend : ByteArray := prog_7_method_31_code
def yX5_extend : MethodName := ⟨RX5, "extend", "(IIZ)I"⟩
abbrev cX5_compare : ByteArray := prog_7_method_32_code
def yX5_compare : MethodName := ⟨RX5, "compare", "(IIZ)I"⟩
abbrev cX5_bit : ByteArray := prog_7_method_33_code
def yX5_bit : MethodName := ⟨RX5, "bit", "(II)Z"⟩
abbrev cX5_count : ByteArray := prog_7_method_34_code
def yX5_count : MethodName := ⟨RX5, "count", "(I)I"⟩
abbrev cX5_width : ByteArray := prog_7_method_35_code
def yX5_width : MethodName := ⟨RX5, "width", "(I)I"⟩
abbrev cX5_fractionBits : ByteArray := prog_7_method_36_code
def yX5_fractionBits : MethodName := ⟨RX5, "fractionBits", "(I)I"⟩
abbrev cX5_exponentBits : ByteArray := prog_7_method_37_code
def yX5_exponentBits : MethodName := ⟨RX5, "exponentBits", "(I)I"⟩
abbrev cX5_bias : ByteArray := prog_7_method_38_code
def yX5_bias : MethodName := ⟨RX5, "bias", "(I)I"⟩
abbrev cX5_take : ByteArray := prog_7_method_39_code
def yX5_take : MethodName := ⟨RX5, "take", "(IIZ)V"⟩
abbrev cX5_packed : ByteArray := prog_7_method_40_code
def yX5_packed : MethodName := ⟨RX5, "packed", "(IIIJ)J"⟩
abbrev cX5_none : ByteArray := prog_7_method_41_code
def yX5_none : MethodName := ⟨RX5, "none", "(I)J"⟩
abbrev cX5_infinite : ByteArray := prog_7_method_42_code
def yX5_infinite : MethodName := ⟨RX5, "infinite", "(II)J"⟩
abbrev cX5_notValid : ByteArray := prog_7_method_43_code
def yX5_notValid : MethodName := ⟨RX5, "notValid", "(I)J"⟩
abbrev cX5_highest : ByteArray := prog_7_method_44_code
def yX5_highest : MethodName := ⟨RX5, "highest", "(J)I"⟩
abbrev cX5_isMore : ByteArray := prog_7_method_45_code
def yX5_isMore : MethodName := ⟨RX5, "isMore", "(IIJI)Z"⟩
abbrev cX5_rounded : ByteArray := prog_7_method_46_code
def yX5_rounded : MethodName := ⟨RX5, "rounded", "(IIJII)J"⟩
abbrev cX5_sum : ByteArray := prog_7_method_47_code
def yX5_sum : MethodName := ⟨RX5, "sum", "(II)J"⟩
abbrev cX5_product : ByteArray := prog_7_method_48_code
def yX5_product : MethodName := ⟨RX5, "product", "(II)J"⟩
abbrev cX5_quotient : ByteArray := prog_7_method_49_code
def yX5_quotient : MethodName := ⟨RX5, "quotient", "(II)J"⟩
abbrev cX5_real : ByteArray := prog_7_method_50_code
def yX5_real : MethodName := ⟨RX5, "real", "(IIII)I"⟩
abbrev cX5_flags : ByteArray := prog_7_method_51_code
def yX5_flags : MethodName := ⟨RX5, "flags", "()I"⟩
def RJx00060 : String := "java/lang/ArrayIndexOutOfBoundsException"
def TJx00060 : u_T := fun k => match k with
  | 0 => ("java/lang/Throwable", "cause", "Ljava/lang/Throwable;", false)
  | 1 => ("java/lang/Throwable", "stackTrace", "[Ljava/lang/StackTraceElement;", false)
  | 2 => ("java/lang/Throwable", "suppressedExceptions", "Ljava/util/List;", false)
  | 3 => ("java/lang/Throwable", "detailMessage", "Ljava/lang/String;", false)
  | 4 => ("java/lang/Throwable", "backtrace", "Ljava/lang/Object;", false)
  | _ => ("java/lang/Throwable", "depth", "I", false)
def tyJx00060 : Nat → FieldType := fun k => match k with
  | 0 => .object "java/lang/Throwable"
  | 1 => .array (.object "java/lang/StackTraceElement")
  | 2 => .object "java/util/List"
  | 3 => .object "java/lang/String"
  | 4 => .object "java/lang/Object"
  | _ => .int
theorem nmJx00060 : ∀ a, a < 6 → ∀ b, b < 6 → a ≠ b → (TJx00060 a).2.1 ≠ (TJx00060 b).2.1 := by decide +kernel
theorem tyJx00060_ok : ∀ k, k < 6 → parseFieldDescriptor (TJx00060 k).2.2.1 = some (tyJx00060 k) := by decide +kernel
abbrev cJx00060_init_a7421 : ByteArray := prog_9_method_2_code
def yJx00060_init_a7421 : MethodName := ⟨RJx00060, "<init>", "(Ljava/lang/String;)V"⟩
def RJ13 : String := "java/lang/Long"
def TJ13 : u_T := fun k => match k with
  | _ => ("", "", "", false)
def tyJ13 : Nat → FieldType := fun k => match k with
  | _ => .int
theorem nmJ13 : ∀ a, a < 0 → ∀ b, b < 0 → a ≠ b → (TJ13 a).2.1 ≠ (TJ13 b).2.1 := by decide +kernel
theorem tyJ13_ok : ∀ k, k < 0 → parseFieldDescriptor (TJ13 k).2.2.1 = some (tyJ13 k) := by decide +kernel
abbrev cJ13_bitCount_95d88 : ByteArray := prog_13_method_50_code
def yJ13_bitCount_95d88 : MethodName := ⟨RJ13, "bitCount", "(J)I"⟩
def RJ9 : String := "java/lang/Math"
def TJ9 : u_T := fun k => match k with
  | _ => ("", "", "", false)
def tyJ9 : Nat → FieldType := fun k => match k with
  | _ => .int
theorem nmJ9 : ∀ a, a < 0 → ∀ b, b < 0 → a ≠ b → (TJ9 a).2.1 ≠ (TJ9 b).2.1 := by decide +kernel
theorem tyJ9_ok : ∀ k, k < 0 → parseFieldDescriptor (TJ9 k).2.2.1 = some (tyJ9 k) := by decide +kernel
abbrev cJ9_floorMod_7cf53 : ByteArray := prog_14_method_50_code
def yJ9_floorMod_7cf53 : MethodName := ⟨RJ9, "floorMod", "(II)I"⟩
abbrev cJ9_max_7cf53 : ByteArray := prog_14_method_65_code
def yJ9_max_7cf53 : MethodName := ⟨RJ9, "max", "(II)I"⟩
abbrev cJ9_min_7cf53 : ByteArray := prog_14_method_69_code
def yJ9_min_7cf53 : MethodName := ⟨RJ9, "min", "(II)I"⟩
abbrev cJ9_min_f86c9 : ByteArray := prog_14_method_70_code
def yJ9_min_f86c9 : MethodName := ⟨RJ9, "min", "(JJ)J"⟩
def RJ0 : String := "java/lang/String"
def TJ0 : u_T := fun k => match k with
  | _ => ("", "", "", false)
def tyJ0 : Nat → FieldType := fun k => match k with
  | _ => .int
theorem nmJ0 : ∀ a, a < 0 → ∀ b, b < 0 → a ≠ b → (TJ0 a).2.1 ≠ (TJ0 b).2.1 := by decide +kernel
theorem tyJ0_ok : ∀ k, k < 0 → parseFieldDescriptor (TJ0 k).2.2.1 = some (tyJ0 k) := by decide +kernel
def RJ10 : String := "java/lang/System"
def TJ10 : u_T := fun k => match k with
  | _ => ("", "", "", false)
def tyJ10 : Nat → FieldType := fun k => match k with
  | _ => .int
theorem nmJ10 : ∀ a, a < 0 → ∀ b, b < 0 → a ≠ b → (TJ10 a).2.1 ≠ (TJ10 b).2.1 := by decide +kernel
theorem tyJ10_ok : ∀ k, k < 0 → parseFieldDescriptor (TJ10 k).2.2.1 = some (tyJ10 k) := by decide +kernel
def RL : String := "WidthWordsLaw"
abbrev cL_cell : ByteArray := method_2_code
def yL_cell : MethodName := ⟨RL, "cell", "([II)I"⟩
abbrev cL_word : ByteArray := method_3_code
def yL_word : MethodName := ⟨RL, "word", "(LWidthWords;[J)I"⟩
abbrev cL_set : ByteArray := method_4_code
def yL_set : MethodName := ⟨RL, "set", "(LWidthWords;IIJ[J)I"⟩
abbrev cL_op : ByteArray := method_5_code
def yL_op : MethodName := ⟨RL, "op", "(LWidthWords;III[J)I"⟩
abbrev cL_flag : ByteArray := method_6_code
def yL_flag : MethodName := ⟨RL, "flag", "(LWidthWords;I[J)I"⟩
abbrev cL_field : ByteArray := method_7_code
def yL_field : MethodName := ⟨RL, "field", "(LWidthWords;III[J)I"⟩
abbrev cL_join : ByteArray := method_8_code
def yL_join : MethodName := ⟨RL, "join", "(LWidthWords;II[J)I"⟩
abbrev cL_extend : ByteArray := method_9_code
def yL_extend : MethodName := ⟨RL, "extend", "(LWidthWords;IIZ[J)I"⟩
abbrev cL_compare : ByteArray := method_10_code
def yL_compare : MethodName := ⟨RL, "compare", "(LWidthWords;IIZ[J)I"⟩
abbrev cL_bit : ByteArray := method_11_code
def yL_bit : MethodName := ⟨RL, "bit", "(LWidthWords;II[J)I"⟩
abbrev cL_limb : ByteArray := method_12_code
def yL_limb : MethodName := ⟨RL, "limb", "(LWidthWords;II[J)I"⟩
abbrev cL_real : ByteArray := method_13_code
def yL_real : MethodName := ⟨RL, "real", "(LWidthWords;IIII[J)I"⟩
abbrev cL_count : ByteArray := method_14_code
def yL_count : MethodName := ⟨RL, "count", "(LWidthWords;I[J)I"⟩
abbrev cL_width : ByteArray := method_15_code
def yL_width : MethodName := ⟨RL, "width", "(LWidthWords;I[J)I"⟩
abbrev cL_law : ByteArray := code
def yL_law : MethodName := ⟨RL, "law", "([I)Z"⟩
abbrev vwCl : List vw_C := [(RJx00060, TJx00060, 6), (RX0, TX0, 7), (RX1, TX1, 7), (RX2, TX2, 9), (RX4, TX4, 9), (RX5, TX5, 15)]
end
section
/-! ===== the walk told once: an abstract heap by numbers of things, a judgement over it ===== -/
abbrev ka_H : Type := Nat → va_E
/-- a method: name, code, locals, what it returns, its table -/
abbrev ka_Md : Type := MethodName × ByteArray × Nat × Option FieldType × List (Nat × Nat × Nat × Nat)
/-- how a call ends: it returned, or it threw something of the class of that name -/
abbrev ka_O : Type := Option Value ⊕ String
/-- the number of the law's script among the things -/
def ka_S : Nat := 1000000
/-- the tables' words that stay -/
def ka_T : List Cond := lw_tbl.filter goodWord
def ka_v (φ : Nat → Nat) (v : Value) : Value := match v with
  | .ref k => .ref (φ k)
  | w => w
def ka_e (φ : Nat → Nat) (τ : Nat → ClassId) (e : va_E) : va_E := match e with
  | .inl (k, x) => .inl (τ k, x)
  | .inr (ci, fs) => .inr (ci, fs.map (ka_v φ))
def ka_w (φ : Nat → Nat) (τ : Nat → ClassId) (h : ka_H) (N : Nat) : va_W := (List.range N).map (fun k => (φ k, ka_e φ τ (h k)))
def ka_tys (τ : Nat → ClassId) : List (ClassId × FieldType) := [(τ 0, .int), (τ 1, .long), (τ 2, .byte)]
def ka_set (h : ka_H) (k : Nat) (e : va_E) : ka_H := fun j => if j = k then e else h j
def ka_wf (h : ka_H) (N : Nat) : Prop := ∀ k, k < N → ∀ (ci : Nat) (fs : List Value), h k = .inr (ci, fs) → ∀ j, Value.ref j ∈ fs → j < N
def ka_str : List (String × Nat × String) := [("WidthWords", 86, "the word has no whole bytes"), ("WidthWords", 101, "a quotient or rest by 0"), ("WidthWords", 120, "there is no such flag"), ("WidthWords", 122, "the word has no such field"), ("WidthWords", 128, "both have more than 512 bits"), ("WidthWords", 133, "the word can't have that width"), ("WidthWords", 147, "the word has no such bit"), ("WidthWords", 153, "the words are too wide or too narrow for a point"), ("WidthWords", 171, "there is no such word"), ("WidthWords", 174, "there is no such limb"), ("WidthWords", 176, "there is no such kind or way"), ("WidthWords", 178, "the words have not one width"), ("WidthWords", 182, "there are 600 words")]
/-- classes of which the first isn't one of the second -/
def ka_nc : List (String × String) := [("java/lang/IllegalArgumentException", "java/lang/ArrayIndexOutOfBoundsException"), ("java/lang/ArithmeticException", "java/lang/ArrayIndexOutOfBoundsException"), ("java/lang/UnsupportedOperationException", "java/lang/ArrayIndexOutOfBoundsException"), ("java/lang/ArithmeticException", "java/lang/IllegalArgumentException"), ("java/lang/UnsupportedOperationException", "java/lang/IllegalArgumentException"), ("java/lang/UnsupportedOperationException", "java/lang/ArithmeticException")]
theorem ka_w_at {φ : Nat → Nat} {τ : Nat → ClassId} {h : ka_H} {N k : Nat} (hk : k < N) : (ka_w φ τ h N)[k]? = some (φ k, ka_e φ τ (h k)) := by
  simp [ka_w, hk]
theorem ka_w_len {φ : Nat → Nat} {τ : Nat → ClassId} {h : ka_H} {N : Nat} : (ka_w φ τ h N).length = N := by simp [ka_w]
theorem ka_w_set {φ : Nat → Nat} {τ : Nat → ClassId} {h : ka_H} {N k : Nat} {e : va_E} (hk : k < N) : (ka_w φ τ h N).set k (φ k, ka_e φ τ e) = ka_w φ τ (ka_set h k e) N := by
  apply List.ext_getElem?
  intro j
  rw [List.getElem?_set]
  by_cases hj : k = j
  · subst hj
    rw [if_pos rfl, if_pos (by rw [ka_w_len]; exact hk), ka_w_at hk]
    simp [ka_set]
  · rw [if_neg hj]
    simp only [ka_w, List.getElem?_map]
    cases hr : (List.range N)[j]? with
    | none => rfl
    | some i =>
      have hi : i = j := by
        rw [List.getElem?_range] at hr
        · exact (Option.some.inj hr).symm
        · rcases Nat.lt_or_ge j N with q | q
          · exact q
          · rw [List.getElem?_eq_none (by simpa using q)] at hr; cases hr
      subst hi
      simp [ka_set, Ne.symm hj]
theorem ka_v_int (φ : Nat → Nat) (x : Int32) : ka_v φ (.int x) = .int x := rfl
theorem ka_v_long (φ : Nat → Nat) (x : Int64) : ka_v φ (.long x) = .long x := rfl
theorem ka_v_ref (φ : Nat → Nat) (k : Nat) : ka_v φ (.ref k) = .ref (φ k) := rfl
theorem ka_v_cat (φ : Nat → Nat) (v : Value) : (ka_v φ v).category = v.category := by cases v <;> rfl
theorem ka_st_cat (φ : Nat → Nat) (st : List Value) : ((st.map (ka_v φ)).map fun v => v.category) = st.map (fun v => v.category) := by
  rw [List.map_map]
  exact List.map_congr_left (fun v _ => ka_v_cat φ v)
theorem ka_v_same {φ ψ : Nat → Nat} {v : Value} (h : ∀ j, v = .ref j → φ j = ψ j) : ka_v φ v = ka_v ψ v := by
  cases v with
  | ref j => simp only [ka_v, h j rfl]
  | _ => rfl
theorem ka_vs_same {φ ψ : Nat → Nat} {vs : List Value} (h : ∀ j, Value.ref j ∈ vs → φ j = ψ j) : vs.map (ka_v φ) = vs.map (ka_v ψ) :=
  List.map_congr_left (fun v hv => ka_v_same (fun j e => h j (e ▸ hv)))
theorem ka_e_same {φ ψ : Nat → Nat} {τ : Nat → ClassId} {e : va_E} (h : ∀ ci fs, e = .inr (ci, fs) → ∀ j, Value.ref j ∈ fs → φ j = ψ j) : ka_e φ τ e = ka_e ψ τ e := by
  match e, h with
  | .inl (k, x), _ => rfl
  | .inr (ci, fs), h => simp only [ka_e, ka_vs_same (h ci fs rfl)]
theorem ka_w_same {φ ψ : Nat → Nat} {τ : Nat → ClassId} {h : ka_H} {N : Nat} (hw : ka_wf h N) (hs : ∀ j, j < N → φ j = ψ j) : ka_w φ τ h N = ka_w ψ τ h N := by
  refine List.map_congr_left (fun k hk => ?_)
  have hk := List.mem_range.mp hk
  rw [hs k hk, ka_e_same (fun ci fs he j hj => hs j (hw k hk ci fs he j hj))]
theorem ka_w_push {φ : Nat → Nat} {τ : Nat → ClassId} {h : ka_H} {N q : Nat} {e : va_E} (hw : ka_wf h N) (he : ∀ ci fs, e = .inr (ci, fs) → ∀ j, Value.ref j ∈ fs → j < N) :
    ka_w φ τ h N ++ [(q, ka_e φ τ e)] = ka_w (fun k => if k = N then q else φ k) τ (ka_set h N e) (N + 1) := by
  have h1 : ka_w φ τ h N = (List.range N).map (fun k => ((fun k => if k = N then q else φ k) k, ka_e (fun k => if k = N then q else φ k) τ (ka_set h N e k))) := by
    refine List.map_congr_left (fun k hk => ?_)
    have hk := List.mem_range.mp hk
    have h2 : ka_set h N e k = h k := by simp [ka_set, Nat.ne_of_lt hk]
    have h3 : (if k = N then q else φ k) = φ k := if_neg (Nat.ne_of_lt hk)
    show (φ k, ka_e φ τ (h k)) = ((if k = N then q else φ k), ka_e (fun k => if k = N then q else φ k) τ (ka_set h N e k))
    rw [h3, h2, ka_e_same (ψ := fun k => if k = N then q else φ k) (fun ci fs he j hj => (if_neg (Nat.ne_of_lt (hw k hk ci fs he j hj))).symm)]
  rw [h1]
  simp only [ka_w, List.range_succ, List.map_append, List.map_cons, List.map_nil]
  congr 2
  simp only [ka_set, if_pos]
  rw [ka_e_same (ψ := fun k => if k = N then q else φ k) (fun ci fs he' j hj => (if_neg (Nat.ne_of_lt (he ci fs he' j hj))).symm)]
theorem ka_wf_push {h : ka_H} {N : Nat} {e : va_E} (hw : ka_wf h N) (he : ∀ ci fs, e = .inr (ci, fs) → ∀ j, Value.ref j ∈ fs → j < N) : ka_wf (ka_set h N e) (N + 1) := by
  intro k hk ci fs hh j hj
  by_cases e1 : k = N
  · subst e1
    simp only [ka_set, if_pos] at hh
    exact Nat.lt_succ_of_lt (he ci fs hh j hj)
  · simp only [ka_set, if_neg e1] at hh
    exact Nat.lt_succ_of_lt (hw k (by omega) ci fs hh j hj)
theorem ka_wf_set {h : ka_H} {N k : Nat} {e : va_E} (hw : ka_wf h N) (he : ∀ ci fs, e = .inr (ci, fs) → ∀ j, Value.ref j ∈ fs → j < N) : ka_wf (ka_set h k e) N := by
  intro i hi ci fs hh j hj
  by_cases e1 : i = k
  · subst e1
    simp only [ka_set, if_pos] at hh
    exact he ci fs hh j hj
  · simp only [ka_set, if_neg e1] at hh
    exact hw i hi ci fs hh j hj
def ka_xs : List String := ["java/lang/ArrayIndexOutOfBoundsException", "java/lang/IllegalArgumentException", "java/lang/ArithmeticException", "java/lang/UnsupportedOperationException"]
/-- a class that is there and is itself -/
def ka_cst (E : String) (s : State) : Prop := ∃ c, s.vm.findClass E = some c ∧ s.vm.assignable c c = true
theorem ka_cst.moved {E : String} {s U : State} (ha : s.vm.Alike U.vm) (h : ka_cst E s) : ka_cst E U := by
  obtain ⟨c, h1, h2⟩ := h
  exact ⟨c, by rw [ha.findClass]; exact h1, by rw [ha.assignable]; exact h2⟩
theorem ka_cst.word {E : String} {s : State} {args : Array Value} (h : ka_cst E s) : (Cond.castable E E).before args s = true := by
  obtain ⟨c, h1, h2⟩ := h
  simp [Cond.before, Cond.holds, Cond.value, h1, h2]
/-- what holds at the entry of each method of the system: the classes, the script, the two statics of Throwable, the texts; A: what may be written -/
def ka_U (D : va_G) (τ : Nat → ClassId) (b L : Nat) (xs : Nat → Int32) (A : Nat → Prop) (s : State) : Prop :=
  va_K D vwCl (ka_tys τ) s ∧ (∀ q, s.heap.size ≤ q → A q) ∧ va_X b L xs s s.heap ∧ b < s.heap.size ∧ ¬ A b ∧ vx_Zq Bundle.tN "UNASSIGNED_STACK" Bundle.steD A s s.heap ∧ vx_Zq Bundle.tN "SUPPRESSED_SENTINEL" Bundle.listD A s s.heap ∧
  (∀ q ∈ ka_str, ∃ sa, vk_R q.1 q.2.1 q.2.2 sa s) ∧ s.vm.findClass ("[" ++ FieldType.int.toString) = some (τ 0) ∧ s.vm.findClass ("[" ++ FieldType.long.toString) = some (τ 1) ∧ s.vm.findClass ("[" ++ FieldType.byte.toString) = some (τ 2) ∧ (∀ q ∈ ka_nc, va_Nc q.1 q.2 s) ∧ (∀ E ∈ ka_xs, ka_cst E s)
theorem ka_U.moved {D : va_G} {τ : Nat → ClassId} {b L : Nat} {xs : Nat → Int32} {A : Nat → Prop} {s U : State} {H : Heap} {locs : List Loc} (h : ka_U D τ b L xs A s) (hW : s.WarmedH U.vm) (hS : va_S A s.heap H locs) (hU : U.heap = H) : ka_U D τ b L xs A U := by
  obtain ⟨h1, h2, h3, h4, h5, h6, h7, h8, h9, h10, h11, h12, h13⟩ := h
  obtain ⟨s1, s2, -⟩ := hS
  rw [← hU] at s1 s2
  have ha : s.vm.Alike U.vm := hW.alike
  refine ⟨va_K.moved ha h1, fun q hq => h2 q (Nat.le_trans s1 hq), va_X.moved ha (h3.kept (s2 b h4 h5)), Nat.lt_of_lt_of_le h4 s1, h5, vx_Zq.moved ha (h6.kept s2), vx_Zq.moved ha (h7.kept s2), fun q hq => ?_, ?_, ?_, ?_, fun q hq => va_Nc.moved ha (h12 q hq), fun E hE => (h13 E hE).moved ha⟩
  · obtain ⟨sa, hsa⟩ := h8 q hq
    exact ⟨sa, hsa.warm hW⟩
  · rw [ha.findClass]; exact h9
  · rw [ha.findClass]; exact h10
  · rw [ha.findClass]; exact h11
/-- the world behind a call -/
def ka_B (D : va_G) (τ : Nat → ClassId) (A : Nat → Prop) (φ : Nat → Nat) (N : Nat) (h' : ka_H) (N' : Nat) (φ' : Nat → Nat) (t : State) : Prop :=
  va_P D vwCl (ka_w φ' τ h' N') t.heap ∧ va_D A (ka_w φ' τ h' N') ∧ ka_wf h' N' ∧ N ≤ N' ∧ (∀ k, k < N ∨ N' ≤ k → φ' k = φ k)
def ka_Pc (D : va_G) (τ : Nat → ClassId) (b L : Nat) (xs : Nat → Int32) (A : Nat → Prop) (φ : Nat → Nat) (av : List Value) (h : ka_H) (N : Nat) : Array Value → State → Prop := fun v U =>
  v = (av.map (ka_v φ)).toArray ∧ ka_U D τ b L xs A U ∧ φ ka_S = b ∧ va_P D vwCl (ka_w φ τ h N) U.heap ∧ va_D A (ka_w φ τ h N) ∧ ka_wf h N
def ka_Qc (D : va_G) (τ : Nat → ClassId) (A : Nat → Prop) (φ : Nat → Nat) (N : Nat) (Q : ka_O → ka_H → Nat → Prop) : Array Value → State → Outcome → State → Prop := fun _ st o t =>
  (∃ (v : Option Value) (h' : ka_H) (N' : Nat) (φ' : Nat → Nat), o = .returned (v.map (ka_v φ')) ∧ Q (.inl v) h' N' ∧ ka_B D τ A φ N h' N' φ' t) ∧ va_F A st t
def ka_Xc (D : va_G) (τ : Nat → ClassId) (A : Nat → Prop) (φ : Nat → Nat) (N : Nat) (Q : ka_O → ka_H → Nat → Prop) : String → State → State → Prop := fun E st t =>
  (∃ (h' : ka_H) (N' : Nat) (φ' : Nat → Nat), Q (.inr E) h' N' ∧ ka_B D τ A φ N h' N' φ' t) ∧ va_F A st t
def ka_ws (M : ka_Md) : List Cond := match M.2.2.2.2 with
  | [] => .code M.1 M.2.1 M.2.2.1 M.2.2.2.1 :: ka_T
  | hh => .codeWith M.1 M.2.1 M.2.2.1 M.2.2.2.1 hh :: ka_T
/-- THE CONTRACT of a method -/
def ka_M (L : Nat) (xs : Nat → Int32) (M : ka_Md) (R : Room) (av : List Value) (h : ka_H) (N : Nat) (Q : ka_O → ka_H → Nat → Prop) : Prop :=
  ∀ (l : Launch) (D : va_G) (τ : Nat → ClassId) (b : Nat) (A : Nat → Prop) (φ : Nat → Nat), l.stackTraces = false →
    vx_Met l M.1 (ka_ws M) R (ka_Pc D τ b L xs A φ av h N) (ka_Qc D τ A φ N Q) (ka_Xc D τ A φ N Q) R.cells R.slots A
/-- what is known inside a method's body -/
def ka_C (L : Nat) (xs : Nat → Int32) (M : ka_Md) (D : va_G) (τ : Nat → ClassId) (b : Nat) (A : Nat → Prop) (p : Program) (l : Launch) (s : State) (m : MethodId) (args : Array Value) (meth : Method) (c : Code) : Prop :=
  p.tables.exec = Jvm.exec ∧ c.code = M.2.1 ∧ c.maxLocals = M.2.2.1 ∧ meth.sig.returnType = M.2.2.2.1 ∧ meth.locks = false ∧ meth.name = M.1.name ∧ c.exceptionTable.toList = tableOf M.2.2.2.2 ∧ s.vm.findClass M.1.cls = some m.cls ∧
  (∀ w ∈ ka_T, w.before args s = true) ∧ l.stackTraces = false ∧ ka_U D τ b L xs A s
def ka_loc (φ : Nat → Nat) (ls : List (Nat × Value)) : List (Nat × Value) := ls.map (fun q => (q.1, ka_v φ q.2))
/-- THE JUDGEMENT: at pc with the locals ls and the operand stack st, over the things h (N of them), at most mc cells and ms slots still to be made: it comes to an end with Q -/
def ka_W (L : Nat) (xs : Nat → Int32) (M : ka_Md) (R : Room) (pc : Nat) (ls : List (Nat × Value)) (st : List Value) (h : ka_H) (N mc ms : Nat) (Q : ka_O → ka_H → Nat → Prop) : Prop :=
  ∀ (l : Launch) (D : va_G) (τ : Nat → ClassId) (b : Nat) (A : Nat → Prop) (φ0 : Nat → Nat) (N0 : Nat) (p : Program) (e : Env) (s : State) (m : MethodId) (args : Array Value) (below : List Frame) (meth : Method) (c : Code) (H : Heap) (locs : List Loc) (cells slots : Nat) (φ : Nat → Nat) (rls : Array Slot),
    ka_C L xs M D τ b A p l s m args meth c → va_P D vwCl (ka_w φ τ h N) H → va_D A (ka_w φ τ h N) → va_S A s.heap H locs → ka_wf h N → N0 ≤ N → (∀ k, k < N0 ∨ N ≤ k → φ k = φ0 k) → φ ka_S = b →
    lv_has rls M.2.2.1 (ka_loc φ ls) → cells + mc ≤ R.cells → slots + ms ≤ R.slots →
    W p l e R s m args below meth c H locs cells slots (vx_MQ below (ka_Qc D τ A φ0 N0 Q) (ka_Xc D τ A φ0 N0 Q) args s R.cells R.slots A) (F0 m pc rls (st.map (ka_v φ)))
section KA
variable {L : Nat} {xs : Nat → Int32} {M : ka_Md} {R : Room} {pc : Nat} {ls : List (Nat × Value)} {st : List Value} {h : ka_H} {N mc ms : Nat} {Q : ka_O → ka_H → Nat → Prop}
/-- a step that leaves locals and heap alone -/
theorem ka_pure {pc' : Nat} {st' : List Value} (hs : ∀ (p : Program) (l : Launch) (e : Env) (s : State) (m : MethodId) (args : Array Value) (below : List Frame) (meth : Method) (c : Code) (H : Heap) (locs : List Loc) (cells slots : Nat) (Z : State → Prop) (φ : Nat → Nat) (rls : Array Slot),
      p.tables.exec = Jvm.exec → c.code = M.2.1 → s.vm.findClass M.1.cls = some m.cls → (∀ w ∈ ka_T, w.before args s = true) → lv_has rls M.2.2.1 (ka_loc φ ls) →
      W p l e R s m args below meth c H locs cells slots Z (F0 m pc' rls (st'.map (ka_v φ))) → W p l e R s m args below meth c H locs cells slots Z (F0 m pc rls (st.map (ka_v φ))))
    (k : ka_W L xs M R pc' ls st' h N mc ms Q) : ka_W L xs M R pc ls st h N mc ms Q := by
  intro l D τ b A φ0 N0 p e s m args below meth c H locs cells slots φ rls C hP hD hS hw hN hφ hb hl hc hz
  exact hs p l e s m args below meth c H locs cells slots _ φ rls C.1 C.2.1 C.2.2.2.2.2.2.2.1 C.2.2.2.2.2.2.2.2.1 hl (k l D τ b A φ0 N0 p e s m args below meth c H locs cells slots φ rls C hP hD hS hw hN hφ hb hl hc hz)
theorem ka_at {φ : Nat → Nat} {rls : Array Slot} {nL : Nat} (hl : lv_has rls nL (ka_loc φ ls)) {k i : Nat} {v : Value} (hk : ls[k]? = some (i, v)) : rls[i]? = some (.val (ka_v φ v)) :=
  lv_at hl k (by simp [ka_loc, hk])
end KA
/-- the words of a call: by a name, of a method without a table -/
def ka_lk (own : String) (idx : Nat) (M2 : ka_Md) (n : Nat) : Prop :=
  M2.2.2.2.2 = [] ∧ Cond.methodLink own idx M2.1 ∈ ka_T ∧ Cond.initialized M2.1.cls ∈ ka_T ∧ Cond.code M2.1 M2.2.1 M2.2.2.1 M2.2.2.2.1 ∈ ka_T ∧ (M2.1.cls ≠ "java/lang/invoke/MethodHandle" ∧ M2.1.cls ≠ "java/lang/invoke/VarHandle" ∧ (parseMethodDescriptor M2.1.desc).map (fun d => d.parameters.length) = some n)
def ka_lkV (own : String) (idx : Nat) (M2 : ka_Md) (n : Nat) : Prop := ka_lk own idx M2 n ∧ Cond.instanceMethod M2.1 ∈ ka_T ∧ Cond.selects M2.1.cls M2.1 M2.1 ∈ ka_T
def ka_lkS (own : String) (idx : Nat) (M2 : ka_Md) (n : Nat) : Prop := ka_lk own idx M2 n ∧ Cond.static M2.1 ∈ ka_T
def ka_lkI (own : String) (idx : Nat) (M2 : ka_Md) (n : Nat) : Prop := ka_lk own idx M2 n ∧ M2.1.name = "<init>" ∧ Cond.instanceMethod M2.1 ∈ ka_T
end
section
theorem ka_tm {w : Cond} (i : Nat) (h : tables_1[i]? = some w) (hg : goodWord w = true) : w ∈ ka_T := List.mem_filter.mpr ⟨List.mem_append_right _ (List.mem_of_getElem? h), hg⟩
theorem ka_pm {y : MethodName} (i : Nat) (h : (lw_privs[i]?).map Prod.fst = some y) (hg : goodWord (Cond.selects y.cls y y) = true) : Cond.selects y.cls y y ∈ ka_T := by
  cases hq : lw_privs[i]? with
  | none => rw [hq] at h; cases h
  | some z =>
    rw [hq] at h
    have e : z.1 = y := Option.some.inj h
    exact List.mem_filter.mpr ⟨List.mem_append_left _ (List.mem_map.mpr ⟨z, List.mem_of_getElem? hq, by rw [e]⟩), hg⟩
abbrev mM_max : ka_Md := (Lib.Math.max.name, Lib.Math.max.code, 2, some .int, [])
abbrev mM_min : ka_Md := (Lib.Math.min.name, Lib.Math.min.code, 2, some .int, [])
abbrev mM_minl : ka_Md := (Lib.MathLoose.min_long.x, Lib.MathLoose.min_long.code, 4, some .long, [])
abbrev mX0_init : ka_Md := (yX0_init, cX0_init, 1, none, [])
abbrev mX0_digitsOf : ka_Md := (yX0_digitsOf, cX0_digitsOf, 1, some .int, [])
abbrev mX0_split : ka_Md := (yX0_split, cX0_split, 3, none, [])
abbrev mX3_clear : ka_Md := (yX3_clear, cX3_clear, 2, none, [])
abbrev mX0_addMultiple : ka_Md := (yX0_addMultiple, cX0_addMultiple, 10, none, [])
abbrev mX0_merge : ka_Md := (yX0_merge, cX0_merge, 3, none, [])
abbrev mX0_multiply : ka_Md := (yX0_multiply, cX0_multiply, 6, none, [])
abbrev mX3_lengthOfLimb : ka_Md := (yX3_lengthOfLimb, cX3_lengthOfLimb, 3, some .int, [])
abbrev mX3_lengthOf : ka_Md := (yX3_lengthOf, cX3_lengthOf, 2, some .int, [])
abbrev mX3_limbOrNought : ka_Md := (yX3_limbOrNought, cX3_limbOrNought, 2, some .long, [])
abbrev mX3_bitsFrom : ka_Md := (yX3_bitsFrom, cX3_bitsFrom, 6, some .long, [])
abbrev mX3_moveUp : ka_Md := (yX3_moveUp, cX3_moveUp, 4, none, [])
abbrev mX0_quotientOf : ka_Md := (yX0_quotientOf, cX0_quotientOf, 6, some .long, [])
abbrev mX0_subtractMultiple : ka_Md := (yX0_subtractMultiple, cX0_subtractMultiple, 12, some .boolean, [])
abbrev mX0_addBack : ka_Md := (yX0_addBack, cX0_addBack, 8, some .boolean, [])
abbrev mX0_takeMultiple : ka_Md := (yX0_takeMultiple, cX0_takeMultiple, 9, some .long, [])
abbrev mX0_divide : ka_Md := (yX0_divide, cX0_divide, 8, none, [])
abbrev mX1_init : ka_Md := (yX1_init, cX1_init, 1, none, [])
abbrev mX3_add : ka_Md := (yX3_add, cX3_add, 12, none, [])
abbrev mX3_bitOrNought : ka_Md := (yX3_bitOrNought, cX3_bitOrNought, 2, some .int, [])
abbrev mX1_highest : ka_Md := (yX1_highest, cX1_highest, 2, some .int, [])
abbrev mX1_sum : ka_Md := (yX1_sum, cX1_sum, 4, none, [])
abbrev mX3_subtract : ka_Md := (yX3_subtract, cX3_subtract, 12, none, [])
abbrev mX1_difference : ka_Md := (yX1_difference, cX1_difference, 4, none, [])
abbrev mX3_isNought : ka_Md := (yX3_isNought, cX3_isNought, 4, some .boolean, [])
abbrev mX3_maskOf : ka_Md := (yX3_maskOf, cX3_maskOf, 3, some .long, [])
abbrev mX3_cut : ka_Md := (yX3_cut, cX3_cut, 3, none, [])
abbrev mX3_negate : ka_Md := (yX3_negate, cX3_negate, 7, none, [])
abbrev mX3_atMost : ka_Md := (yX3_atMost, cX3_atMost, 3, some .int, [])
abbrev mX1_fitsWithSign : ka_Md := (yX1_fitsWithSign, cX1_fitsWithSign, 5, some .boolean, [])
abbrev mX1_product : ka_Md := (yX1_product, cX1_product, 6, none, [])
abbrev mX1_quotientOrRest : ka_Md := (yX1_quotientOrRest, cX1_quotientOrRest, 10, none, [])
abbrev mX3_fillFrom : ka_Md := (yX3_fillFrom, cX3_fillFrom, 3, none, [])
abbrev mX1_moved : ka_Md := (yX1_moved, cX1_moved, 6, none, [])
abbrev mX3_restBy : ka_Md := (yX3_restBy, cX3_restBy, 5, some .int, [])
abbrev mX3_orMovedUp : ka_Md := (yX3_orMovedUp, cX3_orMovedUp, 4, none, [])
abbrev mX1_turned : ka_Md := (yX1_turned, cX1_turned, 7, none, [])
abbrev mX1_bitByBit : ka_Md := (yX1_bitByBit, cX1_bitByBit, 6, none, [])
abbrev mX3_swapped : ka_Md := (yX3_swapped, cX3_swapped, 5, some .long, [])
abbrev mX3_bytesReversed : ka_Md := (yX3_bytesReversed, cX3_bytesReversed, 4, some .long, [])
abbrev mX3_bitsReversed : ka_Md := (yX3_bitsReversed, cX3_bitsReversed, 6, some .long, [])
abbrev mX1_reversed : ka_Md := (yX1_reversed, cX1_reversed, 7, none, [])
abbrev mX1_run : ka_Md := (yX1_run, cX1_run, 6, none, [])
abbrev mX2_init : ka_Md := (yX2_init, cX2_init, 1, none, [])
abbrev mX2_choose : ka_Md := (yX2_choose, cX2_choose, 5, none, [])
abbrev mX2_exponentOf : ka_Md := (yX2_exponentOf, cX2_exponentOf, 3, some .int, [])
abbrev mX2_fractionOf : ka_Md := (yX2_fractionOf, cX2_fractionOf, 3, some .long, [])
abbrev mX2_isNone : ka_Md := (yX2_isNone, cX2_isNone, 3, some .boolean, [])
abbrev mX2_withSign : ka_Md := (yX2_withSign, cX2_withSign, 4, some .long, [])
abbrev mX2_infinite : ka_Md := (yX2_infinite, cX2_infinite, 2, some .long, [])
abbrev mX2_none : ka_Md := (yX2_none, cX2_none, 1, some .long, [])
abbrev mX2_isInfinite : ka_Md := (yX2_isInfinite, cX2_isInfinite, 3, some .boolean, [])
abbrev mX2_isNought : ka_Md := (yX2_isNought, cX2_isNought, 3, some .boolean, [])
abbrev mX2_signOf : ka_Md := (yX2_signOf, cX2_signOf, 3, some .boolean, [])
abbrev mX2_notValid : ka_Md := (yX2_notValid, cX2_notValid, 1, some .long, [])
abbrev mX2_withoutRounding : ka_Md := (yX2_withoutRounding, cX2_withoutRounding, 10, some .long, [])
abbrev mX2_wholeOf : ka_Md := (yX2_wholeOf, cX2_wholeOf, 3, some .long, [])
abbrev mX2_powerOf : ka_Md := (yX2_powerOf, cX2_powerOf, 3, some .int, [])
abbrev mX2_divide : ka_Md := (yX2_divide, cX2_divide, 12, none, [])
abbrev mX2_multiply : ka_Md := (yX2_multiply, cX2_multiply, 5, none, [])
abbrev mX2_movedDown : ka_Md := (yX2_movedDown, cX2_movedDown, 6, some .long, [])
abbrev mX2_add : ka_Md := (yX2_add, cX2_add, 19, none, [])
abbrev mX2_tooGreat : ka_Md := (yX2_tooGreat, cX2_tooGreat, 3, some .long, [])
abbrev mX2_finite : ka_Md := (yX2_finite, cX2_finite, 10, some .long, [])
abbrev mX2_goesAway : ka_Md := (yX2_goesAway, cX2_goesAway, 7, some .boolean, [])
abbrev mX2_rounded : ka_Md := (yX2_rounded, cX2_rounded, 9, some .long, [])
abbrev mX2_answer : ka_Md := (yX2_answer, cX2_answer, 9, some .long, [])
abbrev mJ9_floorMod_7cf53 : ka_Md := (yJ9_floorMod_7cf53, cJ9_floorMod_7cf53, 3, some .int, [])
abbrev mX4_init : ka_Md := (yX4_init, cX4_init, 2, none, [])
abbrev mX4_requireRoom : ka_Md := (yX4_requireRoom, cX4_requireRoom, 1, none, [])
abbrev mX4_keepMade : ka_Md := (yX4_keepMade, cX4_keepMade, 3, some .int, [])
abbrev mX4_word : ka_Md := (yX4_word, cX4_word, 1, some .int, [])
abbrev mX4_requireWord : ka_Md := (yX4_requireWord, cX4_requireWord, 2, none, [])
abbrev mX4_requireLimb : ka_Md := (yX4_requireLimb, cX4_requireLimb, 3, none, [])
abbrev mX4_set : ka_Md := (yX4_set, cX4_set, 7, some .boolean, [])
abbrev mX4_requireKind : ka_Md := (yX4_requireKind, cX4_requireKind, 3, none, [])
abbrev mX4_requireOneWidth : ka_Md := (yX4_requireOneWidth, cX4_requireOneWidth, 3, none, [])
abbrev mX4_load : ka_Md := (yX4_load, cX4_load, 3, none, [])
abbrev mX4_op : ka_Md := (yX4_op, cX4_op, 5, some .int, [])
abbrev mX4_flag : ka_Md := (yX4_flag, cX4_flag, 2, some .int, [])
abbrev mX4_field : ka_Md := (yX4_field, cX4_field, 4, some .int, [])
abbrev mX4_join : ka_Md := (yX4_join, cX4_join, 4, some .int, [])
abbrev mX4_hasBit : ka_Md := (yX4_hasBit, cX4_hasBit, 3, some .boolean, [])
abbrev mX4_isNegative : ka_Md := (yX4_isNegative, cX4_isNegative, 2, some .boolean, [])
abbrev mX4_extend : ka_Md := (yX4_extend, cX4_extend, 4, some .int, [])
abbrev mX4_compare : ka_Md := (yX4_compare, cX4_compare, 9, some .int, [])
abbrev mX4_bit : ka_Md := (yX4_bit, cX4_bit, 3, some .boolean, [])
abbrev mX4_limb : ka_Md := (yX4_limb, cX4_limb, 3, some .long, [])
abbrev mX4_real : ka_Md := (yX4_real, cX4_real, 6, some .int, [])
abbrev mX4_flags : ka_Md := (yX4_flags, cX4_flags, 1, some .int, [])
abbrev mJ13_bitCount_95d88 : ka_Md := (yJ13_bitCount_95d88, cJ13_bitCount_95d88, 2, some .int, [])
abbrev mX4_count : ka_Md := (yX4_count, cX4_count, 4, some .int, [])
abbrev mX4_width : ka_Md := (yX4_width, cX4_width, 2, some .int, [])
abbrev mX5_init : ka_Md := (yX5_init, cX5_init, 2, none, [])
abbrev mX5_thrown : ka_Md := (yX5_thrown, cX5_thrown, 1, some .int, [])
abbrev mX5_isWord : ka_Md := (yX5_isWord, cX5_isWord, 2, some .boolean, [])
abbrev mX5_throwing : ka_Md := (yX5_throwing, cX5_throwing, 5, some .boolean, [])
abbrev mX5_bitOf : ka_Md := (yX5_bitOf, cX5_bitOf, 3, some .int, [])
abbrev mX5_make : ka_Md := (yX5_make, cX5_make, 3, some .int, [])
abbrev mX5_word : ka_Md := (yX5_word, cX5_word, 1, some .int, [])
abbrev mX5_isLimb : ka_Md := (yX5_isLimb, cX5_isLimb, 3, some .boolean, [])
abbrev mX5_set : ka_Md := (yX5_set, cX5_set, 8, some .boolean, [])
abbrev mX5_limb : ka_Md := (yX5_limb, cX5_limb, 6, some .long, [])
abbrev mX5_load : ka_Md := (yX5_load, cX5_load, 4, none, [])
abbrev mX5_amounts : ka_Md := (yX5_amounts, cX5_amounts, 9, none, [])
abbrev mX5_turn : ka_Md := (yX5_turn, cX5_turn, 5, none, [])
abbrev mX5_add : ka_Md := (yX5_add, cX5_add, 6, some .int, [])
abbrev mX5_multiply : ka_Md := (yX5_multiply, cX5_multiply, 6, none, [])
abbrev mX5_divide : ka_Md := (yX5_divide, cX5_divide, 7, none, [])
abbrev mX5_takeRest : ka_Md := (yX5_takeRest, cX5_takeRest, 3, none, [])
abbrev mX5_amountOfB : ka_Md := (yX5_amountOfB, cX5_amountOfB, 4, some .int, [])
abbrev mX5_bAround : ka_Md := (yX5_bAround, cX5_bAround, 4, some .int, [])
abbrev mX5_isNought : ka_Md := (yX5_isNought, cX5_isNought, 6, some .boolean, [])
abbrev mX5_fits : ka_Md := (yX5_fits, cX5_fits, 3, some .boolean, [])
abbrev mX5_sums : ka_Md := (yX5_sums, cX5_sums, 5, none, [])
abbrev mX5_quotients : ka_Md := (yX5_quotients, cX5_quotients, 5, none, [])
abbrev mX5_moves : ka_Md := (yX5_moves, cX5_moves, 6, none, [])
abbrev mX5_others : ka_Md := (yX5_others, cX5_others, 5, none, [])
abbrev mX5_keep : ka_Md := (yX5_keep, cX5_keep, 5, some .int, [])
abbrev mX5_op : ka_Md := (yX5_op, cX5_op, 11, some .int, [])
abbrev mX5_flag : ka_Md := (yX5_flag, cX5_flag, 2, some .int, [])
abbrev mX5_field : ka_Md := (yX5_field, cX5_field, 6, some .int, [])
abbrev mX5_join : ka_Md := (yX5_join, cX5_join, 5, some .int, [])
abbrev mX5_extend : ka_Md := (yX5_extend, cX5_extend, 7, some .int, [])
abbrev mX5_compare : ka_Md := (yX5_compare, cX5_compare, 8, some .int, [])
abbrev mX5_bit : ka_Md := (yX5_bit, cX5_bit, 4, some .boolean, [])
abbrev mX5_count : ka_Md := (yX5_count, cX5_count, 4, some .int, [])
abbrev mX5_width : ka_Md := (yX5_width, cX5_width, 2, some .int, [])
abbrev mX5_fractionBits : ka_Md := (yX5_fractionBits, cX5_fractionBits, 1, some .int, [])
abbrev mX5_exponentBits : ka_Md := (yX5_exponentBits, cX5_exponentBits, 1, some .int, [])
abbrev mX5_bias : ka_Md := (yX5_bias, cX5_bias, 1, some .int, [])
abbrev mX5_take : ka_Md := (yX5_take, cX5_take, 12, none, [])
abbrev mX5_packed : ka_Md := (yX5_packed, cX5_packed, 5, some .long, [])
abbrev mX5_none : ka_Md := (yX5_none, cX5_none, 1, some .long, [])
abbrev mX5_infinite : ka_Md := (yX5_infinite, cX5_infinite, 2, some .long, [])
abbrev mX5_notValid : ka_Md := (yX5_notValid, cX5_notValid, 2, some .long, [])
abbrev mX5_highest : ka_Md := (yX5_highest, cX5_highest, 3, some .int, [])
abbrev mX5_isMore : ka_Md := (yX5_isMore, cX5_isMore, 5, some .boolean, [])
abbrev mX5_rounded : ka_Md := (yX5_rounded, cX5_rounded, 19, some .long, [])
abbrev mX5_sum : ka_Md := (yX5_sum, cX5_sum, 12, some .long, [])
abbrev mX5_product : ka_Md := (yX5_product, cX5_product, 5, some .long, [])
abbrev mX5_quotient : ka_Md := (yX5_quotient, cX5_quotient, 10, some .long, [])
abbrev mX5_real : ka_Md := (yX5_real, cX5_real, 11, some .int, [])
abbrev mX5_flags : ka_Md := (yX5_flags, cX5_flags, 1, some .int, [])
abbrev mL_cell : ka_Md := (yL_cell, cL_cell, 2, some .int, [])
abbrev mL_word : ka_Md := (yL_word, cL_word, 3, some .int, [(0, 8, 11, 13)])
abbrev mL_set : ka_Md := (yL_set, cL_set, 7, some .int, [(0, 19, 22, 19)])
abbrev mL_op : ka_Md := (yL_op, cL_op, 6, some .int, [(0, 12, 15, 19), (0, 12, 19, 25), (0, 12, 23, 27), (0, 12, 27, 13)])
abbrev mL_flag : ka_Md := (yL_flag, cL_flag, 4, some .int, [(0, 9, 12, 25)])
abbrev mL_field : ka_Md := (yL_field, cL_field, 6, some .int, [(0, 12, 15, 19), (0, 12, 19, 25), (0, 12, 23, 13)])
abbrev mL_join : ka_Md := (yL_join, cL_join, 5, some .int, [(0, 10, 13, 19), (0, 10, 17, 25), (0, 10, 21, 13)])
abbrev mL_extend : ka_Md := (yL_extend, cL_extend, 6, some .int, [(0, 12, 15, 19), (0, 12, 19, 25), (0, 12, 23, 13)])
abbrev mL_compare : ka_Md := (yL_compare, cL_compare, 6, some .int, [(0, 12, 15, 19), (0, 12, 19, 25)])
abbrev mL_bit : ka_Md := (yL_bit, cL_bit, 5, some .int, [(0, 17, 20, 19), (0, 17, 24, 25)])
abbrev mL_limb : ka_Md := (yL_limb, cL_limb, 5, some .int, [(0, 9, 12, 19)])
abbrev mL_real : ka_Md := (yL_real, cL_real, 7, some .int, [(0, 14, 17, 19), (0, 14, 21, 25), (0, 14, 25, 13)])
abbrev mL_count : ka_Md := (yL_count, cL_count, 4, some .int, [(0, 9, 12, 19)])
abbrev mL_width : ka_Md := (yL_width, cL_width, 4, some .int, [(0, 9, 12, 19)])
abbrev mL_law : ka_Md := (yL_law, code, 8, ret, [])
theorem in_X0 : ∀ w ∈ u_ws RX0 TX0 7, w ∈ ka_T := by
  intro w hw
  simp only [u_ws, List.range, List.range.loop, List.map_cons, List.map_nil, List.mem_cons, List.not_mem_nil, or_false] at hw
  rcases hw with rfl | rfl | rfl | rfl | rfl | rfl | rfl
  · exact ka_tm 48 (by decide +kernel) rfl
  · exact ka_tm 50 (by decide +kernel) rfl
  · exact ka_tm 52 (by decide +kernel) rfl
  · exact ka_tm 54 (by decide +kernel) rfl
  · exact ka_tm 56 (by decide +kernel) rfl
  · exact ka_tm 58 (by decide +kernel) rfl
  · exact ka_tm 60 (by decide +kernel) rfl
theorem in_X1 : ∀ w ∈ u_ws RX1 TX1 7, w ∈ ka_T := by
  intro w hw
  simp only [u_ws, List.range, List.range.loop, List.map_cons, List.map_nil, List.mem_cons, List.not_mem_nil, or_false] at hw
  rcases hw with rfl | rfl | rfl | rfl | rfl | rfl | rfl
  · exact ka_tm 76 (by decide +kernel) rfl
  · exact ka_tm 78 (by decide +kernel) rfl
  · exact ka_tm 80 (by decide +kernel) rfl
  · exact ka_tm 82 (by decide +kernel) rfl
  · exact ka_tm 84 (by decide +kernel) rfl
  · exact ka_tm 86 (by decide +kernel) rfl
  · exact ka_tm 88 (by decide +kernel) rfl
theorem in_X2 : ∀ w ∈ u_ws RX2 TX2 9, w ∈ ka_T := by
  intro w hw
  simp only [u_ws, List.range, List.range.loop, List.map_cons, List.map_nil, List.mem_cons, List.not_mem_nil, or_false] at hw
  rcases hw with rfl | rfl | rfl | rfl | rfl | rfl | rfl | rfl | rfl
  · exact ka_tm 108 (by decide +kernel) rfl
  · exact ka_tm 110 (by decide +kernel) rfl
  · exact ka_tm 112 (by decide +kernel) rfl
  · exact ka_tm 114 (by decide +kernel) rfl
  · exact ka_tm 116 (by decide +kernel) rfl
  · exact ka_tm 118 (by decide +kernel) rfl
  · exact ka_tm 120 (by decide +kernel) rfl
  · exact ka_tm 122 (by decide +kernel) rfl
  · exact ka_tm 124 (by decide +kernel) rfl
theorem in_X4 : ∀ w ∈ u_ws RX4 TX4 9, w ∈ ka_T := by
  intro w hw
  simp only [u_ws, List.range, List.range.loop, List.map_cons, List.map_nil, List.mem_cons, List.not_mem_nil, or_false] at hw
  rcases hw with rfl | rfl | rfl | rfl | rfl | rfl | rfl | rfl | rfl
  · exact ka_tm 139 (by decide +kernel) rfl
  · exact ka_tm 141 (by decide +kernel) rfl
  · exact ka_tm 143 (by decide +kernel) rfl
  · exact ka_tm 145 (by decide +kernel) rfl
  · exact ka_tm 147 (by decide +kernel) rfl
  · exact ka_tm 149 (by decide +kernel) rfl
  · exact ka_tm 151 (by decide +kernel) rfl
  · exact ka_tm 153 (by decide +kernel) rfl
  · exact ka_tm 155 (by decide +kernel) rfl
theorem in_X5 : ∀ w ∈ u_ws RX5 TX5 15, w ∈ ka_T := by
  intro w hw
  simp only [u_ws, List.range, List.range.loop, List.map_cons, List.map_nil, List.mem_cons, List.not_mem_nil, or_false] at hw
  rcases hw with rfl | rfl | rfl | rfl | rfl | rfl | rfl | rfl | rfl | rfl | rfl | rfl | rfl | rfl | rfl
  · exact ka_tm 721 (by decide +kernel) rfl
  · exact ka_tm 723 (by decide +kernel) rfl
  · exact ka_tm 725 (by decide +kernel) rfl
  · exact ka_tm 727 (by decide +kernel) rfl
  · exact ka_tm 729 (by decide +kernel) rfl
  · exact ka_tm 731 (by decide +kernel) rfl
  · exact ka_tm 733 (by decide +kernel) rfl
  · exact ka_tm 735 (by decide +kernel) rfl
  · exact ka_tm 737 (by decide +kernel) rfl
  · exact ka_tm 739 (by decide +kernel) rfl
  · exact ka_tm 741 (by decide +kernel) rfl
  · exact ka_tm 743 (by decide +kernel) rfl
  · exact ka_tm 745 (by decide +kernel) rfl
  · exact ka_tm 747 (by decide +kernel) rfl
  · exact ka_tm 749 (by decide +kernel) rfl
theorem fl_X0_9 : Cond.fieldLink RX0 9 (TX0 0).1 (TX0 0).2.1 (TX0 0).2.2.1 ∈ ka_T := ka_tm 38 (by decide +kernel) rfl
theorem fl_X0_15 : Cond.fieldLink RX0 15 (TX0 1).1 (TX0 1).2.1 (TX0 1).2.2.1 ∈ ka_T := ka_tm 40 (by decide +kernel) rfl
theorem fl_X0_18 : Cond.fieldLink RX0 18 (TX0 2).1 (TX0 2).2.1 (TX0 2).2.2.1 ∈ ka_T := ka_tm 42 (by decide +kernel) rfl
theorem fl_X0_21 : Cond.fieldLink RX0 21 (TX0 3).1 (TX0 3).2.1 (TX0 3).2.2.1 ∈ ka_T := ka_tm 44 (by decide +kernel) rfl
theorem fl_X0_24 : Cond.fieldLink RX0 24 (TX0 4).1 (TX0 4).2.1 (TX0 4).2.2.1 ∈ ka_T := ka_tm 45 (by decide +kernel) rfl
theorem fl_X0_27 : Cond.fieldLink RX0 27 (TX0 5).1 (TX0 5).2.1 (TX0 5).2.2.1 ∈ ka_T := ka_tm 46 (by decide +kernel) rfl
theorem fl_X0_30 : Cond.fieldLink RX0 30 (TX0 6).1 (TX0 6).2.1 (TX0 6).2.2.1 ∈ ka_T := ka_tm 47 (by decide +kernel) rfl
theorem fl_X1_9 : Cond.fieldLink RX1 9 (TX1 0).1 (TX1 0).2.1 (TX1 0).2.2.1 ∈ ka_T := ka_tm 65 (by decide +kernel) rfl
theorem fl_X1_15 : Cond.fieldLink RX1 15 (TX1 1).1 (TX1 1).2.1 (TX1 1).2.2.1 ∈ ka_T := ka_tm 67 (by decide +kernel) rfl
theorem fl_X1_18 : Cond.fieldLink RX1 18 (TX1 2).1 (TX1 2).2.1 (TX1 2).2.2.1 ∈ ka_T := ka_tm 69 (by decide +kernel) rfl
theorem fl_X1_21 : Cond.fieldLink RX1 21 (TX1 3).1 (TX1 3).2.1 (TX1 3).2.2.1 ∈ ka_T := ka_tm 71 (by decide +kernel) rfl
theorem fl_X1_24 : Cond.fieldLink RX1 24 (TX1 4).1 (TX1 4).2.1 (TX1 4).2.2.1 ∈ ka_T := ka_tm 73 (by decide +kernel) rfl
theorem fl_X1_30 : Cond.fieldLink RX1 30 (TX1 5).1 (TX1 5).2.1 (TX1 5).2.2.1 ∈ ka_T := ka_tm 74 (by decide +kernel) rfl
theorem fl_X1_34 : Cond.fieldLink RX1 34 (TX1 6).1 (TX1 6).2.1 (TX1 6).2.2.1 ∈ ka_T := ka_tm 75 (by decide +kernel) rfl
theorem fl_X1_93 : Cond.fieldLink RX1 93 (TX0 0).1 (TX0 0).2.1 (TX0 0).2.2.1 ∈ ka_T := ka_tm 39 (by decide +kernel) rfl
theorem fl_X1_112 : Cond.fieldLink RX1 112 (TX0 1).1 (TX0 1).2.1 (TX0 1).2.2.1 ∈ ka_T := ka_tm 41 (by decide +kernel) rfl
theorem fl_X1_115 : Cond.fieldLink RX1 115 (TX0 2).1 (TX0 2).2.1 (TX0 2).2.2.1 ∈ ka_T := ka_tm 43 (by decide +kernel) rfl
theorem fl_X2_7 : Cond.fieldLink RX2 7 (TX2 0).1 (TX2 0).2.1 (TX2 0).2.2.1 ∈ ka_T := ka_tm 98 (by decide +kernel) rfl
theorem fl_X2_13 : Cond.fieldLink RX2 13 (TX2 1).1 (TX2 1).2.1 (TX2 1).2.2.1 ∈ ka_T := ka_tm 100 (by decide +kernel) rfl
theorem fl_X2_16 : Cond.fieldLink RX2 16 (TX2 2).1 (TX2 2).2.1 (TX2 2).2.2.1 ∈ ka_T := ka_tm 101 (by decide +kernel) rfl
theorem fl_X2_19 : Cond.fieldLink RX2 19 (TX2 3).1 (TX2 3).2.1 (TX2 3).2.2.1 ∈ ka_T := ka_tm 102 (by decide +kernel) rfl
theorem fl_X2_22 : Cond.fieldLink RX2 22 (TX2 4).1 (TX2 4).2.1 (TX2 4).2.2.1 ∈ ka_T := ka_tm 103 (by decide +kernel) rfl
theorem fl_X2_27 : Cond.fieldLink RX2 27 (TX2 5).1 (TX2 5).2.1 (TX2 5).2.2.1 ∈ ka_T := ka_tm 104 (by decide +kernel) rfl
theorem fl_X2_31 : Cond.fieldLink RX2 31 (TX2 6).1 (TX2 6).2.1 (TX2 6).2.2.1 ∈ ka_T := ka_tm 105 (by decide +kernel) rfl
theorem fl_X2_35 : Cond.fieldLink RX2 35 (TX2 7).1 (TX2 7).2.1 (TX2 7).2.2.1 ∈ ka_T := ka_tm 106 (by decide +kernel) rfl
theorem fl_X2_38 : Cond.fieldLink RX2 38 (TX2 8).1 (TX2 8).2.1 (TX2 8).2.2.1 ∈ ka_T := ka_tm 107 (by decide +kernel) rfl
theorem fl_X4_9 : Cond.fieldLink RX4 9 (TX4 1).1 (TX4 1).2.1 (TX4 1).2.2.1 ∈ ka_T := ka_tm 131 (by decide +kernel) rfl
theorem fl_X4_13 : Cond.fieldLink RX4 13 (TX4 2).1 (TX4 2).2.1 (TX4 2).2.2.1 ∈ ka_T := ka_tm 132 (by decide +kernel) rfl
theorem fl_X4_17 : Cond.fieldLink RX4 17 (TX4 3).1 (TX4 3).2.1 (TX4 3).2.2.1 ∈ ka_T := ka_tm 133 (by decide +kernel) rfl
theorem fl_X4_21 : Cond.fieldLink RX4 21 (TX4 4).1 (TX4 4).2.1 (TX4 4).2.2.1 ∈ ka_T := ka_tm 134 (by decide +kernel) rfl
theorem fl_X4_24 : Cond.fieldLink RX4 24 (TX4 5).1 (TX4 5).2.1 (TX4 5).2.2.1 ∈ ka_T := ka_tm 135 (by decide +kernel) rfl
theorem fl_X4_27 : Cond.fieldLink RX4 27 (TX4 6).1 (TX4 6).2.1 (TX4 6).2.2.1 ∈ ka_T := ka_tm 136 (by decide +kernel) rfl
theorem fl_X4_33 : Cond.fieldLink RX4 33 (TX4 7).1 (TX4 7).2.1 (TX4 7).2.2.1 ∈ ka_T := ka_tm 137 (by decide +kernel) rfl
theorem fl_X4_40 : Cond.fieldLink RX4 40 (TX4 8).1 (TX4 8).2.1 (TX4 8).2.2.1 ∈ ka_T := ka_tm 138 (by decide +kernel) rfl
theorem fl_X4_50 : Cond.fieldLink RX4 50 (TX4 0).1 (TX4 0).2.1 (TX4 0).2.2.1 ∈ ka_T := ka_tm 130 (by decide +kernel) rfl
theorem fl_X4_108 : Cond.fieldLink RX4 108 (TX1 0).1 (TX1 0).2.1 (TX1 0).2.2.1 ∈ ka_T := ka_tm 66 (by decide +kernel) rfl
theorem fl_X4_111 : Cond.fieldLink RX4 111 (TX1 1).1 (TX1 1).2.1 (TX1 1).2.2.1 ∈ ka_T := ka_tm 68 (by decide +kernel) rfl
theorem fl_X4_114 : Cond.fieldLink RX4 114 (TX1 2).1 (TX1 2).2.1 (TX1 2).2.2.1 ∈ ka_T := ka_tm 70 (by decide +kernel) rfl
theorem fl_X4_117 : Cond.fieldLink RX4 117 (TX1 3).1 (TX1 3).2.1 (TX1 3).2.2.1 ∈ ka_T := ka_tm 72 (by decide +kernel) rfl
theorem fl_X4_162 : Cond.fieldLink RX4 162 (TX2 0).1 (TX2 0).2.1 (TX2 0).2.2.1 ∈ ka_T := ka_tm 99 (by decide +kernel) rfl
theorem fl_X5_7 : Cond.fieldLink RX5 7 (TX5 3).1 (TX5 3).2.1 (TX5 3).2.2.1 ∈ ka_T := ka_tm 709 (by decide +kernel) rfl
theorem fl_X5_14 : Cond.fieldLink RX5 14 (TX5 4).1 (TX5 4).2.1 (TX5 4).2.2.1 ∈ ka_T := ka_tm 710 (by decide +kernel) rfl
theorem fl_X5_18 : Cond.fieldLink RX5 18 (TX5 5).1 (TX5 5).2.1 (TX5 5).2.2.1 ∈ ka_T := ka_tm 711 (by decide +kernel) rfl
theorem fl_X5_21 : Cond.fieldLink RX5 21 (TX5 7).1 (TX5 7).2.1 (TX5 7).2.2.1 ∈ ka_T := ka_tm 713 (by decide +kernel) rfl
theorem fl_X5_24 : Cond.fieldLink RX5 24 (TX5 8).1 (TX5 8).2.1 (TX5 8).2.2.1 ∈ ka_T := ka_tm 714 (by decide +kernel) rfl
theorem fl_X5_27 : Cond.fieldLink RX5 27 (TX5 9).1 (TX5 9).2.1 (TX5 9).2.2.1 ∈ ka_T := ka_tm 715 (by decide +kernel) rfl
theorem fl_X5_30 : Cond.fieldLink RX5 30 (TX5 10).1 (TX5 10).2.1 (TX5 10).2.2.1 ∈ ka_T := ka_tm 716 (by decide +kernel) rfl
theorem fl_X5_33 : Cond.fieldLink RX5 33 (TX5 11).1 (TX5 11).2.1 (TX5 11).2.2.1 ∈ ka_T := ka_tm 717 (by decide +kernel) rfl
theorem fl_X5_36 : Cond.fieldLink RX5 36 (TX5 12).1 (TX5 12).2.1 (TX5 12).2.2.1 ∈ ka_T := ka_tm 718 (by decide +kernel) rfl
theorem fl_X5_39 : Cond.fieldLink RX5 39 (TX5 13).1 (TX5 13).2.1 (TX5 13).2.2.1 ∈ ka_T := ka_tm 719 (by decide +kernel) rfl
theorem fl_X5_42 : Cond.fieldLink RX5 42 (TX5 14).1 (TX5 14).2.1 (TX5 14).2.2.1 ∈ ka_T := ka_tm 720 (by decide +kernel) rfl
theorem fl_X5_46 : Cond.fieldLink RX5 46 (TX5 1).1 (TX5 1).2.1 (TX5 1).2.2.1 ∈ ka_T := ka_tm 707 (by decide +kernel) rfl
theorem fl_X5_50 : Cond.fieldLink RX5 50 (TX5 0).1 (TX5 0).2.1 (TX5 0).2.2.1 ∈ ka_T := ka_tm 706 (by decide +kernel) rfl
theorem fl_X5_53 : Cond.fieldLink RX5 53 (TX5 2).1 (TX5 2).2.1 (TX5 2).2.2.1 ∈ ka_T := ka_tm 708 (by decide +kernel) rfl
theorem fl_X5_142 : Cond.fieldLink RX5 142 (TX5 6).1 (TX5 6).2.1 (TX5 6).2.2.1 ∈ ka_T := ka_tm 712 (by decide +kernel) rfl
theorem ki_X5_13 : Cond.constant RX5 13 (307200) ∈ ka_T := ka_tm 705 (by decide +kernel) rfl
theorem kl_J13_314 : Cond.constantLong RJ13 314 (6148914691236517205) ∈ ka_T := ka_tm 689 (by decide +kernel) rfl
theorem kl_J13_316 : Cond.constantLong RJ13 316 (3689348814741910323) ∈ ka_T := ka_tm 690 (by decide +kernel) rfl
theorem kl_J13_318 : Cond.constantLong RJ13 318 (1085102592571150095) ∈ ka_T := ka_tm 691 (by decide +kernel) rfl
theorem kl_L_84 : Cond.constantLong RL 84 (4294967295) ∈ ka_T := ka_tm 946 (by decide +kernel) rfl
theorem kl_X0_54 : Cond.constantLong RX0 54 (4294967295) ∈ ka_T := ka_tm 402 (by decide +kernel) rfl
theorem kl_X1_133 : Cond.constantLong RX1 133 (-1) ∈ ka_T := ka_tm 488 (by decide +kernel) rfl
theorem kl_X2_25 : Cond.constantLong RX2 25 (128) ∈ ka_T := ka_tm 97 (by decide +kernel) rfl
theorem kl_X2_128 : Cond.constantLong RX2 128 (-1) ∈ ka_T := ka_tm 622 (by decide +kernel) rfl
theorem kl_X3_9 : Cond.constantLong RX3 9 (-1) ∈ ka_T := ka_tm 259 (by decide +kernel) rfl
theorem kl_X3_28 : Cond.constantLong RX3 28 (4294967295) ∈ ka_T := ka_tm 480 (by decide +kernel) rfl
theorem kl_X3_34 : Cond.constantLong RX3 34 (71777214294589695) ∈ ka_T := ka_tm 505 (by decide +kernel) rfl
theorem kl_X3_40 : Cond.constantLong RX3 40 (281470681808895) ∈ ka_T := ka_tm 506 (by decide +kernel) rfl
theorem kl_X3_42 : Cond.constantLong RX3 42 (6148914691236517205) ∈ ka_T := ka_tm 496 (by decide +kernel) rfl
theorem kl_X3_44 : Cond.constantLong RX3 44 (3689348814741910323) ∈ ka_T := ka_tm 500 (by decide +kernel) rfl
theorem kl_X3_46 : Cond.constantLong RX3 46 (1085102592571150095) ∈ ka_T := ka_tm 501 (by decide +kernel) rfl
theorem kl_X4_145 : Cond.constantLong RX4 145 (-9223372036854775808) ∈ ka_T := ka_tm 558 (by decide +kernel) rfl
theorem kl_X5_157 : Cond.constantLong RX5 157 (2) ∈ ka_T := ka_tm 932 (by decide +kernel) rfl
theorem kl_X5_170 : Cond.constantLong RX5 170 (3) ∈ ka_T := ka_tm 941 (by decide +kernel) rfl
theorem lk_L_7 : ka_lkV RL 7 mX4_word 0 := ⟨⟨rfl, ka_tm 169 (by decide +kernel) rfl, ka_tm 1 (by decide +kernel) rfl, ka_tm 172 (by decide +kernel) rfl, by decide +kernel, by decide +kernel, by decide +kernel⟩, ka_tm 170 (by decide +kernel) rfl, ka_tm 171 (by decide +kernel) rfl⟩
theorem lk_L_15 : ka_lkV RL 15 mX4_set 3 := ⟨⟨rfl, ka_tm 267 (by decide +kernel) rfl, ka_tm 1 (by decide +kernel) rfl, ka_tm 270 (by decide +kernel) rfl, by decide +kernel, by decide +kernel, by decide +kernel⟩, ka_tm 268 (by decide +kernel) rfl, ka_tm 269 (by decide +kernel) rfl⟩
theorem lk_L_21 : ka_lkV RL 21 mX4_op 3 := ⟨⟨rfl, ka_tm 307 (by decide +kernel) rfl, ka_tm 1 (by decide +kernel) rfl, ka_tm 310 (by decide +kernel) rfl, by decide +kernel, by decide +kernel, by decide +kernel⟩, ka_tm 308 (by decide +kernel) rfl, ka_tm 309 (by decide +kernel) rfl⟩
theorem lk_L_29 : ka_lkV RL 29 mX4_flag 1 := ⟨⟨rfl, ka_tm 511 (by decide +kernel) rfl, ka_tm 1 (by decide +kernel) rfl, ka_tm 514 (by decide +kernel) rfl, by decide +kernel, by decide +kernel, by decide +kernel⟩, ka_tm 512 (by decide +kernel) rfl, ka_tm 513 (by decide +kernel) rfl⟩
theorem lk_L_33 : ka_lkV RL 33 mX4_field 3 := ⟨⟨rfl, ka_tm 519 (by decide +kernel) rfl, ka_tm 1 (by decide +kernel) rfl, ka_tm 522 (by decide +kernel) rfl, by decide +kernel, by decide +kernel, by decide +kernel⟩, ka_tm 520 (by decide +kernel) rfl, ka_tm 521 (by decide +kernel) rfl⟩
theorem lk_L_36 : ka_lkV RL 36 mX4_join 2 := ⟨⟨rfl, ka_tm 528 (by decide +kernel) rfl, ka_tm 1 (by decide +kernel) rfl, ka_tm 531 (by decide +kernel) rfl, by decide +kernel, by decide +kernel, by decide +kernel⟩, ka_tm 529 (by decide +kernel) rfl, ka_tm 530 (by decide +kernel) rfl⟩
theorem lk_L_40 : ka_lkV RL 40 mX4_extend 3 := ⟨⟨rfl, ka_tm 537 (by decide +kernel) rfl, ka_tm 1 (by decide +kernel) rfl, ka_tm 540 (by decide +kernel) rfl, by decide +kernel, by decide +kernel, by decide +kernel⟩, ka_tm 538 (by decide +kernel) rfl, ka_tm 539 (by decide +kernel) rfl⟩
theorem lk_L_44 : ka_lkV RL 44 mX4_compare 3 := ⟨⟨rfl, ka_tm 554 (by decide +kernel) rfl, ka_tm 1 (by decide +kernel) rfl, ka_tm 557 (by decide +kernel) rfl, by decide +kernel, by decide +kernel, by decide +kernel⟩, ka_tm 555 (by decide +kernel) rfl, ka_tm 556 (by decide +kernel) rfl⟩
theorem lk_L_47 : ka_lkV RL 47 mX4_bit 2 := ⟨⟨rfl, ka_tm 562 (by decide +kernel) rfl, ka_tm 1 (by decide +kernel) rfl, ka_tm 565 (by decide +kernel) rfl, by decide +kernel, by decide +kernel, by decide +kernel⟩, ka_tm 563 (by decide +kernel) rfl, ka_tm 564 (by decide +kernel) rfl⟩
theorem lk_L_51 : ka_lkV RL 51 mX4_limb 2 := ⟨⟨rfl, ka_tm 570 (by decide +kernel) rfl, ka_tm 1 (by decide +kernel) rfl, ka_tm 573 (by decide +kernel) rfl, by decide +kernel, by decide +kernel, by decide +kernel⟩, ka_tm 571 (by decide +kernel) rfl, ka_tm 572 (by decide +kernel) rfl⟩
theorem lk_L_55 : ka_lkV RL 55 mX4_real 4 := ⟨⟨rfl, ka_tm 577 (by decide +kernel) rfl, ka_tm 1 (by decide +kernel) rfl, ka_tm 580 (by decide +kernel) rfl, by decide +kernel, by decide +kernel, by decide +kernel⟩, ka_tm 578 (by decide +kernel) rfl, ka_tm 579 (by decide +kernel) rfl⟩
theorem lk_L_59 : ka_lkV RL 59 mX4_count 1 := ⟨⟨rfl, ka_tm 682 (by decide +kernel) rfl, ka_tm 1 (by decide +kernel) rfl, ka_tm 685 (by decide +kernel) rfl, by decide +kernel, by decide +kernel, by decide +kernel⟩, ka_tm 683 (by decide +kernel) rfl, ka_tm 684 (by decide +kernel) rfl⟩
theorem lk_L_62 : ka_lkV RL 62 mX4_width 1 := ⟨⟨rfl, ka_tm 695 (by decide +kernel) rfl, ka_tm 1 (by decide +kernel) rfl, ka_tm 698 (by decide +kernel) rfl, by decide +kernel, by decide +kernel, by decide +kernel⟩, ka_tm 696 (by decide +kernel) rfl, ka_tm 697 (by decide +kernel) rfl⟩
theorem lk_L_65 : ka_lkS RL 65 mL_cell 2 := ⟨⟨rfl, ka_tm 162 (by decide +kernel) rfl, ka_tm 0 (by decide +kernel) rfl, ka_tm 164 (by decide +kernel) rfl, by decide +kernel, by decide +kernel, by decide +kernel⟩, ka_tm 163 (by decide +kernel) rfl⟩
theorem lk_L_71 : ka_lkI RL 71 mX4_init 1 := ⟨⟨rfl, ka_tm 20 (by decide +kernel) rfl, ka_tm 1 (by decide +kernel) rfl, ka_tm 22 (by decide +kernel) rfl, by decide +kernel, by decide +kernel, by decide +kernel⟩, rfl, ka_tm 21 (by decide +kernel) rfl⟩
theorem lk_L_76 : ka_lkI RL 76 mX5_init 1 := ⟨⟨rfl, ka_tm 701 (by decide +kernel) rfl, ka_tm 6 (by decide +kernel) rfl, ka_tm 703 (by decide +kernel) rfl, by decide +kernel, by decide +kernel, by decide +kernel⟩, rfl, ka_tm 702 (by decide +kernel) rfl⟩
theorem lk_L_80 : ka_lkV RL 80 mX5_word 0 := ⟨⟨rfl, ka_tm 756 (by decide +kernel) rfl, ka_tm 6 (by decide +kernel) rfl, ka_tm 759 (by decide +kernel) rfl, by decide +kernel, by decide +kernel, by decide +kernel⟩, ka_tm 757 (by decide +kernel) rfl, ka_tm 758 (by decide +kernel) rfl⟩
theorem lk_L_81 : ka_lkV RL 81 mX5_thrown 0 := ⟨⟨rfl, ka_tm 752 (by decide +kernel) rfl, ka_tm 6 (by decide +kernel) rfl, ka_tm 755 (by decide +kernel) rfl, by decide +kernel, by decide +kernel, by decide +kernel⟩, ka_tm 753 (by decide +kernel) rfl, ka_tm 754 (by decide +kernel) rfl⟩
theorem lk_L_89 : ka_lkV RL 89 mX5_set 3 := ⟨⟨rfl, ka_tm 768 (by decide +kernel) rfl, ka_tm 6 (by decide +kernel) rfl, ka_tm 771 (by decide +kernel) rfl, by decide +kernel, by decide +kernel, by decide +kernel⟩, ka_tm 769 (by decide +kernel) rfl, ka_tm 770 (by decide +kernel) rfl⟩
theorem lk_L_93 : ka_lkV RL 93 mX5_op 3 := ⟨⟨rfl, ka_tm 788 (by decide +kernel) rfl, ka_tm 6 (by decide +kernel) rfl, ka_tm 791 (by decide +kernel) rfl, by decide +kernel, by decide +kernel, by decide +kernel⟩, ka_tm 789 (by decide +kernel) rfl, ka_tm 790 (by decide +kernel) rfl⟩
theorem lk_L_97 : ka_lkV RL 97 mX5_flag 1 := ⟨⟨rfl, ka_tm 856 (by decide +kernel) rfl, ka_tm 6 (by decide +kernel) rfl, ka_tm 859 (by decide +kernel) rfl, by decide +kernel, by decide +kernel, by decide +kernel⟩, ka_tm 857 (by decide +kernel) rfl, ka_tm 858 (by decide +kernel) rfl⟩
theorem lk_L_100 : ka_lkV RL 100 mX5_field 3 := ⟨⟨rfl, ka_tm 860 (by decide +kernel) rfl, ka_tm 6 (by decide +kernel) rfl, ka_tm 863 (by decide +kernel) rfl, by decide +kernel, by decide +kernel, by decide +kernel⟩, ka_tm 861 (by decide +kernel) rfl, ka_tm 862 (by decide +kernel) rfl⟩
theorem lk_L_104 : ka_lkV RL 104 mX5_join 2 := ⟨⟨rfl, ka_tm 864 (by decide +kernel) rfl, ka_tm 6 (by decide +kernel) rfl, ka_tm 867 (by decide +kernel) rfl, by decide +kernel, by decide +kernel, by decide +kernel⟩, ka_tm 865 (by decide +kernel) rfl, ka_tm 866 (by decide +kernel) rfl⟩
theorem lk_L_108 : ka_lkV RL 108 mX5_extend 3 := ⟨⟨rfl, ka_tm 868 (by decide +kernel) rfl, ka_tm 6 (by decide +kernel) rfl, ka_tm 871 (by decide +kernel) rfl, by decide +kernel, by decide +kernel, by decide +kernel⟩, ka_tm 869 (by decide +kernel) rfl, ka_tm 870 (by decide +kernel) rfl⟩
theorem lk_L_111 : ka_lkV RL 111 mX5_compare 3 := ⟨⟨rfl, ka_tm 872 (by decide +kernel) rfl, ka_tm 6 (by decide +kernel) rfl, ka_tm 875 (by decide +kernel) rfl, by decide +kernel, by decide +kernel, by decide +kernel⟩, ka_tm 873 (by decide +kernel) rfl, ka_tm 874 (by decide +kernel) rfl⟩
theorem lk_L_114 : ka_lkV RL 114 mX5_bit 2 := ⟨⟨rfl, ka_tm 876 (by decide +kernel) rfl, ka_tm 6 (by decide +kernel) rfl, ka_tm 879 (by decide +kernel) rfl, by decide +kernel, by decide +kernel, by decide +kernel⟩, ka_tm 877 (by decide +kernel) rfl, ka_tm 878 (by decide +kernel) rfl⟩
theorem lk_L_117 : ka_lkV RL 117 mX5_limb 2 := ⟨⟨rfl, ka_tm 780 (by decide +kernel) rfl, ka_tm 6 (by decide +kernel) rfl, ka_tm 783 (by decide +kernel) rfl, by decide +kernel, by decide +kernel, by decide +kernel⟩, ka_tm 781 (by decide +kernel) rfl, ka_tm 782 (by decide +kernel) rfl⟩
theorem lk_L_121 : ka_lkV RL 121 mX5_real 4 := ⟨⟨rfl, ka_tm 888 (by decide +kernel) rfl, ka_tm 6 (by decide +kernel) rfl, ka_tm 891 (by decide +kernel) rfl, by decide +kernel, by decide +kernel, by decide +kernel⟩, ka_tm 889 (by decide +kernel) rfl, ka_tm 890 (by decide +kernel) rfl⟩
theorem lk_L_122 : ka_lkV RL 122 mX4_flags 0 := ⟨⟨rfl, ka_tm 158 (by decide +kernel) rfl, ka_tm 1 (by decide +kernel) rfl, ka_tm 161 (by decide +kernel) rfl, by decide +kernel, by decide +kernel, by decide +kernel⟩, ka_tm 159 (by decide +kernel) rfl, ka_tm 160 (by decide +kernel) rfl⟩
theorem lk_L_125 : ka_lkV RL 125 mX5_flags 0 := ⟨⟨rfl, ka_tm 942 (by decide +kernel) rfl, ka_tm 6 (by decide +kernel) rfl, ka_tm 945 (by decide +kernel) rfl, by decide +kernel, by decide +kernel, by decide +kernel⟩, ka_tm 943 (by decide +kernel) rfl, ka_tm 944 (by decide +kernel) rfl⟩
theorem lk_L_128 : ka_lkV RL 128 mX5_count 1 := ⟨⟨rfl, ka_tm 880 (by decide +kernel) rfl, ka_tm 6 (by decide +kernel) rfl, ka_tm 883 (by decide +kernel) rfl, by decide +kernel, by decide +kernel, by decide +kernel⟩, ka_tm 881 (by decide +kernel) rfl, ka_tm 882 (by decide +kernel) rfl⟩
theorem lk_L_131 : ka_lkV RL 131 mX5_width 1 := ⟨⟨rfl, ka_tm 884 (by decide +kernel) rfl, ka_tm 6 (by decide +kernel) rfl, ka_tm 887 (by decide +kernel) rfl, by decide +kernel, by decide +kernel, by decide +kernel⟩, ka_tm 885 (by decide +kernel) rfl, ka_tm 886 (by decide +kernel) rfl⟩
theorem lk_X0_33 : ka_lkS RX0 33 mX0_digitsOf 1 := ⟨⟨rfl, ka_tm 396 (by decide +kernel) rfl, ka_tm 3 (by decide +kernel) rfl, ka_tm 398 (by decide +kernel) rfl, by decide +kernel, by decide +kernel, by decide +kernel⟩, ka_tm 397 (by decide +kernel) rfl⟩
theorem lk_X0_37 : ka_lkS RX0 37 mX0_split 2 := ⟨⟨rfl, ka_tm 399 (by decide +kernel) rfl, ka_tm 3 (by decide +kernel) rfl, ka_tm 401 (by decide +kernel) rfl, by decide +kernel, by decide +kernel, by decide +kernel⟩, ka_tm 400 (by decide +kernel) rfl⟩
theorem lk_X0_41 : ka_lkS RX0 41 mX3_clear 1 := ⟨⟨rfl, ka_tm 403 (by decide +kernel) rfl, ka_tm 11 (by decide +kernel) rfl, ka_tm 248 (by decide +kernel) rfl, by decide +kernel, by decide +kernel, by decide +kernel⟩, ka_tm 247 (by decide +kernel) rfl⟩
theorem lk_X0_47 : ka_lkV RX0 47 mX0_addMultiple 3 := ⟨⟨rfl, ka_tm 404 (by decide +kernel) rfl, ka_tm 3 (by decide +kernel) rfl, ka_tm 407 (by decide +kernel) rfl, by decide +kernel, by decide +kernel, by decide +kernel⟩, ka_tm 406 (by decide +kernel) rfl, ka_pm 12 (by decide +kernel) rfl⟩
theorem lk_X0_51 : ka_lkS RX0 51 mX0_merge 2 := ⟨⟨rfl, ka_tm 408 (by decide +kernel) rfl, ka_tm 3 (by decide +kernel) rfl, ka_tm 410 (by decide +kernel) rfl, by decide +kernel, by decide +kernel, by decide +kernel⟩, ka_tm 409 (by decide +kernel) rfl⟩
theorem lk_X0_56 : ka_lkS RX0 56 mX3_lengthOf 1 := ⟨⟨rfl, ka_tm 438 (by decide +kernel) rfl, ka_tm 11 (by decide +kernel) rfl, ka_tm 440 (by decide +kernel) rfl, by decide +kernel, by decide +kernel, by decide +kernel⟩, ka_tm 439 (by decide +kernel) rfl⟩
theorem lk_X0_60 : ka_lkS RX0 60 mX3_moveUp 3 := ⟨⟨rfl, ka_tm 444 (by decide +kernel) rfl, ka_tm 11 (by decide +kernel) rfl, ka_tm 413 (by decide +kernel) rfl, by decide +kernel, by decide +kernel, by decide +kernel⟩, ka_tm 412 (by decide +kernel) rfl⟩
theorem lk_X0_64 : ka_lkV RX0 64 mX0_takeMultiple 2 := ⟨⟨rfl, ka_tm 445 (by decide +kernel) rfl, ka_tm 3 (by decide +kernel) rfl, ka_tm 448 (by decide +kernel) rfl, by decide +kernel, by decide +kernel, by decide +kernel⟩, ka_tm 447 (by decide +kernel) rfl, ka_pm 15 (by decide +kernel) rfl⟩
theorem lk_X0_68 : ka_lkS RX0 68 mX0_quotientOf 2 := ⟨⟨rfl, ka_tm 449 (by decide +kernel) rfl, ka_tm 3 (by decide +kernel) rfl, ka_tm 451 (by decide +kernel) rfl, by decide +kernel, by decide +kernel, by decide +kernel⟩, ka_tm 450 (by decide +kernel) rfl⟩
theorem lk_X0_72 : ka_lkS RX0 72 mM_minl 2 := ⟨⟨rfl, ka_tm 452 (by decide +kernel) rfl, ka_tm 5 (by decide +kernel) rfl, ka_tm 454 (by decide +kernel) rfl, by decide +kernel, by decide +kernel, by decide +kernel⟩, ka_tm 453 (by decide +kernel) rfl⟩
theorem lk_X0_77 : ka_lkV RX0 77 mX0_subtractMultiple 3 := ⟨⟨rfl, ka_tm 455 (by decide +kernel) rfl, ka_tm 3 (by decide +kernel) rfl, ka_tm 458 (by decide +kernel) rfl, by decide +kernel, by decide +kernel, by decide +kernel⟩, ka_tm 457 (by decide +kernel) rfl, ka_pm 16 (by decide +kernel) rfl⟩
theorem lk_X0_81 : ka_lkV RX0 81 mX0_addBack 2 := ⟨⟨rfl, ka_tm 459 (by decide +kernel) rfl, ka_tm 3 (by decide +kernel) rfl, ka_tm 462 (by decide +kernel) rfl, by decide +kernel, by decide +kernel, by decide +kernel⟩, ka_tm 461 (by decide +kernel) rfl, ka_pm 17 (by decide +kernel) rfl⟩
theorem lk_X1_29 : ka_lkI RX1 29 mX0_init 0 := ⟨⟨rfl, ka_tm 34 (by decide +kernel) rfl, ka_tm 3 (by decide +kernel) rfl, ka_tm 36 (by decide +kernel) rfl, by decide +kernel, by decide +kernel, by decide +kernel⟩, rfl, ka_tm 35 (by decide +kernel) rfl⟩
theorem lk_X1_38 : ka_lkV RX1 38 mX1_sum 3 := ⟨⟨rfl, ka_tm 364 (by decide +kernel) rfl, ka_tm 2 (by decide +kernel) rfl, ka_tm 367 (by decide +kernel) rfl, by decide +kernel, by decide +kernel, by decide +kernel⟩, ka_tm 366 (by decide +kernel) rfl, ka_pm 8 (by decide +kernel) rfl⟩
theorem lk_X1_42 : ka_lkV RX1 42 mX1_difference 3 := ⟨⟨rfl, ka_tm 381 (by decide +kernel) rfl, ka_tm 2 (by decide +kernel) rfl, ka_tm 384 (by decide +kernel) rfl, by decide +kernel, by decide +kernel, by decide +kernel⟩, ka_tm 383 (by decide +kernel) rfl, ka_pm 10 (by decide +kernel) rfl⟩
theorem lk_X1_45 : ka_lkV RX1 45 mX1_product 4 := ⟨⟨rfl, ka_tm 388 (by decide +kernel) rfl, ka_tm 2 (by decide +kernel) rfl, ka_tm 391 (by decide +kernel) rfl, by decide +kernel, by decide +kernel, by decide +kernel⟩, ka_tm 390 (by decide +kernel) rfl, ka_pm 11 (by decide +kernel) rfl⟩
theorem lk_X1_49 : ka_lkV RX1 49 mX1_quotientOrRest 4 := ⟨⟨rfl, ka_tm 430 (by decide +kernel) rfl, ka_tm 2 (by decide +kernel) rfl, ka_tm 433 (by decide +kernel) rfl, by decide +kernel, by decide +kernel, by decide +kernel⟩, ka_tm 432 (by decide +kernel) rfl, ka_pm 14 (by decide +kernel) rfl⟩
theorem lk_X1_52 : ka_lkV RX1 52 mX1_moved 4 := ⟨⟨rfl, ka_tm 463 (by decide +kernel) rfl, ka_tm 2 (by decide +kernel) rfl, ka_tm 466 (by decide +kernel) rfl, by decide +kernel, by decide +kernel, by decide +kernel⟩, ka_tm 465 (by decide +kernel) rfl, ka_pm 18 (by decide +kernel) rfl⟩
theorem lk_X1_55 : ka_lkV RX1 55 mX1_turned 4 := ⟨⟨rfl, ka_tm 473 (by decide +kernel) rfl, ka_tm 2 (by decide +kernel) rfl, ka_tm 476 (by decide +kernel) rfl, by decide +kernel, by decide +kernel, by decide +kernel⟩, ka_tm 475 (by decide +kernel) rfl, ka_pm 19 (by decide +kernel) rfl⟩
theorem lk_X1_58 : ka_lkV RX1 58 mX1_bitByBit 4 := ⟨⟨rfl, ka_tm 484 (by decide +kernel) rfl, ka_tm 2 (by decide +kernel) rfl, ka_tm 487 (by decide +kernel) rfl, by decide +kernel, by decide +kernel, by decide +kernel⟩, ka_tm 486 (by decide +kernel) rfl, ka_pm 20 (by decide +kernel) rfl⟩
theorem lk_X1_61 : ka_lkV RX1 61 mX1_reversed 3 := ⟨⟨rfl, ka_tm 489 (by decide +kernel) rfl, ka_tm 2 (by decide +kernel) rfl, ka_tm 492 (by decide +kernel) rfl, by decide +kernel, by decide +kernel, by decide +kernel⟩, ka_tm 491 (by decide +kernel) rfl, ka_pm 21 (by decide +kernel) rfl⟩
theorem lk_X1_65 : ka_lkS RX1 65 mX3_cut 2 := ⟨⟨rfl, ka_tm 422 (by decide +kernel) rfl, ka_tm 11 (by decide +kernel) rfl, ka_tm 255 (by decide +kernel) rfl, by decide +kernel, by decide +kernel, by decide +kernel⟩, ka_tm 254 (by decide +kernel) rfl⟩
theorem lk_X1_71 : ka_lkS RX1 71 mX3_isNought 1 := ⟨⟨rfl, ka_tm 417 (by decide +kernel) rfl, ka_tm 11 (by decide +kernel) rfl, ka_tm 343 (by decide +kernel) rfl, by decide +kernel, by decide +kernel, by decide +kernel⟩, ka_tm 342 (by decide +kernel) rfl⟩
theorem lk_X1_75 : ka_lkV RX1 75 mX1_highest 1 := ⟨⟨rfl, ka_tm 377 (by decide +kernel) rfl, ka_tm 2 (by decide +kernel) rfl, ka_tm 380 (by decide +kernel) rfl, by decide +kernel, by decide +kernel, by decide +kernel⟩, ka_tm 379 (by decide +kernel) rfl, ka_pm 9 (by decide +kernel) rfl⟩
theorem lk_X1_79 : ka_lkS RX1 79 mX3_bitOrNought 2 := ⟨⟨rfl, ka_tm 371 (by decide +kernel) rfl, ka_tm 11 (by decide +kernel) rfl, ka_tm 373 (by decide +kernel) rfl, by decide +kernel, by decide +kernel, by decide +kernel⟩, ka_tm 372 (by decide +kernel) rfl⟩
theorem lk_X1_83 : ka_lkS RX1 83 mX3_add 3 := ⟨⟨rfl, ka_tm 368 (by decide +kernel) rfl, ka_tm 11 (by decide +kernel) rfl, ka_tm 370 (by decide +kernel) rfl, by decide +kernel, by decide +kernel, by decide +kernel⟩, ka_tm 369 (by decide +kernel) rfl⟩
theorem lk_X1_86 : ka_lkS RX1 86 mX3_subtract 3 := ⟨⟨rfl, ka_tm 385 (by decide +kernel) rfl, ka_tm 11 (by decide +kernel) rfl, ka_tm 387 (by decide +kernel) rfl, by decide +kernel, by decide +kernel, by decide +kernel⟩, ka_tm 386 (by decide +kernel) rfl⟩
theorem lk_X1_89 : ka_lkV RX1 89 mX0_multiply 3 := ⟨⟨rfl, ka_tm 392 (by decide +kernel) rfl, ka_tm 3 (by decide +kernel) rfl, ka_tm 395 (by decide +kernel) rfl, by decide +kernel, by decide +kernel, by decide +kernel⟩, ka_tm 393 (by decide +kernel) rfl, ka_tm 394 (by decide +kernel) rfl⟩
theorem lk_X1_95 : ka_lkS RX1 95 mX3_moveUp 3 := ⟨⟨rfl, ka_tm 411 (by decide +kernel) rfl, ka_tm 11 (by decide +kernel) rfl, ka_tm 413 (by decide +kernel) rfl, by decide +kernel, by decide +kernel, by decide +kernel⟩, ka_tm 412 (by decide +kernel) rfl⟩
theorem lk_X1_99 : ka_lkV RX1 99 mX1_fitsWithSign 3 := ⟨⟨rfl, ka_tm 418 (by decide +kernel) rfl, ka_tm 2 (by decide +kernel) rfl, ka_tm 421 (by decide +kernel) rfl, by decide +kernel, by decide +kernel, by decide +kernel⟩, ka_tm 420 (by decide +kernel) rfl, ka_pm 13 (by decide +kernel) rfl⟩
theorem lk_X1_103 : ka_lkS RX1 103 mX3_negate 2 := ⟨⟨rfl, ka_tm 423 (by decide +kernel) rfl, ka_tm 11 (by decide +kernel) rfl, ka_tm 425 (by decide +kernel) rfl, by decide +kernel, by decide +kernel, by decide +kernel⟩, ka_tm 424 (by decide +kernel) rfl⟩
theorem lk_X1_106 : ka_lkS RX1 106 mX3_atMost 2 := ⟨⟨rfl, ka_tm 427 (by decide +kernel) rfl, ka_tm 11 (by decide +kernel) rfl, ka_tm 429 (by decide +kernel) rfl, by decide +kernel, by decide +kernel, by decide +kernel⟩, ka_tm 428 (by decide +kernel) rfl⟩
theorem lk_X1_109 : ka_lkV RX1 109 mX0_divide 3 := ⟨⟨rfl, ka_tm 434 (by decide +kernel) rfl, ka_tm 3 (by decide +kernel) rfl, ka_tm 437 (by decide +kernel) rfl, by decide +kernel, by decide +kernel, by decide +kernel⟩, ka_tm 435 (by decide +kernel) rfl, ka_tm 436 (by decide +kernel) rfl⟩
theorem lk_X1_118 : ka_lkS RX1 118 mM_max 2 := ⟨⟨rfl, ka_tm 467 (by decide +kernel) rfl, ka_tm 5 (by decide +kernel) rfl, ka_tm 469 (by decide +kernel) rfl, by decide +kernel, by decide +kernel, by decide +kernel⟩, ka_tm 468 (by decide +kernel) rfl⟩
theorem lk_X1_124 : ka_lkS RX1 124 mX3_fillFrom 2 := ⟨⟨rfl, ka_tm 470 (by decide +kernel) rfl, ka_tm 11 (by decide +kernel) rfl, ka_tm 472 (by decide +kernel) rfl, by decide +kernel, by decide +kernel, by decide +kernel⟩, ka_tm 471 (by decide +kernel) rfl⟩
theorem lk_X1_127 : ka_lkS RX1 127 mX3_restBy 2 := ⟨⟨rfl, ka_tm 477 (by decide +kernel) rfl, ka_tm 11 (by decide +kernel) rfl, ka_tm 479 (by decide +kernel) rfl, by decide +kernel, by decide +kernel, by decide +kernel⟩, ka_tm 478 (by decide +kernel) rfl⟩
theorem lk_X1_130 : ka_lkS RX1 130 mX3_orMovedUp 3 := ⟨⟨rfl, ka_tm 481 (by decide +kernel) rfl, ka_tm 11 (by decide +kernel) rfl, ka_tm 483 (by decide +kernel) rfl, by decide +kernel, by decide +kernel, by decide +kernel⟩, ka_tm 482 (by decide +kernel) rfl⟩
theorem lk_X1_135 : ka_lkS RX1 135 mX3_bitsReversed 1 := ⟨⟨rfl, ka_tm 493 (by decide +kernel) rfl, ka_tm 11 (by decide +kernel) rfl, ka_tm 495 (by decide +kernel) rfl, by decide +kernel, by decide +kernel, by decide +kernel⟩, ka_tm 494 (by decide +kernel) rfl⟩
theorem lk_X1_139 : ka_lkS RX1 139 mX3_bytesReversed 1 := ⟨⟨rfl, ka_tm 507 (by decide +kernel) rfl, ka_tm 11 (by decide +kernel) rfl, ka_tm 504 (by decide +kernel) rfl, by decide +kernel, by decide +kernel, by decide +kernel⟩, ka_tm 503 (by decide +kernel) rfl⟩
theorem lk_X2_41 : ka_lkV RX2 41 mX2_isNone 1 := ⟨⟨rfl, ka_tm 590 (by decide +kernel) rfl, ka_tm 4 (by decide +kernel) rfl, ka_tm 593 (by decide +kernel) rfl, by decide +kernel, by decide +kernel, by decide +kernel⟩, ka_tm 592 (by decide +kernel) rfl, ka_pm 24 (by decide +kernel) rfl⟩
theorem lk_X2_45 : ka_lkV RX2 45 mX2_none 0 := ⟨⟨rfl, ka_tm 602 (by decide +kernel) rfl, ka_tm 4 (by decide +kernel) rfl, ka_tm 605 (by decide +kernel) rfl, by decide +kernel, by decide +kernel, by decide +kernel⟩, ka_tm 604 (by decide +kernel) rfl, ka_pm 27 (by decide +kernel) rfl⟩
theorem lk_X2_49 : ka_lkV RX2 49 mX2_isInfinite 1 := ⟨⟨rfl, ka_tm 614 (by decide +kernel) rfl, ka_tm 4 (by decide +kernel) rfl, ka_tm 617 (by decide +kernel) rfl, by decide +kernel, by decide +kernel, by decide +kernel⟩, ka_tm 616 (by decide +kernel) rfl, ka_pm 30 (by decide +kernel) rfl⟩
theorem lk_X2_52 : ka_lkV RX2 52 mX2_isNought 1 := ⟨⟨rfl, ka_tm 618 (by decide +kernel) rfl, ka_tm 4 (by decide +kernel) rfl, ka_tm 621 (by decide +kernel) rfl, by decide +kernel, by decide +kernel, by decide +kernel⟩, ka_tm 620 (by decide +kernel) rfl, ka_pm 31 (by decide +kernel) rfl⟩
theorem lk_X2_55 : ka_lkV RX2 55 mX2_withoutRounding 3 := ⟨⟨rfl, ka_tm 623 (by decide +kernel) rfl, ka_tm 4 (by decide +kernel) rfl, ka_tm 626 (by decide +kernel) rfl, by decide +kernel, by decide +kernel, by decide +kernel⟩, ka_tm 625 (by decide +kernel) rfl, ka_pm 32 (by decide +kernel) rfl⟩
theorem lk_X2_59 : ka_lkV RX2 59 mX2_divide 2 := ⟨⟨rfl, ka_tm 635 (by decide +kernel) rfl, ka_tm 4 (by decide +kernel) rfl, ka_tm 638 (by decide +kernel) rfl, by decide +kernel, by decide +kernel, by decide +kernel⟩, ka_tm 637 (by decide +kernel) rfl, ka_pm 35 (by decide +kernel) rfl⟩
theorem lk_X2_63 : ka_lkV RX2 63 mX2_multiply 2 := ⟨⟨rfl, ka_tm 649 (by decide +kernel) rfl, ka_tm 4 (by decide +kernel) rfl, ka_tm 652 (by decide +kernel) rfl, by decide +kernel, by decide +kernel, by decide +kernel⟩, ka_tm 651 (by decide +kernel) rfl, ka_pm 38 (by decide +kernel) rfl⟩
theorem lk_X2_66 : ka_lkV RX2 66 mX2_add 2 := ⟨⟨rfl, ka_tm 653 (by decide +kernel) rfl, ka_tm 4 (by decide +kernel) rfl, ka_tm 656 (by decide +kernel) rfl, by decide +kernel, by decide +kernel, by decide +kernel⟩, ka_tm 655 (by decide +kernel) rfl, ka_pm 39 (by decide +kernel) rfl⟩
theorem lk_X2_69 : ka_lkV RX2 69 mX2_rounded 0 := ⟨⟨rfl, ka_tm 663 (by decide +kernel) rfl, ka_tm 4 (by decide +kernel) rfl, ka_tm 666 (by decide +kernel) rfl, by decide +kernel, by decide +kernel, by decide +kernel⟩, ka_tm 665 (by decide +kernel) rfl, ka_pm 40 (by decide +kernel) rfl⟩
theorem lk_X2_72 : ka_lkV RX2 72 mX2_signOf 1 := ⟨⟨rfl, ka_tm 627 (by decide +kernel) rfl, ka_tm 4 (by decide +kernel) rfl, ka_tm 630 (by decide +kernel) rfl, by decide +kernel, by decide +kernel, by decide +kernel⟩, ka_tm 629 (by decide +kernel) rfl, ka_pm 33 (by decide +kernel) rfl⟩
theorem lk_X2_75 : ka_lkV RX2 75 mX2_notValid 0 := ⟨⟨rfl, ka_tm 631 (by decide +kernel) rfl, ka_tm 4 (by decide +kernel) rfl, ka_tm 634 (by decide +kernel) rfl, by decide +kernel, by decide +kernel, by decide +kernel⟩, ka_tm 633 (by decide +kernel) rfl, ka_pm 34 (by decide +kernel) rfl⟩
theorem lk_X2_78 : ka_lkV RX2 78 mX2_infinite 1 := ⟨⟨rfl, ka_tm 606 (by decide +kernel) rfl, ka_tm 4 (by decide +kernel) rfl, ka_tm 609 (by decide +kernel) rfl, by decide +kernel, by decide +kernel, by decide +kernel⟩, ka_tm 608 (by decide +kernel) rfl, ka_pm 28 (by decide +kernel) rfl⟩
theorem lk_X2_82 : ka_lkV RX2 82 mX2_withSign 2 := ⟨⟨rfl, ka_tm 610 (by decide +kernel) rfl, ka_tm 4 (by decide +kernel) rfl, ka_tm 613 (by decide +kernel) rfl, by decide +kernel, by decide +kernel, by decide +kernel⟩, ka_tm 612 (by decide +kernel) rfl, ka_pm 29 (by decide +kernel) rfl⟩
theorem lk_X2_86 : ka_lkV RX2 86 mX2_powerOf 1 := ⟨⟨rfl, ka_tm 644 (by decide +kernel) rfl, ka_tm 4 (by decide +kernel) rfl, ka_tm 647 (by decide +kernel) rfl, by decide +kernel, by decide +kernel, by decide +kernel⟩, ka_tm 646 (by decide +kernel) rfl, ka_pm 37 (by decide +kernel) rfl⟩
theorem lk_X2_90 : ka_lkS RX2 90 mM_min 2 := ⟨⟨rfl, ka_tm 657 (by decide +kernel) rfl, ka_tm 5 (by decide +kernel) rfl, ka_tm 659 (by decide +kernel) rfl, by decide +kernel, by decide +kernel, by decide +kernel⟩, ka_tm 658 (by decide +kernel) rfl⟩
theorem lk_X2_96 : ka_lkV RX2 96 mX2_wholeOf 1 := ⟨⟨rfl, ka_tm 639 (by decide +kernel) rfl, ka_tm 4 (by decide +kernel) rfl, ka_tm 642 (by decide +kernel) rfl, by decide +kernel, by decide +kernel, by decide +kernel⟩, ka_tm 641 (by decide +kernel) rfl, ka_pm 36 (by decide +kernel) rfl⟩
theorem lk_X2_100 : ka_lkS RX2 100 mX2_movedDown 2 := ⟨⟨rfl, ka_tm 660 (by decide +kernel) rfl, ka_tm 4 (by decide +kernel) rfl, ka_tm 662 (by decide +kernel) rfl, by decide +kernel, by decide +kernel, by decide +kernel⟩, ka_tm 661 (by decide +kernel) rfl⟩
theorem lk_X2_104 : ka_lkS RX2 104 mX3_lengthOfLimb 1 := ⟨⟨rfl, ka_tm 643 (by decide +kernel) rfl, ka_tm 11 (by decide +kernel) rfl, ka_tm 443 (by decide +kernel) rfl, by decide +kernel, by decide +kernel, by decide +kernel⟩, ka_tm 442 (by decide +kernel) rfl⟩
theorem lk_X2_109 : ka_lkS RX2 109 mM_max 2 := ⟨⟨rfl, ka_tm 648 (by decide +kernel) rfl, ka_tm 5 (by decide +kernel) rfl, ka_tm 469 (by decide +kernel) rfl, by decide +kernel, by decide +kernel, by decide +kernel⟩, ka_tm 468 (by decide +kernel) rfl⟩
theorem lk_X2_112 : ka_lkV RX2 112 mX2_finite 2 := ⟨⟨rfl, ka_tm 667 (by decide +kernel) rfl, ka_tm 4 (by decide +kernel) rfl, ka_tm 670 (by decide +kernel) rfl, by decide +kernel, by decide +kernel, by decide +kernel⟩, ka_tm 669 (by decide +kernel) rfl, ka_pm 41 (by decide +kernel) rfl⟩
theorem lk_X2_115 : ka_lkV RX2 115 mX2_goesAway 3 := ⟨⟨rfl, ka_tm 675 (by decide +kernel) rfl, ka_tm 4 (by decide +kernel) rfl, ka_tm 678 (by decide +kernel) rfl, by decide +kernel, by decide +kernel, by decide +kernel⟩, ka_tm 677 (by decide +kernel) rfl, ka_pm 43 (by decide +kernel) rfl⟩
theorem lk_X2_119 : ka_lkV RX2 119 mX2_tooGreat 0 := ⟨⟨rfl, ka_tm 671 (by decide +kernel) rfl, ka_tm 4 (by decide +kernel) rfl, ka_tm 674 (by decide +kernel) rfl, by decide +kernel, by decide +kernel, by decide +kernel⟩, ka_tm 673 (by decide +kernel) rfl, ka_pm 42 (by decide +kernel) rfl⟩
theorem lk_X2_122 : ka_lkV RX2 122 mX2_exponentOf 1 := ⟨⟨rfl, ka_tm 594 (by decide +kernel) rfl, ka_tm 4 (by decide +kernel) rfl, ka_tm 597 (by decide +kernel) rfl, by decide +kernel, by decide +kernel, by decide +kernel⟩, ka_tm 596 (by decide +kernel) rfl, ka_pm 25 (by decide +kernel) rfl⟩
theorem lk_X2_125 : ka_lkV RX2 125 mX2_fractionOf 1 := ⟨⟨rfl, ka_tm 598 (by decide +kernel) rfl, ka_tm 4 (by decide +kernel) rfl, ka_tm 601 (by decide +kernel) rfl, by decide +kernel, by decide +kernel, by decide +kernel⟩, ka_tm 600 (by decide +kernel) rfl, ka_pm 26 (by decide +kernel) rfl⟩
theorem lk_X3_11 : ka_lkS RX3 11 mX3_maskOf 2 := ⟨⟨rfl, ka_tm 256 (by decide +kernel) rfl, ka_tm 11 (by decide +kernel) rfl, ka_tm 258 (by decide +kernel) rfl, by decide +kernel, by decide +kernel, by decide +kernel⟩, ka_tm 257 (by decide +kernel) rfl⟩
theorem lk_X3_17 : ka_lkS RX3 17 mX3_limbOrNought 2 := ⟨⟨rfl, ka_tm 374 (by decide +kernel) rfl, ka_tm 11 (by decide +kernel) rfl, ka_tm 376 (by decide +kernel) rfl, by decide +kernel, by decide +kernel, by decide +kernel⟩, ka_tm 375 (by decide +kernel) rfl⟩
theorem lk_X3_21 : ka_lkS RX3 21 mX3_bitsFrom 2 := ⟨⟨rfl, ka_tm 414 (by decide +kernel) rfl, ka_tm 11 (by decide +kernel) rfl, ka_tm 416 (by decide +kernel) rfl, by decide +kernel, by decide +kernel, by decide +kernel⟩, ka_tm 415 (by decide +kernel) rfl⟩
theorem lk_X3_24 : ka_lkS RX3 24 mX3_cut 2 := ⟨⟨rfl, ka_tm 426 (by decide +kernel) rfl, ka_tm 11 (by decide +kernel) rfl, ka_tm 255 (by decide +kernel) rfl, by decide +kernel, by decide +kernel, by decide +kernel⟩, ka_tm 254 (by decide +kernel) rfl⟩
theorem lk_X3_30 : ka_lkS RX3 30 mX3_lengthOfLimb 1 := ⟨⟨rfl, ka_tm 441 (by decide +kernel) rfl, ka_tm 11 (by decide +kernel) rfl, ka_tm 443 (by decide +kernel) rfl, by decide +kernel, by decide +kernel, by decide +kernel⟩, ka_tm 442 (by decide +kernel) rfl⟩
theorem lk_X3_36 : ka_lkS RX3 36 mX3_swapped 3 := ⟨⟨rfl, ka_tm 497 (by decide +kernel) rfl, ka_tm 11 (by decide +kernel) rfl, ka_tm 499 (by decide +kernel) rfl, by decide +kernel, by decide +kernel, by decide +kernel⟩, ka_tm 498 (by decide +kernel) rfl⟩
theorem lk_X3_48 : ka_lkS RX3 48 mX3_bytesReversed 1 := ⟨⟨rfl, ka_tm 502 (by decide +kernel) rfl, ka_tm 11 (by decide +kernel) rfl, ka_tm 504 (by decide +kernel) rfl, by decide +kernel, by decide +kernel, by decide +kernel⟩, ka_tm 503 (by decide +kernel) rfl⟩
theorem lk_X4_32 : ka_lkI RX4 32 mX1_init 0 := ⟨⟨rfl, ka_tm 28 (by decide +kernel) rfl, ka_tm 2 (by decide +kernel) rfl, ka_tm 30 (by decide +kernel) rfl, by decide +kernel, by decide +kernel, by decide +kernel⟩, rfl, ka_tm 29 (by decide +kernel) rfl⟩
theorem lk_X4_39 : ka_lkI RX4 39 mX2_init 0 := ⟨⟨rfl, ka_tm 93 (by decide +kernel) rfl, ka_tm 4 (by decide +kernel) rfl, ka_tm 95 (by decide +kernel) rfl, by decide +kernel, by decide +kernel, by decide +kernel⟩, rfl, ka_tm 94 (by decide +kernel) rfl⟩
theorem lk_X4_44 : ka_lkS RX4 44 mJ9_floorMod_7cf53 2 := ⟨⟨rfl, ka_tm 127 (by decide +kernel) rfl, ka_tm 5 (by decide +kernel) rfl, ka_tm 129 (by decide +kernel) rfl, by decide +kernel, by decide +kernel, by decide +kernel⟩, ka_tm 128 (by decide +kernel) rfl⟩
theorem lk_X4_53 : ka_lkV RX4 53 mX4_requireRoom 0 := ⟨⟨rfl, ka_tm 173 (by decide +kernel) rfl, ka_tm 1 (by decide +kernel) rfl, ka_tm 176 (by decide +kernel) rfl, by decide +kernel, by decide +kernel, by decide +kernel⟩, ka_tm 175 (by decide +kernel) rfl, ka_pm 0 (by decide +kernel) rfl⟩
theorem lk_X4_56 : ka_lkS RX4 56 mX3_clear 1 := ⟨⟨rfl, ka_tm 246 (by decide +kernel) rfl, ka_tm 11 (by decide +kernel) rfl, ka_tm 248 (by decide +kernel) rfl, by decide +kernel, by decide +kernel, by decide +kernel⟩, ka_tm 247 (by decide +kernel) rfl⟩
theorem lk_X4_62 : ka_lkV RX4 62 mX4_keepMade 1 := ⟨⟨rfl, ka_tm 249 (by decide +kernel) rfl, ka_tm 1 (by decide +kernel) rfl, ka_tm 252 (by decide +kernel) rfl, by decide +kernel, by decide +kernel, by decide +kernel⟩, ka_tm 251 (by decide +kernel) rfl, ka_pm 2 (by decide +kernel) rfl⟩
theorem lk_X4_66 : ka_lkV RX4 66 mX4_requireWord 1 := ⟨⟨rfl, ka_tm 271 (by decide +kernel) rfl, ka_tm 1 (by decide +kernel) rfl, ka_tm 274 (by decide +kernel) rfl, by decide +kernel, by decide +kernel, by decide +kernel⟩, ka_tm 273 (by decide +kernel) rfl, ka_pm 3 (by decide +kernel) rfl⟩
theorem lk_X4_70 : ka_lkV RX4 70 mX4_requireLimb 2 := ⟨⟨rfl, ka_tm 296 (by decide +kernel) rfl, ka_tm 1 (by decide +kernel) rfl, ka_tm 299 (by decide +kernel) rfl, by decide +kernel, by decide +kernel, by decide +kernel⟩, ka_tm 298 (by decide +kernel) rfl, ka_pm 4 (by decide +kernel) rfl⟩
theorem lk_X4_74 : ka_lkS RX4 74 mX3_maskOf 2 := ⟨⟨rfl, ka_tm 301 (by decide +kernel) rfl, ka_tm 11 (by decide +kernel) rfl, ka_tm 258 (by decide +kernel) rfl, by decide +kernel, by decide +kernel, by decide +kernel⟩, ka_tm 257 (by decide +kernel) rfl⟩
theorem lk_X4_78 : ka_lkV RX4 78 mX4_requireKind 2 := ⟨⟨rfl, ka_tm 311 (by decide +kernel) rfl, ka_tm 1 (by decide +kernel) rfl, ka_tm 314 (by decide +kernel) rfl, by decide +kernel, by decide +kernel, by decide +kernel⟩, ka_tm 313 (by decide +kernel) rfl, ka_pm 5 (by decide +kernel) rfl⟩
theorem lk_X4_81 : ka_lkV RX4 81 mX4_requireOneWidth 2 := ⟨⟨rfl, ka_tm 331 (by decide +kernel) rfl, ka_tm 1 (by decide +kernel) rfl, ka_tm 334 (by decide +kernel) rfl, by decide +kernel, by decide +kernel, by decide +kernel⟩, ka_tm 333 (by decide +kernel) rfl, ka_pm 6 (by decide +kernel) rfl⟩
theorem lk_X4_91 : ka_lkV RX4 91 mX4_load 2 := ⟨⟨rfl, ka_tm 337 (by decide +kernel) rfl, ka_tm 1 (by decide +kernel) rfl, ka_tm 340 (by decide +kernel) rfl, by decide +kernel, by decide +kernel, by decide +kernel⟩, ka_tm 339 (by decide +kernel) rfl, ka_pm 7 (by decide +kernel) rfl⟩
theorem lk_X4_95 : ka_lkS RX4 95 mX3_isNought 1 := ⟨⟨rfl, ka_tm 341 (by decide +kernel) rfl, ka_tm 11 (by decide +kernel) rfl, ka_tm 343 (by decide +kernel) rfl, by decide +kernel, by decide +kernel, by decide +kernel⟩, ka_tm 342 (by decide +kernel) rfl⟩
theorem lk_X4_104 : ka_lkV RX4 104 mX1_run 5 := ⟨⟨rfl, ka_tm 360 (by decide +kernel) rfl, ka_tm 2 (by decide +kernel) rfl, ka_tm 363 (by decide +kernel) rfl, by decide +kernel, by decide +kernel, by decide +kernel⟩, ka_tm 361 (by decide +kernel) rfl, ka_tm 362 (by decide +kernel) rfl⟩
theorem lk_X4_124 : ka_lkS RX4 124 mX3_moveUp 3 := ⟨⟨rfl, ka_tm 524 (by decide +kernel) rfl, ka_tm 11 (by decide +kernel) rfl, ka_tm 413 (by decide +kernel) rfl, by decide +kernel, by decide +kernel, by decide +kernel⟩, ka_tm 412 (by decide +kernel) rfl⟩
theorem lk_X4_130 : ka_lkS RX4 130 mX3_orMovedUp 3 := ⟨⟨rfl, ka_tm 533 (by decide +kernel) rfl, ka_tm 11 (by decide +kernel) rfl, ka_tm 483 (by decide +kernel) rfl, by decide +kernel, by decide +kernel, by decide +kernel⟩, ka_tm 482 (by decide +kernel) rfl⟩
theorem lk_X4_135 : ka_lkV RX4 135 mX4_isNegative 1 := ⟨⟨rfl, ka_tm 542 (by decide +kernel) rfl, ka_tm 1 (by decide +kernel) rfl, ka_tm 545 (by decide +kernel) rfl, by decide +kernel, by decide +kernel, by decide +kernel⟩, ka_tm 544 (by decide +kernel) rfl, ka_pm 22 (by decide +kernel) rfl⟩
theorem lk_X4_139 : ka_lkS RX4 139 mX3_fillFrom 2 := ⟨⟨rfl, ka_tm 550 (by decide +kernel) rfl, ka_tm 11 (by decide +kernel) rfl, ka_tm 472 (by decide +kernel) rfl, by decide +kernel, by decide +kernel, by decide +kernel⟩, ka_tm 471 (by decide +kernel) rfl⟩
theorem lk_X4_149 : ka_lkV RX4 149 mX4_hasBit 2 := ⟨⟨rfl, ka_tm 546 (by decide +kernel) rfl, ka_tm 1 (by decide +kernel) rfl, ka_tm 549 (by decide +kernel) rfl, by decide +kernel, by decide +kernel, by decide +kernel⟩, ka_tm 548 (by decide +kernel) rfl, ka_pm 23 (by decide +kernel) rfl⟩
theorem lk_X4_155 : ka_lkV RX4 155 mX2_choose 2 := ⟨⟨rfl, ka_tm 582 (by decide +kernel) rfl, ka_tm 4 (by decide +kernel) rfl, ka_tm 585 (by decide +kernel) rfl, by decide +kernel, by decide +kernel, by decide +kernel⟩, ka_tm 583 (by decide +kernel) rfl, ka_tm 584 (by decide +kernel) rfl⟩
theorem lk_X4_158 : ka_lkV RX4 158 mX2_answer 3 := ⟨⟨rfl, ka_tm 586 (by decide +kernel) rfl, ka_tm 4 (by decide +kernel) rfl, ka_tm 589 (by decide +kernel) rfl, by decide +kernel, by decide +kernel, by decide +kernel⟩, ka_tm 587 (by decide +kernel) rfl, ka_tm 588 (by decide +kernel) rfl⟩
theorem lk_X4_165 : ka_lkS RX4 165 mJ13_bitCount_95d88 1 := ⟨⟨rfl, ka_tm 686 (by decide +kernel) rfl, ka_tm 17 (by decide +kernel) rfl, ka_tm 688 (by decide +kernel) rfl, by decide +kernel, by decide +kernel, by decide +kernel⟩, ka_tm 687 (by decide +kernel) rfl⟩
theorem lk_X4_191 : ka_lkS RX4 191 mX3_cut 2 := ⟨⟨rfl, ka_tm 253 (by decide +kernel) rfl, ka_tm 11 (by decide +kernel) rfl, ka_tm 255 (by decide +kernel) rfl, by decide +kernel, by decide +kernel, by decide +kernel⟩, ka_tm 254 (by decide +kernel) rfl⟩
theorem lk_X5_56 : ka_lkV RX5 56 mX5_throwing 4 := ⟨⟨rfl, ka_tm 760 (by decide +kernel) rfl, ka_tm 6 (by decide +kernel) rfl, ka_tm 763 (by decide +kernel) rfl, by decide +kernel, by decide +kernel, by decide +kernel⟩, ka_tm 762 (by decide +kernel) rfl, ka_pm 44 (by decide +kernel) rfl⟩
theorem lk_X5_60 : ka_lkV RX5 60 mX5_make 1 := ⟨⟨rfl, ka_tm 764 (by decide +kernel) rfl, ka_tm 6 (by decide +kernel) rfl, ka_tm 767 (by decide +kernel) rfl, by decide +kernel, by decide +kernel, by decide +kernel⟩, ka_tm 766 (by decide +kernel) rfl, ka_pm 45 (by decide +kernel) rfl⟩
theorem lk_X5_64 : ka_lkV RX5 64 mX5_isWord 1 := ⟨⟨rfl, ka_tm 776 (by decide +kernel) rfl, ka_tm 6 (by decide +kernel) rfl, ka_tm 779 (by decide +kernel) rfl, by decide +kernel, by decide +kernel, by decide +kernel⟩, ka_tm 778 (by decide +kernel) rfl, ka_pm 47 (by decide +kernel) rfl⟩
theorem lk_X5_68 : ka_lkV RX5 68 mX5_isLimb 2 := ⟨⟨rfl, ka_tm 772 (by decide +kernel) rfl, ka_tm 6 (by decide +kernel) rfl, ka_tm 775 (by decide +kernel) rfl, by decide +kernel, by decide +kernel, by decide +kernel⟩, ka_tm 774 (by decide +kernel) rfl, ka_pm 46 (by decide +kernel) rfl⟩
theorem lk_X5_72 : ka_lkV RX5 72 mX5_bitOf 2 := ⟨⟨rfl, ka_tm 784 (by decide +kernel) rfl, ka_tm 6 (by decide +kernel) rfl, ka_tm 787 (by decide +kernel) rfl, by decide +kernel, by decide +kernel, by decide +kernel⟩, ka_tm 786 (by decide +kernel) rfl, ka_pm 48 (by decide +kernel) rfl⟩
theorem lk_X5_76 : ka_lkV RX5 76 mX5_isNought 3 := ⟨⟨rfl, ka_tm 796 (by decide +kernel) rfl, ka_tm 6 (by decide +kernel) rfl, ka_tm 799 (by decide +kernel) rfl, by decide +kernel, by decide +kernel, by decide +kernel⟩, ka_tm 798 (by decide +kernel) rfl, ka_pm 50 (by decide +kernel) rfl⟩
theorem lk_X5_80 : ka_lkV RX5 80 mX5_add 2 := ⟨⟨rfl, ka_tm 804 (by decide +kernel) rfl, ka_tm 6 (by decide +kernel) rfl, ka_tm 807 (by decide +kernel) rfl, by decide +kernel, by decide +kernel, by decide +kernel⟩, ka_tm 806 (by decide +kernel) rfl, ka_pm 52 (by decide +kernel) rfl⟩
theorem lk_X5_84 : ka_lkV RX5 84 mX5_amounts 1 := ⟨⟨rfl, ka_tm 808 (by decide +kernel) rfl, ka_tm 6 (by decide +kernel) rfl, ka_tm 811 (by decide +kernel) rfl, by decide +kernel, by decide +kernel, by decide +kernel⟩, ka_tm 810 (by decide +kernel) rfl, ka_pm 53 (by decide +kernel) rfl⟩
theorem lk_X5_88 : ka_lkV RX5 88 mX5_multiply 1 := ⟨⟨rfl, ka_tm 812 (by decide +kernel) rfl, ka_tm 6 (by decide +kernel) rfl, ka_tm 815 (by decide +kernel) rfl, by decide +kernel, by decide +kernel, by decide +kernel⟩, ka_tm 814 (by decide +kernel) rfl, ka_pm 54 (by decide +kernel) rfl⟩
theorem lk_X5_91 : ka_lkV RX5 91 mX5_fits 2 := ⟨⟨rfl, ka_tm 816 (by decide +kernel) rfl, ka_tm 6 (by decide +kernel) rfl, ka_tm 819 (by decide +kernel) rfl, by decide +kernel, by decide +kernel, by decide +kernel⟩, ka_tm 818 (by decide +kernel) rfl, ka_pm 55 (by decide +kernel) rfl⟩
theorem lk_X5_95 : ka_lkV RX5 95 mX5_divide 1 := ⟨⟨rfl, ka_tm 824 (by decide +kernel) rfl, ka_tm 6 (by decide +kernel) rfl, ka_tm 827 (by decide +kernel) rfl, by decide +kernel, by decide +kernel, by decide +kernel⟩, ka_tm 826 (by decide +kernel) rfl, ka_pm 57 (by decide +kernel) rfl⟩
theorem lk_X5_98 : ka_lkV RX5 98 mX5_takeRest 1 := ⟨⟨rfl, ka_tm 828 (by decide +kernel) rfl, ka_tm 6 (by decide +kernel) rfl, ka_tm 831 (by decide +kernel) rfl, by decide +kernel, by decide +kernel, by decide +kernel⟩, ka_tm 830 (by decide +kernel) rfl, ka_pm 58 (by decide +kernel) rfl⟩
theorem lk_X5_101 : ka_lkV RX5 101 mX5_turn 1 := ⟨⟨rfl, ka_tm 832 (by decide +kernel) rfl, ka_tm 6 (by decide +kernel) rfl, ka_tm 835 (by decide +kernel) rfl, by decide +kernel, by decide +kernel, by decide +kernel⟩, ka_tm 834 (by decide +kernel) rfl, ka_pm 59 (by decide +kernel) rfl⟩
theorem lk_X5_104 : ka_lkV RX5 104 mX5_amountOfB 1 := ⟨⟨rfl, ka_tm 840 (by decide +kernel) rfl, ka_tm 6 (by decide +kernel) rfl, ka_tm 843 (by decide +kernel) rfl, by decide +kernel, by decide +kernel, by decide +kernel⟩, ka_tm 842 (by decide +kernel) rfl, ka_pm 61 (by decide +kernel) rfl⟩
theorem lk_X5_107 : ka_lkV RX5 107 mX5_bAround 1 := ⟨⟨rfl, ka_tm 848 (by decide +kernel) rfl, ka_tm 6 (by decide +kernel) rfl, ka_tm 851 (by decide +kernel) rfl, by decide +kernel, by decide +kernel, by decide +kernel⟩, ka_tm 850 (by decide +kernel) rfl, ka_pm 63 (by decide +kernel) rfl⟩
theorem lk_X5_110 : ka_lkV RX5 110 mX5_load 2 := ⟨⟨rfl, ka_tm 792 (by decide +kernel) rfl, ka_tm 6 (by decide +kernel) rfl, ka_tm 795 (by decide +kernel) rfl, by decide +kernel, by decide +kernel, by decide +kernel⟩, ka_tm 794 (by decide +kernel) rfl, ka_pm 49 (by decide +kernel) rfl⟩
theorem lk_X5_114 : ka_lkV RX5 114 mX5_sums 2 := ⟨⟨rfl, ka_tm 800 (by decide +kernel) rfl, ka_tm 6 (by decide +kernel) rfl, ka_tm 803 (by decide +kernel) rfl, by decide +kernel, by decide +kernel, by decide +kernel⟩, ka_tm 802 (by decide +kernel) rfl, ka_pm 51 (by decide +kernel) rfl⟩
theorem lk_X5_117 : ka_lkV RX5 117 mX5_quotients 2 := ⟨⟨rfl, ka_tm 820 (by decide +kernel) rfl, ka_tm 6 (by decide +kernel) rfl, ka_tm 823 (by decide +kernel) rfl, by decide +kernel, by decide +kernel, by decide +kernel⟩, ka_tm 822 (by decide +kernel) rfl, ka_pm 56 (by decide +kernel) rfl⟩
theorem lk_X5_120 : ka_lkV RX5 120 mX5_moves 2 := ⟨⟨rfl, ka_tm 836 (by decide +kernel) rfl, ka_tm 6 (by decide +kernel) rfl, ka_tm 839 (by decide +kernel) rfl, by decide +kernel, by decide +kernel, by decide +kernel⟩, ka_tm 838 (by decide +kernel) rfl, ka_pm 60 (by decide +kernel) rfl⟩
theorem lk_X5_123 : ka_lkV RX5 123 mX5_others 2 := ⟨⟨rfl, ka_tm 844 (by decide +kernel) rfl, ka_tm 6 (by decide +kernel) rfl, ka_tm 847 (by decide +kernel) rfl, by decide +kernel, by decide +kernel, by decide +kernel⟩, ka_tm 846 (by decide +kernel) rfl, ka_pm 62 (by decide +kernel) rfl⟩
theorem lk_X5_126 : ka_lkV RX5 126 mX5_keep 2 := ⟨⟨rfl, ka_tm 852 (by decide +kernel) rfl, ka_tm 6 (by decide +kernel) rfl, ka_tm 855 (by decide +kernel) rfl, by decide +kernel, by decide +kernel, by decide +kernel⟩, ka_tm 854 (by decide +kernel) rfl, ka_pm 64 (by decide +kernel) rfl⟩
theorem lk_X5_129 : ka_lkS RX5 129 mX5_exponentBits 1 := ⟨⟨rfl, ka_tm 899 (by decide +kernel) rfl, ka_tm 6 (by decide +kernel) rfl, ka_tm 901 (by decide +kernel) rfl, by decide +kernel, by decide +kernel, by decide +kernel⟩, ka_tm 900 (by decide +kernel) rfl⟩
theorem lk_X5_132 : ka_lkS RX5 132 mX5_fractionBits 1 := ⟨⟨rfl, ka_tm 896 (by decide +kernel) rfl, ka_tm 6 (by decide +kernel) rfl, ka_tm 898 (by decide +kernel) rfl, by decide +kernel, by decide +kernel, by decide +kernel⟩, ka_tm 897 (by decide +kernel) rfl⟩
theorem lk_X5_135 : ka_lkS RX5 135 mX5_bias 1 := ⟨⟨rfl, ka_tm 902 (by decide +kernel) rfl, ka_tm 6 (by decide +kernel) rfl, ka_tm 904 (by decide +kernel) rfl, by decide +kernel, by decide +kernel, by decide +kernel⟩, ka_tm 903 (by decide +kernel) rfl⟩
theorem lk_X5_138 : ka_lkS RX5 138 mX5_packed 4 := ⟨⟨rfl, ka_tm 908 (by decide +kernel) rfl, ka_tm 6 (by decide +kernel) rfl, ka_tm 910 (by decide +kernel) rfl, by decide +kernel, by decide +kernel, by decide +kernel⟩, ka_tm 909 (by decide +kernel) rfl⟩
theorem lk_X5_145 : ka_lkS RX5 145 mX5_none 1 := ⟨⟨rfl, ka_tm 905 (by decide +kernel) rfl, ka_tm 6 (by decide +kernel) rfl, ka_tm 907 (by decide +kernel) rfl, by decide +kernel, by decide +kernel, by decide +kernel⟩, ka_tm 906 (by decide +kernel) rfl⟩
theorem lk_X5_149 : ka_lkS RX5 149 mX5_highest 1 := ⟨⟨rfl, ka_tm 926 (by decide +kernel) rfl, ka_tm 6 (by decide +kernel) rfl, ka_tm 928 (by decide +kernel) rfl, by decide +kernel, by decide +kernel, by decide +kernel⟩, ka_tm 927 (by decide +kernel) rfl⟩
theorem lk_X5_153 : ka_lkS RX5 153 mX5_isMore 4 := ⟨⟨rfl, ka_tm 929 (by decide +kernel) rfl, ka_tm 6 (by decide +kernel) rfl, ka_tm 931 (by decide +kernel) rfl, by decide +kernel, by decide +kernel, by decide +kernel⟩, ka_tm 930 (by decide +kernel) rfl⟩
theorem lk_X5_159 : ka_lkS RX5 159 mX5_infinite 2 := ⟨⟨rfl, ka_tm 919 (by decide +kernel) rfl, ka_tm 6 (by decide +kernel) rfl, ka_tm 921 (by decide +kernel) rfl, by decide +kernel, by decide +kernel, by decide +kernel⟩, ka_tm 920 (by decide +kernel) rfl⟩
theorem lk_X5_163 : ka_lkV RX5 163 mX5_notValid 1 := ⟨⟨rfl, ka_tm 915 (by decide +kernel) rfl, ka_tm 6 (by decide +kernel) rfl, ka_tm 918 (by decide +kernel) rfl, by decide +kernel, by decide +kernel, by decide +kernel⟩, ka_tm 917 (by decide +kernel) rfl, ka_pm 67 (by decide +kernel) rfl⟩
theorem lk_X5_166 : ka_lkV RX5 166 mX5_rounded 5 := ⟨⟨rfl, ka_tm 922 (by decide +kernel) rfl, ka_tm 6 (by decide +kernel) rfl, ka_tm 925 (by decide +kernel) rfl, by decide +kernel, by decide +kernel, by decide +kernel⟩, ka_tm 924 (by decide +kernel) rfl, ka_pm 68 (by decide +kernel) rfl⟩
theorem lk_X5_172 : ka_lkV RX5 172 mX5_take 3 := ⟨⟨rfl, ka_tm 892 (by decide +kernel) rfl, ka_tm 6 (by decide +kernel) rfl, ka_tm 895 (by decide +kernel) rfl, by decide +kernel, by decide +kernel, by decide +kernel⟩, ka_tm 894 (by decide +kernel) rfl, ka_pm 65 (by decide +kernel) rfl⟩
theorem lk_X5_176 : ka_lkV RX5 176 mX5_sum 2 := ⟨⟨rfl, ka_tm 911 (by decide +kernel) rfl, ka_tm 6 (by decide +kernel) rfl, ka_tm 914 (by decide +kernel) rfl, by decide +kernel, by decide +kernel, by decide +kernel⟩, ka_tm 913 (by decide +kernel) rfl, ka_pm 66 (by decide +kernel) rfl⟩
theorem lk_X5_179 : ka_lkV RX5 179 mX5_product 2 := ⟨⟨rfl, ka_tm 933 (by decide +kernel) rfl, ka_tm 6 (by decide +kernel) rfl, ka_tm 936 (by decide +kernel) rfl, by decide +kernel, by decide +kernel, by decide +kernel⟩, ka_tm 935 (by decide +kernel) rfl, ka_pm 69 (by decide +kernel) rfl⟩
theorem lk_X5_182 : ka_lkV RX5 182 mX5_quotient 2 := ⟨⟨rfl, ka_tm 937 (by decide +kernel) rfl, ka_tm 6 (by decide +kernel) rfl, ka_tm 940 (by decide +kernel) rfl, by decide +kernel, by decide +kernel, by decide +kernel⟩, ka_tm 939 (by decide +kernel) rfl, ka_pm 70 (by decide +kernel) rfl⟩
theorem ko_X0_3 : Cond.methodLink RX0 3 objectInit ∈ ka_T := ka_tm 37 (by decide +kernel) rfl
theorem ko_X1_3 : Cond.methodLink RX1 3 objectInit ∈ ka_T := ka_tm 31 (by decide +kernel) rfl
theorem ko_X2_1 : Cond.methodLink RX2 1 objectInit ∈ ka_T := ka_tm 96 (by decide +kernel) rfl
theorem ko_X4_3 : Cond.methodLink RX4 3 objectInit ∈ ka_T := ka_tm 23 (by decide +kernel) rfl
theorem kp_X4_185 : Cond.methodLink RX4 185 arraycopyName ∈ ka_T := ka_tm 260 (by decide +kernel) rfl
theorem ko_X5_1 : Cond.methodLink RX5 1 objectInit ∈ ka_T := ka_tm 704 (by decide +kernel) rfl
theorem ko_i : Cond.instanceMethod objectInit ∈ ka_T := ka_tm 24 (by decide +kernel) rfl
theorem ko_c : Cond.code objectInit ⟨#[0xb1]⟩ 1 none ∈ ka_T := ka_tm 25 (by decide +kernel) rfl
theorem kp_n : Cond.native arraycopyName ∈ ka_T := ka_tm 262 (by decide +kernel) rfl
theorem kp_s : Cond.static arraycopyName ∈ ka_T := ka_tm 261 (by decide +kernel) rfl
theorem kp_i : Cond.initialized "java/lang/System" ∈ ka_T := ka_tm 12 (by decide +kernel) rfl
end
section
section KR
variable {L : Nat} {xs : Nat → Int32} {M : ka_Md} {R : Room} {pc q : Nat} {ls : List (Nat × Value)} {st : List Value} {h : ka_H} {N mc ms : Nat} {Q : ka_O → ka_H → Nat → Prop}
theorem ka_iconst {n : Int} {v : Int32} (hd : decode M.2.1 pc = .ok (.iconst n, 1)) (hn : pc + 1 = q) (hv : Int32.ofInt n = v) (k : ka_W L xs M R q ls (.int v :: st) h N mc ms Q) : ka_W L xs M R pc ls st h N mc ms Q := by
  subst hn
  exact ka_pure (fun p l e s m args below meth c H locs cells slots Z φ rls hx hb hown hts hl kk => lv_iconst hx hb hd hv kk) k
theorem ka_bipush {n : Int} {v : Int32} (hd : decode M.2.1 pc = .ok (.bipush n, 2)) (hn : pc + 2 = q) (hv : (Int8.ofInt n).toInt32 = v) (k : ka_W L xs M R q ls (.int v :: st) h N mc ms Q) : ka_W L xs M R pc ls st h N mc ms Q := by
  subst hn
  exact ka_pure (fun p l e s m args below meth c H locs cells slots Z φ rls hx hb hown hts hl kk => lv_bipush hx hb hd hv kk) k
theorem ka_sipush {n : Int} {v : Int32} (hd : decode M.2.1 pc = .ok (.sipush n, 3)) (hn : pc + 3 = q) (hv : (Int16.ofInt n).toInt32 = v) (k : ka_W L xs M R q ls (.int v :: st) h N mc ms Q) : ka_W L xs M R pc ls st h N mc ms Q := by
  subst hn
  exact ka_pure (fun p l e s m args below meth c H locs cells slots Z φ rls hx hb hown hts hl kk => lv_sipush hx hb hd hv kk) k
theorem ka_lconst {n : Fin 2} {v : Int64} (hd : decode M.2.1 pc = .ok (.lconst n, 1)) (hn : pc + 1 = q) (hv : Int64.ofNat (n : Nat) = v) (k : ka_W L xs M R q ls (.long v :: st) h N mc ms Q) : ka_W L xs M R pc ls st h N mc ms Q := by
  subst hn
  exact ka_pure (fun p l e s m args below meth c H locs cells slots Z φ rls hx hb hown hts hl kk => lv_lconst hx hb hd hv kk) k
theorem ka_ldc {n : Nat} {v : Int32} (hd : decode M.2.1 pc = .ok (.ldc n, 2)) (hn : pc + 2 = q) (hw : Cond.constant M.1.cls n v ∈ ka_T) (k : ka_W L xs M R q ls (.int v :: st) h N mc ms Q) : ka_W L xs M R pc ls st h N mc ms Q := by
  subst hn
  exact ka_pure (fun p l e s m args below meth c H locs cells slots Z φ rls hx hb hown hts hl kk => lv_ldc hx hb hown (hts _ hw) hd kk) k
theorem ka_ldcw {n : Nat} {v : Int32} (hd : decode M.2.1 pc = .ok (.ldc_w n, 3)) (hn : pc + 3 = q) (hw : Cond.constant M.1.cls n v ∈ ka_T) (k : ka_W L xs M R q ls (.int v :: st) h N mc ms Q) : ka_W L xs M R pc ls st h N mc ms Q := by
  subst hn
  exact ka_pure (fun p l e s m args below meth c H locs cells slots Z φ rls hx hb hown hts hl kk => lv_ldcw hx hb hown (hts _ hw) hd kk) k
theorem ka_ldc2 {n : Nat} {v : Int64} (hd : decode M.2.1 pc = .ok (.ldc2_w n, 3)) (hn : pc + 3 = q) (hw : Cond.constantLong M.1.cls n v ∈ ka_T) (k : ka_W L xs M R q ls (.long v :: st) h N mc ms Q) : ka_W L xs M R pc ls st h N mc ms Q := by
  subst hn
  exact ka_pure (fun p l e s m args below meth c H locs cells slots Z φ rls hx hb hown hts hl kk => lv_ldc2 hx hb hown (hts _ hw) hd kk) k
theorem ka_iload_n {j : Fin 4} {i : Nat} {x : Int32} (hd : decode M.2.1 pc = .ok (.iload_n j, 1)) (hn : pc + 1 = q) (hi : (j : Nat) = i) (g : Nat) (hg : ls[g]? = some (i, .int x)) (k : ka_W L xs M R q ls (.int x :: st) h N mc ms Q) : ka_W L xs M R pc ls st h N mc ms Q := by
  subst hn
  exact ka_pure (fun p l e s m args below meth c H locs cells slots Z φ rls hx hb hown hts hl kk => lv_iload_n hx hb hd hi (ka_at hl hg) kk) k
theorem ka_iload {i : Nat} {x : Int32} (hd : decode M.2.1 pc = .ok (.iload i, 2)) (hn : pc + 2 = q) (g : Nat) (hg : ls[g]? = some (i, .int x)) (k : ka_W L xs M R q ls (.int x :: st) h N mc ms Q) : ka_W L xs M R pc ls st h N mc ms Q := by
  subst hn
  exact ka_pure (fun p l e s m args below meth c H locs cells slots Z φ rls hx hb hown hts hl kk => lv_iload hx hb hd (ka_at hl hg) kk) k
theorem ka_lload_n {j : Fin 4} {i : Nat} {x : Int64} (hd : decode M.2.1 pc = .ok (.lload_n j, 1)) (hn : pc + 1 = q) (hi : (j : Nat) = i) (g : Nat) (hg : ls[g]? = some (i, .long x)) (k : ka_W L xs M R q ls (.long x :: st) h N mc ms Q) : ka_W L xs M R pc ls st h N mc ms Q := by
  subst hn
  exact ka_pure (fun p l e s m args below meth c H locs cells slots Z φ rls hx hb hown hts hl kk => lv_lload_n hx hb hd hi (ka_at hl hg) kk) k
theorem ka_lload {i : Nat} {x : Int64} (hd : decode M.2.1 pc = .ok (.lload i, 2)) (hn : pc + 2 = q) (g : Nat) (hg : ls[g]? = some (i, .long x)) (k : ka_W L xs M R q ls (.long x :: st) h N mc ms Q) : ka_W L xs M R pc ls st h N mc ms Q := by
  subst hn
  exact ka_pure (fun p l e s m args below meth c H locs cells slots Z φ rls hx hb hown hts hl kk => lv_lload hx hb hd (ka_at hl hg) kk) k
theorem ka_aload_n {j : Fin 4} {i : Nat} {x : Nat} (hd : decode M.2.1 pc = .ok (.aload_n j, 1)) (hn : pc + 1 = q) (hi : (j : Nat) = i) (g : Nat) (hg : ls[g]? = some (i, .ref x)) (k : ka_W L xs M R q ls (.ref x :: st) h N mc ms Q) : ka_W L xs M R pc ls st h N mc ms Q := by
  subst hn
  exact ka_pure (fun p l e s m args below meth c H locs cells slots Z φ rls hx hb hown hts hl kk => lv_aload_n hx hb hd hi (ka_at hl hg) kk) k
theorem ka_aload {i : Nat} {x : Nat} (hd : decode M.2.1 pc = .ok (.aload i, 2)) (hn : pc + 2 = q) (g : Nat) (hg : ls[g]? = some (i, .ref x)) (k : ka_W L xs M R q ls (.ref x :: st) h N mc ms Q) : ka_W L xs M R pc ls st h N mc ms Q := by
  subst hn
  exact ka_pure (fun p l e s m args below meth c H locs cells slots Z φ rls hx hb hown hts hl kk => lv_aload hx hb hd (ka_at hl hg) kk) k
theorem ka_iadd {x y : Int32} (hd : decode M.2.1 pc = .ok (.iadd, 1)) (hn : pc + 1 = q)  (k : ka_W L xs M R q ls (.int (x + y) :: st) h N mc ms Q) : ka_W L xs M R pc ls (.int y :: .int x :: st) h N mc ms Q := by
  subst hn
  exact ka_pure (fun p l e s m args below meth c H locs cells slots Z φ rls hx hb hown hts hl kk => lv_iadd hx hb hd kk) k
theorem ka_isub {x y : Int32} (hd : decode M.2.1 pc = .ok (.isub, 1)) (hn : pc + 1 = q)  (k : ka_W L xs M R q ls (.int (x - y) :: st) h N mc ms Q) : ka_W L xs M R pc ls (.int y :: .int x :: st) h N mc ms Q := by
  subst hn
  exact ka_pure (fun p l e s m args below meth c H locs cells slots Z φ rls hx hb hown hts hl kk => lv_isub hx hb hd kk) k
theorem ka_imul {x y : Int32} (hd : decode M.2.1 pc = .ok (.imul, 1)) (hn : pc + 1 = q)  (k : ka_W L xs M R q ls (.int (x * y) :: st) h N mc ms Q) : ka_W L xs M R pc ls (.int y :: .int x :: st) h N mc ms Q := by
  subst hn
  exact ka_pure (fun p l e s m args below meth c H locs cells slots Z φ rls hx hb hown hts hl kk => lv_imul hx hb hd kk) k
theorem ka_iand {x y : Int32} (hd : decode M.2.1 pc = .ok (.iand, 1)) (hn : pc + 1 = q)  (k : ka_W L xs M R q ls (.int (x &&& y) :: st) h N mc ms Q) : ka_W L xs M R pc ls (.int y :: .int x :: st) h N mc ms Q := by
  subst hn
  exact ka_pure (fun p l e s m args below meth c H locs cells slots Z φ rls hx hb hown hts hl kk => lv_iand hx hb hd kk) k
theorem ka_ior {x y : Int32} (hd : decode M.2.1 pc = .ok (.ior, 1)) (hn : pc + 1 = q)  (k : ka_W L xs M R q ls (.int (x ||| y) :: st) h N mc ms Q) : ka_W L xs M R pc ls (.int y :: .int x :: st) h N mc ms Q := by
  subst hn
  exact ka_pure (fun p l e s m args below meth c H locs cells slots Z φ rls hx hb hown hts hl kk => lv_ior hx hb hd kk) k
theorem ka_ixor {x y : Int32} (hd : decode M.2.1 pc = .ok (.ixor, 1)) (hn : pc + 1 = q)  (k : ka_W L xs M R q ls (.int (x ^^^ y) :: st) h N mc ms Q) : ka_W L xs M R pc ls (.int y :: .int x :: st) h N mc ms Q := by
  subst hn
  exact ka_pure (fun p l e s m args below meth c H locs cells slots Z φ rls hx hb hown hts hl kk => lv_ixor hx hb hd kk) k
theorem ka_ishl {x y : Int32} (hd : decode M.2.1 pc = .ok (.ishl, 1)) (hn : pc + 1 = q)  (k : ka_W L xs M R q ls (.int (x <<< (y &&& 31)) :: st) h N mc ms Q) : ka_W L xs M R pc ls (.int y :: .int x :: st) h N mc ms Q := by
  subst hn
  exact ka_pure (fun p l e s m args below meth c H locs cells slots Z φ rls hx hb hown hts hl kk => lv_ishl hx hb hd kk) k
theorem ka_ishr {x y : Int32} (hd : decode M.2.1 pc = .ok (.ishr, 1)) (hn : pc + 1 = q)  (k : ka_W L xs M R q ls (.int (x >>> (y &&& 31)) :: st) h N mc ms Q) : ka_W L xs M R pc ls (.int y :: .int x :: st) h N mc ms Q := by
  subst hn
  exact ka_pure (fun p l e s m args below meth c H locs cells slots Z φ rls hx hb hown hts hl kk => lv_ishr hx hb hd kk) k
theorem ka_idiv {x y : Int32} (hd : decode M.2.1 pc = .ok (.idiv, 1)) (hn : pc + 1 = q) (hne : ¬ y = 0) (k : ka_W L xs M R q ls (.int (x / y) :: st) h N mc ms Q) : ka_W L xs M R pc ls (.int y :: .int x :: st) h N mc ms Q := by
  subst hn
  exact ka_pure (fun p l e s m args below meth c H locs cells slots Z φ rls hx hb hown hts hl kk => lv_idiv hx hb hd hne kk) k
theorem ka_irem {x y : Int32} (hd : decode M.2.1 pc = .ok (.irem, 1)) (hn : pc + 1 = q) (hne : ¬ y = 0) (k : ka_W L xs M R q ls (.int (x - x / y * y) :: st) h N mc ms Q) : ka_W L xs M R pc ls (.int y :: .int x :: st) h N mc ms Q := by
  subst hn
  exact ka_pure (fun p l e s m args below meth c H locs cells slots Z φ rls hx hb hown hts hl kk => lv_irem hx hb hd hne kk) k
theorem ka_ineg {x : Int32} (hd : decode M.2.1 pc = .ok (.ineg, 1)) (hn : pc + 1 = q)  (k : ka_W L xs M R q ls (.int (-x) :: st) h N mc ms Q) : ka_W L xs M R pc ls (.int x :: st) h N mc ms Q := by
  subst hn
  exact ka_pure (fun p l e s m args below meth c H locs cells slots Z φ rls hx hb hown hts hl kk => lv_ineg hx hb hd kk) k
theorem ka_ladd {x y : Int64} (hd : decode M.2.1 pc = .ok (.ladd, 1)) (hn : pc + 1 = q)  (k : ka_W L xs M R q ls (.long (x + y) :: st) h N mc ms Q) : ka_W L xs M R pc ls (.long y :: .long x :: st) h N mc ms Q := by
  subst hn
  exact ka_pure (fun p l e s m args below meth c H locs cells slots Z φ rls hx hb hown hts hl kk => lv_ladd hx hb hd kk) k
theorem ka_lsub {x y : Int64} (hd : decode M.2.1 pc = .ok (.lsub, 1)) (hn : pc + 1 = q)  (k : ka_W L xs M R q ls (.long (x - y) :: st) h N mc ms Q) : ka_W L xs M R pc ls (.long y :: .long x :: st) h N mc ms Q := by
  subst hn
  exact ka_pure (fun p l e s m args below meth c H locs cells slots Z φ rls hx hb hown hts hl kk => lv_lsub hx hb hd kk) k
theorem ka_lmul {x y : Int64} (hd : decode M.2.1 pc = .ok (.lmul, 1)) (hn : pc + 1 = q)  (k : ka_W L xs M R q ls (.long (x * y) :: st) h N mc ms Q) : ka_W L xs M R pc ls (.long y :: .long x :: st) h N mc ms Q := by
  subst hn
  exact ka_pure (fun p l e s m args below meth c H locs cells slots Z φ rls hx hb hown hts hl kk => lv_lmul hx hb hd kk) k
theorem ka_land {x y : Int64} (hd : decode M.2.1 pc = .ok (.land, 1)) (hn : pc + 1 = q)  (k : ka_W L xs M R q ls (.long (x &&& y) :: st) h N mc ms Q) : ka_W L xs M R pc ls (.long y :: .long x :: st) h N mc ms Q := by
  subst hn
  exact ka_pure (fun p l e s m args below meth c H locs cells slots Z φ rls hx hb hown hts hl kk => lv_land hx hb hd kk) k
theorem ka_lor {x y : Int64} (hd : decode M.2.1 pc = .ok (.lor, 1)) (hn : pc + 1 = q)  (k : ka_W L xs M R q ls (.long (x ||| y) :: st) h N mc ms Q) : ka_W L xs M R pc ls (.long y :: .long x :: st) h N mc ms Q := by
  subst hn
  exact ka_pure (fun p l e s m args below meth c H locs cells slots Z φ rls hx hb hown hts hl kk => lv_lor hx hb hd kk) k
theorem ka_lxor {x y : Int64} (hd : decode M.2.1 pc = .ok (.lxor, 1)) (hn : pc + 1 = q)  (k : ka_W L xs M R q ls (.long (x ^^^ y) :: st) h N mc ms Q) : ka_W L xs M R pc ls (.long y :: .long x :: st) h N mc ms Q := by
  subst hn
  exact ka_pure (fun p l e s m args below meth c H locs cells slots Z φ rls hx hb hown hts hl kk => lv_lxor hx hb hd kk) k
theorem ka_ldiv {x y : Int64} (hd : decode M.2.1 pc = .ok (.ldiv, 1)) (hn : pc + 1 = q) (hne : ¬ y = 0) (k : ka_W L xs M R q ls (.long (x / y) :: st) h N mc ms Q) : ka_W L xs M R pc ls (.long y :: .long x :: st) h N mc ms Q := by
  subst hn
  exact ka_pure (fun p l e s m args below meth c H locs cells slots Z φ rls hx hb hown hts hl kk => lv_ldiv hx hb hd hne kk) k
theorem ka_lrem {x y : Int64} (hd : decode M.2.1 pc = .ok (.lrem, 1)) (hn : pc + 1 = q) (hne : ¬ y = 0) (k : ka_W L xs M R q ls (.long (x - x / y * y) :: st) h N mc ms Q) : ka_W L xs M R pc ls (.long y :: .long x :: st) h N mc ms Q := by
  subst hn
  exact ka_pure (fun p l e s m args below meth c H locs cells slots Z φ rls hx hb hown hts hl kk => lv_lrem hx hb hd hne kk) k
theorem ka_lneg {x : Int64} (hd : decode M.2.1 pc = .ok (.lneg, 1)) (hn : pc + 1 = q)  (k : ka_W L xs M R q ls (.long (-x) :: st) h N mc ms Q) : ka_W L xs M R pc ls (.long x :: st) h N mc ms Q := by
  subst hn
  exact ka_pure (fun p l e s m args below meth c H locs cells slots Z φ rls hx hb hown hts hl kk => lv_lneg hx hb hd kk) k
theorem ka_i2l {x : Int32} (hd : decode M.2.1 pc = .ok (.i2l, 1)) (hn : pc + 1 = q)  (k : ka_W L xs M R q ls (.long x.toInt64 :: st) h N mc ms Q) : ka_W L xs M R pc ls (.int x :: st) h N mc ms Q := by
  subst hn
  exact ka_pure (fun p l e s m args below meth c H locs cells slots Z φ rls hx hb hown hts hl kk => lv_i2l hx hb hd rfl kk) k
theorem ka_l2i {x : Int64} (hd : decode M.2.1 pc = .ok (.l2i, 1)) (hn : pc + 1 = q)  (k : ka_W L xs M R q ls (.int x.toInt32 :: st) h N mc ms Q) : ka_W L xs M R pc ls (.long x :: st) h N mc ms Q := by
  subst hn
  exact ka_pure (fun p l e s m args below meth c H locs cells slots Z φ rls hx hb hown hts hl kk => lv_l2i hx hb hd rfl kk) k
theorem ka_i2b {x : Int32} (hd : decode M.2.1 pc = .ok (.i2b, 1)) (hn : pc + 1 = q)  (k : ka_W L xs M R q ls (.int x.toInt8.toInt32 :: st) h N mc ms Q) : ka_W L xs M R pc ls (.int x :: st) h N mc ms Q := by
  subst hn
  exact ka_pure (fun p l e s m args below meth c H locs cells slots Z φ rls hx hb hown hts hl kk => lv_i2b hx hb hd rfl kk) k
theorem ka_iushr {x y : Int32} (hd : decode M.2.1 pc = .ok (.iushr, 1)) (hn : pc + 1 = q)  (k : ka_W L xs M R q ls (.int (x.toUInt32 >>> (y.toUInt32 &&& Int32.toUInt32 31)).toInt32 :: st) h N mc ms Q) : ka_W L xs M R pc ls (.int y :: .int x :: st) h N mc ms Q := by
  subst hn
  exact ka_pure (fun p l e s m args below meth c H locs cells slots Z φ rls hx hb hown hts hl kk => lv_iushr hx hb hd rfl kk) k
theorem ka_lushr {x : Int64} {y : Int32} (hd : decode M.2.1 pc = .ok (.lushr, 1)) (hn : pc + 1 = q)  (k : ka_W L xs M R q ls (.long (x.toUInt64 >>> (y.toInt64.toUInt64 &&& Int64.toUInt64 63)).toInt64 :: st) h N mc ms Q) : ka_W L xs M R pc ls (.int y :: .long x :: st) h N mc ms Q := by
  subst hn
  exact ka_pure (fun p l e s m args below meth c H locs cells slots Z φ rls hx hb hown hts hl kk => lv_lushr hx hb hd rfl kk) k
theorem ka_lshl {x : Int64} {y : Int32} (hd : decode M.2.1 pc = .ok (.lshl, 1)) (hn : pc + 1 = q)  (k : ka_W L xs M R q ls (.long (x <<< (y.toInt64 &&& 63)) :: st) h N mc ms Q) : ka_W L xs M R pc ls (.int y :: .long x :: st) h N mc ms Q := by
  subst hn
  exact ka_pure (fun p l e s m args below meth c H locs cells slots Z φ rls hx hb hown hts hl kk => lv_lshl hx hb hd rfl kk) k
theorem ka_lshr {x : Int64} {y : Int32} (hd : decode M.2.1 pc = .ok (.lshr, 1)) (hn : pc + 1 = q)  (k : ka_W L xs M R q ls (.long (x >>> (y.toInt64 &&& 63)) :: st) h N mc ms Q) : ka_W L xs M R pc ls (.int y :: .long x :: st) h N mc ms Q := by
  subst hn
  exact ka_pure (fun p l e s m args below meth c H locs cells slots Z φ rls hx hb hown hts hl kk => lv_lshr hx hb hd rfl kk) k
theorem ka_lcmp {x y : Int64} (hd : decode M.2.1 pc = .ok (.lcmp, 1)) (hn : pc + 1 = q)  (k : ka_W L xs M R q ls (.int (lg_cmp x y) :: st) h N mc ms Q) : ka_W L xs M R pc ls (.long y :: .long x :: st) h N mc ms Q := by
  subst hn
  exact ka_pure (fun p l e s m args below meth c H locs cells slots Z φ rls hx hb hown hts hl kk => W.lcmp hx hb hd kk) k
theorem ka_dup {v : Value} (hd : decode M.2.1 pc = .ok (.dup, 1)) (hn : pc + 1 = q) (hv : v.category = 1) (k : ka_W L xs M R q ls (v :: v :: st) h N mc ms Q) : ka_W L xs M R pc ls (v :: st) h N mc ms Q := by
  subst hn
  exact ka_pure (fun p l e s m args below meth c H locs cells slots Z φ rls hx hb hown hts hl kk => lv_dup hx hb hd ((ka_v_cat φ v).trans hv) kk) k
theorem ka_pop {v : Value} (hd : decode M.2.1 pc = .ok (.pop, 1)) (hn : pc + 1 = q) (hv : v.category = 1) (k : ka_W L xs M R q ls st h N mc ms Q) : ka_W L xs M R pc ls (v :: st) h N mc ms Q := by
  subst hn
  exact ka_pure (fun p l e s m args below meth c H locs cells slots Z φ rls hx hb hown hts hl kk => lv_pop hx hb hd ((ka_v_cat φ v).trans hv) kk) k
theorem ka_dup2 {v w : Value} (hd : decode M.2.1 pc = .ok (.dup2, 1)) (hn : pc + 1 = q) (hv : v.category = 1) (hw : w.category = 1) (k : ka_W L xs M R q ls (v :: w :: v :: w :: st) h N mc ms Q) : ka_W L xs M R pc ls (v :: w :: st) h N mc ms Q := by
  subst hn
  exact ka_pure (fun p l e s m args below meth c H locs cells slots Z φ rls hx hb hown hts hl kk => lv_dup2_11 hx hb hd ((ka_v_cat φ v).trans hv) ((ka_v_cat φ w).trans hw) kk) k
theorem ka_goto {off : Int} (hd : decode M.2.1 pc = .ok (.goto off, 3)) (ht : (pc : Int) + off = (q : Int)) (k : ka_W L xs M R q ls st h N mc ms Q) : ka_W L xs M R pc ls st h N mc ms Q :=
  ka_pure (fun p l e s m args below meth c H locs cells slots Z φ rls hx hb hown hts hl kk => lv_goto hx hb hd ht kk) k
theorem ka_two {p1 p2 : Nat} {st' : List Value} {cd : Prop} (hs : ∀ (p : Program) (l : Launch) (e : Env) (s : State) (m : MethodId) (args : Array Value) (below : List Frame) (meth : Method) (c : Code) (H : Heap) (locs : List Loc) (cells slots : Nat) (Z : State → Prop) (φ : Nat → Nat) (rls : Array Slot),
      p.tables.exec = Jvm.exec → c.code = M.2.1 → (cd → W p l e R s m args below meth c H locs cells slots Z (F0 m p1 rls (st'.map (ka_v φ)))) → (¬ cd → W p l e R s m args below meth c H locs cells slots Z (F0 m p2 rls (st'.map (ka_v φ)))) → W p l e R s m args below meth c H locs cells slots Z (F0 m pc rls (st.map (ka_v φ))))
    (kt : cd → ka_W L xs M R p1 ls st' h N mc ms Q) (kf : ¬ cd → ka_W L xs M R p2 ls st' h N mc ms Q) : ka_W L xs M R pc ls st h N mc ms Q := by
  intro l D τ b A φ0 N0 p e s m args below meth c H locs cells slots φ rls C hP hD hS hw hN hφ hb hl hc hz
  exact hs p l e s m args below meth c H locs cells slots _ φ rls C.1 C.2.1 (fun z => kt z l D τ b A φ0 N0 p e s m args below meth c H locs cells slots φ rls C hP hD hS hw hN hφ hb hl hc hz) (fun z => kf z l D τ b A φ0 N0 p e s m args below meth c H locs cells slots φ rls C hP hD hS hw hN hφ hb hl hc hz)
theorem ka_if_eq {x : Int32} {off : Int} {tgt : Nat} (hd : decode M.2.1 pc = .ok (.ifCond .eq off, 3)) (ht : (pc : Int) + off = (tgt : Int)) (hn : pc + 3 = q) (kt : x = 0 → ka_W L xs M R tgt ls st h N mc ms Q) (kf : ¬ (x = 0) → ka_W L xs M R q ls st h N mc ms Q) : ka_W L xs M R pc ls (.int x :: st) h N mc ms Q := by
  subst hn
  exact ka_two (fun p l e s m args below meth c H locs cells slots Z φ rls hx hb k1 k2 => lv_if_eq hx hb hd ht k1 k2) kt kf
theorem ka_icmp_eq {x y : Int32} {off : Int} {tgt : Nat} (hd : decode M.2.1 pc = .ok (.if_icmp .eq off, 3)) (ht : (pc : Int) + off = (tgt : Int)) (hn : pc + 3 = q) (kt : x = y → ka_W L xs M R tgt ls st h N mc ms Q) (kf : ¬ (x = y) → ka_W L xs M R q ls st h N mc ms Q) : ka_W L xs M R pc ls (.int y :: .int x :: st) h N mc ms Q := by
  subst hn
  exact ka_two (fun p l e s m args below meth c H locs cells slots Z φ rls hx hb k1 k2 => lv_icmp_eq hx hb hd ht k1 k2) kt kf
theorem ka_if_ne {x : Int32} {off : Int} {tgt : Nat} (hd : decode M.2.1 pc = .ok (.ifCond .ne off, 3)) (ht : (pc : Int) + off = (tgt : Int)) (hn : pc + 3 = q) (kt : ¬ x = 0 → ka_W L xs M R tgt ls st h N mc ms Q) (kf : x = 0 → ka_W L xs M R q ls st h N mc ms Q) : ka_W L xs M R pc ls (.int x :: st) h N mc ms Q := by
  subst hn
  exact ka_two (fun p l e s m args below meth c H locs cells slots Z φ rls hx hb k1 k2 => lv_if_ne hx hb hd ht k1 (fun z => k2 (fun y => y z))) kt (fun z => kf (Decidable.not_not.mp z))
theorem ka_icmp_ne {x y : Int32} {off : Int} {tgt : Nat} (hd : decode M.2.1 pc = .ok (.if_icmp .ne off, 3)) (ht : (pc : Int) + off = (tgt : Int)) (hn : pc + 3 = q) (kt : ¬ x = y → ka_W L xs M R tgt ls st h N mc ms Q) (kf : x = y → ka_W L xs M R q ls st h N mc ms Q) : ka_W L xs M R pc ls (.int y :: .int x :: st) h N mc ms Q := by
  subst hn
  exact ka_two (fun p l e s m args below meth c H locs cells slots Z φ rls hx hb k1 k2 => lv_icmp_ne hx hb hd ht k1 (fun z => k2 (fun y => y z))) kt (fun z => kf (Decidable.not_not.mp z))
theorem ka_if_lt {x : Int32} {off : Int} {tgt : Nat} (hd : decode M.2.1 pc = .ok (.ifCond .lt off, 3)) (ht : (pc : Int) + off = (tgt : Int)) (hn : pc + 3 = q) (kt : x < 0 → ka_W L xs M R tgt ls st h N mc ms Q) (kf : ¬ (x < 0) → ka_W L xs M R q ls st h N mc ms Q) : ka_W L xs M R pc ls (.int x :: st) h N mc ms Q := by
  subst hn
  exact ka_two (fun p l e s m args below meth c H locs cells slots Z φ rls hx hb k1 k2 => lv_if_lt hx hb hd ht k1 k2) kt kf
theorem ka_icmp_lt {x y : Int32} {off : Int} {tgt : Nat} (hd : decode M.2.1 pc = .ok (.if_icmp .lt off, 3)) (ht : (pc : Int) + off = (tgt : Int)) (hn : pc + 3 = q) (kt : x < y → ka_W L xs M R tgt ls st h N mc ms Q) (kf : ¬ (x < y) → ka_W L xs M R q ls st h N mc ms Q) : ka_W L xs M R pc ls (.int y :: .int x :: st) h N mc ms Q := by
  subst hn
  exact ka_two (fun p l e s m args below meth c H locs cells slots Z φ rls hx hb k1 k2 => lv_icmp_lt hx hb hd ht k1 k2) kt kf
theorem ka_if_ge {x : Int32} {off : Int} {tgt : Nat} (hd : decode M.2.1 pc = .ok (.ifCond .ge off, 3)) (ht : (pc : Int) + off = (tgt : Int)) (hn : pc + 3 = q) (kt : 0 ≤ x → ka_W L xs M R tgt ls st h N mc ms Q) (kf : ¬ (0 ≤ x) → ka_W L xs M R q ls st h N mc ms Q) : ka_W L xs M R pc ls (.int x :: st) h N mc ms Q := by
  subst hn
  exact ka_two (fun p l e s m args below meth c H locs cells slots Z φ rls hx hb k1 k2 => lv_if_ge hx hb hd ht k1 k2) kt kf
theorem ka_icmp_ge {x y : Int32} {off : Int} {tgt : Nat} (hd : decode M.2.1 pc = .ok (.if_icmp .ge off, 3)) (ht : (pc : Int) + off = (tgt : Int)) (hn : pc + 3 = q) (kt : y ≤ x → ka_W L xs M R tgt ls st h N mc ms Q) (kf : ¬ (y ≤ x) → ka_W L xs M R q ls st h N mc ms Q) : ka_W L xs M R pc ls (.int y :: .int x :: st) h N mc ms Q := by
  subst hn
  exact ka_two (fun p l e s m args below meth c H locs cells slots Z φ rls hx hb k1 k2 => lv_icmp_ge hx hb hd ht k1 k2) kt kf
theorem ka_if_gt {x : Int32} {off : Int} {tgt : Nat} (hd : decode M.2.1 pc = .ok (.ifCond .gt off, 3)) (ht : (pc : Int) + off = (tgt : Int)) (hn : pc + 3 = q) (kt : 0 < x → ka_W L xs M R tgt ls st h N mc ms Q) (kf : ¬ (0 < x) → ka_W L xs M R q ls st h N mc ms Q) : ka_W L xs M R pc ls (.int x :: st) h N mc ms Q := by
  subst hn
  exact ka_two (fun p l e s m args below meth c H locs cells slots Z φ rls hx hb k1 k2 => lv_if_gt hx hb hd ht k1 k2) kt kf
theorem ka_icmp_gt {x y : Int32} {off : Int} {tgt : Nat} (hd : decode M.2.1 pc = .ok (.if_icmp .gt off, 3)) (ht : (pc : Int) + off = (tgt : Int)) (hn : pc + 3 = q) (kt : y < x → ka_W L xs M R tgt ls st h N mc ms Q) (kf : ¬ (y < x) → ka_W L xs M R q ls st h N mc ms Q) : ka_W L xs M R pc ls (.int y :: .int x :: st) h N mc ms Q := by
  subst hn
  exact ka_two (fun p l e s m args below meth c H locs cells slots Z φ rls hx hb k1 k2 => lv_icmp_gt hx hb hd ht k1 k2) kt kf
theorem ka_if_le {x : Int32} {off : Int} {tgt : Nat} (hd : decode M.2.1 pc = .ok (.ifCond .le off, 3)) (ht : (pc : Int) + off = (tgt : Int)) (hn : pc + 3 = q) (kt : x ≤ 0 → ka_W L xs M R tgt ls st h N mc ms Q) (kf : ¬ (x ≤ 0) → ka_W L xs M R q ls st h N mc ms Q) : ka_W L xs M R pc ls (.int x :: st) h N mc ms Q := by
  subst hn
  exact ka_two (fun p l e s m args below meth c H locs cells slots Z φ rls hx hb k1 k2 => lv_if_le hx hb hd ht k1 k2) kt kf
theorem ka_icmp_le {x y : Int32} {off : Int} {tgt : Nat} (hd : decode M.2.1 pc = .ok (.if_icmp .le off, 3)) (ht : (pc : Int) + off = (tgt : Int)) (hn : pc + 3 = q) (kt : x ≤ y → ka_W L xs M R tgt ls st h N mc ms Q) (kf : ¬ (x ≤ y) → ka_W L xs M R q ls st h N mc ms Q) : ka_W L xs M R pc ls (.int y :: .int x :: st) h N mc ms Q := by
  subst hn
  exact ka_two (fun p l e s m args below meth c H locs cells slots Z φ rls hx hb k1 k2 => lv_icmp_le hx hb hd ht k1 k2) kt kf
theorem ka_tabIn {dflt lo hi : Int} {offs : Array Int} {len : Nat} {x : Int32} {off : Int} (hd : decode M.2.1 pc = .ok (.tableswitch dflt lo hi offs, len)) (h1 : ¬ x.toInt < lo) (h2 : ¬ hi < x.toInt) (ho : offs[(x.toInt - lo).toNat]? = some off) (ht : (pc : Int) + off = (q : Int)) (k : ka_W L xs M R q ls st h N mc ms Q) : ka_W L xs M R pc ls (.int x :: st) h N mc ms Q :=
  ka_pure (fun p l e s m args below meth c H locs cells slots Z φ rls hx hb hown hts hl kk => lv_tableIn hx hb hd h1 h2 ho ht kk) k
theorem ka_tabOut {dflt lo hi : Int} {offs : Array Int} {len : Nat} {x : Int32} (hd : decode M.2.1 pc = .ok (.tableswitch dflt lo hi offs, len)) (hx0 : x.toInt < lo ∨ hi < x.toInt) (ht : (pc : Int) + dflt = (q : Int)) (k : ka_W L xs M R q ls st h N mc ms Q) : ka_W L xs M R pc ls (.int x :: st) h N mc ms Q :=
  ka_pure (fun p l e s m args below meth c H locs cells slots Z φ rls hx hb hown hts hl kk => lv_tableOut hx hb hd hx0 ht kk) k
theorem ka_loc1 (φ : Nat → Nat) (ls : List (Nat × Value)) (i : Nat) : (ka_loc φ ls).filter (fun q => !(q.1 == i) && !(q.1 + 1 == i && q.2.category == 2)) = ka_loc φ (ls.filter (fun q => !(q.1 == i) && !(q.1 + 1 == i && q.2.category == 2))) := by
  simp only [ka_loc, List.filter_map]
  congr 1
  apply List.filter_congr
  intro a _
  simp [ka_v_cat]
theorem ka_loc2 (φ : Nat → Nat) (ls : List (Nat × Value)) (i : Nat) : (ka_loc φ ls).filter (fun q => !(q.1 == i) && (!(q.1 == i + 1) && !(q.1 + 1 == i && q.2.category == 2))) = ka_loc φ (ls.filter (fun q => !(q.1 == i) && (!(q.1 == i + 1) && !(q.1 + 1 == i && q.2.category == 2)))) := by
  simp only [ka_loc, List.filter_map]
  congr 1
  apply List.filter_congr
  intro a _
  simp [ka_v_cat]
theorem ka_istore_n {j : Fin 4} {i : Nat} {x : Int32} {ls' : List (Nat × Value)} (hd : decode M.2.1 pc = .ok (.istore_n j, 1)) (hn : pc + 1 = q) (hi : (j : Nat) = i) (hL : i < M.2.2.1) (he : (i, Value.int x) :: ls.filter (fun q => !(q.1 == i) && !(q.1 + 1 == i && q.2.category == 2)) = ls') (k : ka_W L xs M R q (ls') st h N mc ms Q) : ka_W L xs M R pc ls (.int x :: st) h N mc ms Q := by
  subst hn; subst he
  intro l D τ b A φ0 N0 p e s m args below meth c H locs cells slots φ rls C hP hD hS hw hN hφ hb hl hc hz
  exact lv_istore_n (lv' := ka_loc φ ((i, Value.int x) :: ls.filter (fun q => !(q.1 == i) && !(q.1 + 1 == i && q.2.category == 2)))) C.1 C.2.1 hd hi hl hL (by rw [ka_loc1]; rfl) (fun rls2 hl2 => k l D τ b A φ0 N0 p e s m args below meth c H locs cells slots φ rls2 C hP hD hS hw hN hφ hb hl2 hc hz)
theorem ka_istore {i : Nat} {x : Int32} {ls' : List (Nat × Value)} (hd : decode M.2.1 pc = .ok (.istore i, 2)) (hn : pc + 2 = q) (hL : i < M.2.2.1) (he : (i, Value.int x) :: ls.filter (fun q => !(q.1 == i) && !(q.1 + 1 == i && q.2.category == 2)) = ls') (k : ka_W L xs M R q (ls') st h N mc ms Q) : ka_W L xs M R pc ls (.int x :: st) h N mc ms Q := by
  subst hn; subst he
  intro l D τ b A φ0 N0 p e s m args below meth c H locs cells slots φ rls C hP hD hS hw hN hφ hb hl hc hz
  exact lv_istore (lv' := ka_loc φ ((i, Value.int x) :: ls.filter (fun q => !(q.1 == i) && !(q.1 + 1 == i && q.2.category == 2)))) C.1 C.2.1 hd hl hL (by rw [ka_loc1]; rfl) (fun rls2 hl2 => k l D τ b A φ0 N0 p e s m args below meth c H locs cells slots φ rls2 C hP hD hS hw hN hφ hb hl2 hc hz)
theorem ka_lstore_n {j : Fin 4} {i : Nat} {x : Int64} {ls' : List (Nat × Value)} (hd : decode M.2.1 pc = .ok (.lstore_n j, 1)) (hn : pc + 1 = q) (hi : (j : Nat) = i) (hL : i + 1 < M.2.2.1) (he : (i, Value.long x) :: ls.filter (fun q => !(q.1 == i) && (!(q.1 == i + 1) && !(q.1 + 1 == i && q.2.category == 2))) = ls') (k : ka_W L xs M R q (ls') st h N mc ms Q) : ka_W L xs M R pc ls (.long x :: st) h N mc ms Q := by
  subst hn; subst he
  intro l D τ b A φ0 N0 p e s m args below meth c H locs cells slots φ rls C hP hD hS hw hN hφ hb hl hc hz
  exact lv_lstore_n (lv' := ka_loc φ ((i, Value.long x) :: ls.filter (fun q => !(q.1 == i) && (!(q.1 == i + 1) && !(q.1 + 1 == i && q.2.category == 2))))) C.1 C.2.1 hd hi hl hL (by rw [ka_loc2]; rfl) (fun rls2 hl2 => k l D τ b A φ0 N0 p e s m args below meth c H locs cells slots φ rls2 C hP hD hS hw hN hφ hb hl2 hc hz)
theorem ka_lstore {i : Nat} {x : Int64} {ls' : List (Nat × Value)} (hd : decode M.2.1 pc = .ok (.lstore i, 2)) (hn : pc + 2 = q) (hL : i + 1 < M.2.2.1) (he : (i, Value.long x) :: ls.filter (fun q => !(q.1 == i) && (!(q.1 == i + 1) && !(q.1 + 1 == i && q.2.category == 2))) = ls') (k : ka_W L xs M R q (ls') st h N mc ms Q) : ka_W L xs M R pc ls (.long x :: st) h N mc ms Q := by
  subst hn; subst he
  intro l D τ b A φ0 N0 p e s m args below meth c H locs cells slots φ rls C hP hD hS hw hN hφ hb hl hc hz
  exact lv_lstore (lv' := ka_loc φ ((i, Value.long x) :: ls.filter (fun q => !(q.1 == i) && (!(q.1 == i + 1) && !(q.1 + 1 == i && q.2.category == 2))))) C.1 C.2.1 hd hl hL (by rw [ka_loc2]; rfl) (fun rls2 hl2 => k l D τ b A φ0 N0 p e s m args below meth c H locs cells slots φ rls2 C hP hD hS hw hN hφ hb hl2 hc hz)
theorem ka_astore_n {j : Fin 4} {i : Nat} {x : Nat} {ls' : List (Nat × Value)} (hd : decode M.2.1 pc = .ok (.astore_n j, 1)) (hn : pc + 1 = q) (hi : (j : Nat) = i) (hL : i < M.2.2.1) (he : (i, Value.ref x) :: ls.filter (fun q => !(q.1 == i) && !(q.1 + 1 == i && q.2.category == 2)) = ls') (k : ka_W L xs M R q (ls') st h N mc ms Q) : ka_W L xs M R pc ls (.ref x :: st) h N mc ms Q := by
  subst hn; subst he
  intro l D τ b A φ0 N0 p e s m args below meth c H locs cells slots φ rls C hP hD hS hw hN hφ hb hl hc hz
  exact lv_astore_n (lv' := ka_loc φ ((i, Value.ref x) :: ls.filter (fun q => !(q.1 == i) && !(q.1 + 1 == i && q.2.category == 2)))) C.1 C.2.1 hd hi hl hL (by rw [ka_loc1]; rfl) (fun rls2 hl2 => k l D τ b A φ0 N0 p e s m args below meth c H locs cells slots φ rls2 C hP hD hS hw hN hφ hb hl2 hc hz)
theorem ka_astore {i : Nat} {x : Nat} {ls' : List (Nat × Value)} (hd : decode M.2.1 pc = .ok (.astore i, 2)) (hn : pc + 2 = q) (hL : i < M.2.2.1) (he : (i, Value.ref x) :: ls.filter (fun q => !(q.1 == i) && !(q.1 + 1 == i && q.2.category == 2)) = ls') (k : ka_W L xs M R q (ls') st h N mc ms Q) : ka_W L xs M R pc ls (.ref x :: st) h N mc ms Q := by
  subst hn; subst he
  intro l D τ b A φ0 N0 p e s m args below meth c H locs cells slots φ rls C hP hD hS hw hN hφ hb hl hc hz
  exact lv_astore (lv' := ka_loc φ ((i, Value.ref x) :: ls.filter (fun q => !(q.1 == i) && !(q.1 + 1 == i && q.2.category == 2)))) C.1 C.2.1 hd hl hL (by rw [ka_loc1]; rfl) (fun rls2 hl2 => k l D τ b A φ0 N0 p e s m args below meth c H locs cells slots φ rls2 C hP hD hS hw hN hφ hb hl2 hc hz)
theorem ka_iinc {i g : Nat} {n : Int} {x v : Int32} {ls' : List (Nat × Value)} (hd : decode M.2.1 pc = .ok (.iinc i n, 3)) (hn : pc + 3 = q) (hg : ls[g]? = some (i, .int x)) (hv : x + Int32.ofInt n = v) (hL : i < M.2.2.1) (he : (i, Value.int v) :: ls.filter (fun q => !(q.1 == i) && !(q.1 + 1 == i && q.2.category == 2)) = ls') (k : ka_W L xs M R q (ls') st h N mc ms Q) : ka_W L xs M R pc ls st h N mc ms Q := by
  subst hn; subst he
  intro l D τ b A φ0 N0 p e s m args below meth c H locs cells slots φ rls C hP hD hS hw hN hφ hb hl hc hz
  exact lv_iinc (k := g) (lv' := ka_loc φ ((i, Value.int v) :: ls.filter (fun q => !(q.1 == i) && !(q.1 + 1 == i && q.2.category == 2)))) C.1 C.2.1 hd hl (by simp [ka_loc, hg, ka_v]) hv hL (by rw [ka_loc1]; rfl) (fun rls2 hl2 => k l D τ b A φ0 N0 p e s m args below meth c H locs cells slots φ rls2 C hP hD hS hw hN hφ hb hl2 hc hz)
theorem ka_sub {ls' : List (Nat × Value)} (ks : List Nat) (he : lv_pick ls ks = ls') (k : ka_W L xs M R pc (ls') st h N mc ms Q) : ka_W L xs M R pc ls st h N mc ms Q := by
  subst he
  intro l D τ b A φ0 N0 p e s m args below meth c H locs cells slots φ rls C hP hD hS hw hN hφ hb hl hc hz
  refine k l D τ b A φ0 N0 p e s m args below meth c H locs cells slots φ rls C hP hD hS hw hN hφ hb (lv_sub hl ks ?_) hc hz
  simp only [lv_pick, ka_loc, List.map_filterMap, List.getElem?_map]
theorem ka_less {mc' ms' : Nat} (h1 : mc' ≤ mc) (h2 : ms' ≤ ms) (k : ka_W L xs M R pc ls st h N mc' ms' Q) : ka_W L xs M R pc ls st h N mc ms Q := by
  intro l D τ b A φ0 N0 p e s m args below meth c H locs cells slots φ rls C hP hD hS hw hN hφ hb hl hc hz
  exact k l D τ b A φ0 N0 p e s m args below meth c H locs cells slots φ rls C hP hD hS hw hN hφ hb hl (by omega) (by omega)
theorem ka_post {Q' : ka_O → ka_H → Nat → Prop} (hq : ∀ o h' N', Q o h' N' → Q' o h' N') (k : ka_W L xs M R pc ls st h N mc ms Q) : ka_W L xs M R pc ls st h N mc ms Q' := by
  intro l D τ b A φ0 N0 p e s m args below meth c H locs cells slots φ rls C hP hD hS hw hN hφ hb hl hc hz T hT X
  obtain ⟨t, a1, o, b1, b2, b3⟩ := k l D τ b A φ0 N0 p e s m args below meth c H locs cells slots φ rls C hP hD hS hw hN hφ hb hl hc hz T hT X
  refine ⟨t, a1, o, b1, b2, ?_⟩
  rcases b3 with ⟨⟨⟨v, h', N', φ', e1, e2, e3⟩, e4⟩, e5⟩ | ⟨z, e1, E, ce, L', ⟨⟨h', N', φ', e2, e3⟩, e4⟩, e5⟩
  · exact Or.inl ⟨⟨⟨v, h', N', φ', e1, hq _ _ _ e2, e3⟩, e4⟩, e5⟩
  · exact Or.inr ⟨z, e1, E, ce, L', ⟨⟨h', N', φ', hq _ _ _ e2, e3⟩, e4⟩, e5⟩
end KR
end
section
section KH
variable {L : Nat} {xs : Nat → Int32} {M : ka_Md} {R : Room} {pc q : Nat} {ls : List (Nat × Value)} {st : List Value} {h : ka_H} {N mc ms : Nat} {Q : ka_O → ka_H → Nat → Prop}
theorem ka_get {idx o ci k : Nat} {fs : List Value} {v : Value} {C : String} {T : u_T} {Nf : Nat} (hd : decode M.2.1 pc = .ok (.getfield idx, 3)) (hn : pc + 3 = q) (ho : o < N) (he : h o = .inr (ci, fs)) (hc : vwCl[ci]? = some (C, T, Nf)) (hin : ∀ w ∈ u_ws C T Nf, w ∈ ka_T) (hk : k < Nf)
    (hlink : Cond.fieldLink M.1.cls idx (T k).1 (T k).2.1 (T k).2.2.1 ∈ ka_T) (hv : fs[k]? = some v) (kk : ka_W L xs M R q ls (v :: st) h N mc ms Q) : ka_W L xs M R pc ls (.ref o :: st) h N mc ms Q := by
  subst hn
  intro l D τ b A φ0 N0 p e s m args below meth c H locs cells slots φ rls C0 hP hD hS hw hN hφ hb hl hmc hms
  obtain ⟨hx, hcb, hml, hr, hlk, hnm, htb, hown, hts, htr, hU⟩ := id C0
  exact va_get hx hcb hts hin hown hU.1 hP o (by rw [ka_w_at ho, he]; rfl) hc k hk (hts _ hlink) (fun x hx => hx) (v := ka_v φ v) (by simp [hv]) hd (kk l D τ b A φ0 N0 p e s m args below meth c H locs cells slots φ rls C0 hP hD hS hw hN hφ hb hl hmc hms)
theorem ka_wf_fs {o ci k : Nat} {fs : List Value} {v : Value} (hw : ka_wf h N) (ho : o < N) (he : h o = .inr (ci, fs)) (hr : ∀ j, v = .ref j → j < N) : ka_wf (ka_set h o (.inr (ci, fs.set k v))) N := by
  refine ka_wf_set hw (fun ci' fs' e j hj => ?_)
  cases e
  rcases List.mem_or_eq_of_mem_set hj with h1 | h1
  · exact hw o ho ci fs he j h1
  · exact hr j h1.symm
theorem ka_put {idx o ci k : Nat} {fs : List Value} {v : Value} {C : String} {T : u_T} {Nf : Nat} {ty0 : Nat → FieldType} {ty : FieldType} (hd : decode M.2.1 pc = .ok (.putfield idx, 3)) (hn : pc + 3 = q) (ho : o < N) (he : h o = .inr (ci, fs)) (hc : vwCl[ci]? = some (C, T, Nf)) (hin : ∀ w ∈ u_ws C T Nf, w ∈ ka_T)
    (hty : ∀ k, k < Nf → parseFieldDescriptor (T k).2.2.1 = some (ty0 k)) (hnm : ∀ a, a < Nf → ∀ b, b < Nf → a ≠ b → (T a).2.1 ≠ (T b).2.1) (hk : k < Nf) (hlink : Cond.fieldLink M.1.cls idx (T k).1 (T k).2.1 (T k).2.2.1 ∈ ka_T) (hfin : (T k).2.2.2 = false)
    (hp : parseFieldDescriptor (T k).2.2.1 = some ty) (hnar : ∀ φ, narrow ty (ka_v φ v) = ka_v φ v) (hfit : ∀ φ, fits ty (ka_v φ v) = true) (hrf : ∀ j, v = .ref j → j < N) (hlen : k < fs.length)
    (kk : ka_W L xs M R q ls st (ka_set h o (.inr (ci, fs.set k v))) N mc ms Q) : ka_W L xs M R pc ls (v :: .ref o :: st) h N mc ms Q := by
  subst hn
  intro l D τ b A φ0 N0 p e s m args below meth c H locs cells slots φ rls C0 hP hD hS hw hN hφ hb hl hmc hms
  obtain ⟨hx, hcb, hml, hr, hlk, hnm2, htb, hown, hts, htr, hU⟩ := id C0
  have e1 : (ka_w φ τ h N).set o (φ o, .inr (ci, (fs.map (ka_v φ)).set k (ka_v φ v))) = ka_w φ τ (ka_set h o (.inr (ci, fs.set k v))) N := by
    rw [← ka_w_set ho]
    simp only [ka_e, List.map_set]
  refine va_put hx hcb hts hin ty0 hty hnm hown hU.1 hP hD hS o (by rw [ka_w_at ho, he]; rfl) hc k hk (hts _ hlink) (fun x hx => hx) hfin hp (hnar φ) (hfit φ) (by simpa using hlen) hd (fun H1 locs1 hP1 hD1 hS1 => ?_)
  rw [e1] at hP1 hD1
  exact kk l D τ b A φ0 N0 p e s m args below meth c H1 locs1 cells slots φ rls C0 hP1 hD1 hS1 (ka_wf_fs hw ho he hrf) hN hφ hb hl hmc hms
theorem ka_putF {idx o ci k : Nat} {fs : List Value} {v : Value} {C : String} {T : u_T} {Nf : Nat} {ty0 : Nat → FieldType} {ty : FieldType} (hd : decode M.2.1 pc = .ok (.putfield idx, 3)) (hn : pc + 3 = q) (ho : o < N) (he : h o = .inr (ci, fs)) (hc : vwCl[ci]? = some (C, T, Nf)) (hin : ∀ w ∈ u_ws C T Nf, w ∈ ka_T)
    (hty : ∀ k, k < Nf → parseFieldDescriptor (T k).2.2.1 = some (ty0 k)) (hnm : ∀ a, a < Nf → ∀ b, b < Nf → a ≠ b → (T a).2.1 ≠ (T b).2.1) (hk : k < Nf) (hlink : Cond.fieldLink M.1.cls idx (T k).1 (T k).2.1 (T k).2.2.1 ∈ ka_T) (hfin : (T k).2.2.2 = true) (hini : M.1.name = "<init>") (hdecl : (T k).1 = M.1.cls)
    (hp : parseFieldDescriptor (T k).2.2.1 = some ty) (hnar : ∀ φ, narrow ty (ka_v φ v) = ka_v φ v) (hfit : ∀ φ, fits ty (ka_v φ v) = true) (hrf : ∀ j, v = .ref j → j < N) (hlen : k < fs.length)
    (kk : ka_W L xs M R q ls st (ka_set h o (.inr (ci, fs.set k v))) N mc ms Q) : ka_W L xs M R pc ls (v :: .ref o :: st) h N mc ms Q := by
  subst hn
  intro l D τ b A φ0 N0 p e s m args below meth c H locs cells slots φ rls C0 hP hD hS hw hN hφ hb hl hmc hms
  obtain ⟨hx, hcb, hml, hr, hlk, hnm2, htb, hown, hts, htr, hU⟩ := id C0
  have e1 : (ka_w φ τ h N).set o (φ o, .inr (ci, (fs.map (ka_v φ)).set k (ka_v φ v))) = ka_w φ τ (ka_set h o (.inr (ci, fs.set k v))) N := by
    rw [← ka_w_set ho]
    simp only [ka_e, List.map_set]
  refine va_putF hx hcb hts hin ty0 hty hnm hown hU.1 hP hD hS o (by rw [ka_w_at ho, he]; rfl) hc k hk (hts _ hlink) (fun x hx => hx) hfin (hnm2.trans hini) hdecl hp (hnar φ) (hfit φ) (by simpa using hlen) hd (fun H1 locs1 hP1 hD1 hS1 => ?_)
  rw [e1] at hP1 hD1
  exact kk l D τ b A φ0 N0 p e s m args below meth c H1 locs1 cells slots φ rls C0 hP1 hD1 hS1 (ka_wf_fs hw ho he hrf) hN hφ hb hl hmc hms
theorem ka_iald {o n : Nat} {f : Nat → Int32} {i : Int32} (hd : decode M.2.1 pc = .ok (.iaload, 1)) (hn : pc + 1 = q) (ho : o < N) (he : h o = .inl (0, n, .inl f)) (hi : vp_in i n) (kk : ka_W L xs M R q ls (.int (f i.toNatClampNeg) :: st) h N mc ms Q) : ka_W L xs M R pc ls (.int i :: .ref o :: st) h N mc ms Q := by
  subst hn
  intro l D τ b A φ0 N0 p e s m args below meth c H locs cells slots φ rls C0 hP hD hS hw hN hφ hb hl hmc hms
  obtain ⟨hx, hcb, hml, hr, hlk, hnm, htb, hown, hts, htr, hU⟩ := id C0
  exact va_iald hx hcb hU.1 hP o 0 (by rw [ka_w_at ho, he]; rfl) rfl hi hd (kk l D τ b A φ0 N0 p e s m args below meth c H locs cells slots φ rls C0 hP hD hS hw hN hφ hb hl hmc hms)
theorem ka_bald {o n : Nat} {f : Nat → Int32} {i : Int32} (hd : decode M.2.1 pc = .ok (.baload, 1)) (hn : pc + 1 = q) (ho : o < N) (he : h o = .inl (2, n, .inl f)) (hi : vp_in i n) (kk : ka_W L xs M R q ls (.int (f i.toNatClampNeg) :: st) h N mc ms Q) : ka_W L xs M R pc ls (.int i :: .ref o :: st) h N mc ms Q := by
  subst hn
  intro l D τ b A φ0 N0 p e s m args below meth c H locs cells slots φ rls C0 hP hD hS hw hN hφ hb hl hmc hms
  obtain ⟨hx, hcb, hml, hr, hlk, hnm, htb, hown, hts, htr, hU⟩ := id C0
  exact va_bald hx hcb hU.1 hP o 2 (by rw [ka_w_at ho, he]; rfl) rfl hi hd (kk l D τ b A φ0 N0 p e s m args below meth c H locs cells slots φ rls C0 hP hD hS hw hN hφ hb hl hmc hms)
theorem ka_lald {o n : Nat} {f : Nat → Int64} {i : Int32} (hd : decode M.2.1 pc = .ok (.laload, 1)) (hn : pc + 1 = q) (ho : o < N) (he : h o = .inl (1, n, .inr (.inl f))) (hi : vp_in i n) (kk : ka_W L xs M R q ls (.long (f i.toNatClampNeg) :: st) h N mc ms Q) : ka_W L xs M R pc ls (.int i :: .ref o :: st) h N mc ms Q := by
  subst hn
  intro l D τ b A φ0 N0 p e s m args below meth c H locs cells slots φ rls C0 hP hD hS hw hN hφ hb hl hmc hms
  obtain ⟨hx, hcb, hml, hr, hlk, hnm, htb, hown, hts, htr, hU⟩ := id C0
  exact va_lald hx hcb hU.1 hP o 1 (by rw [ka_w_at ho, he]; rfl) rfl hi hd (kk l D τ b A φ0 N0 p e s m args below meth c H locs cells slots φ rls C0 hP hD hS hw hN hφ hb hl hmc hms)
theorem ka_wf_arr {o k : Nat} {x : vp_A} (hw : ka_wf h N) : ka_wf (ka_set h o (.inl (k, x))) N := ka_wf_set hw (fun ci fs e => by cases e)
theorem ka_iast {o n : Nat} {f : Nat → Int32} {i x : Int32} (hd : decode M.2.1 pc = .ok (.iastore, 1)) (hn : pc + 1 = q) (ho : o < N) (he : h o = .inl (0, n, .inl f)) (hi : vp_in i n) (kk : ka_W L xs M R q ls st (ka_set h o (.inl (0, n, .inl (upd f i.toNatClampNeg x)))) N mc ms Q) : ka_W L xs M R pc ls (.int x :: .int i :: .ref o :: st) h N mc ms Q := by
  subst hn
  intro l D τ b A φ0 N0 p e s m args below meth c H locs cells slots φ rls C0 hP hD hS hw hN hφ hb hl hmc hms
  obtain ⟨hx, hcb, hml, hr, hlk, hnm, htb, hown, hts, htr, hU⟩ := id C0
  refine va_iast hx hcb hU.1 hP hD hS o 0 (by rw [ka_w_at ho, he]; rfl) rfl hi hd (fun H1 locs1 hP1 hD1 hS1 => ?_)
  have e1 : (ka_w φ τ h N).set o (φ o, .inl (τ 0, n, .inl (upd f i.toNatClampNeg x))) = ka_w φ τ (ka_set h o (.inl (0, n, .inl (upd f i.toNatClampNeg x)))) N := by rw [← ka_w_set ho]; rfl
  rw [e1] at hP1 hD1
  exact kk l D τ b A φ0 N0 p e s m args below meth c H1 locs1 cells slots φ rls C0 hP1 hD1 hS1 (ka_wf_arr hw) hN hφ hb hl hmc hms
theorem ka_bast {o n : Nat} {f : Nat → Int32} {i x : Int32} (hd : decode M.2.1 pc = .ok (.bastore, 1)) (hn : pc + 1 = q) (ho : o < N) (he : h o = .inl (2, n, .inl f)) (hi : vp_in i n) (kk : ka_W L xs M R q ls st (ka_set h o (.inl (2, n, .inl (upd f i.toNatClampNeg (vp_nar .byte x))))) N mc ms Q) : ka_W L xs M R pc ls (.int x :: .int i :: .ref o :: st) h N mc ms Q := by
  subst hn
  intro l D τ b A φ0 N0 p e s m args below meth c H locs cells slots φ rls C0 hP hD hS hw hN hφ hb hl hmc hms
  obtain ⟨hx, hcb, hml, hr, hlk, hnm, htb, hown, hts, htr, hU⟩ := id C0
  refine va_bast hx hcb hU.1 hP hD hS o 2 (by rw [ka_w_at ho, he]; rfl) rfl hi hd (fun H1 locs1 hP1 hD1 hS1 => ?_)
  have e1 : (ka_w φ τ h N).set o (φ o, .inl (τ 2, n, .inl (upd f i.toNatClampNeg (vp_nar .byte x)))) = ka_w φ τ (ka_set h o (.inl (2, n, .inl (upd f i.toNatClampNeg (vp_nar .byte x))))) N := by rw [← ka_w_set ho]; rfl
  rw [e1] at hP1 hD1
  exact kk l D τ b A φ0 N0 p e s m args below meth c H1 locs1 cells slots φ rls C0 hP1 hD1 hS1 (ka_wf_arr hw) hN hφ hb hl hmc hms
theorem ka_last {o n : Nat} {f : Nat → Int64} {i : Int32} {x : Int64} (hd : decode M.2.1 pc = .ok (.lastore, 1)) (hn : pc + 1 = q) (ho : o < N) (he : h o = .inl (1, n, .inr (.inl f))) (hi : vp_in i n) (kk : ka_W L xs M R q ls st (ka_set h o (.inl (1, n, .inr (.inl (vp_updL f i.toNatClampNeg x))))) N mc ms Q) : ka_W L xs M R pc ls (.long x :: .int i :: .ref o :: st) h N mc ms Q := by
  subst hn
  intro l D τ b A φ0 N0 p e s m args below meth c H locs cells slots φ rls C0 hP hD hS hw hN hφ hb hl hmc hms
  obtain ⟨hx, hcb, hml, hr, hlk, hnm, htb, hown, hts, htr, hU⟩ := id C0
  refine va_last hx hcb hU.1 hP hD hS o 1 (by rw [ka_w_at ho, he]; rfl) rfl hi hd (fun H1 locs1 hP1 hD1 hS1 => ?_)
  have e1 : (ka_w φ τ h N).set o (φ o, .inl (τ 1, n, .inr (.inl (vp_updL f i.toNatClampNeg x)))) = ka_w φ τ (ka_set h o (.inl (1, n, .inr (.inl (vp_updL f i.toNatClampNeg x))))) N := by rw [← ka_w_set ho]; rfl
  rw [e1] at hP1 hD1
  exact kk l D τ b A φ0 N0 p e s m args below meth c H1 locs1 cells slots φ rls C0 hP1 hD1 hS1 (ka_wf_arr hw) hN hφ hb hl hmc hms
theorem ka_alen {o t n : Nat} {x : (Nat → Int32) ⊕ (Nat → Int64) ⊕ (Nat → UInt32) ⊕ (Nat → UInt64) ⊕ (Nat → Option Nat)} (hd : decode M.2.1 pc = .ok (.arraylength, 1)) (hn : pc + 1 = q) (ho : o < N) (he : h o = .inl (t, n, x)) (ht : t < 3) (kk : ka_W L xs M R q ls (.int (nI n) :: st) h N mc ms Q) : ka_W L xs M R pc ls (.ref o :: st) h N mc ms Q := by
  subst hn
  intro l D τ b A φ0 N0 p e s m args below meth c H locs cells slots φ rls C0 hP hD hS hw hN hφ hb hl hmc hms
  obtain ⟨hx, hcb, hml, hr, hlk, hnm, htb, hown, hts, htr, hU⟩ := id C0
  have K := kk l D τ b A φ0 N0 p e s m args below meth c H locs cells slots φ rls C0 hP hD hS hw hN hφ hb hl hmc hms
  match t, ht, he with
  | 0, _, he => exact va_alen hx hcb hU.1 hP o 0 (x := (n, x)) (by rw [ka_w_at ho, he]; rfl) rfl rfl hd K
  | 1, _, he => exact va_alen hx hcb hU.1 hP o 1 (x := (n, x)) (by rw [ka_w_at ho, he]; rfl) rfl rfl hd K
  | 2, _, he => exact va_alen hx hcb hU.1 hP o 2 (x := (n, x)) (by rw [ka_w_at ho, he]; rfl) rfl rfl hd K
theorem ka_sld {i : Int32} (hd : decode M.2.1 pc = .ok (.iaload, 1)) (hn : pc + 1 = q) (hi : vp_in i L) (kk : ka_W L xs M R q ls (.int (xs i.toNatClampNeg) :: st) h N mc ms Q) : ka_W L xs M R pc ls (.int i :: .ref ka_S :: st) h N mc ms Q := by
  subst hn
  intro l D τ b A φ0 N0 p e s m args below meth c H locs cells slots φ rls C0 hP hD hS hw hN hφ hb hl hmc hms
  obtain ⟨hx, hcb, hml, hr, hlk, hnm, htb, hown, hts, htr, hU⟩ := id C0
  have K := kk l D τ b A φ0 N0 p e s m args below meth c H locs cells slots φ rls C0 hP hD hS hw hN hφ hb hl hmc hms
  show W p l e R s m args below meth c H locs cells slots _ (F0 m pc rls (.int i :: .ref (φ ka_S) :: st.map (ka_v φ)))
  rw [hb]
  exact va_sld hx hcb hU.2.2.1 hU.2.2.2.1 hU.2.2.2.2.1 hS hi hd K
theorem ka_slen (hd : decode M.2.1 pc = .ok (.arraylength, 1)) (hn : pc + 1 = q) (kk : ka_W L xs M R q ls (.int (nI L) :: st) h N mc ms Q) : ka_W L xs M R pc ls (.ref ka_S :: st) h N mc ms Q := by
  subst hn
  intro l D τ b A φ0 N0 p e s m args below meth c H locs cells slots φ rls C0 hP hD hS hw hN hφ hb hl hmc hms
  obtain ⟨hx, hcb, hml, hr, hlk, hnm, htb, hown, hts, htr, hU⟩ := id C0
  have K := kk l D τ b A φ0 N0 p e s m args below meth c H locs cells slots φ rls C0 hP hD hS hw hN hφ hb hl hmc hms
  show W p l e R s m args below meth c H locs cells slots _ (F0 m pc rls (.ref (φ ka_S) :: st.map (ka_v φ)))
  rw [hb]
  exact va_slen hx hcb hU.2.2.1 hU.2.2.2.1 hU.2.2.2.2.1 hS hd K
/-- a row of longs into another -/
theorem ka_copyl {idx o0 o1 n0 n1 : Nat} {f g : Nat → Int64} {sp dp n : Int32} (hd : decode M.2.1 pc = .ok (.invokestatic idx, 3)) (hn : pc + 3 = q) (hlink : Cond.methodLink M.1.cls idx arraycopyName ∈ ka_T) (hnat : Cond.native arraycopyName ∈ ka_T) (hstat : Cond.static arraycopyName ∈ ka_T) (hini : Cond.initialized "java/lang/System" ∈ ka_T)
    (ho0 : o0 < N) (he0 : h o0 = .inl (1, n0, .inr (.inl f))) (ho1 : o1 < N) (he1 : h o1 = .inl (1, n1, .inr (.inl g))) (h1 : ¬ sp < 0) (h2 : ¬ dp < 0) (h3 : ¬ n < 0) (h4 : sp.toNatClampNeg + n.toNatClampNeg ≤ n0) (h5 : dp.toNatClampNeg + n.toNatClampNeg ≤ n1)
    (hframes : 1 ≤ R.frames) (hlocals : (st.map fun v => v.category).sum + (nativeFrameWords "java/lang/System" "arraycopy" 5 + 11) ≤ R.locals)
    (kk : ka_W L xs M R q ls st (ka_set h o1 (.inl (1, n1, .inr (.inl (va_cpy f g sp.toNatClampNeg dp.toNatClampNeg n.toNatClampNeg))))) N mc ms Q) : ka_W L xs M R pc ls (.int n :: .int dp :: .ref o1 :: .int sp :: .ref o0 :: st) h N mc ms Q := by
  subst hn
  intro l D τ b A φ0 N0 p e s m args below meth c H locs cells slots φ rls C0 hP hD hS hw hN hφ hb hl hmc hms
  obtain ⟨hx, hcb, hml, hr, hlk, hnm, htb, hown, hts, htr, hU⟩ := id C0
  refine va_copyl hx hcb (hml.trans hl.1.symm) hown (hts _ hlink) (hts _ hnat) (hts _ hstat) (hts _ hini) hU.1 hP hD hS o0 o1 1 1 (ty := .long) (by rw [ka_w_at ho0, he0]; rfl) (by rw [ka_w_at ho1, he1]; rfl) rfl rfl rfl h1 h2 h3 h4 h5 (fun _ _ => rfl) hframes (by rw [ka_st_cat]; exact hlocals) hd (fun H1 locs1 hP1 hD1 hS1 => ?_)
  have e1 : (ka_w φ τ h N).set o1 (φ o1, .inl (τ 1, n1, .inr (.inl (va_cpy f g sp.toNatClampNeg dp.toNatClampNeg n.toNatClampNeg)))) = ka_w φ τ (ka_set h o1 (.inl (1, n1, .inr (.inl (va_cpy f g sp.toNatClampNeg dp.toNatClampNeg n.toNatClampNeg))))) N := by rw [← ka_w_set ho1]; rfl
  rw [e1] at hP1 hD1
  exact kk l D τ b A φ0 N0 p e s m args below meth c H1 locs1 cells slots φ rls C0 hP1 hD1 hS1 (ka_wf_arr hw) hN hφ hb hl hmc hms
/-- Object's constructor -/
theorem ka_obj {idx o : Nat} (hd : decode M.2.1 pc = .ok (.invokespecial idx, 3)) (hn : pc + 3 = q) (hlink : Cond.methodLink M.1.cls idx objectInit ∈ ka_T) (hinst : Cond.instanceMethod objectInit ∈ ka_T) (hcode : Cond.code objectInit ⟨#[0xb1]⟩ 1 none ∈ ka_T) (hframes : 1 ≤ R.frames) (hlocals : (st.map fun v => v.category).sum + 12 ≤ R.locals)
    (kk : ka_W L xs M R q ls st h N mc ms Q) : ka_W L xs M R pc ls (.ref o :: st) h N mc ms Q := by
  subst hn
  intro l D τ b A φ0 N0 p e s m args below meth c H locs cells slots φ rls C0 hP hD hS hw hN hφ hb hl hmc hms
  obtain ⟨hx, hcb, hml, hr, hlk, hnm, htb, hown, hts, htr, hU⟩ := id C0
  refine W.objInit hx hcb hown (hts _ hlink) (hts _ hinst) (hts _ hcode) rfl (hl.1.trans hml.symm) (rest := st.map (ka_v φ)) rfl hd hframes ?_ (kk l D τ b A φ0 N0 p e s m args below meth c H locs cells slots φ rls C0 hP hD hS hw hN hφ hb hl hmc hms)
  rw [ka_st_cat]
  have h0 : (F0 m pc rls (List.map (ka_v φ) (Value.ref o :: st))).monitorRoom = 0 := rfl
  rw [h0]
  omega
end KH
end
section
section KC
variable {L : Nat} {xs : Nat → Int32} {M : ka_Md} {R : Room} {pc q : Nat} {ls : List (Nat × Value)} {st : List Value} {h : ka_H} {N mc ms : Nat} {Q : ka_O → ka_H → Nat → Prop}
/-! ends -/
theorem ka_end {D : va_G} {τ : Nat → ClassId} {A : Nat → Prop} {φ0 φ : Nat → Nat} {N0 : Nat} {s t : State} {args : Array Value} {H : Heap} {locs : List Loc} {v : Option Value} (hP : va_P D vwCl (ka_w φ τ h N) H) (hD : va_D A (ka_w φ τ h N)) (hS : va_S A s.heap H locs) (hw : ka_wf h N) (hN : N0 ≤ N) (hφ : ∀ k, k < N0 ∨ N ≤ k → φ k = φ0 k) (hq : Q (.inl v) h N) (ht : t.heap = H) :
    ka_Qc D τ A φ0 N0 Q args s (.returned (v.map (ka_v φ))) t :=
  ⟨⟨v, h, N, φ, rfl, hq, by rw [ht]; exact hP, hD, hw, hN, hφ⟩, hS.F ht⟩
theorem ka_iret {x : Int32} (hd : decode M.2.1 pc = .ok (.ireturn, 1)) {ty : FieldType} (hr : M.2.2.2.1 = some ty) (hnar : narrow ty (.int x) = .int x) (hq : Q (.inl (some (.int x))) h N) : ka_W L xs M R pc ls [.int x] h N mc ms Q := by
  intro l D τ b A φ0 N0 p e s m args below meth c H locs cells slots φ rls C0 hP hD hS hw hN hφ hb hl hmc hms
  obtain ⟨hx, hcb, hml, hr0, hlk, hnm, htb, hown, hts, htr, hU⟩ := id C0
  refine W.widen (k := R.cells) (n := R.slots) (by omega) (by omega) (vx_ret ?_)
  exact W.zret hx hcb (hr0.trans hr) hnar (fun t ht _ => ka_end (v := some (.int x)) hP hD hS hw hN hφ hq ht) (fun z hz => hS.2.2 z hz) hd hlk
theorem ka_lret {x : Int64} (hd : decode M.2.1 pc = .ok (.lreturn, 1)) (hr : M.2.2.2.1 = some .long) (hq : Q (.inl (some (.long x))) h N) : ka_W L xs M R pc ls [.long x] h N mc ms Q := by
  intro l D τ b A φ0 N0 p e s m args below meth c H locs cells slots φ rls C0 hP hD hS hw hN hφ hb hl hmc hms
  obtain ⟨hx, hcb, hml, hr0, hlk, hnm, htb, hown, hts, htr, hU⟩ := id C0
  refine W.widen (k := R.cells) (n := R.slots) (by omega) (by omega) (vx_ret ?_)
  exact W.lret hx hcb (hr0.trans hr) (fun t ht _ => ka_end (v := some (.long x)) hP hD hS hw hN hφ hq ht) (fun z hz => hS.2.2 z hz) hd hlk
theorem ka_vret (hd : decode M.2.1 pc = .ok (.return_, 1)) (hr : M.2.2.2.1 = none) (hq : Q (.inl none) h N) : ka_W L xs M R pc ls [] h N mc ms Q := by
  intro l D τ b A φ0 N0 p e s m args below meth c H locs cells slots φ rls C0 hP hD hS hw hN hφ hb hl hmc hms
  obtain ⟨hx, hcb, hml, hr0, hlk, hnm, htb, hown, hts, htr, hU⟩ := id C0
  refine W.widen (k := R.cells) (n := R.slots) (by omega) (by omega) (vx_ret ?_)
  exact W.vret hx hcb (hr0.trans hr) (fun t ht _ => ka_end (v := none) hP hD hS hw hN hφ hq ht) (fun z hz => hS.2.2 z hz) hd hlk
/-! things that are made -/
def ka_okv (N : Nat) (v : Value) : Bool := match v with
  | .ref j => decide (j < N) || decide (j = ka_S)
  | _ => true
theorem ka_okv_ref {N j : Nat} (h : ka_okv N (.ref j) = true) : j < N ∨ j = ka_S := by simpa [ka_okv] using h
theorem ka_new {idx ci Nf : Nat} {fs : List Value} {C : String} {T : u_T} {ty : Nat → FieldType} (hd : decode M.2.1 pc = .ok (.new idx, 3)) (hn : pc + 3 = q) (hin : ∀ w ∈ u_ws C T Nf, w ∈ ka_T) (hty : ∀ k, k < Nf → parseFieldDescriptor (T k).2.2.1 = some (ty k)) (hc : vwCl[ci]? = some (C, T, Nf))
    (hcl : Cond.classLink M.1.cls idx C ∈ ka_T) (hinst : Cond.instantiable C Nf ∈ ka_T) (hini : Cond.initialized C ∈ ka_T) (hfs : ∀ j, j < Nf → defaultValue (ty j) = vp_V fs j) (hnr : fs.all (fun v => match v with | .ref _ => false | _ => true) = true) (hNS : N < ka_S) (hls : ls.all (fun q => ka_okv N q.2) = true) (hst : st.all (ka_okv N) = true)
    (kk : ka_W L xs M R q ls (.ref N :: st) (ka_set h N (.inr (ci, fs))) (N + 1) mc ms Q) : ka_W L xs M R pc ls st h N (mc + 1) (ms + Nf) Q := by
  subst hn
  intro l D τ b A φ0 N0 p e s m args below meth c H locs cells slots φ rls C0 hP hD hS hw hN hφ hb hl hmc hms
  obtain ⟨hx, hcb, hml, hr, hlk, hnm, htb, hown, hts, htr, hU⟩ := id C0
  have hnr' : ∀ j, Value.ref j ∉ fs := fun j hj => by
    have := List.all_eq_true.mp hnr _ hj
    simp at this
  have hmap : ∀ ψ : Nat → Nat, fs.map (ka_v ψ) = fs := fun ψ => by
    have : fs.map (ka_v ψ) = fs.map id := List.map_congr_left (fun v hv => by
      cases v with
      | ref j => exact absurd hv (hnr' j)
      | _ => rfl)
    rw [this, List.map_id]
  refine va_new hx hcb hts hin ty hty hown (hts _ hcl) (hts _ hinst) (hts _ hini) hU.1 hP hD hS hU.2.1 hc (fs := fs) hfs (by omega) (by omega) hd (fun qn H1 hP1 hD1 hS1 => ?_)
  have hpush := ka_w_push (φ := φ) (τ := τ) (q := qn) (e := .inr (ci, fs)) hw (fun ci' fs' e j hj => by cases e; exact absurd hj (hnr' j))
  have e0 : ka_e φ τ (.inr (ci, fs)) = .inr (ci, fs) := by simp only [ka_e, hmap φ]
  rw [e0] at hpush
  rw [hpush] at hP1 hD1
  have hne : ∀ v, ka_okv N v = true → ka_v (fun k => if k = N then qn else φ k) v = ka_v φ v := fun v hv => ka_v_same (fun j e => by
    subst e
    rcases ka_okv_ref hv with h1 | h1
    · exact if_neg (Nat.ne_of_lt h1)
    · exact if_neg (by omega))
  have hst' : st.map (ka_v φ) = st.map (ka_v (fun k => if k = N then qn else φ k)) := List.map_congr_left (fun v hv => (hne v (List.all_eq_true.mp hst v hv)).symm)
  have hl' : lv_has rls M.2.2.1 (ka_loc (fun k => if k = N then qn else φ k) ls) := by
    have : ka_loc (fun k => if k = N then qn else φ k) ls = ka_loc φ ls := List.map_congr_left (fun z hz => by rw [hne z.2 (List.all_eq_true.mp hls z hz)])
    rw [this]; exact hl
  have K := kk l D τ b A φ0 N0 p e s m args below meth c H1 locs (cells + 1) (slots + Nf) (fun k => if k = N then qn else φ k) rls C0 hP1 hD1 hS1 (ka_wf_push hw (fun ci' fs' e j hj => by cases e; exact absurd hj (hnr' j))) (by omega)
    (fun k hk => by
      have hkN : k ≠ N := by omega
      simp only [if_neg hkN]
      exact hφ k (by omega)) (by
      have hkN : ka_S ≠ N := by omega
      simp only [if_neg hkN]
      exact hb) hl' (by omega) (by omega)
  have e2 : List.map (ka_v (fun k => if k = N then qn else φ k)) (.ref N :: st) = .ref qn :: st.map (ka_v φ) := by
    rw [List.map_cons, ← hst']
    simp [ka_v]
  rw [e2] at K
  exact K
/-- an array of numbers; t: 0 int, 1 long, 2 byte -/
def ka_dt (t : Nat) : FieldType := match t with
  | 0 => .int
  | 1 => .long
  | _ => .byte
def ka_da (t n : Nat) : vp_A := match t with
  | 1 => (n, .inr (.inl (fun _ => 0)))
  | _ => (n, .inl (fun _ => 0))
theorem ka_da_cell (t n : Nat) (ht : t < 3) (cA : ClassId) : vp_cell cA (ka_da t n) = arrV cA n (fun _ => defaultValue (ka_dt t)) := by
  match t, ht with
  | 0, _ => rfl
  | 1, _ => rfl
  | 2, _ => rfl
theorem ka_newa {atype : ArrayType} {t n : Nat} {x : Int32} (hd : decode M.2.1 pc = .ok (.newarray atype, 2)) (hn : pc + 2 = q) (ht : t < 3) (hat : newarray.typeOf atype = ka_dt t) (hw0 : Cond.arrayClass (newarray.typeOf atype) ∈ ka_T) (hx0 : ¬ x < 0) (hxn : x.toNatClampNeg = n) (hbytes : n * componentBytes (ka_dt t) ≤ 536870912)
    (hNS : N < ka_S) (hls : ls.all (fun q => ka_okv N q.2) = true) (hst : st.all (ka_okv N) = true)
    (kk : ka_W L xs M R q ls (.ref N :: st) (ka_set h N (.inl (t, ka_da t n))) (N + 1) mc ms Q) : ka_W L xs M R pc ls (.int x :: st) h N (mc + 1) (ms + n) Q := by
  subst hn
  intro l D τ b A φ0 N0 p e s m args below meth c H locs cells slots φ rls C0 hP hD hS hw hN hφ hb hl hmc hms
  obtain ⟨hx, hcb, hml, hr, hlk, hnm, htb, hown, hts, htr, hU⟩ := id C0
  refine va_newaK hx hcb (hts _ hw0) (g := F0 m pc rls (List.map (ka_v φ) (.int x :: st))) rfl hd (rest := st.map (ka_v φ)) rfl hx0 hxn (by rw [hat]; exact hbytes) (by omega) (by omega) rfl (fun H1 cA e1 z1 o1 hAr hNm => ?_)
  have hcA : cA = τ t := by
    rw [hat] at hNm
    obtain ⟨-, -, -, -, -, -, -, -, u1, u2, u3, -, -⟩ := hU
    match t, ht with
    | 0, _ => exact Option.some.inj (hNm.symm.trans u1)
    | 1, _ => exact Option.some.inj (hNm.symm.trans u2)
    | 2, _ => exact Option.some.inj (hNm.symm.trans u3)
  subst hcA
  have hk : ∀ (k : Nat) (x : Nat × va_E), (ka_w φ τ h N)[k]? = some x → H1[x.1]? = H[x.1]? := fun k x hx => o1 x.1 ((hP k x hx).lt)
  have hP1 : va_P D vwCl (ka_w φ τ h N ++ [(H.size, .inl (τ t, ka_da t n))]) H1 := (hP.kept hk).app (fun k x hx => by
    have hz : k < 1 := (List.getElem?_eq_some_iff.mp hx).1
    rw [show k = 0 by omega] at hx
    cases hx
    show H1[H.size]? = some (vp_cell _ _)
    rw [ka_da_cell t n ht, ← hat]
    exact e1)
  have hD1 : va_D A (ka_w φ τ h N ++ [(H.size, .inl (τ t, ka_da t n))]) := hD.push hP rfl (hU.2.1 _ hS.1)
  have hS1 : va_S A s.heap H1 locs := ⟨Nat.le_trans hS.1 (by omega), fun x h1 h2 => (o1 x (Nat.lt_of_lt_of_le h1 hS.1)).trans (hS.2.1 x h1 h2), hS.2.2⟩
  have hpush := ka_w_push (φ := φ) (τ := τ) (q := H.size) (e := .inl (t, ka_da t n)) hw (fun ci' fs' e j hj => by cases e)
  have e0 : ka_e φ τ (.inl (t, ka_da t n)) = .inl (τ t, ka_da t n) := rfl
  rw [e0] at hpush
  rw [hpush] at hP1 hD1
  have hne : ∀ v, ka_okv N v = true → ka_v (fun k => if k = N then H.size else φ k) v = ka_v φ v := fun v hv => ka_v_same (fun j e => by
    subst e
    rcases ka_okv_ref hv with h1 | h1
    · exact if_neg (Nat.ne_of_lt h1)
    · exact if_neg (by omega))
  have hst' : st.map (ka_v φ) = st.map (ka_v (fun k => if k = N then H.size else φ k)) := List.map_congr_left (fun v hv => (hne v (List.all_eq_true.mp hst v hv)).symm)
  have hl' : lv_has rls M.2.2.1 (ka_loc (fun k => if k = N then H.size else φ k) ls) := by
    have : ka_loc (fun k => if k = N then H.size else φ k) ls = ka_loc φ ls := List.map_congr_left (fun z hz => by rw [hne z.2 (List.all_eq_true.mp hls z hz)])
    rw [this]; exact hl
  have K := kk l D τ b A φ0 N0 p e s m args below meth c H1 locs (cells + 1) (slots + n) (fun k => if k = N then H.size else φ k) rls C0 hP1 hD1 hS1 (ka_wf_push hw (fun ci' fs' e j hj => by cases e)) (by omega)
    (fun k hk => by
      have hkN : k ≠ N := by omega
      simp only [if_neg hkN]
      exact hφ k (by omega)) (by
      have hkN : ka_S ≠ N := by omega
      simp only [if_neg hkN]
      exact hb) hl' (by omega) (by omega)
  have e2 : List.map (ka_v (fun k => if k = N then H.size else φ k)) (.ref N :: st) = .ref H.size :: st.map (ka_v φ) := by
    rw [List.map_cons, ← hst']
    simp [ka_v]
  rw [e2] at K
  exact K
/-! the entry -/
theorem ka_args (φ : Nat → Nat) : ∀ (vs : List Value) (i : Nat), lv_args i (vs.map (ka_v φ)) = ka_loc φ (lv_args i vs)
  | [], _ => rfl
  | v :: r, i => by
    simp only [List.map_cons, lv_args, ka_loc, ka_v_cat]
    rw [ka_args φ r]
    rfl
theorem ka_sl_len (φ : Nat → Nat) (vs : List Value) : (lg_sl (vs.map (ka_v φ))).length = (lg_sl vs).length := by
  induction vs with
  | nil => rfl
  | cons v r ih =>
    simp only [List.map_cons, lg_sl, List.flatMap_cons, List.length_append, ka_v_cat] at ih ⊢
    rw [ih]
    cases v <;> rfl
/-- a contract out of a walk of the body -/
theorem ka_body {av : List Value} (hy : plainName M.1.cls = true) (hav : (lg_sl av).length ≤ M.2.2.1) (k : ka_W L xs M R 0 (lv_args 0 av) [] h N R.cells R.slots Q) : ka_M L xs M R av h N Q := by
  intro l D τ b A φ htr
  have core : ∀ (p : Program) (e : Env) (s : State) (m : MethodId) (args : Array Value) (below : List Frame) (meth : Method) (c : Code) (s₁ : State), BodyLoose p l M.1 (headSpec (ka_ws M) R) M.2.1 M.2.2.1 M.2.2.2.1 e s m args below meth c s₁ → c.maxLocals = M.2.2.1 → c.exceptionTable.toList = tableOf M.2.2.2.2 → ka_Pc D τ b L xs A φ av h N args s →
      W p l e (headSpec (ka_ws M) R).room s m args below meth c s.heap [] 0 0 (vx_MQ below (ka_Qc D τ A φ N Q) (ka_Xc D τ A φ N Q) args s R.cells R.slots A) (entryFrame m args M.2.2.1) := by
    intro p e s m args below meth c s₁ B hml htab hpc
    obtain ⟨rfl, hU, hb, hP, hD, hw⟩ := hpc
    have hts : ∀ w ∈ ka_T, w.before (av.map (ka_v φ)).toArray s = true := fun w hw => atoms_spec (ws := ka_ws M) B.pre w (by
      unfold ka_ws
      split <;> exact List.mem_cons_of_mem _ hw)
    have hl := lv_entry (av.map (ka_v φ)) (n := M.2.2.1) (by rw [ka_sl_len]; exact hav)
    rw [ka_args] at hl
    rw [lg_entry_eq]
    exact k l D τ b A φ N p e s m _ below meth c s.heap [] 0 0 φ _ ⟨B.exec, B.bytes, hml, B.returns, B.notSynchronized, (name_of_methodNamed B.named B.method).1, htab, findClass_of_methodNamed B.named, hts, htr, hU⟩ hP hD va_S.rf hw (Nat.le_refl _) (fun _ _ => rfl) hb hl (by omega) (by omega)
  match hM : M.2.2.2.2 with
  | [] =>
    refine vx_ofW (ret := M.2.2.2.1) hy (show ka_ws M = Cond.code M.1 M.2.1 M.2.2.1 M.2.2.2.1 :: ka_T by unfold ka_ws; rw [hM]) (fun p e s m args below meth c s₁ B hml ht hpc => ?_)
    exact core p e s m args below meth c s₁ B hml (by
      rw [hM]
      have : c.exceptionTable.toList = [] := List.eq_nil_iff_forall_not_mem.mpr (fun x hx => ht x hx)
      rw [this]; rfl) hpc
  | a :: r =>
    have hws : ka_ws M = Cond.codeWith M.1 M.2.1 M.2.2.1 M.2.2.2.1 (a :: r) :: ka_T := by unfold ka_ws; rw [hM]
    refine vx_ofWH (ret := M.2.2.2.1) (hh := a :: r) hy hws (fun p e s m args below meth c s₁ B hml hpc => ?_)
    exact core p e s m args below meth c s₁ B hml (by
      rw [hM]
      exact vx_table (x := M.1) B (atoms_spec (ws := ka_ws M) B.pre _ (by rw [hws]; exact List.mem_cons_self))) hpc
end KC
end
section
section KD
variable {L : Nat} {xs : Nat → Int32} {M : ka_Md} {R : Room} {pc q : Nat} {ls : List (Nat × Value)} {st : List Value} {h : ka_H} {N mc ms : Nat} {Q : ka_O → ka_H → Nat → Prop}
theorem ka_good {w0 : Cond} (h0 : w0 ∈ ka_T) : GoodIn ka_T (w0 :: ka_T) := by
  intro w hw
  have hm : w ∈ ka_T := (List.mem_cons.mp hw).elim (fun e => e ▸ h0) id
  exact ⟨hm, good_of_word (List.mem_filter.mp hm).2⟩
theorem ka_blind {D : va_G} {τ : Nat → ClassId} {b : Nat} {A : Nat → Prop} {φ : Nat → Nat} {av : List Value} : FrameBlind (ka_Pc D τ b L xs A φ av h N) := by
  intro a U g mk hp
  obtain ⟨e1, hU, hb, hP, hD, hw⟩ := hp
  exact ⟨e1, hU.moved (State.WarmedH.refl U) va_S.rf rfl, hb, hP, hD, hw⟩
/-- the world behind a call that made nothing, as the caller goes on in it -/
theorem ka_back {D : va_G} {τ : Nat → ClassId} {A : Nat → Prop} {φ φ' : Nat → Nat} {h' : ka_H} {t T' st₀ s : State} {H : Heap} {locs Lz : List Loc} (h0 : st₀.heap = H) (e1 : T'.heap = t.heap) (hS : va_S A s.heap H locs) (hL : ∀ z ∈ Lz, A z.base) (hF : va_F A st₀ t) (hB : ka_B D τ A φ N h' N φ' t) :
    φ' = φ ∧ va_P D vwCl (ka_w φ τ h' N) T'.heap ∧ va_D A (ka_w φ τ h' N) ∧ ka_wf h' N ∧ va_S A s.heap T'.heap (locs ++ Lz) := by
  obtain ⟨hP, hD, hw, -, hφ⟩ := hB
  have e : φ' = φ := funext fun k => hφ k (Nat.lt_or_ge k N)
  subst e
  obtain ⟨-, -, k3⟩ := vx_keep (A1 := A) h0 e1 hS (fun _ _ z => z) (fun _ z => z) hL hF
  exact ⟨rfl, by rw [e1]; exact hP, hD, hw, k3⟩
theorem ka_callB {M2 : ka_Md} {R2 : Room} {idx n : Nat} {s : State} {args : Array Value} (hlk : ka_lk M.1.cls idx M2 n) (hts : ∀ w ∈ ka_T, w.before args s = true) (hR : R2.frames + 1 ≤ R.frames ∧ 8 + (M2.2.2.1 + 11) + R2.locals ≤ R.locals) :
    CallB R s args M.1.cls idx M2.1 M2.2.1 M2.2.2.1 M2.2.2.2.1 (ka_ws M2) R2 R2.cells R2.slots n := by
  obtain ⟨h1, h2, h3, h4, h5⟩ := hlk
  have hws : ka_ws M2 = Cond.code M2.1 M2.2.1 M2.2.2.1 M2.2.2.2.1 :: ka_T := by unfold ka_ws; rw [h1]
  exact callB_of (Ts := ka_T) n hts (by rw [hws]; exact ka_good h4) hws rfl rfl (hts _ h3) (hts _ h2) h5 hR
/-- what is left to show at a throw that reaches this frame: no table here, the caller gets it -/
theorem ka_thrown {D : va_G} {τ : Nat → ClassId} {b : Nat} {A : Nat → Prop} {φ0 : Nat → Nat} {N0 : Nat} {p : Program} {l : Launch} {e : Env} {s : State} {m : MethodId} {args : Array Value} {below : List Frame} {meth : Method} {c : Code} {locs : List Loc} {cells slots : Nat} {φ : Nat → Nat} {rls : Array Slot} {E : String} {ce : Cell} {z : Addr} {rest : List Value} {H : Heap}
    (C0 : ka_C L xs M D τ b A p l s m args meth c) (hM : M.2.2.2.2 = []) (hP : va_P D vwCl (ka_w φ τ h N) H) (hD : va_D A (ka_w φ τ h N)) (hS : va_S A s.heap H locs) (hw : ka_wf h N) (hN : N0 ≤ N) (hφ : ∀ k, k < N0 ∨ N ≤ k → φ k = φ0 k) (hq : Q (.inr E) h N) (hcell : H[z]? = some ce) (hv : ce.vm = .none) (hcl : s.vm.findClass E = some ce.cls) (hc : cells ≤ R.cells) (hs : slots ≤ R.slots) :
    vx_W p l e R s m args below meth c H locs cells slots (vx_MQ below (ka_Qc D τ A φ0 N0 Q) (ka_Xc D τ A φ0 N0 Q) args s R.cells R.slots A) (F0 m pc rls rest) z := by
  obtain ⟨hx, hcb, hml, hr, hlk, hnm, htb, hown, hts, htr, hU⟩ := id C0
  refine vx_out (E := E) (ce := ce) (fun x hx => ?_) hlk hcell hv hcl (fun t ht _ => ⟨⟨h, N, φ, hq, by rw [ht]; exact hP, hD, hw, hN, hφ⟩, hS.F ht⟩) (fun z hz => hS.2.2 z hz) hc hs
  rw [htb, hM] at hx
  cases hx
section Calls
variable {M2 : ka_Md} {R2 : Room} {As stk : List Value} {idx : Nat} {Q2 : ka_O → ka_H → Nat → Prop} {mc' ms' : Nat}
theorem ka_callV {o ci Nf : Nat} {fs : List Value} {T : u_T} (hd : decode M.2.1 pc = .ok (.invokevirtual idx, 3)) (hn : pc + 3 = q) (hstk : As.reverse ++ .ref o :: st = stk) (ho : o < N) (he : h o = .inr (ci, fs)) (hc : vwCl[ci]? = some (M2.1.cls, T, Nf)) (hlk : ka_lkV M.1.cls idx M2 As.length)
    (hR : R2.frames + 1 ≤ R.frames ∧ 8 + (M2.2.2.1 + 11) + R2.locals ≤ R.locals) (hW : (st.map fun v => v.category).sum ≤ 8) (hm : mc' + R2.cells ≤ mc ∧ ms' + R2.slots ≤ ms) (hK : ka_M L xs M2 R2 (.ref o :: As) h N Q2) (hN2 : ∀ x h' N', Q2 x h' N' → N' = N)
    (kr : ∀ v h', Q2 (.inl v) h' N → ka_W L xs M R q ls (v.toList ++ st) h' N mc' ms' Q) (kx : ∀ E h', Q2 (.inr E) h' N → M.2.2.2.2 = [] ∧ Q (.inr E) h' N) : ka_W L xs M R pc ls stk h N mc ms Q := by
  subst hn; subst hstk
  intro l D τ b A φ0 N0 p e s m args below meth c H locs cells slots φ rls C0 hP hD hS hw hN hφ hb hl hmc hms
  obtain ⟨hx, hcb, hml, hr, hlk2, hnm, htb, hown, hts, htr, hU⟩ := id C0
  intro T0 hT X
  have hrun := vx_runV (C := M2.1.cls) (As := As.map (ka_v φ)) (rest := st.map (ka_v φ)) (g := F0 m pc rls (List.map (ka_v φ) (As.reverse ++ .ref o :: st))) (e := e) (below := below) (meth := meth) (locs := locs) (cells := cells) (slots := slots) (H := H) (b := φ o)
    ⟨hx, hcb, hml, hown, hts⟩ (hK l D τ b A φ htr) ⟨ka_callB hlk.1 hts hR, hts _ hlk.2.1, hts _ hlk.2.2⟩
    ⟨ka_blind, va_recv (ci := ci) (q0 := o) hU.1 hP hc (by rw [ka_w_at ho, he]; rfl), fun U hU1 hW1 => ⟨rfl, hU.moved hW1 hS hU1, hb, by rw [hU1]; exact hP, hD, hw⟩⟩ rfl (by rw [List.length_map]) hl.1
    (by simp [ka_v]) (by rw [ka_st_cat]; have h0 : (F0 m pc rls (List.map (ka_v φ) (As.reverse ++ .ref o :: st))).monitorRoom = 0 := rfl
                         rw [h0]; omega) hd ⟨by omega, by omega⟩ T0 hT X
  rcases hrun with ⟨v, st₀, t, T', Lz, h0, X', hL, e1, e2, ⟨⟨v', h', N', φ', ev, hq2, hB⟩, hF⟩, stp⟩ | ⟨z, st₀, t, T', Lz, E, ce, h0, X', hL, e1, e2, ⟨⟨h', N', φ', hq2, hB⟩, hF⟩, hce, hcv, hcl, stp⟩
  · have eN := hN2 _ _ _ hq2
    subst eN
    obtain ⟨ep, hP1, hD1, hw1, hS1⟩ := ka_back h0 e1 hS hL hF hB
    subst ep
    cases ev
    obtain ⟨t2, a1, b1⟩ := kr v' h' hq2 l D τ b A φ0 N0 p e s m args below meth c T'.heap (locs ++ Lz) (cells + R2.cells) (slots + R2.slots) φ' rls C0 hP1 hD1 hS1 hw1 hN hφ hb hl (by omega) (by omega) T' rfl X'
    refine ⟨t2, stp t2 ?_, b1⟩
    have es : List.map (ka_v φ') (v'.toList ++ st) = (v'.map (ka_v φ')).toList ++ st.map (ka_v φ') := by cases v' <;> simp
    rw [es] at a1
    exact a1
  · have eN := hN2 _ _ _ hq2
    subst eN
    obtain ⟨ep, hP1, hD1, hw1, hS1⟩ := ka_back h0 e1 hS hL hF hB
    subst ep
    obtain ⟨hMn, hQx⟩ := kx E h' hq2
    obtain ⟨t2, a1, b1⟩ := ka_thrown (rls := rls) (rest := st.map (ka_v φ')) C0 hMn hP1 hD1 hS1 hw1 hN hφ hQx (by rw [e1]; exact hce) hcv hcl (by omega) (by omega) T' rfl X'
    exact ⟨t2, stp.trans a1, b1⟩
theorem ka_callS (hd : decode M.2.1 pc = .ok (.invokestatic idx, 3)) (hn : pc + 3 = q) (hstk : As.reverse ++ st = stk) (hlk : ka_lkS M.1.cls idx M2 As.length)
    (hR : R2.frames + 1 ≤ R.frames ∧ 8 + (M2.2.2.1 + 11) + R2.locals ≤ R.locals) (hW : (st.map fun v => v.category).sum ≤ 8) (hm : mc' + R2.cells ≤ mc ∧ ms' + R2.slots ≤ ms) (hK : ka_M L xs M2 R2 As h N Q2) (hN2 : ∀ x h' N', Q2 x h' N' → N' = N)
    (kr : ∀ v h', Q2 (.inl v) h' N → ka_W L xs M R q ls (v.toList ++ st) h' N mc' ms' Q) (kx : ∀ E h', Q2 (.inr E) h' N → M.2.2.2.2 = [] ∧ Q (.inr E) h' N) : ka_W L xs M R pc ls stk h N mc ms Q := by
  subst hn; subst hstk
  intro l D τ b A φ0 N0 p e s m args below meth c H locs cells slots φ rls C0 hP hD hS hw hN hφ hb hl hmc hms
  obtain ⟨hx, hcb, hml, hr, hlk2, hnm, htb, hown, hts, htr, hU⟩ := id C0
  intro T0 hT X
  have hrun := vx_runS (As := As.map (ka_v φ)) (rest := st.map (ka_v φ)) (g := F0 m pc rls (List.map (ka_v φ) (As.reverse ++ st))) (e := e) (below := below) (meth := meth) (locs := locs) (cells := cells) (slots := slots) (H := H)
    ⟨hx, hcb, hml, hown, hts⟩ (hK l D τ b A φ htr) ⟨ka_callB hlk.1 hts hR, hts _ hlk.2⟩
    ⟨ka_blind, fun U hU1 hW1 => ⟨rfl, hU.moved hW1 hS hU1, hb, by rw [hU1]; exact hP, hD, hw⟩⟩ rfl (by rw [List.length_map]) hl.1
    (by simp) (by rw [ka_st_cat]; have h0 : (F0 m pc rls (List.map (ka_v φ) (As.reverse ++ st))).monitorRoom = 0 := rfl
                  rw [h0]; omega) hd ⟨by omega, by omega⟩ T0 hT X
  rcases hrun with ⟨v, st₀, t, T', Lz, h0, X', hL, e1, e2, ⟨⟨v', h', N', φ', ev, hq2, hB⟩, hF⟩, stp⟩ | ⟨z, st₀, t, T', Lz, E, ce, h0, X', hL, e1, e2, ⟨⟨h', N', φ', hq2, hB⟩, hF⟩, hce, hcv, hcl, stp⟩
  · have eN := hN2 _ _ _ hq2
    subst eN
    obtain ⟨ep, hP1, hD1, hw1, hS1⟩ := ka_back h0 e1 hS hL hF hB
    subst ep
    cases ev
    obtain ⟨t2, a1, b1⟩ := kr v' h' hq2 l D τ b A φ0 N0 p e s m args below meth c T'.heap (locs ++ Lz) (cells + R2.cells) (slots + R2.slots) φ' rls C0 hP1 hD1 hS1 hw1 hN hφ hb hl (by omega) (by omega) T' rfl X'
    refine ⟨t2, stp t2 ?_, b1⟩
    have es : List.map (ka_v φ') (v'.toList ++ st) = (v'.map (ka_v φ')).toList ++ st.map (ka_v φ') := by cases v' <;> simp
    rw [es] at a1
    exact a1
  · have eN := hN2 _ _ _ hq2
    subst eN
    obtain ⟨ep, hP1, hD1, hw1, hS1⟩ := ka_back h0 e1 hS hL hF hB
    subst ep
    obtain ⟨hMn, hQx⟩ := kx E h' hq2
    obtain ⟨t2, a1, b1⟩ := ka_thrown (rls := rls) (rest := st.map (ka_v φ')) C0 hMn hP1 hD1 hS1 hw1 hN hφ hQx (by rw [e1]; exact hce) hcv hcl (by omega) (by omega) T' rfl X'
    exact ⟨t2, stp.trans a1, b1⟩
end Calls
end KD
end
section
section KE
variable {L : Nat} {xs : Nat → Int32} {M : ka_Md} {R : Room} {pc q : Nat} {ls : List (Nat × Value)} {st : List Value} {h : ka_H} {N mc ms : Nat} {Q : ka_O → ka_H → Nat → Prop}
theorem ka_noX {l : Launch} {y : MethodName} {ws : List Cond} {rm : Room} {Pc : Array Value → State → Prop} {Qc : Array Value → State → Outcome → State → Prop} {XC : String → State → State → Prop} {mc ms : Nat} {free : Addr → Prop} (hM : vx_Met l y ws rm Pc Qc XC mc ms free) (hx : ∀ E a t, ¬ XC E a t) : Met l y ws rm Pc Qc mc ms free := by
  intro p e ha hc hk s m args below hf happ hP hK
  obtain ⟨n, o, h1, h2, h3, h4⟩ := hM p e ha hc hk s m args below hf happ hP hK
  refine ⟨n, o, h1, h2, h3, ?_⟩
  rcases h4 with h4 | ⟨z, -, E, ce, Lz, h5, -⟩
  · exact h4
  · exact absurd h5 (hx _ _ _)
/-- a constructor of the system's: it may make things -/
theorem ka_callI {M2 : ka_Md} {R2 : Room} {As stk : List Value} {idx o : Nat} {Q2 : ka_O → ka_H → Nat → Prop} {mc' ms' : Nat} (hd : decode M.2.1 pc = .ok (.invokespecial idx, 3)) (hn : pc + 3 = q) (hstk : As.reverse ++ .ref o :: st = stk) (hlk : ka_lkI M.1.cls idx M2 As.length) (hret : M2.2.2.2.1 = none)
    (hR : R2.frames + 1 ≤ R.frames ∧ 8 + (M2.2.2.1 + 11) + R2.locals ≤ R.locals) (hW : (st.map fun v => v.category).sum ≤ 8) (hm : mc' + R2.cells ≤ mc ∧ ms' + R2.slots ≤ ms) (hK : ka_M L xs M2 R2 (.ref o :: As) h N Q2) (hx : ∀ E h' N', ¬ Q2 (.inr E) h' N') (hNS : ∀ v h' N', Q2 (.inl v) h' N' → N' ≤ ka_S)
    (hls : ls.all (fun q => ka_okv N q.2) = true) (hst : st.all (ka_okv N) = true)
    (kr : ∀ v h' N', Q2 (.inl v) h' N' → ka_W L xs M R q ls (v.toList ++ st) h' N' mc' ms' Q) : ka_W L xs M R pc ls stk h N mc ms Q := by
  subst hn; subst hstk
  intro l D τ b A φ0 N0 p e s m args below meth c H locs cells slots φ rls C0 hP hD hS hw hN hφ hb hl hmc hms
  obtain ⟨hx0, hcb, hml, hr, hlk2, hnm, htb, hown, hts, htr, hU⟩ := id C0
  intro T0 hT X
  have hMet := ka_noX (hK l D τ b A φ htr) (fun E a t hz => by
    obtain ⟨⟨h', N', φ', hq, -⟩, -⟩ := hz
    exact hx _ _ _ hq)
  have hCB := ka_callB (R := R) hlk.1 hts hR
  rw [hret] at hCB
  have hrun := va_runI (As := As.map (ka_v φ)) (rest := st.map (ka_v φ)) (g := F0 m pc rls (List.map (ka_v φ) (As.reverse ++ .ref o :: st))) (e := e) (below := below) (meth := meth) (locs := locs) (cells := cells) (slots := slots) (H := H) (b := φ o)
    ⟨hx0, hcb, hml, hown, hts⟩ hMet ⟨hCB, hlk.2.1, hts _ hlk.2.2⟩
    ⟨ka_blind, fun U hU1 hW1 => ⟨rfl, hU.moved hW1 hS hU1, hb, by rw [hU1]; exact hP, hD, hw⟩⟩ rfl (by rw [List.length_map]) hl.1
    (by simp [ka_v]) (by rw [ka_st_cat]; have h0 : (F0 m pc rls (List.map (ka_v φ) (As.reverse ++ .ref o :: st))).monitorRoom = 0 := rfl
                         rw [h0]; omega) hd ⟨by omega, by omega⟩ T0 hT X
  obtain ⟨v, st₀, t, T', Lz, h0, X', hL, e1, e2, ⟨⟨v', h', N', φ', ev, hq2, hP1, hD1, hw1, hNN, hφ1⟩, hF⟩, stp⟩ := hrun
  have hNS' := hNS _ _ _ hq2
  obtain ⟨-, -, k3⟩ := vx_keep (A1 := A) h0 e1 hS (fun _ _ z => z) (fun _ z => z) hL hF
  have hne : ∀ w, ka_okv N w = true → ka_v φ' w = ka_v φ w := fun w hw => ka_v_same (fun j ej => by
    subst ej
    rcases ka_okv_ref hw with h1 | h1
    · exact hφ1 j (Or.inl h1)
    · exact hφ1 j (Or.inr (by omega)))
  have hl' : lv_has rls M.2.2.1 (ka_loc φ' ls) := by
    have : ka_loc φ' ls = ka_loc φ ls := List.map_congr_left (fun z hz => by rw [hne z.2 (List.all_eq_true.mp hls z hz)])
    rw [this]; exact hl
  cases ev
  obtain ⟨t2, a1, b1⟩ := kr v' h' N' hq2 l D τ b A φ0 N0 p e s m args below meth c T'.heap (locs ++ Lz) (cells + R2.cells) (slots + R2.slots) φ' rls C0 (by rw [e1]; exact hP1) hD1 k3 hw1 (by omega)
    (fun k hk => (hφ1 k (by omega)).trans (hφ k (by omega))) ((hφ1 ka_S (Or.inr hNS')).trans hb) hl' (by omega) (by omega) T' rfl X'
  refine ⟨t2, stp t2 ?_, b1⟩
  have es : List.map (ka_v φ') (v'.toList ++ st) = (v'.map (ka_v φ')).toList ++ st.map (ka_v φ) := by
    have h9 : st.map (ka_v φ') = st.map (ka_v φ) := List.map_congr_left (fun w hw => hne w (List.all_eq_true.mp hst w hw))
    rw [List.map_append, h9]
    cases v' <;> simp
  rw [es] at a1
  exact a1
/-! throws -/
def ka_thrOk (own : String) (ik ic : Nat) (cls : String) (names : List String) : Prop :=
  ((vx_atS own ic cls names).filter goodWord).all (fun w => decide (w ∈ lw_tbl)) = true ∧ (∀ w ∈ (vx_atS own ic cls names).filter (fun w => !goodWord w), (∃ E ∈ ka_xs, w = Cond.castable E E) ∨ ∃ y b n r, w = Cond.declares y ∧ Cond.instanceMethod y ∈ ka_T ∧ Cond.code y b n r ∈ ka_T) ∧
  (Cond.classLink own ik cls :: Cond.initialized cls :: vx_atS own ic cls names).all vx_ot = true ∧ Cond.classLink own ik cls ∈ ka_T ∧ Cond.initialized cls ∈ ka_T ∧ Bundle.fit cls = true ∧ names.all Bundle.fit = true
theorem ka_decl {y : MethodName} {bs : ByteArray} {n : Nat} {r : Option FieldType} {args : Array Value} {s : State} (h1 : (Cond.instanceMethod y).before args s = true) (h2 : (Cond.code y bs n r).before args s = true) : (Cond.declares y).before args s = true := by
  obtain ⟨m, meth, hn, hm, hs, ha⟩ := Cond.instanceMethod_spec h1
  obtain ⟨meth', c', hm', -, -, -, -, -, -, hsig⟩ := Cond.code_spec hn h2
  cases hm.symm.trans hm'
  simp [Cond.before, Cond.holds, Cond.value, hn, hm, hs, hsig]
theorem ka_thr {own : String} {ik ic : Nat} {cls : String} {names : List String} {args : Array Value} {s : State} (hok : ka_thrOk own ik ic cls names) (hts : ∀ w ∈ ka_T, w.before args s = true) (hcs : ∀ E ∈ ka_xs, ka_cst E s) :
    (∀ w ∈ vx_atS own ic cls names, w.before args s = true) ∧ (∀ w ∈ Cond.classLink own ik cls :: Cond.initialized cls :: vx_atS own ic cls names, vx_ot w = true) ∧ Cond.classLink own ik cls ∈ ka_T ∧ Cond.initialized cls ∈ ka_T ∧ Bundle.fit cls = true ∧ ∀ n ∈ names, Bundle.fit n = true := by
  obtain ⟨h1, h0, h2, h3, h4, h5, h6⟩ := hok
  refine ⟨fun w hw => ?_, List.all_eq_true.mp h2, h3, h4, h5, List.all_eq_true.mp h6⟩
  cases hg : goodWord w with
  | true =>
    have h7 := List.all_eq_true.mp h1 w (List.mem_filter.mpr ⟨hw, hg⟩)
    simp only [decide_eq_true_eq] at h7
    exact hts w (List.mem_filter.mpr ⟨h7, hg⟩)
  | false =>
    rcases h0 w (List.mem_filter.mpr ⟨hw, by rw [hg]; rfl⟩) with ⟨E, hE, rfl⟩ | ⟨y, b, n, r, rfl, h8, h9⟩
    · exact (hcs E hE).word
    · exact ka_decl (hts _ h8) (hts _ h9)
/-- throw new cls("text"): two more cells' room than it needs is no harm -/
theorem ka_throw {ik is ic : Nat} {cls text : String} {names : List String} (d0 : decode M.2.1 pc = .ok (.new ik, 3)) (d3 : decode M.2.1 (pc + 3) = .ok (.dup, 1)) (d4 : decode M.2.1 (pc + 4) = .ok (.ldc is, 2)) (d6 : decode M.2.1 (pc + 6) = .ok (.invokespecial ic, 3)) (d9 : decode M.2.1 (pc + 9) = .ok (.athrow, 1))
    (hstr : (M.1.cls, is, text) ∈ ka_str) (hok : ka_thrOk M.1.cls ik ic cls names) (hM : M.2.2.2.2 = []) (hRf : names.length + 3 < R.frames) (hRl : (st.map fun v => v.category).sum + (13 * (names.length + 1) + 43) ≤ R.locals) (hmc0 : 1 ≤ mc) (hms0 : 6 ≤ ms) (hq : Q (.inr cls) h N) : ka_W L xs M R pc ls st h N mc ms Q := by
  intro l D τ b A φ0 N0 p e s m args below meth c H locs cells slots φ rls C0 hP hD hS hw hN hφ hb hl hmc hms
  obtain ⟨hx, hcb, hml, hr, hlk, hnm, htb, hown, hts, htr, hU⟩ := id C0
  obtain ⟨t1, t2, t3, t4, t5, t6⟩ := ka_thr hok hts hU.2.2.2.2.2.2.2.2.2.2.2.2
  obtain ⟨sa, hsa⟩ := hU.2.2.2.2.2.2.2.1 _ hstr
  refine vx_throwS hx hcb htr hown t5 t6 (hts _ t3) (hts _ t4) hsa t1 t2 hU.2.2.2.2.2.1 hU.2.2.2.2.2.2.1 hS (hl.1.trans hml.symm) d0 d3 d4 d6 d9 (fun x hx => ?_) hRf (by rw [ka_st_cat]; exact hRl) (by omega) (by omega) hlk (fun t hvm hz hk => ?_) (fun z hz => hS.2.2 z hz) (by omega) (by omega)
  · rw [htb, hM] at hx; cases hx
  · refine ⟨⟨h, N, φ, hq, hP.kept (fun k x hx => hk x.1 (hP k x hx).lt), hD, hw, hN, hφ⟩, Nat.le_trans hS.1 hz, fun q h1 h2 => ?_⟩
    rw [hk q (Nat.lt_of_lt_of_le h1 hS.1)]
    exact hS.2.1 q h1 h2
theorem ka_throwW {ik is ic : Nat} {cls text : String} {names : List String} (d0 : decode M.2.1 pc = .ok (.new ik, 3)) (d3 : decode M.2.1 (pc + 3) = .ok (.dup, 1)) (d4 : decode M.2.1 (pc + 4) = .ok (.ldc_w is, 3)) (d7 : decode M.2.1 (pc + 7) = .ok (.invokespecial ic, 3)) (d10 : decode M.2.1 (pc + 10) = .ok (.athrow, 1))
    (hstr : (M.1.cls, is, text) ∈ ka_str) (hok : ka_thrOk M.1.cls ik ic cls names) (hM : M.2.2.2.2 = []) (hRf : names.length + 3 < R.frames) (hRl : (st.map fun v => v.category).sum + (13 * (names.length + 1) + 43) ≤ R.locals) (hmc0 : 1 ≤ mc) (hms0 : 6 ≤ ms) (hq : Q (.inr cls) h N) : ka_W L xs M R pc ls st h N mc ms Q := by
  intro l D τ b A φ0 N0 p e s m args below meth c H locs cells slots φ rls C0 hP hD hS hw hN hφ hb hl hmc hms
  obtain ⟨hx, hcb, hml, hr, hlk, hnm, htb, hown, hts, htr, hU⟩ := id C0
  obtain ⟨t1, t2, t3, t4, t5, t6⟩ := ka_thr hok hts hU.2.2.2.2.2.2.2.2.2.2.2.2
  obtain ⟨sa, hsa⟩ := hU.2.2.2.2.2.2.2.1 _ hstr
  refine vx_throwSW hx hcb htr hown t5 t6 (hts _ t3) (hts _ t4) hsa t1 t2 hU.2.2.2.2.2.1 hU.2.2.2.2.2.2.1 hS (hl.1.trans hml.symm) d0 d3 d4 d7 d10 (fun x hx => ?_) hRf (by rw [ka_st_cat]; exact hRl) (by omega) (by omega) hlk (fun t hvm hz hk => ?_) (fun z hz => hS.2.2 z hz) (by omega) (by omega)
  · rw [htb, hM] at hx; cases hx
  · refine ⟨⟨h, N, φ, hq, hP.kept (fun k x hx => hk x.1 (hP k x hx).lt), hD, hw, hN, hφ⟩, Nat.le_trans hS.1 hz, fun q h1 h2 => ?_⟩
    rw [hk q (Nat.lt_of_lt_of_le h1 hS.1)]
    exact hS.2.1 q h1 h2
/-! a call in a method with a table of its own: what is thrown is taken by a handler that answers a number -/
def ka_hdl (M : ka_Md) (hp : Nat) (v : Int32) : Prop :=
  (∃ (n : Int) (j : Fin 4), decode M.2.1 hp = .ok (.astore_n j, 1) ∧ (j : Nat) < M.2.2.1 ∧ decode M.2.1 (hp + 1) = .ok (.iconst n, 1) ∧ Int32.ofInt n = v ∧ decode M.2.1 (hp + 1 + 1) = .ok (.ireturn, 1)) ∨
  (∃ (n : Int) (i : Nat), decode M.2.1 hp = .ok (.astore i, 2) ∧ i < M.2.2.1 ∧ decode M.2.1 (hp + 2) = .ok (.iconst n, 1) ∧ Int32.ofInt n = v ∧ decode M.2.1 (hp + 2 + 1) = .ok (.ireturn, 1))
def ka_ctc (M : ka_Md) (pc : Nat) (E : String) (v : Int32) : Prop :=
  ∃ (pre : List ExceptionTableEntry) (x : ExceptionTableEntry) (suf : List ExceptionTableEntry), tableOf M.2.2.2.2 = pre ++ x :: suf ∧ (∀ z ∈ pre, covers z pc = false ∨ (z.catchType ≠ 0 ∧ ∃ nm : String, Cond.classLink M.1.cls z.catchType nm ∈ ka_T ∧ (E, nm) ∈ ka_nc)) ∧ covers x pc = true ∧ x.catchType ≠ 0 ∧
    Cond.classLink M.1.cls x.catchType E ∈ ka_T ∧ E ∈ ka_xs ∧ ka_hdl M x.handlerPc v
theorem ka_callVC {M2 : ka_Md} {R2 : Room} {As stk : List Value} {idx : Nat} {Q2 : ka_O → ka_H → Nat → Prop} {mc' ms' : Nat} {o ci Nf : Nat} {fs : List Value} {T : u_T} (hd : decode M.2.1 pc = .ok (.invokevirtual idx, 3)) (hn : pc + 3 = q) (hstk : As.reverse ++ .ref o :: st = stk) (ho : o < N) (he : h o = .inr (ci, fs)) (hc : vwCl[ci]? = some (M2.1.cls, T, Nf)) (hlk : ka_lkV M.1.cls idx M2 As.length)
    (hR : R2.frames + 1 ≤ R.frames ∧ 8 + (M2.2.2.1 + 11) + R2.locals ≤ R.locals) (hW : (st.map fun v => v.category).sum ≤ 8) (hm : mc' + R2.cells ≤ mc ∧ ms' + R2.slots ≤ ms) (hret : M.2.2.2.1 = some .int) (hK : ka_M L xs M2 R2 (.ref o :: As) h N Q2) (hN2 : ∀ x h' N', Q2 x h' N' → N' = N)
    (kr : ∀ v h', Q2 (.inl v) h' N → ka_W L xs M R q ls (v.toList ++ st) h' N mc' ms' Q) (kx : ∀ E h', Q2 (.inr E) h' N → ∃ v, ka_ctc M pc E v ∧ Q (.inl (some (.int v))) h' N) : ka_W L xs M R pc ls stk h N mc ms Q := by
  subst hn; subst hstk
  intro l D τ b A φ0 N0 p e s m args below meth c H locs cells slots φ rls C0 hP hD hS hw hN hφ hb hl hmc hms
  obtain ⟨hx, hcb, hml, hr, hlk2, hnm, htb, hown, hts, htr, hU⟩ := id C0
  intro T0 hT X
  have hrun := vx_runV (C := M2.1.cls) (As := As.map (ka_v φ)) (rest := st.map (ka_v φ)) (g := F0 m pc rls (List.map (ka_v φ) (As.reverse ++ .ref o :: st))) (e := e) (below := below) (meth := meth) (locs := locs) (cells := cells) (slots := slots) (H := H) (b := φ o)
    ⟨hx, hcb, hml, hown, hts⟩ (hK l D τ b A φ htr) ⟨ka_callB hlk.1 hts hR, hts _ hlk.2.1, hts _ hlk.2.2⟩
    ⟨ka_blind, va_recv (ci := ci) (q0 := o) hU.1 hP hc (by rw [ka_w_at ho, he]; rfl), fun U hU1 hW1 => ⟨rfl, hU.moved hW1 hS hU1, hb, by rw [hU1]; exact hP, hD, hw⟩⟩ rfl (by rw [List.length_map]) hl.1
    (by simp [ka_v]) (by rw [ka_st_cat]; have h0 : (F0 m pc rls (List.map (ka_v φ) (As.reverse ++ .ref o :: st))).monitorRoom = 0 := rfl
                         rw [h0]; omega) hd ⟨by omega, by omega⟩ T0 hT X
  rcases hrun with ⟨v, st₀, t, T', Lz, h0, X', hL, e1, e2, ⟨⟨v', h', N', φ', ev, hq2, hB⟩, hF⟩, stp⟩ | ⟨z, st₀, t, T', Lz, E, ce, h0, X', hL, e1, e2, ⟨⟨h', N', φ', hq2, hB⟩, hF⟩, hce, hcv, hcl, stp⟩
  · have eN := hN2 _ _ _ hq2
    subst eN
    obtain ⟨ep, hP1, hD1, hw1, hS1⟩ := ka_back h0 e1 hS hL hF hB
    subst ep
    cases ev
    obtain ⟨t2, a1, b1⟩ := kr v' h' hq2 l D τ b A φ0 N0 p e s m args below meth c T'.heap (locs ++ Lz) (cells + R2.cells) (slots + R2.slots) φ' rls C0 hP1 hD1 hS1 hw1 hN hφ hb hl (by omega) (by omega) T' rfl X'
    refine ⟨t2, stp t2 ?_, b1⟩
    have es : List.map (ka_v φ') (v'.toList ++ st) = (v'.map (ka_v φ')).toList ++ st.map (ka_v φ') := by cases v' <;> simp
    rw [es] at a1
    exact a1
  · have eN := hN2 _ _ _ hq2
    subst eN
    obtain ⟨ep, hP1, hD1, hw1, hS1⟩ := ka_back h0 e1 hS hL hF hB
    subst ep
    obtain ⟨v, ⟨pre, x, suf, c1, c2, c3, c4, c5, c6, c7⟩, hQx⟩ := kx E h' hq2
    have fin : ∀ (rls2 : Array Slot) (pc2 : Nat), decode M.2.1 pc2 = .ok (.ireturn, 1) → W p l e R s m args below meth c T'.heap (locs ++ Lz) (cells + R2.cells) (slots + R2.slots) (vx_MQ below (ka_Qc D τ A φ0 N0 Q) (ka_Xc D τ A φ0 N0 Q) args s R.cells R.slots A) (F0 m pc2 rls2 [.int v]) := fun rls2 pc2 hd2 => by
      refine W.widen (k := R.cells) (n := R.slots) (by omega) (by omega) (vx_ret ?_)
      exact W.iret hx hcb (hr.trans hret) (fun t ht _ => ka_end (v := some (.int v)) hP1 hD1 hS1 hw1 hN hφ hQx ht) (fun z hz => hS1.2.2 z hz) hd2 hlk2
    have hcat := vx_catch (p := p) (l := l) (e := e) (R := R) (m := m) (below := below) (meth := meth) (locs := locs ++ Lz) (cells := cells + R2.cells) (slots := slots + R2.slots) (Q := vx_MQ below (ka_Qc D τ A φ0 N0 Q) (ka_Xc D τ A φ0 N0 Q) args s R.cells R.slots A) (ls := rls) (pc := pc) (rest := st.map (ka_v φ')) (q := z) (own := M.1.cls) (name := E) (E := E) (ce := ce) (H := T'.heap) hown pre x suf (htb.trans c1)
      (fun y hy => (c2 y hy).imp id (fun w => ⟨w.1, w.2.choose, hts _ w.2.choose_spec.1, hU.2.2.2.2.2.2.2.2.2.2.2.1 _ w.2.choose_spec.2⟩)) c3 c4 (hts _ c5) (hU.2.2.2.2.2.2.2.2.2.2.2.2 E c6).word (by rw [e1]; exact hce) hcv hcl (by
        rcases c7 with ⟨n, j, g1, g2, g3, g4, g5⟩ | ⟨n, i, g1, g2, g3, g4, g5⟩
        · exact lv_astore_n hx hcb g1 rfl hl g2 rfl (fun rls2 hl2 => lv_iconst hx hcb g3 g4 (fin rls2 _ g5))
        · exact lv_astore hx hcb g1 hl g2 rfl (fun rls2 hl2 => lv_iconst hx hcb g3 g4 (fin rls2 _ g5)))
    obtain ⟨t2, a1, b1⟩ := hcat T' rfl X'
    exact ⟨t2, stp.trans a1, b1⟩
end KE
end
section
theorem th_aio0 : (vx_atS RX4 173 "java/lang/ArrayIndexOutOfBoundsException" ["java/lang/IndexOutOfBoundsException", "java/lang/RuntimeException", "java/lang/Exception"]).filter (fun w => !goodWord w) = [Cond.declares (Bundle.initS "java/lang/IndexOutOfBoundsException"), Cond.declares (Bundle.initS "java/lang/RuntimeException"), Cond.declares (Bundle.initS "java/lang/Exception"), Cond.declares (Bundle.initS "java/lang/Throwable"), Cond.castable "java/lang/ArrayIndexOutOfBoundsException" "java/lang/ArrayIndexOutOfBoundsException"] := by decide +kernel
theorem th_aio : ka_thrOk RX4 169 173 "java/lang/ArrayIndexOutOfBoundsException" ["java/lang/IndexOutOfBoundsException", "java/lang/RuntimeException", "java/lang/Exception"] := by
  refine ⟨by decide +kernel, ?_, by decide +kernel, ka_tm 275 (by decide +kernel) rfl, ka_tm 14 (by decide +kernel) rfl, by decide, by decide⟩
  rw [th_aio0]
  intro w hw
  simp only [List.mem_cons, List.not_mem_nil, or_false] at hw
  rcases hw with rfl | rfl | rfl | rfl | rfl
  · exact Or.inr ⟨_, _, _, _, rfl, ka_tm 291 (by decide +kernel) rfl, ka_tm 292 (w := Cond.code (Bundle.initS "java/lang/IndexOutOfBoundsException") Bundle.six 2 none) (by decide +kernel) rfl⟩
  · exact Or.inr ⟨_, _, _, _, rfl, ka_tm 224 (by decide +kernel) rfl, ka_tm 225 (w := Cond.code (Bundle.initS "java/lang/RuntimeException") Bundle.six 2 none) (by decide +kernel) rfl⟩
  · exact Or.inr ⟨_, _, _, _, rfl, ka_tm 227 (by decide +kernel) rfl, ka_tm 228 (w := Cond.code (Bundle.initS "java/lang/Exception") Bundle.six 2 none) (by decide +kernel) rfl⟩
  · exact Or.inr ⟨_, _, _, _, rfl, ka_tm 230 (by decide +kernel) rfl, ka_tm 231 (w := Cond.code (Bundle.initS "java/lang/Throwable") Jvm.LibCode.Throwable.InitS.code 2 none) (by decide +kernel) rfl⟩
  · exact Or.inl ⟨_, by decide +kernel, rfl⟩
theorem th_iae0 : (vx_atS RX4 88 "java/lang/IllegalArgumentException" ["java/lang/RuntimeException", "java/lang/Exception"]).filter (fun w => !goodWord w) = [Cond.declares (Bundle.initS "java/lang/RuntimeException"), Cond.declares (Bundle.initS "java/lang/Exception"), Cond.declares (Bundle.initS "java/lang/Throwable"), Cond.castable "java/lang/IllegalArgumentException" "java/lang/IllegalArgumentException"] := by decide +kernel
theorem th_iae : ka_thrOk RX4 84 88 "java/lang/IllegalArgumentException" ["java/lang/RuntimeException", "java/lang/Exception"] := by
  refine ⟨by decide +kernel, ?_, by decide +kernel, ka_tm 315 (by decide +kernel) rfl, ka_tm 15 (by decide +kernel) rfl, by decide, by decide⟩
  rw [th_iae0]
  intro w hw
  simp only [List.mem_cons, List.not_mem_nil, or_false] at hw
  rcases hw with rfl | rfl | rfl | rfl
  · exact Or.inr ⟨_, _, _, _, rfl, ka_tm 224 (by decide +kernel) rfl, ka_tm 225 (w := Cond.code (Bundle.initS "java/lang/RuntimeException") Bundle.six 2 none) (by decide +kernel) rfl⟩
  · exact Or.inr ⟨_, _, _, _, rfl, ka_tm 227 (by decide +kernel) rfl, ka_tm 228 (w := Cond.code (Bundle.initS "java/lang/Exception") Bundle.six 2 none) (by decide +kernel) rfl⟩
  · exact Or.inr ⟨_, _, _, _, rfl, ka_tm 230 (by decide +kernel) rfl, ka_tm 231 (w := Cond.code (Bundle.initS "java/lang/Throwable") Jvm.LibCode.Throwable.InitS.code 2 none) (by decide +kernel) rfl⟩
  · exact Or.inl ⟨_, by decide +kernel, rfl⟩
theorem th_ari0 : (vx_atS RX4 103 "java/lang/ArithmeticException" ["java/lang/RuntimeException", "java/lang/Exception"]).filter (fun w => !goodWord w) = [Cond.declares (Bundle.initS "java/lang/RuntimeException"), Cond.declares (Bundle.initS "java/lang/Exception"), Cond.declares (Bundle.initS "java/lang/Throwable"), Cond.castable "java/lang/ArithmeticException" "java/lang/ArithmeticException"] := by decide +kernel
theorem th_ari : ka_thrOk RX4 99 103 "java/lang/ArithmeticException" ["java/lang/RuntimeException", "java/lang/Exception"] := by
  refine ⟨by decide +kernel, ?_, by decide +kernel, ka_tm 344 (by decide +kernel) rfl, ka_tm 16 (by decide +kernel) rfl, by decide, by decide⟩
  rw [th_ari0]
  intro w hw
  simp only [List.mem_cons, List.not_mem_nil, or_false] at hw
  rcases hw with rfl | rfl | rfl | rfl
  · exact Or.inr ⟨_, _, _, _, rfl, ka_tm 224 (by decide +kernel) rfl, ka_tm 225 (w := Cond.code (Bundle.initS "java/lang/RuntimeException") Bundle.six 2 none) (by decide +kernel) rfl⟩
  · exact Or.inr ⟨_, _, _, _, rfl, ka_tm 227 (by decide +kernel) rfl, ka_tm 228 (w := Cond.code (Bundle.initS "java/lang/Exception") Bundle.six 2 none) (by decide +kernel) rfl⟩
  · exact Or.inr ⟨_, _, _, _, rfl, ka_tm 230 (by decide +kernel) rfl, ka_tm 231 (w := Cond.code (Bundle.initS "java/lang/Throwable") Jvm.LibCode.Throwable.InitS.code 2 none) (by decide +kernel) rfl⟩
  · exact Or.inl ⟨_, by decide +kernel, rfl⟩
theorem th_uoe0 : (vx_atS RX4 184 "java/lang/UnsupportedOperationException" ["java/lang/RuntimeException", "java/lang/Exception"]).filter (fun w => !goodWord w) = [Cond.declares (Bundle.initS "java/lang/RuntimeException"), Cond.declares (Bundle.initS "java/lang/Exception"), Cond.declares (Bundle.initS "java/lang/Throwable"), Cond.castable "java/lang/UnsupportedOperationException" "java/lang/UnsupportedOperationException"] := by decide +kernel
theorem th_uoe : ka_thrOk RX4 180 184 "java/lang/UnsupportedOperationException" ["java/lang/RuntimeException", "java/lang/Exception"] := by
  refine ⟨by decide +kernel, ?_, by decide +kernel, ka_tm 177 (by decide +kernel) rfl, ka_tm 10 (by decide +kernel) rfl, by decide, by decide⟩
  rw [th_uoe0]
  intro w hw
  simp only [List.mem_cons, List.not_mem_nil, or_false] at hw
  rcases hw with rfl | rfl | rfl | rfl
  · exact Or.inr ⟨_, _, _, _, rfl, ka_tm 224 (by decide +kernel) rfl, ka_tm 225 (w := Cond.code (Bundle.initS "java/lang/RuntimeException") Bundle.six 2 none) (by decide +kernel) rfl⟩
  · exact Or.inr ⟨_, _, _, _, rfl, ka_tm 227 (by decide +kernel) rfl, ka_tm 228 (w := Cond.code (Bundle.initS "java/lang/Exception") Bundle.six 2 none) (by decide +kernel) rfl⟩
  · exact Or.inr ⟨_, _, _, _, rfl, ka_tm 230 (by decide +kernel) rfl, ka_tm 231 (w := Cond.code (Bundle.initS "java/lang/Throwable") Jvm.LibCode.Throwable.InitS.code 2 none) (by decide +kernel) rfl⟩
  · exact Or.inl ⟨_, by decide +kernel, rfl⟩
end
section
/-! ===== the system once it is made: 30 things; its state: int fields, long fields, int and byte rows, long rows ===== -/
abbrev ks_St : Type := (Nat → Int32) × (Nat → Int64) × (Nat → Nat → Int32) × (Nat → Nat → Int64)
def kn : List va_E → Nat → va_E
  | [], _ => .inl (0, 0, .inl (fun _ => 0))
  | a :: _, 0 => a
  | _ :: r, k + 1 => kn r k
theorem kn_set : ∀ (l : List va_E) (o : Nat) (e : va_E) (k : Nat), o < l.length → (if k = o then e else kn l k) = kn (l.set o e) k
  | [], o, e, k, h => absurd h (Nat.not_lt_zero _)
  | a :: r, 0, e, 0, _ => rfl
  | a :: r, 0, e, k + 1, _ => by simp [kn]
  | a :: r, o + 1, e, 0, _ => by simp [kn]
  | a :: r, o + 1, e, k + 1, h => by
    have := kn_set r o e k (Nat.lt_of_succ_lt_succ h)
    simp only [List.set_cons_succ, kn, Nat.add_right_cancel_iff]
    exact this
def ks_l (σ : ks_St) : List va_E := [.inr (4, [.int (σ.1 0), .ref 1, .ref 2, .int (σ.1 1), .ref 3, .ref 4, .ref 5, .ref 6, .ref 16]), .inl (0, 600, .inl (σ.2.2.1 1)), .inl (1, 4800, .inr (.inl (σ.2.2.2 2))), .inl (1, 9, .inr (.inl (σ.2.2.2 3))), .inl (1, 9, .inr (.inl (σ.2.2.2 4))), .inl (1, 9, .inr (.inl (σ.2.2.2 5))), .inr (2, [.int (σ.1 2), .int (σ.1 3), .int (σ.1 4), .int (σ.1 5), .int (σ.1 6), .ref 7, .ref 15]), .inr (1, [.ref 8, .ref 9, .ref 10, .ref 11, .ref 12, .ref 13, .ref 14]), .inl (1, 16, .inr (.inl (σ.2.2.2 8))), .inl (1, 9, .inr (.inl (σ.2.2.2 9))), .inl (1, 9, .inr (.inl (σ.2.2.2 10))), .inl (1, 9, .inr (.inl (σ.2.2.2 11))), .inl (1, 18, .inr (.inl (σ.2.2.2 12))), .inl (1, 18, .inr (.inl (σ.2.2.2 13))), .inl (1, 32, .inr (.inl (σ.2.2.2 14))), .inl (1, 8, .inr (.inl (σ.2.2.2 15))), .inr (3, [.int (σ.1 7), .int (σ.1 8), .int (σ.1 9), .int (σ.1 10), .int (σ.1 11), .long (σ.2.1 0), .int (σ.1 12), .long (σ.2.1 1), .int (σ.1 13)]), .inr (5, [.int (σ.1 14), .int (σ.1 15), .int (σ.1 16), .ref 18, .ref 19, .ref 20, .int (σ.1 17), .ref 21, .ref 22, .ref 23, .ref 24, .ref 25, .ref 26, .ref 27, .ref 28]), .inl (0, 600, .inl (σ.2.2.1 18)), .inl (2, 307200, .inl (σ.2.2.1 19)), .inl (0, 4, .inl (σ.2.2.1 20)), .inl (0, 513, .inl (σ.2.2.1 21)), .inl (0, 513, .inl (σ.2.2.1 22)), .inl (0, 1026, .inl (σ.2.2.1 23)), .inl (0, 514, .inl (σ.2.2.1 24)), .inl (0, 2, .inl (σ.2.2.1 25)), .inl (0, 2, .inl (σ.2.2.1 26)), .inl (0, 2, .inl (σ.2.2.1 27)), .inl (1, 2, .inr (.inl (σ.2.2.2 28))), .inl (1, 1, .inr (.inl (σ.2.2.2 29)))]
def kh (σ : ks_St) : ka_H := fun k => kn (ks_l σ) k
theorem kh_upd {σ σ' : ks_St} {o : Nat} {e : va_E} (ho : o < 30) (h : (ks_l σ).set o e = ks_l σ') : ka_set (kh σ) o e = kh σ' := by
  funext k
  show (if k = o then e else kn (ks_l σ) k) = kn (ks_l σ') k
  rw [kn_set _ _ _ _ (show o < (ks_l σ).length from ho), h]
def si_ (σ : ks_St) (i : Nat) : Int32 := σ.1 i
def sj_ (σ : ks_St) (i : Nat) : Int64 := σ.2.1 i
def sf_ (σ : ks_St) (o : Nat) : Nat → Int32 := σ.2.2.1 o
def sg_ (σ : ks_St) (o : Nat) : Nat → Int64 := σ.2.2.2 o
def ui_ (σ : ks_St) (i : Nat) (v : Int32) : ks_St := (va_up σ.1 i v, σ.2.1, σ.2.2.1, σ.2.2.2)
def uj_ (σ : ks_St) (i : Nat) (v : Int64) : ks_St := (σ.1, va_up σ.2.1 i v, σ.2.2.1, σ.2.2.2)
def uf_ (σ : ks_St) (o : Nat) (f : Nat → Int32) : ks_St := (σ.1, σ.2.1, va_up σ.2.2.1 o f, σ.2.2.2)
def ug_ (σ : ks_St) (o : Nat) (g : Nat → Int64) : ks_St := (σ.1, σ.2.1, σ.2.2.1, va_up σ.2.2.2 o g)
theorem si_ui (σ : ks_St) (i k : Nat) (v : Int32) : si_ (ui_ σ i v) k = if k = i then v else si_ σ k := rfl
theorem si_uj (σ : ks_St) (i : Nat) (v : Int64) : si_ (uj_ σ i v) = si_ σ := rfl
theorem si_uf (σ : ks_St) (o : Nat) (f : Nat → Int32) : si_ (uf_ σ o f) = si_ σ := rfl
theorem si_ug (σ : ks_St) (o : Nat) (g : Nat → Int64) : si_ (ug_ σ o g) = si_ σ := rfl
theorem sj_ui (σ : ks_St) (i : Nat) (v : Int32) : sj_ (ui_ σ i v) = sj_ σ := rfl
theorem sj_uj (σ : ks_St) (i k : Nat) (v : Int64) : sj_ (uj_ σ i v) k = if k = i then v else sj_ σ k := rfl
theorem sj_uf (σ : ks_St) (o : Nat) (f : Nat → Int32) : sj_ (uf_ σ o f) = sj_ σ := rfl
theorem sj_ug (σ : ks_St) (o : Nat) (g : Nat → Int64) : sj_ (ug_ σ o g) = sj_ σ := rfl
theorem sf_ui (σ : ks_St) (i : Nat) (v : Int32) : sf_ (ui_ σ i v) = sf_ σ := rfl
theorem sf_uj (σ : ks_St) (i : Nat) (v : Int64) : sf_ (uj_ σ i v) = sf_ σ := rfl
theorem sf_uf (σ : ks_St) (o k : Nat) (f : Nat → Int32) : sf_ (uf_ σ o f) k = if k = o then f else sf_ σ k := rfl
theorem sf_ug (σ : ks_St) (o : Nat) (g : Nat → Int64) : sf_ (ug_ σ o g) = sf_ σ := rfl
theorem sg_ui (σ : ks_St) (i : Nat) (v : Int32) : sg_ (ui_ σ i v) = sg_ σ := rfl
theorem sg_uj (σ : ks_St) (i : Nat) (v : Int64) : sg_ (uj_ σ i v) = sg_ σ := rfl
theorem sg_uf (σ : ks_St) (o : Nat) (f : Nat → Int32) : sg_ (uf_ σ o f) = sg_ σ := rfl
theorem sg_ug (σ : ks_St) (o k : Nat) (g : Nat → Int64) : sg_ (ug_ σ o g) k = if k = o then g else sg_ σ k := rfl
/-- row o is one of longs (of ints, of bytes), of n places -/
def rl_ (o n : Nat) : Prop := o < 30 ∧ (∀ σ, kh σ o = .inl (1, n, .inr (.inl (sg_ σ o)))) ∧ ∀ σ g, ka_set (kh σ) o (.inl (1, n, .inr (.inl g))) = kh (ug_ σ o g)
def ri_ (o n : Nat) : Prop := o < 30 ∧ (∀ σ, kh σ o = .inl (0, n, .inl (sf_ σ o))) ∧ ∀ σ g, ka_set (kh σ) o (.inl (0, n, .inl g)) = kh (uf_ σ o g)
def rb_ (o n : Nat) : Prop := o < 30 ∧ (∀ σ, kh σ o = .inl (2, n, .inl (sf_ σ o))) ∧ ∀ σ g, ka_set (kh σ) o (.inl (2, n, .inl g)) = kh (uf_ σ o g)
theorem row_1 : ri_ 1 600 := ⟨by decide, fun σ => rfl, fun σ g => kh_upd (by decide) rfl⟩
theorem row_2 : rl_ 2 4800 := ⟨by decide, fun σ => rfl, fun σ g => kh_upd (by decide) rfl⟩
theorem row_3 : rl_ 3 9 := ⟨by decide, fun σ => rfl, fun σ g => kh_upd (by decide) rfl⟩
theorem row_4 : rl_ 4 9 := ⟨by decide, fun σ => rfl, fun σ g => kh_upd (by decide) rfl⟩
theorem row_5 : rl_ 5 9 := ⟨by decide, fun σ => rfl, fun σ g => kh_upd (by decide) rfl⟩
theorem row_8 : rl_ 8 16 := ⟨by decide, fun σ => rfl, fun σ g => kh_upd (by decide) rfl⟩
theorem row_9 : rl_ 9 9 := ⟨by decide, fun σ => rfl, fun σ g => kh_upd (by decide) rfl⟩
theorem row_10 : rl_ 10 9 := ⟨by decide, fun σ => rfl, fun σ g => kh_upd (by decide) rfl⟩
theorem row_11 : rl_ 11 9 := ⟨by decide, fun σ => rfl, fun σ g => kh_upd (by decide) rfl⟩
theorem row_12 : rl_ 12 18 := ⟨by decide, fun σ => rfl, fun σ g => kh_upd (by decide) rfl⟩
theorem row_13 : rl_ 13 18 := ⟨by decide, fun σ => rfl, fun σ g => kh_upd (by decide) rfl⟩
theorem row_14 : rl_ 14 32 := ⟨by decide, fun σ => rfl, fun σ g => kh_upd (by decide) rfl⟩
theorem row_15 : rl_ 15 8 := ⟨by decide, fun σ => rfl, fun σ g => kh_upd (by decide) rfl⟩
theorem row_18 : ri_ 18 600 := ⟨by decide, fun σ => rfl, fun σ g => kh_upd (by decide) rfl⟩
theorem row_19 : rb_ 19 307200 := ⟨by decide, fun σ => rfl, fun σ g => kh_upd (by decide) rfl⟩
theorem row_20 : ri_ 20 4 := ⟨by decide, fun σ => rfl, fun σ g => kh_upd (by decide) rfl⟩
theorem row_21 : ri_ 21 513 := ⟨by decide, fun σ => rfl, fun σ g => kh_upd (by decide) rfl⟩
theorem row_22 : ri_ 22 513 := ⟨by decide, fun σ => rfl, fun σ g => kh_upd (by decide) rfl⟩
theorem row_23 : ri_ 23 1026 := ⟨by decide, fun σ => rfl, fun σ g => kh_upd (by decide) rfl⟩
theorem row_24 : ri_ 24 514 := ⟨by decide, fun σ => rfl, fun σ g => kh_upd (by decide) rfl⟩
theorem row_25 : ri_ 25 2 := ⟨by decide, fun σ => rfl, fun σ g => kh_upd (by decide) rfl⟩
theorem row_26 : ri_ 26 2 := ⟨by decide, fun σ => rfl, fun σ g => kh_upd (by decide) rfl⟩
theorem row_27 : ri_ 27 2 := ⟨by decide, fun σ => rfl, fun σ g => kh_upd (by decide) rfl⟩
theorem row_28 : rl_ 28 2 := ⟨by decide, fun σ => rfl, fun σ g => kh_upd (by decide) rfl⟩
theorem row_29 : rl_ 29 1 := ⟨by decide, fun σ => rfl, fun σ g => kh_upd (by decide) rfl⟩
section KS
variable {L : Nat} {xs : Nat → Int32} {M : ka_Md} {R : Room} {pc q : Nat} {ls : List (Nat × Value)} {st : List Value} {σ : ks_St} {mc ms : Nat} {P : ka_O → ks_St → Prop}
/-- an end told over the state -/
def ks_Q (P : ka_O → ks_St → Prop) : ka_O → ka_H → Nat → Prop := fun o h N => N = 30 ∧ ∃ σ, h = kh σ ∧ P o σ
/-- the judgement over the state -/
abbrev ks_W (L : Nat) (xs : Nat → Int32) (M : ka_Md) (R : Room) (pc : Nat) (ls : List (Nat × Value)) (st : List Value) (σ : ks_St) (mc ms : Nat) (P : ka_O → ks_St → Prop) : Prop := ka_W L xs M R pc ls st (kh σ) 30 mc ms (ks_Q P)
theorem ks_lald {o n : Nat} {i : Int32} (hL : rl_ o n) (hd : decode M.2.1 pc = .ok (.laload, 1)) (hn : pc + 1 = q) (hi : vp_in i n) (kk : ks_W L xs M R q ls (.long (sg_ σ o i.toNatClampNeg) :: st) σ mc ms P) : ks_W L xs M R pc ls (.int i :: .ref o :: st) σ mc ms P := ka_lald hd hn hL.1 (hL.2.1 σ) hi kk
theorem ks_iald {o n : Nat} {i : Int32} (hL : ri_ o n) (hd : decode M.2.1 pc = .ok (.iaload, 1)) (hn : pc + 1 = q) (hi : vp_in i n) (kk : ks_W L xs M R q ls (.int (sf_ σ o i.toNatClampNeg) :: st) σ mc ms P) : ks_W L xs M R pc ls (.int i :: .ref o :: st) σ mc ms P := ka_iald hd hn hL.1 (hL.2.1 σ) hi kk
theorem ks_bald {o n : Nat} {i : Int32} (hL : rb_ o n) (hd : decode M.2.1 pc = .ok (.baload, 1)) (hn : pc + 1 = q) (hi : vp_in i n) (kk : ks_W L xs M R q ls (.int (sf_ σ o i.toNatClampNeg) :: st) σ mc ms P) : ks_W L xs M R pc ls (.int i :: .ref o :: st) σ mc ms P := ka_bald hd hn hL.1 (hL.2.1 σ) hi kk
theorem ks_last {o n : Nat} {i : Int32} {x : Int64} (hL : rl_ o n) (hd : decode M.2.1 pc = .ok (.lastore, 1)) (hn : pc + 1 = q) (hi : vp_in i n) (kk : ks_W L xs M R q ls st (ug_ σ o (vp_updL (sg_ σ o) i.toNatClampNeg x)) mc ms P) : ks_W L xs M R pc ls (.long x :: .int i :: .ref o :: st) σ mc ms P := ka_last hd hn hL.1 (hL.2.1 σ) hi (by rw [hL.2.2]; exact kk)
theorem ks_iast {o n : Nat} {i x : Int32} (hL : ri_ o n) (hd : decode M.2.1 pc = .ok (.iastore, 1)) (hn : pc + 1 = q) (hi : vp_in i n) (kk : ks_W L xs M R q ls st (uf_ σ o (upd (sf_ σ o) i.toNatClampNeg x)) mc ms P) : ks_W L xs M R pc ls (.int x :: .int i :: .ref o :: st) σ mc ms P := ka_iast hd hn hL.1 (hL.2.1 σ) hi (by rw [hL.2.2]; exact kk)
theorem ks_bast {o n : Nat} {i x : Int32} (hL : rb_ o n) (hd : decode M.2.1 pc = .ok (.bastore, 1)) (hn : pc + 1 = q) (hi : vp_in i n) (kk : ks_W L xs M R q ls st (uf_ σ o (upd (sf_ σ o) i.toNatClampNeg (vp_nar .byte x))) mc ms P) : ks_W L xs M R pc ls (.int x :: .int i :: .ref o :: st) σ mc ms P := ka_bast hd hn hL.1 (hL.2.1 σ) hi (by rw [hL.2.2]; exact kk)
theorem ks_llen {o n : Nat} (hL : rl_ o n) (hd : decode M.2.1 pc = .ok (.arraylength, 1)) (hn : pc + 1 = q) (kk : ks_W L xs M R q ls (.int (nI n) :: st) σ mc ms P) : ks_W L xs M R pc ls (.ref o :: st) σ mc ms P := ka_alen hd hn hL.1 (hL.2.1 σ) (by decide) kk
theorem ks_copyl {idx o0 o1 n0 n1 : Nat} {sp dp n : Int32} (hL0 : rl_ o0 n0) (hL1 : rl_ o1 n1) (hd : decode M.2.1 pc = .ok (.invokestatic idx, 3)) (hn : pc + 3 = q) (hlink : Cond.methodLink M.1.cls idx arraycopyName ∈ ka_T) (h1 : ¬ sp < 0) (h2 : ¬ dp < 0) (h3 : ¬ n < 0) (h4 : sp.toNatClampNeg + n.toNatClampNeg ≤ n0) (h5 : dp.toNatClampNeg + n.toNatClampNeg ≤ n1)
    (hframes : 1 ≤ R.frames) (hlocals : (st.map fun v => v.category).sum + (nativeFrameWords "java/lang/System" "arraycopy" 5 + 11) ≤ R.locals) (kk : ks_W L xs M R q ls st (ug_ σ o1 (va_cpy (sg_ σ o0) (sg_ σ o1) sp.toNatClampNeg dp.toNatClampNeg n.toNatClampNeg)) mc ms P) : ks_W L xs M R pc ls (.int n :: .int dp :: .ref o1 :: .int sp :: .ref o0 :: st) σ mc ms P :=
  ka_copyl hd hn hlink kp_n kp_s kp_i hL0.1 (hL0.2.1 σ) hL1.1 (hL1.2.1 σ) h1 h2 h3 h4 h5 hframes hlocals (by rw [hL1.2.2]; exact kk)
theorem gf_X4_0 {idx : Nat} (hd : decode M.2.1 pc = .ok (.getfield idx, 3)) (hn : pc + 3 = q) (hl : Cond.fieldLink M.1.cls idx (TX4 0).1 (TX4 0).2.1 (TX4 0).2.2.1 ∈ ka_T) (kk : ks_W L xs M R q ls (.int (si_ σ 0) :: st) σ mc ms P) : ks_W L xs M R pc ls (.ref 0 :: st) σ mc ms P := ka_get (ci := 4) (k := 0) hd hn (by decide) rfl rfl in_X4 (by decide) hl rfl kk
theorem gf_X4_1 {idx : Nat} (hd : decode M.2.1 pc = .ok (.getfield idx, 3)) (hn : pc + 3 = q) (hl : Cond.fieldLink M.1.cls idx (TX4 1).1 (TX4 1).2.1 (TX4 1).2.2.1 ∈ ka_T) (kk : ks_W L xs M R q ls (.ref 1 :: st) σ mc ms P) : ks_W L xs M R pc ls (.ref 0 :: st) σ mc ms P := ka_get (ci := 4) (k := 1) hd hn (by decide) rfl rfl in_X4 (by decide) hl rfl kk
theorem gf_X4_2 {idx : Nat} (hd : decode M.2.1 pc = .ok (.getfield idx, 3)) (hn : pc + 3 = q) (hl : Cond.fieldLink M.1.cls idx (TX4 2).1 (TX4 2).2.1 (TX4 2).2.2.1 ∈ ka_T) (kk : ks_W L xs M R q ls (.ref 2 :: st) σ mc ms P) : ks_W L xs M R pc ls (.ref 0 :: st) σ mc ms P := ka_get (ci := 4) (k := 2) hd hn (by decide) rfl rfl in_X4 (by decide) hl rfl kk
theorem gf_X4_3 {idx : Nat} (hd : decode M.2.1 pc = .ok (.getfield idx, 3)) (hn : pc + 3 = q) (hl : Cond.fieldLink M.1.cls idx (TX4 3).1 (TX4 3).2.1 (TX4 3).2.2.1 ∈ ka_T) (kk : ks_W L xs M R q ls (.int (si_ σ 1) :: st) σ mc ms P) : ks_W L xs M R pc ls (.ref 0 :: st) σ mc ms P := ka_get (ci := 4) (k := 3) hd hn (by decide) rfl rfl in_X4 (by decide) hl rfl kk
theorem pf_X4_3 {idx : Nat} {v : Int32} (hd : decode M.2.1 pc = .ok (.putfield idx, 3)) (hn : pc + 3 = q) (hl : Cond.fieldLink M.1.cls idx (TX4 3).1 (TX4 3).2.1 (TX4 3).2.2.1 ∈ ka_T) (kk : ks_W L xs M R q ls st (ui_ σ 1 v) mc ms P) : ks_W L xs M R pc ls (.int v :: .ref 0 :: st) σ mc ms P :=
  ka_put (ci := 4) (k := 3) (ty := .int) hd hn (by decide) rfl rfl in_X4 tyX4_ok nmX4 (by decide) hl rfl rfl (fun φ => rfl) (fun φ => rfl) (fun j e => by cases e) (Nat.le_of_ble_eq_true rfl) (by rw [kh_upd (σ' := ui_ σ 1 v) (by decide) rfl]; exact kk)
theorem gf_X4_4 {idx : Nat} (hd : decode M.2.1 pc = .ok (.getfield idx, 3)) (hn : pc + 3 = q) (hl : Cond.fieldLink M.1.cls idx (TX4 4).1 (TX4 4).2.1 (TX4 4).2.2.1 ∈ ka_T) (kk : ks_W L xs M R q ls (.ref 3 :: st) σ mc ms P) : ks_W L xs M R pc ls (.ref 0 :: st) σ mc ms P := ka_get (ci := 4) (k := 4) hd hn (by decide) rfl rfl in_X4 (by decide) hl rfl kk
theorem gf_X4_5 {idx : Nat} (hd : decode M.2.1 pc = .ok (.getfield idx, 3)) (hn : pc + 3 = q) (hl : Cond.fieldLink M.1.cls idx (TX4 5).1 (TX4 5).2.1 (TX4 5).2.2.1 ∈ ka_T) (kk : ks_W L xs M R q ls (.ref 4 :: st) σ mc ms P) : ks_W L xs M R pc ls (.ref 0 :: st) σ mc ms P := ka_get (ci := 4) (k := 5) hd hn (by decide) rfl rfl in_X4 (by decide) hl rfl kk
theorem gf_X4_6 {idx : Nat} (hd : decode M.2.1 pc = .ok (.getfield idx, 3)) (hn : pc + 3 = q) (hl : Cond.fieldLink M.1.cls idx (TX4 6).1 (TX4 6).2.1 (TX4 6).2.2.1 ∈ ka_T) (kk : ks_W L xs M R q ls (.ref 5 :: st) σ mc ms P) : ks_W L xs M R pc ls (.ref 0 :: st) σ mc ms P := ka_get (ci := 4) (k := 6) hd hn (by decide) rfl rfl in_X4 (by decide) hl rfl kk
theorem gf_X4_7 {idx : Nat} (hd : decode M.2.1 pc = .ok (.getfield idx, 3)) (hn : pc + 3 = q) (hl : Cond.fieldLink M.1.cls idx (TX4 7).1 (TX4 7).2.1 (TX4 7).2.2.1 ∈ ka_T) (kk : ks_W L xs M R q ls (.ref 6 :: st) σ mc ms P) : ks_W L xs M R pc ls (.ref 0 :: st) σ mc ms P := ka_get (ci := 4) (k := 7) hd hn (by decide) rfl rfl in_X4 (by decide) hl rfl kk
theorem gf_X4_8 {idx : Nat} (hd : decode M.2.1 pc = .ok (.getfield idx, 3)) (hn : pc + 3 = q) (hl : Cond.fieldLink M.1.cls idx (TX4 8).1 (TX4 8).2.1 (TX4 8).2.2.1 ∈ ka_T) (kk : ks_W L xs M R q ls (.ref 16 :: st) σ mc ms P) : ks_W L xs M R pc ls (.ref 0 :: st) σ mc ms P := ka_get (ci := 4) (k := 8) hd hn (by decide) rfl rfl in_X4 (by decide) hl rfl kk
theorem gf_X1_0 {idx : Nat} (hd : decode M.2.1 pc = .ok (.getfield idx, 3)) (hn : pc + 3 = q) (hl : Cond.fieldLink M.1.cls idx (TX1 0).1 (TX1 0).2.1 (TX1 0).2.2.1 ∈ ka_T) (kk : ks_W L xs M R q ls (.int (si_ σ 2) :: st) σ mc ms P) : ks_W L xs M R pc ls (.ref 6 :: st) σ mc ms P := ka_get (ci := 2) (k := 0) hd hn (by decide) rfl rfl in_X1 (by decide) hl rfl kk
theorem pf_X1_0 {idx : Nat} {v : Int32} (hd : decode M.2.1 pc = .ok (.putfield idx, 3)) (hn : pc + 3 = q) (hl : Cond.fieldLink M.1.cls idx (TX1 0).1 (TX1 0).2.1 (TX1 0).2.2.1 ∈ ka_T) (kk : ks_W L xs M R q ls st (ui_ σ 2 v) mc ms P) : ks_W L xs M R pc ls (.int v :: .ref 6 :: st) σ mc ms P :=
  ka_put (ci := 2) (k := 0) (ty := .int) hd hn (by decide) rfl rfl in_X1 tyX1_ok nmX1 (by decide) hl rfl rfl (fun φ => rfl) (fun φ => rfl) (fun j e => by cases e) (Nat.le_of_ble_eq_true rfl) (by rw [kh_upd (σ' := ui_ σ 2 v) (by decide) rfl]; exact kk)
theorem gf_X1_1 {idx : Nat} (hd : decode M.2.1 pc = .ok (.getfield idx, 3)) (hn : pc + 3 = q) (hl : Cond.fieldLink M.1.cls idx (TX1 1).1 (TX1 1).2.1 (TX1 1).2.2.1 ∈ ka_T) (kk : ks_W L xs M R q ls (.int (si_ σ 3) :: st) σ mc ms P) : ks_W L xs M R pc ls (.ref 6 :: st) σ mc ms P := ka_get (ci := 2) (k := 1) hd hn (by decide) rfl rfl in_X1 (by decide) hl rfl kk
theorem pf_X1_1 {idx : Nat} {v : Int32} (hd : decode M.2.1 pc = .ok (.putfield idx, 3)) (hn : pc + 3 = q) (hl : Cond.fieldLink M.1.cls idx (TX1 1).1 (TX1 1).2.1 (TX1 1).2.2.1 ∈ ka_T) (kk : ks_W L xs M R q ls st (ui_ σ 3 v) mc ms P) : ks_W L xs M R pc ls (.int v :: .ref 6 :: st) σ mc ms P :=
  ka_put (ci := 2) (k := 1) (ty := .int) hd hn (by decide) rfl rfl in_X1 tyX1_ok nmX1 (by decide) hl rfl rfl (fun φ => rfl) (fun φ => rfl) (fun j e => by cases e) (Nat.le_of_ble_eq_true rfl) (by rw [kh_upd (σ' := ui_ σ 3 v) (by decide) rfl]; exact kk)
theorem gf_X1_2 {idx : Nat} (hd : decode M.2.1 pc = .ok (.getfield idx, 3)) (hn : pc + 3 = q) (hl : Cond.fieldLink M.1.cls idx (TX1 2).1 (TX1 2).2.1 (TX1 2).2.2.1 ∈ ka_T) (kk : ks_W L xs M R q ls (.int (si_ σ 4) :: st) σ mc ms P) : ks_W L xs M R pc ls (.ref 6 :: st) σ mc ms P := ka_get (ci := 2) (k := 2) hd hn (by decide) rfl rfl in_X1 (by decide) hl rfl kk
theorem pf_X1_2 {idx : Nat} {v : Int32} (hd : decode M.2.1 pc = .ok (.putfield idx, 3)) (hn : pc + 3 = q) (hl : Cond.fieldLink M.1.cls idx (TX1 2).1 (TX1 2).2.1 (TX1 2).2.2.1 ∈ ka_T) (kk : ks_W L xs M R q ls st (ui_ σ 4 v) mc ms P) : ks_W L xs M R pc ls (.int v :: .ref 6 :: st) σ mc ms P :=
  ka_put (ci := 2) (k := 2) (ty := .int) hd hn (by decide) rfl rfl in_X1 tyX1_ok nmX1 (by decide) hl rfl rfl (fun φ => rfl) (fun φ => rfl) (fun j e => by cases e) (Nat.le_of_ble_eq_true rfl) (by rw [kh_upd (σ' := ui_ σ 4 v) (by decide) rfl]; exact kk)
theorem gf_X1_3 {idx : Nat} (hd : decode M.2.1 pc = .ok (.getfield idx, 3)) (hn : pc + 3 = q) (hl : Cond.fieldLink M.1.cls idx (TX1 3).1 (TX1 3).2.1 (TX1 3).2.2.1 ∈ ka_T) (kk : ks_W L xs M R q ls (.int (si_ σ 5) :: st) σ mc ms P) : ks_W L xs M R pc ls (.ref 6 :: st) σ mc ms P := ka_get (ci := 2) (k := 3) hd hn (by decide) rfl rfl in_X1 (by decide) hl rfl kk
theorem pf_X1_3 {idx : Nat} {v : Int32} (hd : decode M.2.1 pc = .ok (.putfield idx, 3)) (hn : pc + 3 = q) (hl : Cond.fieldLink M.1.cls idx (TX1 3).1 (TX1 3).2.1 (TX1 3).2.2.1 ∈ ka_T) (kk : ks_W L xs M R q ls st (ui_ σ 5 v) mc ms P) : ks_W L xs M R pc ls (.int v :: .ref 6 :: st) σ mc ms P :=
  ka_put (ci := 2) (k := 3) (ty := .int) hd hn (by decide) rfl rfl in_X1 tyX1_ok nmX1 (by decide) hl rfl rfl (fun φ => rfl) (fun φ => rfl) (fun j e => by cases e) (Nat.le_of_ble_eq_true rfl) (by rw [kh_upd (σ' := ui_ σ 5 v) (by decide) rfl]; exact kk)
theorem gf_X1_4 {idx : Nat} (hd : decode M.2.1 pc = .ok (.getfield idx, 3)) (hn : pc + 3 = q) (hl : Cond.fieldLink M.1.cls idx (TX1 4).1 (TX1 4).2.1 (TX1 4).2.2.1 ∈ ka_T) (kk : ks_W L xs M R q ls (.int (si_ σ 6) :: st) σ mc ms P) : ks_W L xs M R pc ls (.ref 6 :: st) σ mc ms P := ka_get (ci := 2) (k := 4) hd hn (by decide) rfl rfl in_X1 (by decide) hl rfl kk
theorem pf_X1_4 {idx : Nat} {v : Int32} (hd : decode M.2.1 pc = .ok (.putfield idx, 3)) (hn : pc + 3 = q) (hl : Cond.fieldLink M.1.cls idx (TX1 4).1 (TX1 4).2.1 (TX1 4).2.2.1 ∈ ka_T) (kk : ks_W L xs M R q ls st (ui_ σ 6 v) mc ms P) : ks_W L xs M R pc ls (.int v :: .ref 6 :: st) σ mc ms P :=
  ka_put (ci := 2) (k := 4) (ty := .int) hd hn (by decide) rfl rfl in_X1 tyX1_ok nmX1 (by decide) hl rfl rfl (fun φ => rfl) (fun φ => rfl) (fun j e => by cases e) (Nat.le_of_ble_eq_true rfl) (by rw [kh_upd (σ' := ui_ σ 6 v) (by decide) rfl]; exact kk)
theorem gf_X1_5 {idx : Nat} (hd : decode M.2.1 pc = .ok (.getfield idx, 3)) (hn : pc + 3 = q) (hl : Cond.fieldLink M.1.cls idx (TX1 5).1 (TX1 5).2.1 (TX1 5).2.2.1 ∈ ka_T) (kk : ks_W L xs M R q ls (.ref 7 :: st) σ mc ms P) : ks_W L xs M R pc ls (.ref 6 :: st) σ mc ms P := ka_get (ci := 2) (k := 5) hd hn (by decide) rfl rfl in_X1 (by decide) hl rfl kk
theorem gf_X1_6 {idx : Nat} (hd : decode M.2.1 pc = .ok (.getfield idx, 3)) (hn : pc + 3 = q) (hl : Cond.fieldLink M.1.cls idx (TX1 6).1 (TX1 6).2.1 (TX1 6).2.2.1 ∈ ka_T) (kk : ks_W L xs M R q ls (.ref 15 :: st) σ mc ms P) : ks_W L xs M R pc ls (.ref 6 :: st) σ mc ms P := ka_get (ci := 2) (k := 6) hd hn (by decide) rfl rfl in_X1 (by decide) hl rfl kk
theorem gf_X0_0 {idx : Nat} (hd : decode M.2.1 pc = .ok (.getfield idx, 3)) (hn : pc + 3 = q) (hl : Cond.fieldLink M.1.cls idx (TX0 0).1 (TX0 0).2.1 (TX0 0).2.2.1 ∈ ka_T) (kk : ks_W L xs M R q ls (.ref 8 :: st) σ mc ms P) : ks_W L xs M R pc ls (.ref 7 :: st) σ mc ms P := ka_get (ci := 1) (k := 0) hd hn (by decide) rfl rfl in_X0 (by decide) hl rfl kk
theorem gf_X0_1 {idx : Nat} (hd : decode M.2.1 pc = .ok (.getfield idx, 3)) (hn : pc + 3 = q) (hl : Cond.fieldLink M.1.cls idx (TX0 1).1 (TX0 1).2.1 (TX0 1).2.2.1 ∈ ka_T) (kk : ks_W L xs M R q ls (.ref 9 :: st) σ mc ms P) : ks_W L xs M R pc ls (.ref 7 :: st) σ mc ms P := ka_get (ci := 1) (k := 1) hd hn (by decide) rfl rfl in_X0 (by decide) hl rfl kk
theorem gf_X0_2 {idx : Nat} (hd : decode M.2.1 pc = .ok (.getfield idx, 3)) (hn : pc + 3 = q) (hl : Cond.fieldLink M.1.cls idx (TX0 2).1 (TX0 2).2.1 (TX0 2).2.2.1 ∈ ka_T) (kk : ks_W L xs M R q ls (.ref 10 :: st) σ mc ms P) : ks_W L xs M R pc ls (.ref 7 :: st) σ mc ms P := ka_get (ci := 1) (k := 2) hd hn (by decide) rfl rfl in_X0 (by decide) hl rfl kk
theorem gf_X0_3 {idx : Nat} (hd : decode M.2.1 pc = .ok (.getfield idx, 3)) (hn : pc + 3 = q) (hl : Cond.fieldLink M.1.cls idx (TX0 3).1 (TX0 3).2.1 (TX0 3).2.2.1 ∈ ka_T) (kk : ks_W L xs M R q ls (.ref 11 :: st) σ mc ms P) : ks_W L xs M R pc ls (.ref 7 :: st) σ mc ms P := ka_get (ci := 1) (k := 3) hd hn (by decide) rfl rfl in_X0 (by decide) hl rfl kk
theorem gf_X0_4 {idx : Nat} (hd : decode M.2.1 pc = .ok (.getfield idx, 3)) (hn : pc + 3 = q) (hl : Cond.fieldLink M.1.cls idx (TX0 4).1 (TX0 4).2.1 (TX0 4).2.2.1 ∈ ka_T) (kk : ks_W L xs M R q ls (.ref 12 :: st) σ mc ms P) : ks_W L xs M R pc ls (.ref 7 :: st) σ mc ms P := ka_get (ci := 1) (k := 4) hd hn (by decide) rfl rfl in_X0 (by decide) hl rfl kk
theorem gf_X0_5 {idx : Nat} (hd : decode M.2.1 pc = .ok (.getfield idx, 3)) (hn : pc + 3 = q) (hl : Cond.fieldLink M.1.cls idx (TX0 5).1 (TX0 5).2.1 (TX0 5).2.2.1 ∈ ka_T) (kk : ks_W L xs M R q ls (.ref 13 :: st) σ mc ms P) : ks_W L xs M R pc ls (.ref 7 :: st) σ mc ms P := ka_get (ci := 1) (k := 5) hd hn (by decide) rfl rfl in_X0 (by decide) hl rfl kk
theorem gf_X0_6 {idx : Nat} (hd : decode M.2.1 pc = .ok (.getfield idx, 3)) (hn : pc + 3 = q) (hl : Cond.fieldLink M.1.cls idx (TX0 6).1 (TX0 6).2.1 (TX0 6).2.2.1 ∈ ka_T) (kk : ks_W L xs M R q ls (.ref 14 :: st) σ mc ms P) : ks_W L xs M R pc ls (.ref 7 :: st) σ mc ms P := ka_get (ci := 1) (k := 6) hd hn (by decide) rfl rfl in_X0 (by decide) hl rfl kk
theorem gf_X2_0 {idx : Nat} (hd : decode M.2.1 pc = .ok (.getfield idx, 3)) (hn : pc + 3 = q) (hl : Cond.fieldLink M.1.cls idx (TX2 0).1 (TX2 0).2.1 (TX2 0).2.2.1 ∈ ka_T) (kk : ks_W L xs M R q ls (.int (si_ σ 7) :: st) σ mc ms P) : ks_W L xs M R pc ls (.ref 16 :: st) σ mc ms P := ka_get (ci := 3) (k := 0) hd hn (by decide) rfl rfl in_X2 (by decide) hl rfl kk
theorem pf_X2_0 {idx : Nat} {v : Int32} (hd : decode M.2.1 pc = .ok (.putfield idx, 3)) (hn : pc + 3 = q) (hl : Cond.fieldLink M.1.cls idx (TX2 0).1 (TX2 0).2.1 (TX2 0).2.2.1 ∈ ka_T) (kk : ks_W L xs M R q ls st (ui_ σ 7 v) mc ms P) : ks_W L xs M R pc ls (.int v :: .ref 16 :: st) σ mc ms P :=
  ka_put (ci := 3) (k := 0) (ty := .int) hd hn (by decide) rfl rfl in_X2 tyX2_ok nmX2 (by decide) hl rfl rfl (fun φ => rfl) (fun φ => rfl) (fun j e => by cases e) (Nat.le_of_ble_eq_true rfl) (by rw [kh_upd (σ' := ui_ σ 7 v) (by decide) rfl]; exact kk)
theorem gf_X2_1 {idx : Nat} (hd : decode M.2.1 pc = .ok (.getfield idx, 3)) (hn : pc + 3 = q) (hl : Cond.fieldLink M.1.cls idx (TX2 1).1 (TX2 1).2.1 (TX2 1).2.2.1 ∈ ka_T) (kk : ks_W L xs M R q ls (.int (si_ σ 8) :: st) σ mc ms P) : ks_W L xs M R pc ls (.ref 16 :: st) σ mc ms P := ka_get (ci := 3) (k := 1) hd hn (by decide) rfl rfl in_X2 (by decide) hl rfl kk
theorem pf_X2_1 {idx : Nat} {v : Int32} (hd : decode M.2.1 pc = .ok (.putfield idx, 3)) (hn : pc + 3 = q) (hl : Cond.fieldLink M.1.cls idx (TX2 1).1 (TX2 1).2.1 (TX2 1).2.2.1 ∈ ka_T) (kk : ks_W L xs M R q ls st (ui_ σ 8 v) mc ms P) : ks_W L xs M R pc ls (.int v :: .ref 16 :: st) σ mc ms P :=
  ka_put (ci := 3) (k := 1) (ty := .int) hd hn (by decide) rfl rfl in_X2 tyX2_ok nmX2 (by decide) hl rfl rfl (fun φ => rfl) (fun φ => rfl) (fun j e => by cases e) (Nat.le_of_ble_eq_true rfl) (by rw [kh_upd (σ' := ui_ σ 8 v) (by decide) rfl]; exact kk)
theorem gf_X2_2 {idx : Nat} (hd : decode M.2.1 pc = .ok (.getfield idx, 3)) (hn : pc + 3 = q) (hl : Cond.fieldLink M.1.cls idx (TX2 2).1 (TX2 2).2.1 (TX2 2).2.2.1 ∈ ka_T) (kk : ks_W L xs M R q ls (.int (si_ σ 9) :: st) σ mc ms P) : ks_W L xs M R pc ls (.ref 16 :: st) σ mc ms P := ka_get (ci := 3) (k := 2) hd hn (by decide) rfl rfl in_X2 (by decide) hl rfl kk
theorem pf_X2_2 {idx : Nat} {v : Int32} (hd : decode M.2.1 pc = .ok (.putfield idx, 3)) (hn : pc + 3 = q) (hl : Cond.fieldLink M.1.cls idx (TX2 2).1 (TX2 2).2.1 (TX2 2).2.2.1 ∈ ka_T) (kk : ks_W L xs M R q ls st (ui_ σ 9 v) mc ms P) : ks_W L xs M R pc ls (.int v :: .ref 16 :: st) σ mc ms P :=
  ka_put (ci := 3) (k := 2) (ty := .int) hd hn (by decide) rfl rfl in_X2 tyX2_ok nmX2 (by decide) hl rfl rfl (fun φ => rfl) (fun φ => rfl) (fun j e => by cases e) (Nat.le_of_ble_eq_true rfl) (by rw [kh_upd (σ' := ui_ σ 9 v) (by decide) rfl]; exact kk)
theorem gf_X2_3 {idx : Nat} (hd : decode M.2.1 pc = .ok (.getfield idx, 3)) (hn : pc + 3 = q) (hl : Cond.fieldLink M.1.cls idx (TX2 3).1 (TX2 3).2.1 (TX2 3).2.2.1 ∈ ka_T) (kk : ks_W L xs M R q ls (.int (si_ σ 10) :: st) σ mc ms P) : ks_W L xs M R pc ls (.ref 16 :: st) σ mc ms P := ka_get (ci := 3) (k := 3) hd hn (by decide) rfl rfl in_X2 (by decide) hl rfl kk
theorem pf_X2_3 {idx : Nat} {v : Int32} (hd : decode M.2.1 pc = .ok (.putfield idx, 3)) (hn : pc + 3 = q) (hl : Cond.fieldLink M.1.cls idx (TX2 3).1 (TX2 3).2.1 (TX2 3).2.2.1 ∈ ka_T) (kk : ks_W L xs M R q ls st (ui_ σ 10 v) mc ms P) : ks_W L xs M R pc ls (.int v :: .ref 16 :: st) σ mc ms P :=
  ka_put (ci := 3) (k := 3) (ty := .int) hd hn (by decide) rfl rfl in_X2 tyX2_ok nmX2 (by decide) hl rfl rfl (fun φ => rfl) (fun φ => rfl) (fun j e => by cases e) (Nat.le_of_ble_eq_true rfl) (by rw [kh_upd (σ' := ui_ σ 10 v) (by decide) rfl]; exact kk)
theorem gf_X2_4 {idx : Nat} (hd : decode M.2.1 pc = .ok (.getfield idx, 3)) (hn : pc + 3 = q) (hl : Cond.fieldLink M.1.cls idx (TX2 4).1 (TX2 4).2.1 (TX2 4).2.2.1 ∈ ka_T) (kk : ks_W L xs M R q ls (.int (si_ σ 11) :: st) σ mc ms P) : ks_W L xs M R pc ls (.ref 16 :: st) σ mc ms P := ka_get (ci := 3) (k := 4) hd hn (by decide) rfl rfl in_X2 (by decide) hl rfl kk
theorem pf_X2_4 {idx : Nat} {v : Int32} (hd : decode M.2.1 pc = .ok (.putfield idx, 3)) (hn : pc + 3 = q) (hl : Cond.fieldLink M.1.cls idx (TX2 4).1 (TX2 4).2.1 (TX2 4).2.2.1 ∈ ka_T) (kk : ks_W L xs M R q ls st (ui_ σ 11 v) mc ms P) : ks_W L xs M R pc ls (.int v :: .ref 16 :: st) σ mc ms P :=
  ka_put (ci := 3) (k := 4) (ty := .int) hd hn (by decide) rfl rfl in_X2 tyX2_ok nmX2 (by decide) hl rfl rfl (fun φ => rfl) (fun φ => rfl) (fun j e => by cases e) (Nat.le_of_ble_eq_true rfl) (by rw [kh_upd (σ' := ui_ σ 11 v) (by decide) rfl]; exact kk)
theorem gf_X2_5 {idx : Nat} (hd : decode M.2.1 pc = .ok (.getfield idx, 3)) (hn : pc + 3 = q) (hl : Cond.fieldLink M.1.cls idx (TX2 5).1 (TX2 5).2.1 (TX2 5).2.2.1 ∈ ka_T) (kk : ks_W L xs M R q ls (.long (sj_ σ 0) :: st) σ mc ms P) : ks_W L xs M R pc ls (.ref 16 :: st) σ mc ms P := ka_get (ci := 3) (k := 5) hd hn (by decide) rfl rfl in_X2 (by decide) hl rfl kk
theorem pf_X2_5 {idx : Nat} {v : Int64} (hd : decode M.2.1 pc = .ok (.putfield idx, 3)) (hn : pc + 3 = q) (hl : Cond.fieldLink M.1.cls idx (TX2 5).1 (TX2 5).2.1 (TX2 5).2.2.1 ∈ ka_T) (kk : ks_W L xs M R q ls st (uj_ σ 0 v) mc ms P) : ks_W L xs M R pc ls (.long v :: .ref 16 :: st) σ mc ms P :=
  ka_put (ci := 3) (k := 5) (ty := .long) hd hn (by decide) rfl rfl in_X2 tyX2_ok nmX2 (by decide) hl rfl rfl (fun φ => rfl) (fun φ => rfl) (fun j e => by cases e) (Nat.le_of_ble_eq_true rfl) (by rw [kh_upd (σ' := uj_ σ 0 v) (by decide) rfl]; exact kk)
theorem gf_X2_6 {idx : Nat} (hd : decode M.2.1 pc = .ok (.getfield idx, 3)) (hn : pc + 3 = q) (hl : Cond.fieldLink M.1.cls idx (TX2 6).1 (TX2 6).2.1 (TX2 6).2.2.1 ∈ ka_T) (kk : ks_W L xs M R q ls (.int (si_ σ 12) :: st) σ mc ms P) : ks_W L xs M R pc ls (.ref 16 :: st) σ mc ms P := ka_get (ci := 3) (k := 6) hd hn (by decide) rfl rfl in_X2 (by decide) hl rfl kk
theorem pf_X2_6 {idx : Nat} {v : Int32} (hd : decode M.2.1 pc = .ok (.putfield idx, 3)) (hn : pc + 3 = q) (hl : Cond.fieldLink M.1.cls idx (TX2 6).1 (TX2 6).2.1 (TX2 6).2.2.1 ∈ ka_T) (hv : v = 0 ∨ v = 1) (kk : ks_W L xs M R q ls st (ui_ σ 12 v) mc ms P) : ks_W L xs M R pc ls (.int v :: .ref 16 :: st) σ mc ms P :=
  ka_put (ci := 3) (k := 6) (ty := .boolean) hd hn (by decide) rfl rfl in_X2 tyX2_ok nmX2 (by decide) hl rfl rfl (fun φ => by rcases hv with rfl | rfl <;> rfl) (fun φ => by rcases hv with rfl | rfl <;> rfl) (fun j e => by cases e) (Nat.le_of_ble_eq_true rfl) (by rw [kh_upd (σ' := ui_ σ 12 v) (by decide) rfl]; exact kk)
theorem gf_X2_7 {idx : Nat} (hd : decode M.2.1 pc = .ok (.getfield idx, 3)) (hn : pc + 3 = q) (hl : Cond.fieldLink M.1.cls idx (TX2 7).1 (TX2 7).2.1 (TX2 7).2.2.1 ∈ ka_T) (kk : ks_W L xs M R q ls (.long (sj_ σ 1) :: st) σ mc ms P) : ks_W L xs M R pc ls (.ref 16 :: st) σ mc ms P := ka_get (ci := 3) (k := 7) hd hn (by decide) rfl rfl in_X2 (by decide) hl rfl kk
theorem pf_X2_7 {idx : Nat} {v : Int64} (hd : decode M.2.1 pc = .ok (.putfield idx, 3)) (hn : pc + 3 = q) (hl : Cond.fieldLink M.1.cls idx (TX2 7).1 (TX2 7).2.1 (TX2 7).2.2.1 ∈ ka_T) (kk : ks_W L xs M R q ls st (uj_ σ 1 v) mc ms P) : ks_W L xs M R pc ls (.long v :: .ref 16 :: st) σ mc ms P :=
  ka_put (ci := 3) (k := 7) (ty := .long) hd hn (by decide) rfl rfl in_X2 tyX2_ok nmX2 (by decide) hl rfl rfl (fun φ => rfl) (fun φ => rfl) (fun j e => by cases e) (Nat.le_of_ble_eq_true rfl) (by rw [kh_upd (σ' := uj_ σ 1 v) (by decide) rfl]; exact kk)
theorem gf_X2_8 {idx : Nat} (hd : decode M.2.1 pc = .ok (.getfield idx, 3)) (hn : pc + 3 = q) (hl : Cond.fieldLink M.1.cls idx (TX2 8).1 (TX2 8).2.1 (TX2 8).2.2.1 ∈ ka_T) (kk : ks_W L xs M R q ls (.int (si_ σ 13) :: st) σ mc ms P) : ks_W L xs M R pc ls (.ref 16 :: st) σ mc ms P := ka_get (ci := 3) (k := 8) hd hn (by decide) rfl rfl in_X2 (by decide) hl rfl kk
theorem pf_X2_8 {idx : Nat} {v : Int32} (hd : decode M.2.1 pc = .ok (.putfield idx, 3)) (hn : pc + 3 = q) (hl : Cond.fieldLink M.1.cls idx (TX2 8).1 (TX2 8).2.1 (TX2 8).2.2.1 ∈ ka_T) (kk : ks_W L xs M R q ls st (ui_ σ 13 v) mc ms P) : ks_W L xs M R pc ls (.int v :: .ref 16 :: st) σ mc ms P :=
  ka_put (ci := 3) (k := 8) (ty := .int) hd hn (by decide) rfl rfl in_X2 tyX2_ok nmX2 (by decide) hl rfl rfl (fun φ => rfl) (fun φ => rfl) (fun j e => by cases e) (Nat.le_of_ble_eq_true rfl) (by rw [kh_upd (σ' := ui_ σ 13 v) (by decide) rfl]; exact kk)
theorem gf_X5_0 {idx : Nat} (hd : decode M.2.1 pc = .ok (.getfield idx, 3)) (hn : pc + 3 = q) (hl : Cond.fieldLink M.1.cls idx (TX5 0).1 (TX5 0).2.1 (TX5 0).2.2.1 ∈ ka_T) (kk : ks_W L xs M R q ls (.int (si_ σ 14) :: st) σ mc ms P) : ks_W L xs M R pc ls (.ref 17 :: st) σ mc ms P := ka_get (ci := 5) (k := 0) hd hn (by decide) rfl rfl in_X5 (by decide) hl rfl kk
theorem pf_X5_0 {idx : Nat} {v : Int32} (hd : decode M.2.1 pc = .ok (.putfield idx, 3)) (hn : pc + 3 = q) (hl : Cond.fieldLink M.1.cls idx (TX5 0).1 (TX5 0).2.1 (TX5 0).2.2.1 ∈ ka_T) (kk : ks_W L xs M R q ls st (ui_ σ 14 v) mc ms P) : ks_W L xs M R pc ls (.int v :: .ref 17 :: st) σ mc ms P :=
  ka_put (ci := 5) (k := 0) (ty := .int) hd hn (by decide) rfl rfl in_X5 tyX5_ok nmX5 (by decide) hl rfl rfl (fun φ => rfl) (fun φ => rfl) (fun j e => by cases e) (Nat.le_of_ble_eq_true rfl) (by rw [kh_upd (σ' := ui_ σ 14 v) (by decide) rfl]; exact kk)
theorem gf_X5_1 {idx : Nat} (hd : decode M.2.1 pc = .ok (.getfield idx, 3)) (hn : pc + 3 = q) (hl : Cond.fieldLink M.1.cls idx (TX5 1).1 (TX5 1).2.1 (TX5 1).2.2.1 ∈ ka_T) (kk : ks_W L xs M R q ls (.int (si_ σ 15) :: st) σ mc ms P) : ks_W L xs M R pc ls (.ref 17 :: st) σ mc ms P := ka_get (ci := 5) (k := 1) hd hn (by decide) rfl rfl in_X5 (by decide) hl rfl kk
theorem gf_X5_2 {idx : Nat} (hd : decode M.2.1 pc = .ok (.getfield idx, 3)) (hn : pc + 3 = q) (hl : Cond.fieldLink M.1.cls idx (TX5 2).1 (TX5 2).2.1 (TX5 2).2.2.1 ∈ ka_T) (kk : ks_W L xs M R q ls (.int (si_ σ 16) :: st) σ mc ms P) : ks_W L xs M R pc ls (.ref 17 :: st) σ mc ms P := ka_get (ci := 5) (k := 2) hd hn (by decide) rfl rfl in_X5 (by decide) hl rfl kk
theorem pf_X5_2 {idx : Nat} {v : Int32} (hd : decode M.2.1 pc = .ok (.putfield idx, 3)) (hn : pc + 3 = q) (hl : Cond.fieldLink M.1.cls idx (TX5 2).1 (TX5 2).2.1 (TX5 2).2.2.1 ∈ ka_T) (kk : ks_W L xs M R q ls st (ui_ σ 16 v) mc ms P) : ks_W L xs M R pc ls (.int v :: .ref 17 :: st) σ mc ms P :=
  ka_put (ci := 5) (k := 2) (ty := .int) hd hn (by decide) rfl rfl in_X5 tyX5_ok nmX5 (by decide) hl rfl rfl (fun φ => rfl) (fun φ => rfl) (fun j e => by cases e) (Nat.le_of_ble_eq_true rfl) (by rw [kh_upd (σ' := ui_ σ 16 v) (by decide) rfl]; exact kk)
theorem gf_X5_3 {idx : Nat} (hd : decode M.2.1 pc = .ok (.getfield idx, 3)) (hn : pc + 3 = q) (hl : Cond.fieldLink M.1.cls idx (TX5 3).1 (TX5 3).2.1 (TX5 3).2.2.1 ∈ ka_T) (kk : ks_W L xs M R q ls (.ref 18 :: st) σ mc ms P) : ks_W L xs M R pc ls (.ref 17 :: st) σ mc ms P := ka_get (ci := 5) (k := 3) hd hn (by decide) rfl rfl in_X5 (by decide) hl rfl kk
theorem gf_X5_4 {idx : Nat} (hd : decode M.2.1 pc = .ok (.getfield idx, 3)) (hn : pc + 3 = q) (hl : Cond.fieldLink M.1.cls idx (TX5 4).1 (TX5 4).2.1 (TX5 4).2.2.1 ∈ ka_T) (kk : ks_W L xs M R q ls (.ref 19 :: st) σ mc ms P) : ks_W L xs M R pc ls (.ref 17 :: st) σ mc ms P := ka_get (ci := 5) (k := 4) hd hn (by decide) rfl rfl in_X5 (by decide) hl rfl kk
theorem gf_X5_5 {idx : Nat} (hd : decode M.2.1 pc = .ok (.getfield idx, 3)) (hn : pc + 3 = q) (hl : Cond.fieldLink M.1.cls idx (TX5 5).1 (TX5 5).2.1 (TX5 5).2.2.1 ∈ ka_T) (kk : ks_W L xs M R q ls (.ref 20 :: st) σ mc ms P) : ks_W L xs M R pc ls (.ref 17 :: st) σ mc ms P := ka_get (ci := 5) (k := 5) hd hn (by decide) rfl rfl in_X5 (by decide) hl rfl kk
theorem gf_X5_6 {idx : Nat} (hd : decode M.2.1 pc = .ok (.getfield idx, 3)) (hn : pc + 3 = q) (hl : Cond.fieldLink M.1.cls idx (TX5 6).1 (TX5 6).2.1 (TX5 6).2.2.1 ∈ ka_T) (kk : ks_W L xs M R q ls (.int (si_ σ 17) :: st) σ mc ms P) : ks_W L xs M R pc ls (.ref 17 :: st) σ mc ms P := ka_get (ci := 5) (k := 6) hd hn (by decide) rfl rfl in_X5 (by decide) hl rfl kk
theorem pf_X5_6 {idx : Nat} {v : Int32} (hd : decode M.2.1 pc = .ok (.putfield idx, 3)) (hn : pc + 3 = q) (hl : Cond.fieldLink M.1.cls idx (TX5 6).1 (TX5 6).2.1 (TX5 6).2.2.1 ∈ ka_T) (kk : ks_W L xs M R q ls st (ui_ σ 17 v) mc ms P) : ks_W L xs M R pc ls (.int v :: .ref 17 :: st) σ mc ms P :=
  ka_put (ci := 5) (k := 6) (ty := .int) hd hn (by decide) rfl rfl in_X5 tyX5_ok nmX5 (by decide) hl rfl rfl (fun φ => rfl) (fun φ => rfl) (fun j e => by cases e) (Nat.le_of_ble_eq_true rfl) (by rw [kh_upd (σ' := ui_ σ 17 v) (by decide) rfl]; exact kk)
theorem gf_X5_7 {idx : Nat} (hd : decode M.2.1 pc = .ok (.getfield idx, 3)) (hn : pc + 3 = q) (hl : Cond.fieldLink M.1.cls idx (TX5 7).1 (TX5 7).2.1 (TX5 7).2.2.1 ∈ ka_T) (kk : ks_W L xs M R q ls (.ref 21 :: st) σ mc ms P) : ks_W L xs M R pc ls (.ref 17 :: st) σ mc ms P := ka_get (ci := 5) (k := 7) hd hn (by decide) rfl rfl in_X5 (by decide) hl rfl kk
theorem gf_X5_8 {idx : Nat} (hd : decode M.2.1 pc = .ok (.getfield idx, 3)) (hn : pc + 3 = q) (hl : Cond.fieldLink M.1.cls idx (TX5 8).1 (TX5 8).2.1 (TX5 8).2.2.1 ∈ ka_T) (kk : ks_W L xs M R q ls (.ref 22 :: st) σ mc ms P) : ks_W L xs M R pc ls (.ref 17 :: st) σ mc ms P := ka_get (ci := 5) (k := 8) hd hn (by decide) rfl rfl in_X5 (by decide) hl rfl kk
theorem gf_X5_9 {idx : Nat} (hd : decode M.2.1 pc = .ok (.getfield idx, 3)) (hn : pc + 3 = q) (hl : Cond.fieldLink M.1.cls idx (TX5 9).1 (TX5 9).2.1 (TX5 9).2.2.1 ∈ ka_T) (kk : ks_W L xs M R q ls (.ref 23 :: st) σ mc ms P) : ks_W L xs M R pc ls (.ref 17 :: st) σ mc ms P := ka_get (ci := 5) (k := 9) hd hn (by decide) rfl rfl in_X5 (by decide) hl rfl kk
theorem gf_X5_10 {idx : Nat} (hd : decode M.2.1 pc = .ok (.getfield idx, 3)) (hn : pc + 3 = q) (hl : Cond.fieldLink M.1.cls idx (TX5 10).1 (TX5 10).2.1 (TX5 10).2.2.1 ∈ ka_T) (kk : ks_W L xs M R q ls (.ref 24 :: st) σ mc ms P) : ks_W L xs M R pc ls (.ref 17 :: st) σ mc ms P := ka_get (ci := 5) (k := 10) hd hn (by decide) rfl rfl in_X5 (by decide) hl rfl kk
theorem gf_X5_11 {idx : Nat} (hd : decode M.2.1 pc = .ok (.getfield idx, 3)) (hn : pc + 3 = q) (hl : Cond.fieldLink M.1.cls idx (TX5 11).1 (TX5 11).2.1 (TX5 11).2.2.1 ∈ ka_T) (kk : ks_W L xs M R q ls (.ref 25 :: st) σ mc ms P) : ks_W L xs M R pc ls (.ref 17 :: st) σ mc ms P := ka_get (ci := 5) (k := 11) hd hn (by decide) rfl rfl in_X5 (by decide) hl rfl kk
theorem gf_X5_12 {idx : Nat} (hd : decode M.2.1 pc = .ok (.getfield idx, 3)) (hn : pc + 3 = q) (hl : Cond.fieldLink M.1.cls idx (TX5 12).1 (TX5 12).2.1 (TX5 12).2.2.1 ∈ ka_T) (kk : ks_W L xs M R q ls (.ref 26 :: st) σ mc ms P) : ks_W L xs M R pc ls (.ref 17 :: st) σ mc ms P := ka_get (ci := 5) (k := 12) hd hn (by decide) rfl rfl in_X5 (by decide) hl rfl kk
theorem gf_X5_13 {idx : Nat} (hd : decode M.2.1 pc = .ok (.getfield idx, 3)) (hn : pc + 3 = q) (hl : Cond.fieldLink M.1.cls idx (TX5 13).1 (TX5 13).2.1 (TX5 13).2.2.1 ∈ ka_T) (kk : ks_W L xs M R q ls (.ref 27 :: st) σ mc ms P) : ks_W L xs M R pc ls (.ref 17 :: st) σ mc ms P := ka_get (ci := 5) (k := 13) hd hn (by decide) rfl rfl in_X5 (by decide) hl rfl kk
theorem gf_X5_14 {idx : Nat} (hd : decode M.2.1 pc = .ok (.getfield idx, 3)) (hn : pc + 3 = q) (hl : Cond.fieldLink M.1.cls idx (TX5 14).1 (TX5 14).2.1 (TX5 14).2.2.1 ∈ ka_T) (kk : ks_W L xs M R q ls (.ref 28 :: st) σ mc ms P) : ks_W L xs M R pc ls (.ref 17 :: st) σ mc ms P := ka_get (ci := 5) (k := 14) hd hn (by decide) rfl rfl in_X5 (by decide) hl rfl kk
/-- a contract told over the state -/
def ks_M (L : Nat) (xs : Nat → Int32) (M : ka_Md) (R : Room) (av : List Value) (σ : ks_St) (P : ka_O → ks_St → Prop) : Prop := ka_M L xs M R av (kh σ) 30 (ks_Q P)
theorem ks_body {av : List Value} (hy : plainName M.1.cls = true) (hav : (lg_sl av).length ≤ M.2.2.1) (k : ks_W L xs M R 0 (lv_args 0 av) [] σ R.cells R.slots P) : ks_M L xs M R av σ P := ka_body hy hav k
theorem ks_iret {x : Int32} (hd : decode M.2.1 pc = .ok (.ireturn, 1)) {ty : FieldType} (hr : M.2.2.2.1 = some ty) (hnar : narrow ty (.int x) = .int x) (hq : P (.inl (some (.int x))) σ) : ks_W L xs M R pc ls [.int x] σ mc ms P := ka_iret hd hr hnar ⟨rfl, σ, rfl, hq⟩
theorem ks_lret {x : Int64} (hd : decode M.2.1 pc = .ok (.lreturn, 1)) (hr : M.2.2.2.1 = some .long) (hq : P (.inl (some (.long x))) σ) : ks_W L xs M R pc ls [.long x] σ mc ms P := ka_lret hd hr ⟨rfl, σ, rfl, hq⟩
theorem ks_vret (hd : decode M.2.1 pc = .ok (.return_, 1)) (hr : M.2.2.2.1 = none) (hq : P (.inl none) σ) : ks_W L xs M R pc ls [] σ mc ms P := ka_vret hd hr ⟨rfl, σ, rfl, hq⟩
/-- ends: an int, a long, nothing; or a throw -/
def pi_ (f : Int32 → ks_St → Prop) : ka_O → ks_St → Prop := fun o σ => ∃ r, o = .inl (some (.int r)) ∧ f r σ
def pl_ (f : Int64 → ks_St → Prop) : ka_O → ks_St → Prop := fun o σ => ∃ r, o = .inl (some (.long r)) ∧ f r σ
def pv_ (f : ks_St → Prop) : ka_O → ks_St → Prop := fun o σ => o = .inl none ∧ f σ
def px_ (P : ka_O → ks_St → Prop) (g : String → ks_St → Prop) : ka_O → ks_St → Prop := fun o σ => P o σ ∨ ∃ E, o = .inr E ∧ g E σ
variable {M2 : ka_Md} {R2 : Room} {As stk : List Value} {idx : Nat} {P2 : ka_O → ks_St → Prop} {mc' ms' : Nat}
theorem ks_callS (hd : decode M.2.1 pc = .ok (.invokestatic idx, 3)) (hn : pc + 3 = q) (hstk : As.reverse ++ st = stk) (hlk : ka_lkS M.1.cls idx M2 As.length) (hR : R2.frames + 1 ≤ R.frames ∧ 8 + (M2.2.2.1 + 11) + R2.locals ≤ R.locals) (hW : (st.map fun v => v.category).sum ≤ 8) (hm : mc' + R2.cells ≤ mc ∧ ms' + R2.slots ≤ ms) (hK : ks_M L xs M2 R2 As σ P2)
    (kr : ∀ v σ', P2 (.inl v) σ' → ks_W L xs M R q ls (v.toList ++ st) σ' mc' ms' P) (kx : ∀ E σ', P2 (.inr E) σ' → M.2.2.2.2 = [] ∧ P (.inr E) σ') : ks_W L xs M R pc ls stk σ mc ms P :=
  ka_callS hd hn hstk hlk hR hW hm hK (fun x h' N' hq => hq.1) (fun v h' hq => by obtain ⟨-, σ', rfl, hq⟩ := hq; exact kr v σ' hq) (fun E h' hq => by obtain ⟨-, σ', rfl, hq⟩ := hq; exact ⟨(kx E σ' hq).1, rfl, σ', rfl, (kx E σ' hq).2⟩)
theorem ks_callV {o ci Nf : Nat} {fs : List Value} {T : u_T} (hd : decode M.2.1 pc = .ok (.invokevirtual idx, 3)) (hn : pc + 3 = q) (hstk : As.reverse ++ .ref o :: st = stk) (ho : o < 30) (he : kh σ o = .inr (ci, fs)) (hc : vwCl[ci]? = some (M2.1.cls, T, Nf)) (hlk : ka_lkV M.1.cls idx M2 As.length) (hR : R2.frames + 1 ≤ R.frames ∧ 8 + (M2.2.2.1 + 11) + R2.locals ≤ R.locals) (hW : (st.map fun v => v.category).sum ≤ 8) (hm : mc' + R2.cells ≤ mc ∧ ms' + R2.slots ≤ ms) (hK : ks_M L xs M2 R2 (.ref o :: As) σ P2)
    (kr : ∀ v σ', P2 (.inl v) σ' → ks_W L xs M R q ls (v.toList ++ st) σ' mc' ms' P) (kx : ∀ E σ', P2 (.inr E) σ' → M.2.2.2.2 = [] ∧ P (.inr E) σ') : ks_W L xs M R pc ls stk σ mc ms P :=
  ka_callV hd hn hstk ho he hc hlk hR hW hm hK (fun x h' N' hq => hq.1) (fun v h' hq => by obtain ⟨-, σ', rfl, hq⟩ := hq; exact kr v σ' hq) (fun E h' hq => by obtain ⟨-, σ', rfl, hq⟩ := hq; exact ⟨(kx E σ' hq).1, rfl, σ', rfl, (kx E σ' hq).2⟩)
theorem ks_callVC {o ci Nf : Nat} {fs : List Value} {T : u_T} (hd : decode M.2.1 pc = .ok (.invokevirtual idx, 3)) (hn : pc + 3 = q) (hstk : As.reverse ++ .ref o :: st = stk) (ho : o < 30) (he : kh σ o = .inr (ci, fs)) (hc : vwCl[ci]? = some (M2.1.cls, T, Nf)) (hlk : ka_lkV M.1.cls idx M2 As.length) (hR : R2.frames + 1 ≤ R.frames ∧ 8 + (M2.2.2.1 + 11) + R2.locals ≤ R.locals) (hW : (st.map fun v => v.category).sum ≤ 8) (hm : mc' + R2.cells ≤ mc ∧ ms' + R2.slots ≤ ms) (hret : M.2.2.2.1 = some .int) (hK : ks_M L xs M2 R2 (.ref o :: As) σ P2)
    (kr : ∀ v σ', P2 (.inl v) σ' → ks_W L xs M R q ls (v.toList ++ st) σ' mc' ms' P) (kx : ∀ E σ', P2 (.inr E) σ' → ∃ v, ka_ctc M pc E v ∧ P (.inl (some (.int v))) σ') : ks_W L xs M R pc ls stk σ mc ms P :=
  ka_callVC hd hn hstk ho he hc hlk hR hW hm hret hK (fun x h' N' hq => hq.1) (fun v h' hq => by obtain ⟨-, σ', rfl, hq⟩ := hq; exact kr v σ' hq) (fun E h' hq => by obtain ⟨-, σ', rfl, hq⟩ := hq; obtain ⟨v, h1, h2⟩ := kx E σ' hq; exact ⟨v, h1, rfl, σ', rfl, h2⟩)
theorem ks_throw {ik is ic : Nat} {cls text : String} {names : List String} (d0 : decode M.2.1 pc = .ok (.new ik, 3)) (d3 : decode M.2.1 (pc + 3) = .ok (.dup, 1)) (d4 : decode M.2.1 (pc + 4) = .ok (.ldc is, 2)) (d6 : decode M.2.1 (pc + 6) = .ok (.invokespecial ic, 3)) (d9 : decode M.2.1 (pc + 9) = .ok (.athrow, 1))
    (hstr : (M.1.cls, is, text) ∈ ka_str) (hok : ka_thrOk M.1.cls ik ic cls names) (hM : M.2.2.2.2 = []) (hRf : names.length + 3 < R.frames) (hRl : (st.map fun v => v.category).sum + (13 * (names.length + 1) + 43) ≤ R.locals) (hmc0 : 1 ≤ mc) (hms0 : 6 ≤ ms) (hq : P (.inr cls) σ) : ks_W L xs M R pc ls st σ mc ms P := ka_throw d0 d3 d4 d6 d9 hstr hok hM hRf hRl hmc0 hms0 ⟨rfl, σ, rfl, hq⟩
theorem ks_post {P' : ka_O → ks_St → Prop} (hq : ∀ o σ', P o σ' → P' o σ') (k : ks_W L xs M R pc ls st σ mc ms P) : ks_W L xs M R pc ls st σ mc ms P' := ka_post (fun o h' N' z => ⟨z.1, z.2.choose, z.2.choose_spec.1, hq _ _ z.2.choose_spec.2⟩) k
end KS
end
section
abbrev rm_M_max : Room := { frames := 0, cells := 0, slots := 0, locals := 0 }
abbrev rm_M_min : Room := { frames := 0, cells := 0, slots := 0, locals := 0 }
abbrev rm_M_minl : Room := { frames := 0, cells := 0, slots := 0, locals := 0 }
abbrev rm_X0_digitsOf : Room := { frames := 0, cells := 0, slots := 0, locals := 0 }
abbrev rm_X0_split : Room := { frames := 0, cells := 0, slots := 0, locals := 0 }
abbrev rm_X3_clear : Room := { frames := 0, cells := 0, slots := 0, locals := 0 }
abbrev rm_X0_addMultiple : Room := { frames := 0, cells := 0, slots := 0, locals := 0 }
abbrev rm_X0_merge : Room := { frames := 1, cells := 0, slots := 0, locals := 21 }
abbrev rm_X0_multiply : Room := { frames := 2, cells := 0, slots := 0, locals := 43 }
abbrev rm_X3_lengthOfLimb : Room := { frames := 0, cells := 0, slots := 0, locals := 0 }
abbrev rm_X3_lengthOf : Room := { frames := 1, cells := 0, slots := 0, locals := 22 }
abbrev rm_X3_limbOrNought : Room := { frames := 0, cells := 0, slots := 0, locals := 0 }
abbrev rm_X3_bitsFrom : Room := { frames := 1, cells := 0, slots := 0, locals := 21 }
abbrev rm_X3_moveUp : Room := { frames := 2, cells := 0, slots := 0, locals := 46 }
abbrev rm_X0_quotientOf : Room := { frames := 0, cells := 0, slots := 0, locals := 0 }
abbrev rm_X0_subtractMultiple : Room := { frames := 0, cells := 0, slots := 0, locals := 0 }
abbrev rm_X0_addBack : Room := { frames := 0, cells := 0, slots := 0, locals := 0 }
abbrev rm_X0_takeMultiple : Room := { frames := 1, cells := 0, slots := 0, locals := 31 }
abbrev rm_X0_divide : Room := { frames := 3, cells := 0, slots := 0, locals := 69 }
abbrev rm_X3_add : Room := { frames := 0, cells := 0, slots := 0, locals := 0 }
abbrev rm_X3_bitOrNought : Room := { frames := 1, cells := 0, slots := 0, locals := 21 }
abbrev rm_X1_highest : Room := { frames := 2, cells := 0, slots := 0, locals := 42 }
abbrev rm_X1_sum : Room := { frames := 3, cells := 0, slots := 0, locals := 63 }
abbrev rm_X3_subtract : Room := { frames := 0, cells := 0, slots := 0, locals := 0 }
abbrev rm_X1_difference : Room := { frames := 3, cells := 0, slots := 0, locals := 63 }
abbrev rm_X3_isNought : Room := { frames := 0, cells := 0, slots := 0, locals := 0 }
abbrev rm_X3_maskOf : Room := { frames := 0, cells := 0, slots := 0, locals := 0 }
abbrev rm_X3_cut : Room := { frames := 1, cells := 0, slots := 0, locals := 22 }
abbrev rm_X3_negate : Room := { frames := 2, cells := 0, slots := 0, locals := 44 }
abbrev rm_X3_atMost : Room := { frames := 0, cells := 0, slots := 0, locals := 0 }
abbrev rm_X1_fitsWithSign : Room := { frames := 3, cells := 0, slots := 0, locals := 70 }
abbrev rm_X1_product : Room := { frames := 4, cells := 0, slots := 0, locals := 94 }
abbrev rm_X1_quotientOrRest : Room := { frames := 4, cells := 0, slots := 0, locals := 96 }
abbrev rm_X3_fillFrom : Room := { frames := 1, cells := 0, slots := 0, locals := 22 }
abbrev rm_X1_moved : Room := { frames := 3, cells := 0, slots := 0, locals := 69 }
abbrev rm_X3_restBy : Room := { frames := 0, cells := 0, slots := 0, locals := 0 }
abbrev rm_X3_orMovedUp : Room := { frames := 2, cells := 0, slots := 0, locals := 46 }
abbrev rm_X1_turned : Room := { frames := 3, cells := 0, slots := 0, locals := 69 }
abbrev rm_X1_bitByBit : Room := { frames := 0, cells := 0, slots := 0, locals := 0 }
abbrev rm_X3_swapped : Room := { frames := 0, cells := 0, slots := 0, locals := 0 }
abbrev rm_X3_bytesReversed : Room := { frames := 1, cells := 0, slots := 0, locals := 24 }
abbrev rm_X3_bitsReversed : Room := { frames := 2, cells := 0, slots := 0, locals := 47 }
abbrev rm_X1_reversed : Room := { frames := 3, cells := 0, slots := 0, locals := 72 }
abbrev rm_X1_run : Room := { frames := 5, cells := 0, slots := 0, locals := 125 }
abbrev rm_X2_choose : Room := { frames := 0, cells := 0, slots := 0, locals := 0 }
abbrev rm_X2_exponentOf : Room := { frames := 0, cells := 0, slots := 0, locals := 0 }
abbrev rm_X2_fractionOf : Room := { frames := 0, cells := 0, slots := 0, locals := 0 }
abbrev rm_X2_isNone : Room := { frames := 1, cells := 0, slots := 0, locals := 22 }
abbrev rm_X2_withSign : Room := { frames := 0, cells := 0, slots := 0, locals := 0 }
abbrev rm_X2_infinite : Room := { frames := 1, cells := 0, slots := 0, locals := 23 }
abbrev rm_X2_none : Room := { frames := 2, cells := 0, slots := 0, locals := 44 }
abbrev rm_X2_isInfinite : Room := { frames := 1, cells := 0, slots := 0, locals := 22 }
abbrev rm_X2_isNought : Room := { frames := 0, cells := 0, slots := 0, locals := 0 }
abbrev rm_X2_signOf : Room := { frames := 0, cells := 0, slots := 0, locals := 0 }
abbrev rm_X2_notValid : Room := { frames := 3, cells := 0, slots := 0, locals := 64 }
abbrev rm_X2_withoutRounding : Room := { frames := 4, cells := 0, slots := 0, locals := 84 }
abbrev rm_X2_wholeOf : Room := { frames := 1, cells := 0, slots := 0, locals := 22 }
abbrev rm_X2_powerOf : Room := { frames := 1, cells := 0, slots := 0, locals := 22 }
abbrev rm_X2_divide : Room := { frames := 2, cells := 0, slots := 0, locals := 44 }
abbrev rm_X2_multiply : Room := { frames := 2, cells := 0, slots := 0, locals := 44 }
abbrev rm_X2_movedDown : Room := { frames := 1, cells := 0, slots := 0, locals := 21 }
abbrev rm_X2_add : Room := { frames := 2, cells := 0, slots := 0, locals := 46 }
abbrev rm_X2_tooGreat : Room := { frames := 2, cells := 0, slots := 0, locals := 44 }
abbrev rm_X2_finite : Room := { frames := 3, cells := 0, slots := 0, locals := 66 }
abbrev rm_X2_goesAway : Room := { frames := 0, cells := 0, slots := 0, locals := 0 }
abbrev rm_X2_rounded : Room := { frames := 4, cells := 0, slots := 0, locals := 95 }
abbrev rm_X2_answer : Room := { frames := 5, cells := 0, slots := 0, locals := 123 }
abbrev rm_J9_floorMod_7cf53 : Room := { frames := 0, cells := 0, slots := 0, locals := 0 }
abbrev rm_X4_requireRoom : Room := { frames := 7, cells := 1, slots := 6, locals := 103 }
abbrev rm_X4_keepMade : Room := { frames := 2, cells := 0, slots := 0, locals := 48 }
abbrev rm_X4_word : Room := { frames := 8, cells := 1, slots := 6, locals := 123 }
abbrev rm_X4_requireWord : Room := { frames := 7, cells := 1, slots := 6, locals := 103 }
abbrev rm_X4_requireLimb : Room := { frames := 7, cells := 1, slots := 6, locals := 103 }
abbrev rm_X4_set : Room := { frames := 8, cells := 2, slots := 12, locals := 125 }
abbrev rm_X4_requireKind : Room := { frames := 7, cells := 1, slots := 6, locals := 103 }
abbrev rm_X4_requireOneWidth : Room := { frames := 7, cells := 1, slots := 6, locals := 103 }
abbrev rm_X4_load : Room := { frames := 1, cells := 0, slots := 0, locals := 48 }
abbrev rm_X4_op : Room := { frames := 8, cells := 7, slots := 42, locals := 150 }
abbrev rm_X4_flag : Room := { frames := 7, cells := 1, slots := 6, locals := 103 }
abbrev rm_X4_field : Room := { frames := 8, cells := 3, slots := 18, locals := 124 }
abbrev rm_X4_join : Room := { frames := 8, cells := 4, slots := 24, locals := 124 }
abbrev rm_X4_hasBit : Room := { frames := 0, cells := 0, slots := 0, locals := 0 }
abbrev rm_X4_isNegative : Room := { frames := 1, cells := 0, slots := 0, locals := 22 }
abbrev rm_X4_extend : Room := { frames := 8, cells := 3, slots := 18, locals := 124 }
abbrev rm_X4_compare : Room := { frames := 8, cells := 3, slots := 18, locals := 125 }
abbrev rm_X4_bit : Room := { frames := 8, cells := 2, slots := 12, locals := 124 }
abbrev rm_X4_limb : Room := { frames := 8, cells := 2, slots := 12, locals := 125 }
abbrev rm_X4_real : Room := { frames := 8, cells := 7, slots := 42, locals := 151 }
abbrev rm_X4_flags : Room := { frames := 0, cells := 0, slots := 0, locals := 0 }
abbrev rm_J13_bitCount_95d88 : Room := { frames := 0, cells := 0, slots := 0, locals := 0 }
abbrev rm_X4_count : Room := { frames := 8, cells := 1, slots := 6, locals := 124 }
abbrev rm_X4_width : Room := { frames := 8, cells := 1, slots := 6, locals := 124 }
abbrev rm_X5_thrown : Room := { frames := 0, cells := 0, slots := 0, locals := 0 }
abbrev rm_X5_isWord : Room := { frames := 0, cells := 0, slots := 0, locals := 0 }
abbrev rm_X5_throwing : Room := { frames := 0, cells := 0, slots := 0, locals := 0 }
abbrev rm_X5_bitOf : Room := { frames := 0, cells := 0, slots := 0, locals := 0 }
abbrev rm_X5_make : Room := { frames := 0, cells := 0, slots := 0, locals := 0 }
abbrev rm_X5_word : Room := { frames := 1, cells := 0, slots := 0, locals := 24 }
abbrev rm_X5_isLimb : Room := { frames := 1, cells := 0, slots := 0, locals := 21 }
abbrev rm_X5_set : Room := { frames := 2, cells := 0, slots := 0, locals := 43 }
abbrev rm_X5_limb : Room := { frames := 2, cells := 0, slots := 0, locals := 43 }
abbrev rm_X5_load : Room := { frames := 1, cells := 0, slots := 0, locals := 22 }
abbrev rm_X5_amounts : Room := { frames := 0, cells := 0, slots := 0, locals := 0 }
abbrev rm_X5_turn : Room := { frames := 0, cells := 0, slots := 0, locals := 0 }
abbrev rm_X5_add : Room := { frames := 0, cells := 0, slots := 0, locals := 0 }
abbrev rm_X5_multiply : Room := { frames := 0, cells := 0, slots := 0, locals := 0 }
abbrev rm_X5_divide : Room := { frames := 0, cells := 0, slots := 0, locals := 0 }
abbrev rm_X5_takeRest : Room := { frames := 0, cells := 0, slots := 0, locals := 0 }
abbrev rm_X5_amountOfB : Room := { frames := 0, cells := 0, slots := 0, locals := 0 }
abbrev rm_X5_bAround : Room := { frames := 0, cells := 0, slots := 0, locals := 0 }
abbrev rm_X5_isNought : Room := { frames := 0, cells := 0, slots := 0, locals := 0 }
abbrev rm_X5_fits : Room := { frames := 1, cells := 0, slots := 0, locals := 25 }
abbrev rm_X5_sums : Room := { frames := 2, cells := 0, slots := 0, locals := 47 }
abbrev rm_X5_quotients : Room := { frames := 1, cells := 0, slots := 0, locals := 28 }
abbrev rm_X5_moves : Room := { frames := 1, cells := 0, slots := 0, locals := 23 }
abbrev rm_X5_others : Room := { frames := 1, cells := 0, slots := 0, locals := 23 }
abbrev rm_X5_keep : Room := { frames := 1, cells := 0, slots := 0, locals := 22 }
abbrev rm_X5_op : Room := { frames := 3, cells := 0, slots := 0, locals := 71 }
abbrev rm_X5_flag : Room := { frames := 1, cells := 0, slots := 0, locals := 24 }
abbrev rm_X5_field : Room := { frames := 2, cells := 0, slots := 0, locals := 46 }
abbrev rm_X5_join : Room := { frames := 2, cells := 0, slots := 0, locals := 46 }
abbrev rm_X5_extend : Room := { frames := 2, cells := 0, slots := 0, locals := 46 }
abbrev rm_X5_compare : Room := { frames := 1, cells := 0, slots := 0, locals := 24 }
abbrev rm_X5_bit : Room := { frames := 1, cells := 0, slots := 0, locals := 24 }
abbrev rm_X5_count : Room := { frames := 1, cells := 0, slots := 0, locals := 24 }
abbrev rm_X5_width : Room := { frames := 1, cells := 0, slots := 0, locals := 24 }
abbrev rm_X5_fractionBits : Room := { frames := 0, cells := 0, slots := 0, locals := 0 }
abbrev rm_X5_exponentBits : Room := { frames := 0, cells := 0, slots := 0, locals := 0 }
abbrev rm_X5_bias : Room := { frames := 1, cells := 0, slots := 0, locals := 20 }
abbrev rm_X5_take : Room := { frames := 2, cells := 0, slots := 0, locals := 40 }
abbrev rm_X5_packed : Room := { frames := 1, cells := 0, slots := 0, locals := 20 }
abbrev rm_X5_none : Room := { frames := 2, cells := 0, slots := 0, locals := 44 }
abbrev rm_X5_infinite : Room := { frames := 2, cells := 0, slots := 0, locals := 44 }
abbrev rm_X5_notValid : Room := { frames := 3, cells := 0, slots := 0, locals := 64 }
abbrev rm_X5_highest : Room := { frames := 0, cells := 0, slots := 0, locals := 0 }
abbrev rm_X5_isMore : Room := { frames := 0, cells := 0, slots := 0, locals := 0 }
abbrev rm_X5_rounded : Room := { frames := 3, cells := 0, slots := 0, locals := 65 }
abbrev rm_X5_sum : Room := { frames := 4, cells := 0, slots := 0, locals := 103 }
abbrev rm_X5_product : Room := { frames := 4, cells := 0, slots := 0, locals := 103 }
abbrev rm_X5_quotient : Room := { frames := 4, cells := 0, slots := 0, locals := 103 }
abbrev rm_X5_real : Room := { frames := 5, cells := 0, slots := 0, locals := 134 }
abbrev rm_X5_flags : Room := { frames := 0, cells := 0, slots := 0, locals := 0 }
abbrev rm_L_cell : Room := { frames := 0, cells := 0, slots := 0, locals := 0 }
abbrev rm_L_word : Room := { frames := 9, cells := 1, slots := 6, locals := 143 }
abbrev rm_L_set : Room := { frames := 9, cells := 2, slots := 12, locals := 151 }
abbrev rm_L_op : Room := { frames := 9, cells := 7, slots := 42, locals := 174 }
abbrev rm_L_flag : Room := { frames := 8, cells := 1, slots := 6, locals := 124 }
abbrev rm_L_field : Room := { frames := 9, cells := 3, slots := 18, locals := 147 }
abbrev rm_L_join : Room := { frames := 9, cells := 4, slots := 24, locals := 147 }
abbrev rm_L_extend : Room := { frames := 9, cells := 3, slots := 18, locals := 147 }
abbrev rm_L_compare : Room := { frames := 9, cells := 3, slots := 18, locals := 153 }
abbrev rm_L_bit : Room := { frames := 9, cells := 2, slots := 12, locals := 146 }
abbrev rm_L_limb : Room := { frames := 9, cells := 2, slots := 12, locals := 147 }
abbrev rm_L_real : Room := { frames := 9, cells := 7, slots := 42, locals := 176 }
abbrev rm_L_count : Room := { frames := 9, cells := 1, slots := 6, locals := 147 }
abbrev rm_L_width : Room := { frames := 9, cells := 1, slots := 6, locals := 145 }
end
section
theorem d_X3_clear_0 : decode cX3_clear 0 = .ok (.iconst 0, 1) := by decide +kernel
theorem d_X3_clear_1 : decode cX3_clear 1 = .ok (.istore_n 1, 1) := by decide +kernel
theorem d_X3_clear_2 : decode cX3_clear 2 = .ok (.iload_n 1, 1) := by decide +kernel
theorem d_X3_clear_3 : decode cX3_clear 3 = .ok (.aload_n 0, 1) := by decide +kernel
theorem d_X3_clear_4 : decode cX3_clear 4 = .ok (.arraylength, 1) := by decide +kernel
theorem d_X3_clear_5 : decode cX3_clear 5 = .ok (.if_icmp .ge 13, 3) := by decide +kernel
theorem d_X3_clear_8 : decode cX3_clear 8 = .ok (.aload_n 0, 1) := by decide +kernel
theorem d_X3_clear_9 : decode cX3_clear 9 = .ok (.iload_n 1, 1) := by decide +kernel
theorem d_X3_clear_10 : decode cX3_clear 10 = .ok (.lconst 0, 1) := by decide +kernel
theorem d_X3_clear_11 : decode cX3_clear 11 = .ok (.lastore, 1) := by decide +kernel
theorem d_X3_clear_12 : decode cX3_clear 12 = .ok (.iinc 1 1, 3) := by decide +kernel
theorem d_X3_clear_15 : decode cX3_clear 15 = .ok (.goto (-13), 3) := by decide +kernel
theorem d_X3_clear_18 : decode cX3_clear 18 = .ok (.return_, 1) := by decide +kernel
theorem sg_X3_clear_0 {L : Nat} {xs : Nat → Int32} {σ : ks_St} {mc ms : Nat} {P : ka_O → ks_St → Prop} {a0 na0 : Nat} (ha0 : rl_ a0 na0) (k1 : ks_W L xs mX3_clear rm_X3_clear 2 [(0, .ref a0), (1, .int 0)] [] σ mc ms P) : ks_W L xs mX3_clear rm_X3_clear 0 [(0, .ref a0)] [] σ mc ms P := by
  refine ka_iconst (v := 0) d_X3_clear_0 rfl (by decide) ?_
  refine ka_istore_n (ls' := [(1, .int 0), (0, .ref a0)]) d_X3_clear_1 rfl rfl (by decide) rfl ?_
  refine ka_sub [1, 0] rfl ?_
  exact k1
theorem sg_X3_clear_2 {L : Nat} {xs : Nat → Int32} {σ : ks_St} {mc ms : Nat} {P : ka_O → ks_St → Prop} {a0 na0 : Nat} {x1 : Int32} (ha0 : rl_ a0 na0) (r2 : ((nI na0) ≤ x1) → P (.inl none) σ) (v3 : (¬ ((nI na0) ≤ x1)) → vp_in x1 na0) (k4 : (¬ ((nI na0) ≤ x1)) → ks_W L xs mX3_clear rm_X3_clear 2 [(0, .ref a0), (1, .int (x1 + 1))] [] (ug_ σ a0 (vp_updL (sg_ σ a0) x1.toNatClampNeg 0)) mc ms P) : ks_W L xs mX3_clear rm_X3_clear 2 [(0, .ref a0), (1, .int x1)] [] σ mc ms P := by
  refine ka_iload_n d_X3_clear_2 rfl rfl 1 rfl ?_
  refine ka_aload_n d_X3_clear_3 rfl rfl 0 rfl ?_
  refine ks_llen ha0 d_X3_clear_4 rfl ?_
  refine ka_icmp_ge (tgt := 18) d_X3_clear_5 (by decide) rfl (fun c1 => ?_) (fun c1 => ?_)
  · exact ks_vret d_X3_clear_18 rfl (r2 c1)
  · refine ka_aload_n d_X3_clear_8 rfl rfl 0 rfl ?_
    refine ka_iload_n d_X3_clear_9 rfl rfl 1 rfl ?_
    refine ka_lconst (v := 0) d_X3_clear_10 rfl (by decide) ?_
    refine ks_last ha0 d_X3_clear_11 rfl (v3 c1) ?_
    refine ka_iinc (g := 1) (v := x1 + 1) (ls' := [(1, .int (x1 + 1)), (0, .ref a0)]) d_X3_clear_12 rfl rfl rfl (by decide) rfl ?_
    refine ka_goto (q := 2) d_X3_clear_15 (by decide) ?_
    refine ka_sub [1, 0] rfl ?_
    exact (k4 c1)
theorem d_X3_lengthOfLimb_0 : decode cX3_lengthOfLimb 0 = .ok (.iconst 0, 1) := by decide +kernel
theorem d_X3_lengthOfLimb_1 : decode cX3_lengthOfLimb 1 = .ok (.istore_n 2, 1) := by decide +kernel
theorem d_X3_lengthOfLimb_2 : decode cX3_lengthOfLimb 2 = .ok (.iload_n 2, 1) := by decide +kernel
theorem d_X3_lengthOfLimb_3 : decode cX3_lengthOfLimb 3 = .ok (.bipush 64, 2) := by decide +kernel
theorem d_X3_lengthOfLimb_5 : decode cX3_lengthOfLimb 5 = .ok (.if_icmp .ge 17, 3) := by decide +kernel
theorem d_X3_lengthOfLimb_8 : decode cX3_lengthOfLimb 8 = .ok (.lload_n 0, 1) := by decide +kernel
theorem d_X3_lengthOfLimb_9 : decode cX3_lengthOfLimb 9 = .ok (.iload_n 2, 1) := by decide +kernel
theorem d_X3_lengthOfLimb_10 : decode cX3_lengthOfLimb 10 = .ok (.lushr, 1) := by decide +kernel
theorem d_X3_lengthOfLimb_11 : decode cX3_lengthOfLimb 11 = .ok (.lconst 0, 1) := by decide +kernel
theorem d_X3_lengthOfLimb_12 : decode cX3_lengthOfLimb 12 = .ok (.lcmp, 1) := by decide +kernel
theorem d_X3_lengthOfLimb_13 : decode cX3_lengthOfLimb 13 = .ok (.ifCond .eq 9, 3) := by decide +kernel
theorem d_X3_lengthOfLimb_16 : decode cX3_lengthOfLimb 16 = .ok (.iinc 2 1, 3) := by decide +kernel
theorem d_X3_lengthOfLimb_19 : decode cX3_lengthOfLimb 19 = .ok (.goto (-17), 3) := by decide +kernel
theorem d_X3_lengthOfLimb_22 : decode cX3_lengthOfLimb 22 = .ok (.iload_n 2, 1) := by decide +kernel
theorem d_X3_lengthOfLimb_23 : decode cX3_lengthOfLimb 23 = .ok (.ireturn, 1) := by decide +kernel
theorem sg_X3_lengthOfLimb_0 {L : Nat} {xs : Nat → Int32} {σ : ks_St} {mc ms : Nat} {P : ka_O → ks_St → Prop} {x0 : Int64}  (k1 : ks_W L xs mX3_lengthOfLimb rm_X3_lengthOfLimb 2 [(0, .long x0), (2, .int 0)] [] σ mc ms P) : ks_W L xs mX3_lengthOfLimb rm_X3_lengthOfLimb 0 [(0, .long x0)] [] σ mc ms P := by
  refine ka_iconst (v := 0) d_X3_lengthOfLimb_0 rfl (by decide) ?_
  refine ka_istore_n (ls' := [(2, .int 0), (0, .long x0)]) d_X3_lengthOfLimb_1 rfl rfl (by decide) rfl ?_
  refine ka_sub [1, 0] rfl ?_
  exact k1
theorem sg_X3_lengthOfLimb_2 {L : Nat} {xs : Nat → Int32} {σ : ks_St} {mc ms : Nat} {P : ka_O → ks_St → Prop} {x0 : Int64} {x2 : Int32}  (k2 : (64 ≤ x2) → ks_W L xs mX3_lengthOfLimb rm_X3_lengthOfLimb 22 [(2, .int x2)] [] σ mc ms P) (k4 : (¬ (64 ≤ x2)) → ((lg_cmp (((x0).toUInt64 >>> ((x2).toInt64.toUInt64 &&& Int64.toUInt64 63)).toInt64) 0) = 0) → ks_W L xs mX3_lengthOfLimb rm_X3_lengthOfLimb 22 [(2, .int x2)] [] σ mc ms P) (k5 : (¬ (64 ≤ x2)) → (¬ ((lg_cmp (((x0).toUInt64 >>> ((x2).toInt64.toUInt64 &&& Int64.toUInt64 63)).toInt64) 0) = 0)) → ks_W L xs mX3_lengthOfLimb rm_X3_lengthOfLimb 2 [(0, .long x0), (2, .int (x2 + 1))] [] σ mc ms P) : ks_W L xs mX3_lengthOfLimb rm_X3_lengthOfLimb 2 [(0, .long x0), (2, .int x2)] [] σ mc ms P := by
  refine ka_iload_n d_X3_lengthOfLimb_2 rfl rfl 1 rfl ?_
  refine ka_bipush (v := 64) d_X3_lengthOfLimb_3 rfl (by decide) ?_
  refine ka_icmp_ge (tgt := 22) d_X3_lengthOfLimb_5 (by decide) rfl (fun c1 => ?_) (fun c1 => ?_)
  · refine ka_sub [1] rfl ?_
    exact (k2 c1)
  · refine ka_lload_n d_X3_lengthOfLimb_8 rfl rfl 0 rfl ?_
    refine ka_iload_n d_X3_lengthOfLimb_9 rfl rfl 1 rfl ?_
    refine ka_lushr d_X3_lengthOfLimb_10 rfl ?_
    refine ka_lconst (v := 0) d_X3_lengthOfLimb_11 rfl (by decide) ?_
    refine ka_lcmp d_X3_lengthOfLimb_12 rfl ?_
    refine ka_if_eq (tgt := 22) d_X3_lengthOfLimb_13 (by decide) rfl (fun c3 => ?_) (fun c3 => ?_)
    · refine ka_sub [1] rfl ?_
      exact (k4 c1 c3)
    · refine ka_iinc (g := 1) (v := x2 + 1) (ls' := [(2, .int (x2 + 1)), (0, .long x0)]) d_X3_lengthOfLimb_16 rfl rfl rfl (by decide) rfl ?_
      refine ka_goto (q := 2) d_X3_lengthOfLimb_19 (by decide) ?_
      refine ka_sub [1, 0] rfl ?_
      exact (k5 c1 c3)
theorem sg_X3_lengthOfLimb_22 {L : Nat} {xs : Nat → Int32} {σ : ks_St} {mc ms : Nat} {P : ka_O → ks_St → Prop} {x2 : Int32}  (r1 : P (.inl (some (.int x2))) σ) : ks_W L xs mX3_lengthOfLimb rm_X3_lengthOfLimb 22 [(2, .int x2)] [] σ mc ms P := by
  refine ka_iload_n d_X3_lengthOfLimb_22 rfl rfl 0 rfl ?_
  exact ks_iret (ty := .int) d_X3_lengthOfLimb_23 rfl rfl r1
theorem d_X3_lengthOf_0 : decode cX3_lengthOf 0 = .ok (.aload_n 0, 1) := by decide +kernel
theorem d_X3_lengthOf_1 : decode cX3_lengthOf 1 = .ok (.arraylength, 1) := by decide +kernel
theorem d_X3_lengthOf_2 : decode cX3_lengthOf 2 = .ok (.iconst 1, 1) := by decide +kernel
theorem d_X3_lengthOf_3 : decode cX3_lengthOf 3 = .ok (.isub, 1) := by decide +kernel
theorem d_X3_lengthOf_4 : decode cX3_lengthOf 4 = .ok (.istore_n 1, 1) := by decide +kernel
theorem d_X3_lengthOf_5 : decode cX3_lengthOf 5 = .ok (.iload_n 1, 1) := by decide +kernel
theorem d_X3_lengthOf_6 : decode cX3_lengthOf 6 = .ok (.ifCond .lt 29, 3) := by decide +kernel
theorem d_X3_lengthOf_9 : decode cX3_lengthOf 9 = .ok (.aload_n 0, 1) := by decide +kernel
theorem d_X3_lengthOf_10 : decode cX3_lengthOf 10 = .ok (.iload_n 1, 1) := by decide +kernel
theorem d_X3_lengthOf_11 : decode cX3_lengthOf 11 = .ok (.laload, 1) := by decide +kernel
theorem d_X3_lengthOf_12 : decode cX3_lengthOf 12 = .ok (.lconst 0, 1) := by decide +kernel
theorem d_X3_lengthOf_13 : decode cX3_lengthOf 13 = .ok (.lcmp, 1) := by decide +kernel
theorem d_X3_lengthOf_14 : decode cX3_lengthOf 14 = .ok (.ifCond .eq 15, 3) := by decide +kernel
theorem d_X3_lengthOf_17 : decode cX3_lengthOf 17 = .ok (.iload_n 1, 1) := by decide +kernel
theorem d_X3_lengthOf_18 : decode cX3_lengthOf 18 = .ok (.bipush 64, 2) := by decide +kernel
theorem d_X3_lengthOf_20 : decode cX3_lengthOf 20 = .ok (.imul, 1) := by decide +kernel
theorem d_X3_lengthOf_21 : decode cX3_lengthOf 21 = .ok (.aload_n 0, 1) := by decide +kernel
theorem d_X3_lengthOf_22 : decode cX3_lengthOf 22 = .ok (.iload_n 1, 1) := by decide +kernel
theorem d_X3_lengthOf_23 : decode cX3_lengthOf 23 = .ok (.laload, 1) := by decide +kernel
theorem d_X3_lengthOf_24 : decode cX3_lengthOf 24 = .ok (.invokestatic 30, 3) := by decide +kernel
theorem d_X3_lengthOf_27 : decode cX3_lengthOf 27 = .ok (.iadd, 1) := by decide +kernel
theorem d_X3_lengthOf_28 : decode cX3_lengthOf 28 = .ok (.ireturn, 1) := by decide +kernel
theorem d_X3_lengthOf_29 : decode cX3_lengthOf 29 = .ok (.iinc 1 (-1), 3) := by decide +kernel
theorem d_X3_lengthOf_32 : decode cX3_lengthOf 32 = .ok (.goto (-27), 3) := by decide +kernel
theorem d_X3_lengthOf_35 : decode cX3_lengthOf 35 = .ok (.iconst 0, 1) := by decide +kernel
theorem d_X3_lengthOf_36 : decode cX3_lengthOf 36 = .ok (.ireturn, 1) := by decide +kernel
theorem sg_X3_lengthOf_0 {L : Nat} {xs : Nat → Int32} {σ : ks_St} {mc ms : Nat} {P : ka_O → ks_St → Prop} {a0 na0 : Nat} (ha0 : rl_ a0 na0) (k1 : ks_W L xs mX3_lengthOf rm_X3_lengthOf 5 [(0, .ref a0), (1, .int ((nI na0) - 1))] [] σ mc ms P) : ks_W L xs mX3_lengthOf rm_X3_lengthOf 0 [(0, .ref a0)] [] σ mc ms P := by
  refine ka_aload_n d_X3_lengthOf_0 rfl rfl 0 rfl ?_
  refine ks_llen ha0 d_X3_lengthOf_1 rfl ?_
  refine ka_iconst (v := 1) d_X3_lengthOf_2 rfl (by decide) ?_
  refine ka_isub d_X3_lengthOf_3 rfl ?_
  refine ka_istore_n (ls' := [(1, .int ((nI na0) - 1)), (0, .ref a0)]) d_X3_lengthOf_4 rfl rfl (by decide) rfl ?_
  refine ka_sub [1, 0] rfl ?_
  exact k1
theorem sg_X3_lengthOf_5 {L : Nat} {xs : Nat → Int32} {σ : ks_St} {mc ms : Nat} {P : ka_O → ks_St → Prop} {a0 na0 : Nat} {x1 : Int32} (ha0 : rl_ a0 na0) (r2 : (x1 < 0) → P (.inl (some (.int 0))) σ) (v3 : (¬ (x1 < 0)) → vp_in x1 na0) (k5 : (¬ (x1 < 0)) → ((lg_cmp (sg_ σ a0 x1.toNatClampNeg) 0) = 0) → ks_W L xs mX3_lengthOf rm_X3_lengthOf 5 [(0, .ref a0), (1, .int (x1 + (-1)))] [] σ mc ms P) (v6 : (¬ (x1 < 0)) → (¬ ((lg_cmp (sg_ σ a0 x1.toNatClampNeg) 0) = 0)) → vp_in x1 na0) (k7 : (¬ (x1 < 0)) → (¬ ((lg_cmp (sg_ σ a0 x1.toNatClampNeg) 0) = 0)) → ks_W L xs mX3_lengthOf rm_X3_lengthOf 24 [] [.long (sg_ σ a0 x1.toNatClampNeg), .int (x1 * 64)] σ mc ms P) : ks_W L xs mX3_lengthOf rm_X3_lengthOf 5 [(0, .ref a0), (1, .int x1)] [] σ mc ms P := by
  refine ka_iload_n d_X3_lengthOf_5 rfl rfl 1 rfl ?_
  refine ka_if_lt (tgt := 35) d_X3_lengthOf_6 (by decide) rfl (fun c1 => ?_) (fun c1 => ?_)
  · refine ka_iconst (v := 0) d_X3_lengthOf_35 rfl (by decide) ?_
    exact ks_iret (ty := .int) d_X3_lengthOf_36 rfl rfl (r2 c1)
  · refine ka_aload_n d_X3_lengthOf_9 rfl rfl 0 rfl ?_
    refine ka_iload_n d_X3_lengthOf_10 rfl rfl 1 rfl ?_
    refine ks_lald ha0 d_X3_lengthOf_11 rfl (v3 c1) ?_
    refine ka_lconst (v := 0) d_X3_lengthOf_12 rfl (by decide) ?_
    refine ka_lcmp d_X3_lengthOf_13 rfl ?_
    refine ka_if_eq (tgt := 29) d_X3_lengthOf_14 (by decide) rfl (fun c4 => ?_) (fun c4 => ?_)
    · refine ka_iinc (g := 1) (v := x1 + (-1)) (ls' := [(1, .int (x1 + (-1))), (0, .ref a0)]) d_X3_lengthOf_29 rfl rfl rfl (by decide) rfl ?_
      refine ka_goto (q := 5) d_X3_lengthOf_32 (by decide) ?_
      refine ka_sub [1, 0] rfl ?_
      exact (k5 c1 c4)
    · refine ka_iload_n d_X3_lengthOf_17 rfl rfl 1 rfl ?_
      refine ka_bipush (v := 64) d_X3_lengthOf_18 rfl (by decide) ?_
      refine ka_imul d_X3_lengthOf_20 rfl ?_
      refine ka_aload_n d_X3_lengthOf_21 rfl rfl 0 rfl ?_
      refine ka_iload_n d_X3_lengthOf_22 rfl rfl 1 rfl ?_
      refine ks_lald ha0 d_X3_lengthOf_23 rfl (v6 c1 c4) ?_
      refine ka_sub [] rfl ?_
      exact (k7 c1 c4)
theorem cs_X3_lengthOf_24 {L : Nat} {xs : Nat → Int32} {σ : ks_St} {mc ms : Nat} {P : ka_O → ks_St → Prop} {f : Int32 → ks_St → Prop} {s0 : Int32} {s1 : Int64} (hK : ks_M L xs mX3_lengthOfLimb rm_X3_lengthOfLimb [.long s1] σ (pi_ f)) (kr : ∀ r σ', f r σ' → ks_W L xs mX3_lengthOf rm_X3_lengthOf 27 [] [.int r, .int s0] σ' mc ms P) : ks_W L xs mX3_lengthOf rm_X3_lengthOf 24 [] [.long s1, .int s0] σ mc ms P := by
  refine ks_callS (q := 27) (As := [.long s1]) (st := [.int s0]) d_X3_lengthOf_24 rfl rfl lk_X3_30 ⟨by decide, by decide⟩ (Nat.le_of_ble_eq_true rfl) ⟨Nat.le_refl _, Nat.le_refl _⟩ hK (fun v σ' hq => ?_) (fun E σ' hq => ?_)
  · obtain ⟨r, e, hf⟩ := hq; cases e; exact kr r σ' hf
  · obtain ⟨r, e, hf⟩ := hq; cases e
theorem sg_X3_lengthOf_27 {L : Nat} {xs : Nat → Int32} {σ : ks_St} {mc ms : Nat} {P : ka_O → ks_St → Prop} {s0 : Int32} {s1 : Int32}  (r1 : P (.inl (some (.int (s0 + s1)))) σ) : ks_W L xs mX3_lengthOf rm_X3_lengthOf 27 [] [.int s1, .int s0] σ mc ms P := by
  refine ka_iadd d_X3_lengthOf_27 rfl ?_
  exact ks_iret (ty := .int) d_X3_lengthOf_28 rfl rfl r1
theorem d_X3_limbOrNought_0 : decode cX3_limbOrNought 0 = .ok (.iload_n 1, 1) := by decide +kernel
theorem d_X3_limbOrNought_1 : decode cX3_limbOrNought 1 = .ok (.ifCond .lt 15, 3) := by decide +kernel
theorem d_X3_limbOrNought_4 : decode cX3_limbOrNought 4 = .ok (.iload_n 1, 1) := by decide +kernel
theorem d_X3_limbOrNought_5 : decode cX3_limbOrNought 5 = .ok (.aload_n 0, 1) := by decide +kernel
theorem d_X3_limbOrNought_6 : decode cX3_limbOrNought 6 = .ok (.arraylength, 1) := by decide +kernel
theorem d_X3_limbOrNought_7 : decode cX3_limbOrNought 7 = .ok (.if_icmp .ge 9, 3) := by decide +kernel
theorem d_X3_limbOrNought_10 : decode cX3_limbOrNought 10 = .ok (.aload_n 0, 1) := by decide +kernel
theorem d_X3_limbOrNought_11 : decode cX3_limbOrNought 11 = .ok (.iload_n 1, 1) := by decide +kernel
theorem d_X3_limbOrNought_12 : decode cX3_limbOrNought 12 = .ok (.laload, 1) := by decide +kernel
theorem d_X3_limbOrNought_13 : decode cX3_limbOrNought 13 = .ok (.goto 4, 3) := by decide +kernel
theorem d_X3_limbOrNought_16 : decode cX3_limbOrNought 16 = .ok (.lconst 0, 1) := by decide +kernel
theorem d_X3_limbOrNought_17 : decode cX3_limbOrNought 17 = .ok (.lreturn, 1) := by decide +kernel
theorem sg_X3_limbOrNought_0 {L : Nat} {xs : Nat → Int32} {σ : ks_St} {mc ms : Nat} {P : ka_O → ks_St → Prop} {a0 na0 : Nat} {x1 : Int32} (ha0 : rl_ a0 na0) (k2 : (x1 < 0) → ks_W L xs mX3_limbOrNought rm_X3_limbOrNought 16 [] [] σ mc ms P) (k4 : (¬ (x1 < 0)) → ((nI na0) ≤ x1) → ks_W L xs mX3_limbOrNought rm_X3_limbOrNought 16 [] [] σ mc ms P) (v5 : (¬ (x1 < 0)) → (¬ ((nI na0) ≤ x1)) → vp_in x1 na0) (k6 : (¬ (x1 < 0)) → (¬ ((nI na0) ≤ x1)) → ks_W L xs mX3_limbOrNought rm_X3_limbOrNought 17 [] [.long (sg_ σ a0 x1.toNatClampNeg)] σ mc ms P) : ks_W L xs mX3_limbOrNought rm_X3_limbOrNought 0 [(0, .ref a0), (1, .int x1)] [] σ mc ms P := by
  refine ka_iload_n d_X3_limbOrNought_0 rfl rfl 1 rfl ?_
  refine ka_if_lt (tgt := 16) d_X3_limbOrNought_1 (by decide) rfl (fun c1 => ?_) (fun c1 => ?_)
  · refine ka_sub [] rfl ?_
    exact (k2 c1)
  · refine ka_iload_n d_X3_limbOrNought_4 rfl rfl 1 rfl ?_
    refine ka_aload_n d_X3_limbOrNought_5 rfl rfl 0 rfl ?_
    refine ks_llen ha0 d_X3_limbOrNought_6 rfl ?_
    refine ka_icmp_ge (tgt := 16) d_X3_limbOrNought_7 (by decide) rfl (fun c3 => ?_) (fun c3 => ?_)
    · refine ka_sub [] rfl ?_
      exact (k4 c1 c3)
    · refine ka_aload_n d_X3_limbOrNought_10 rfl rfl 0 rfl ?_
      refine ka_iload_n d_X3_limbOrNought_11 rfl rfl 1 rfl ?_
      refine ks_lald ha0 d_X3_limbOrNought_12 rfl (v5 c1 c3) ?_
      refine ka_goto (q := 17) d_X3_limbOrNought_13 (by decide) ?_
      refine ka_sub [] rfl ?_
      exact (k6 c1 c3)
theorem sg_X3_limbOrNought_16 {L : Nat} {xs : Nat → Int32} {σ : ks_St} {mc ms : Nat} {P : ka_O → ks_St → Prop}   (k1 : ks_W L xs mX3_limbOrNought rm_X3_limbOrNought 17 [] [.long 0] σ mc ms P) : ks_W L xs mX3_limbOrNought rm_X3_limbOrNought 16 [] [] σ mc ms P := by
  refine ka_lconst (v := 0) d_X3_limbOrNought_16 rfl (by decide) ?_
  exact k1
theorem sg_X3_limbOrNought_17 {L : Nat} {xs : Nat → Int32} {σ : ks_St} {mc ms : Nat} {P : ka_O → ks_St → Prop} {s0 : Int64}  (r1 : P (.inl (some (.long s0))) σ) : ks_W L xs mX3_limbOrNought rm_X3_limbOrNought 17 [] [.long s0] σ mc ms P := by
  exact ks_lret d_X3_limbOrNought_17 rfl r1
theorem d_X3_bitsFrom_0 : decode cX3_bitsFrom 0 = .ok (.iload_n 1, 1) := by decide +kernel
theorem d_X3_bitsFrom_1 : decode cX3_bitsFrom 1 = .ok (.bipush 6, 2) := by decide +kernel
theorem d_X3_bitsFrom_3 : decode cX3_bitsFrom 3 = .ok (.ishr, 1) := by decide +kernel
theorem d_X3_bitsFrom_4 : decode cX3_bitsFrom 4 = .ok (.istore_n 2, 1) := by decide +kernel
theorem d_X3_bitsFrom_5 : decode cX3_bitsFrom 5 = .ok (.iload_n 1, 1) := by decide +kernel
theorem d_X3_bitsFrom_6 : decode cX3_bitsFrom 6 = .ok (.bipush 63, 2) := by decide +kernel
theorem d_X3_bitsFrom_8 : decode cX3_bitsFrom 8 = .ok (.iand, 1) := by decide +kernel
theorem d_X3_bitsFrom_9 : decode cX3_bitsFrom 9 = .ok (.istore_n 3, 1) := by decide +kernel
theorem d_X3_bitsFrom_10 : decode cX3_bitsFrom 10 = .ok (.aload_n 0, 1) := by decide +kernel
theorem d_X3_bitsFrom_11 : decode cX3_bitsFrom 11 = .ok (.iload_n 2, 1) := by decide +kernel
theorem d_X3_bitsFrom_12 : decode cX3_bitsFrom 12 = .ok (.invokestatic 17, 3) := by decide +kernel
theorem d_X3_bitsFrom_15 : decode cX3_bitsFrom 15 = .ok (.iload_n 3, 1) := by decide +kernel
theorem d_X3_bitsFrom_16 : decode cX3_bitsFrom 16 = .ok (.lushr, 1) := by decide +kernel
theorem d_X3_bitsFrom_17 : decode cX3_bitsFrom 17 = .ok (.lstore 4, 2) := by decide +kernel
theorem d_X3_bitsFrom_19 : decode cX3_bitsFrom 19 = .ok (.iload_n 3, 1) := by decide +kernel
theorem d_X3_bitsFrom_20 : decode cX3_bitsFrom 20 = .ok (.ifCond .ne 8, 3) := by decide +kernel
theorem d_X3_bitsFrom_23 : decode cX3_bitsFrom 23 = .ok (.lload 4, 2) := by decide +kernel
theorem d_X3_bitsFrom_25 : decode cX3_bitsFrom 25 = .ok (.goto 18, 3) := by decide +kernel
theorem d_X3_bitsFrom_28 : decode cX3_bitsFrom 28 = .ok (.lload 4, 2) := by decide +kernel
theorem d_X3_bitsFrom_30 : decode cX3_bitsFrom 30 = .ok (.aload_n 0, 1) := by decide +kernel
theorem d_X3_bitsFrom_31 : decode cX3_bitsFrom 31 = .ok (.iload_n 2, 1) := by decide +kernel
theorem d_X3_bitsFrom_32 : decode cX3_bitsFrom 32 = .ok (.iconst 1, 1) := by decide +kernel
theorem d_X3_bitsFrom_33 : decode cX3_bitsFrom 33 = .ok (.iadd, 1) := by decide +kernel
theorem d_X3_bitsFrom_34 : decode cX3_bitsFrom 34 = .ok (.invokestatic 17, 3) := by decide +kernel
theorem d_X3_bitsFrom_37 : decode cX3_bitsFrom 37 = .ok (.bipush 64, 2) := by decide +kernel
theorem d_X3_bitsFrom_39 : decode cX3_bitsFrom 39 = .ok (.iload_n 3, 1) := by decide +kernel
theorem d_X3_bitsFrom_40 : decode cX3_bitsFrom 40 = .ok (.isub, 1) := by decide +kernel
theorem d_X3_bitsFrom_41 : decode cX3_bitsFrom 41 = .ok (.lshl, 1) := by decide +kernel
theorem d_X3_bitsFrom_42 : decode cX3_bitsFrom 42 = .ok (.lor, 1) := by decide +kernel
theorem d_X3_bitsFrom_43 : decode cX3_bitsFrom 43 = .ok (.lreturn, 1) := by decide +kernel
theorem sg_X3_bitsFrom_0 {L : Nat} {xs : Nat → Int32} {σ : ks_St} {mc ms : Nat} {P : ka_O → ks_St → Prop} {a0 na0 : Nat} {x1 : Int32} (ha0 : rl_ a0 na0) (k1 : ks_W L xs mX3_bitsFrom rm_X3_bitsFrom 12 [(0, .ref a0), (2, .int (x1 >>> (6 &&& 31))), (3, .int (x1 &&& 63))] [.int (x1 >>> (6 &&& 31)), .ref a0] σ mc ms P) : ks_W L xs mX3_bitsFrom rm_X3_bitsFrom 0 [(0, .ref a0), (1, .int x1)] [] σ mc ms P := by
  refine ka_iload_n d_X3_bitsFrom_0 rfl rfl 1 rfl ?_
  refine ka_bipush (v := 6) d_X3_bitsFrom_1 rfl (by decide) ?_
  refine ka_ishr d_X3_bitsFrom_3 rfl ?_
  refine ka_istore_n (ls' := [(2, .int (x1 >>> (6 &&& 31))), (0, .ref a0), (1, .int x1)]) d_X3_bitsFrom_4 rfl rfl (by decide) rfl ?_
  refine ka_iload_n d_X3_bitsFrom_5 rfl rfl 2 rfl ?_
  refine ka_bipush (v := 63) d_X3_bitsFrom_6 rfl (by decide) ?_
  refine ka_iand d_X3_bitsFrom_8 rfl ?_
  refine ka_istore_n (ls' := [(3, .int (x1 &&& 63)), (2, .int (x1 >>> (6 &&& 31))), (0, .ref a0), (1, .int x1)]) d_X3_bitsFrom_9 rfl rfl (by decide) rfl ?_
  refine ka_aload_n d_X3_bitsFrom_10 rfl rfl 2 rfl ?_
  refine ka_iload_n d_X3_bitsFrom_11 rfl rfl 1 rfl ?_
  refine ka_sub [2, 1, 0] rfl ?_
  exact k1
theorem cs_X3_bitsFrom_12 {L : Nat} {xs : Nat → Int32} {σ : ks_St} {mc ms : Nat} {P : ka_O → ks_St → Prop} {f : Int64 → ks_St → Prop} {a0 na0 : Nat} {x2 : Int32} {x3 : Int32} {s1 : Int32} (hK : ks_M L xs mX3_limbOrNought rm_X3_limbOrNought [.ref a0, .int s1] σ (pl_ f)) (kr : ∀ r σ', f r σ' → ks_W L xs mX3_bitsFrom rm_X3_bitsFrom 15 [(0, .ref a0), (2, .int x2), (3, .int x3)] [.long r] σ' mc ms P) : ks_W L xs mX3_bitsFrom rm_X3_bitsFrom 12 [(0, .ref a0), (2, .int x2), (3, .int x3)] [.int s1, .ref a0] σ mc ms P := by
  refine ks_callS (q := 15) (As := [.ref a0, .int s1]) (st := []) d_X3_bitsFrom_12 rfl rfl lk_X3_17 ⟨by decide, by decide⟩ (Nat.le_of_ble_eq_true rfl) ⟨Nat.le_refl _, Nat.le_refl _⟩ hK (fun v σ' hq => ?_) (fun E σ' hq => ?_)
  · obtain ⟨r, e, hf⟩ := hq; cases e; exact kr r σ' hf
  · obtain ⟨r, e, hf⟩ := hq; cases e
theorem sg_X3_bitsFrom_15 {L : Nat} {xs : Nat → Int32} {σ : ks_St} {mc ms : Nat} {P : ka_O → ks_St → Prop} {a0 na0 : Nat} {x2 : Int32} {x3 : Int32} {s0 : Int64} (ha0 : rl_ a0 na0) (k2 : (¬ x3 = 0) → ks_W L xs mX3_bitsFrom rm_X3_bitsFrom 34 [(3, .int x3)] [.int (x2 + 1), .ref a0, .long (((s0).toUInt64 >>> ((x3).toInt64.toUInt64 &&& Int64.toUInt64 63)).toInt64)] σ mc ms P) (k3 : (x3 = 0) → ks_W L xs mX3_bitsFrom rm_X3_bitsFrom 43 [] [.long (((s0).toUInt64 >>> ((x3).toInt64.toUInt64 &&& Int64.toUInt64 63)).toInt64)] σ mc ms P) : ks_W L xs mX3_bitsFrom rm_X3_bitsFrom 15 [(0, .ref a0), (2, .int x2), (3, .int x3)] [.long s0] σ mc ms P := by
  refine ka_iload_n d_X3_bitsFrom_15 rfl rfl 2 rfl ?_
  refine ka_lushr d_X3_bitsFrom_16 rfl ?_
  refine ka_lstore (ls' := [(4, .long (((s0).toUInt64 >>> ((x3).toInt64.toUInt64 &&& Int64.toUInt64 63)).toInt64)), (0, .ref a0), (2, .int x2), (3, .int x3)]) d_X3_bitsFrom_17 rfl (by decide) rfl ?_
  refine ka_iload_n d_X3_bitsFrom_19 rfl rfl 3 rfl ?_
  refine ka_if_ne (tgt := 28) d_X3_bitsFrom_20 (by decide) rfl (fun c1 => ?_) (fun c1 => ?_)
  · refine ka_lload d_X3_bitsFrom_28 rfl 0 rfl ?_
    refine ka_aload_n d_X3_bitsFrom_30 rfl rfl 1 rfl ?_
    refine ka_iload_n d_X3_bitsFrom_31 rfl rfl 2 rfl ?_
    refine ka_iconst (v := 1) d_X3_bitsFrom_32 rfl (by decide) ?_
    refine ka_iadd d_X3_bitsFrom_33 rfl ?_
    refine ka_sub [3] rfl ?_
    exact (k2 c1)
  · refine ka_lload d_X3_bitsFrom_23 rfl 0 rfl ?_
    refine ka_goto (q := 43) d_X3_bitsFrom_25 (by decide) ?_
    refine ka_sub [] rfl ?_
    exact (k3 c1)
theorem cs_X3_bitsFrom_34 {L : Nat} {xs : Nat → Int32} {σ : ks_St} {mc ms : Nat} {P : ka_O → ks_St → Prop} {f : Int64 → ks_St → Prop} {x3 : Int32} {s0 : Int64} {a0 na0 : Nat} {s2 : Int32} (hK : ks_M L xs mX3_limbOrNought rm_X3_limbOrNought [.ref a0, .int s2] σ (pl_ f)) (kr : ∀ r σ', f r σ' → ks_W L xs mX3_bitsFrom rm_X3_bitsFrom 37 [(3, .int x3)] [.long r, .long s0] σ' mc ms P) : ks_W L xs mX3_bitsFrom rm_X3_bitsFrom 34 [(3, .int x3)] [.int s2, .ref a0, .long s0] σ mc ms P := by
  refine ks_callS (q := 37) (As := [.ref a0, .int s2]) (st := [.long s0]) d_X3_bitsFrom_34 rfl rfl lk_X3_17 ⟨by decide, by decide⟩ (Nat.le_of_ble_eq_true rfl) ⟨Nat.le_refl _, Nat.le_refl _⟩ hK (fun v σ' hq => ?_) (fun E σ' hq => ?_)
  · obtain ⟨r, e, hf⟩ := hq; cases e; exact kr r σ' hf
  · obtain ⟨r, e, hf⟩ := hq; cases e
theorem sg_X3_bitsFrom_37 {L : Nat} {xs : Nat → Int32} {σ : ks_St} {mc ms : Nat} {P : ka_O → ks_St → Prop} {x3 : Int32} {s0 : Int64} {s1 : Int64}  (k1 : ks_W L xs mX3_bitsFrom rm_X3_bitsFrom 43 [] [.long (s0 ||| (s1 <<< (((64 - x3)).toInt64 &&& 63)))] σ mc ms P) : ks_W L xs mX3_bitsFrom rm_X3_bitsFrom 37 [(3, .int x3)] [.long s1, .long s0] σ mc ms P := by
  refine ka_bipush (v := 64) d_X3_bitsFrom_37 rfl (by decide) ?_
  refine ka_iload_n d_X3_bitsFrom_39 rfl rfl 0 rfl ?_
  refine ka_isub d_X3_bitsFrom_40 rfl ?_
  refine ka_lshl d_X3_bitsFrom_41 rfl ?_
  refine ka_lor d_X3_bitsFrom_42 rfl ?_
  refine ka_sub [] rfl ?_
  exact k1
theorem sg_X3_bitsFrom_43 {L : Nat} {xs : Nat → Int32} {σ : ks_St} {mc ms : Nat} {P : ka_O → ks_St → Prop} {s0 : Int64}  (r1 : P (.inl (some (.long s0))) σ) : ks_W L xs mX3_bitsFrom rm_X3_bitsFrom 43 [] [.long s0] σ mc ms P := by
  exact ks_lret d_X3_bitsFrom_43 rfl r1
theorem d_X3_moveUp_0 : decode cX3_moveUp 0 = .ok (.iconst 0, 1) := by decide +kernel
theorem d_X3_moveUp_1 : decode cX3_moveUp 1 = .ok (.istore_n 3, 1) := by decide +kernel
theorem d_X3_moveUp_2 : decode cX3_moveUp 2 = .ok (.iload_n 3, 1) := by decide +kernel
theorem d_X3_moveUp_3 : decode cX3_moveUp 3 = .ok (.aload_n 2, 1) := by decide +kernel
theorem d_X3_moveUp_4 : decode cX3_moveUp 4 = .ok (.arraylength, 1) := by decide +kernel
theorem d_X3_moveUp_5 : decode cX3_moveUp 5 = .ok (.if_icmp .ge 22, 3) := by decide +kernel
theorem d_X3_moveUp_8 : decode cX3_moveUp 8 = .ok (.aload_n 2, 1) := by decide +kernel
theorem d_X3_moveUp_9 : decode cX3_moveUp 9 = .ok (.iload_n 3, 1) := by decide +kernel
theorem d_X3_moveUp_10 : decode cX3_moveUp 10 = .ok (.aload_n 0, 1) := by decide +kernel
theorem d_X3_moveUp_11 : decode cX3_moveUp 11 = .ok (.iload_n 3, 1) := by decide +kernel
theorem d_X3_moveUp_12 : decode cX3_moveUp 12 = .ok (.bipush 64, 2) := by decide +kernel
theorem d_X3_moveUp_14 : decode cX3_moveUp 14 = .ok (.imul, 1) := by decide +kernel
theorem d_X3_moveUp_15 : decode cX3_moveUp 15 = .ok (.iload_n 1, 1) := by decide +kernel
theorem d_X3_moveUp_16 : decode cX3_moveUp 16 = .ok (.isub, 1) := by decide +kernel
theorem d_X3_moveUp_17 : decode cX3_moveUp 17 = .ok (.invokestatic 21, 3) := by decide +kernel
theorem d_X3_moveUp_20 : decode cX3_moveUp 20 = .ok (.lastore, 1) := by decide +kernel
theorem d_X3_moveUp_21 : decode cX3_moveUp 21 = .ok (.iinc 3 1, 3) := by decide +kernel
theorem d_X3_moveUp_24 : decode cX3_moveUp 24 = .ok (.goto (-22), 3) := by decide +kernel
theorem d_X3_moveUp_27 : decode cX3_moveUp 27 = .ok (.return_, 1) := by decide +kernel
theorem sg_X3_moveUp_0 {L : Nat} {xs : Nat → Int32} {σ : ks_St} {mc ms : Nat} {P : ka_O → ks_St → Prop} {a0 na0 : Nat} {x1 : Int32} {a2 na2 : Nat} (ha0 : rl_ a0 na0) (ha2 : rl_ a2 na2) (k1 : ks_W L xs mX3_moveUp rm_X3_moveUp 2 [(0, .ref a0), (1, .int x1), (2, .ref a2), (3, .int 0)] [] σ mc ms P) : ks_W L xs mX3_moveUp rm_X3_moveUp 0 [(0, .ref a0), (1, .int x1), (2, .ref a2)] [] σ mc ms P := by
  refine ka_iconst (v := 0) d_X3_moveUp_0 rfl (by decide) ?_
  refine ka_istore_n (ls' := [(3, .int 0), (0, .ref a0), (1, .int x1), (2, .ref a2)]) d_X3_moveUp_1 rfl rfl (by decide) rfl ?_
  refine ka_sub [1, 2, 3, 0] rfl ?_
  exact k1
theorem sg_X3_moveUp_2 {L : Nat} {xs : Nat → Int32} {σ : ks_St} {mc ms : Nat} {P : ka_O → ks_St → Prop} {a0 na0 : Nat} {x1 : Int32} {a2 na2 : Nat} {x3 : Int32} (ha0 : rl_ a0 na0) (ha2 : rl_ a2 na2) (r2 : ((nI na2) ≤ x3) → P (.inl none) σ) (k3 : (¬ ((nI na2) ≤ x3)) → ks_W L xs mX3_moveUp rm_X3_moveUp 17 [(0, .ref a0), (1, .int x1), (2, .ref a2), (3, .int x3)] [.int ((x3 * 64) - x1), .ref a0, .int x3, .ref a2] σ mc ms P) : ks_W L xs mX3_moveUp rm_X3_moveUp 2 [(0, .ref a0), (1, .int x1), (2, .ref a2), (3, .int x3)] [] σ mc ms P := by
  refine ka_iload_n d_X3_moveUp_2 rfl rfl 3 rfl ?_
  refine ka_aload_n d_X3_moveUp_3 rfl rfl 2 rfl ?_
  refine ks_llen ha2 d_X3_moveUp_4 rfl ?_
  refine ka_icmp_ge (tgt := 27) d_X3_moveUp_5 (by decide) rfl (fun c1 => ?_) (fun c1 => ?_)
  · exact ks_vret d_X3_moveUp_27 rfl (r2 c1)
  · refine ka_aload_n d_X3_moveUp_8 rfl rfl 2 rfl ?_
    refine ka_iload_n d_X3_moveUp_9 rfl rfl 3 rfl ?_
    refine ka_aload_n d_X3_moveUp_10 rfl rfl 0 rfl ?_
    refine ka_iload_n d_X3_moveUp_11 rfl rfl 3 rfl ?_
    refine ka_bipush (v := 64) d_X3_moveUp_12 rfl (by decide) ?_
    refine ka_imul d_X3_moveUp_14 rfl ?_
    refine ka_iload_n d_X3_moveUp_15 rfl rfl 1 rfl ?_
    refine ka_isub d_X3_moveUp_16 rfl ?_
    exact (k3 c1)
theorem cs_X3_moveUp_17 {L : Nat} {xs : Nat → Int32} {σ : ks_St} {mc ms : Nat} {P : ka_O → ks_St → Prop} {f : Int64 → ks_St → Prop} {a0 na0 : Nat} {x1 : Int32} {a2 na2 : Nat} {x3 : Int32} {s1 : Int32} {s3 : Int32} (hK : ks_M L xs mX3_bitsFrom rm_X3_bitsFrom [.ref a0, .int s3] σ (pl_ f)) (kr : ∀ r σ', f r σ' → ks_W L xs mX3_moveUp rm_X3_moveUp 20 [(0, .ref a0), (1, .int x1), (2, .ref a2), (3, .int x3)] [.long r, .int s1, .ref a2] σ' mc ms P) : ks_W L xs mX3_moveUp rm_X3_moveUp 17 [(0, .ref a0), (1, .int x1), (2, .ref a2), (3, .int x3)] [.int s3, .ref a0, .int s1, .ref a2] σ mc ms P := by
  refine ks_callS (q := 20) (As := [.ref a0, .int s3]) (st := [.int s1, .ref a2]) d_X3_moveUp_17 rfl rfl lk_X3_21 ⟨by decide, by decide⟩ (Nat.le_of_ble_eq_true rfl) ⟨Nat.le_refl _, Nat.le_refl _⟩ hK (fun v σ' hq => ?_) (fun E σ' hq => ?_)
  · obtain ⟨r, e, hf⟩ := hq; cases e; exact kr r σ' hf
  · obtain ⟨r, e, hf⟩ := hq; cases e
theorem sg_X3_moveUp_20 {L : Nat} {xs : Nat → Int32} {σ : ks_St} {mc ms : Nat} {P : ka_O → ks_St → Prop} {a0 na0 : Nat} {x1 : Int32} {a2 na2 : Nat} {x3 : Int32} {s1 : Int32} {s2 : Int64} (ha0 : rl_ a0 na0) (ha2 : rl_ a2 na2) (v1 : vp_in s1 na2) (k2 : ks_W L xs mX3_moveUp rm_X3_moveUp 2 [(0, .ref a0), (1, .int x1), (2, .ref a2), (3, .int (x3 + 1))] [] (ug_ σ a2 (vp_updL (sg_ σ a2) s1.toNatClampNeg s2)) mc ms P) : ks_W L xs mX3_moveUp rm_X3_moveUp 20 [(0, .ref a0), (1, .int x1), (2, .ref a2), (3, .int x3)] [.long s2, .int s1, .ref a2] σ mc ms P := by
  refine ks_last ha2 d_X3_moveUp_20 rfl v1 ?_
  refine ka_iinc (g := 3) (v := x3 + 1) (ls' := [(3, .int (x3 + 1)), (0, .ref a0), (1, .int x1), (2, .ref a2)]) d_X3_moveUp_21 rfl rfl rfl (by decide) rfl ?_
  refine ka_goto (q := 2) d_X3_moveUp_24 (by decide) ?_
  refine ka_sub [1, 2, 3, 0] rfl ?_
  exact k2
theorem d_X3_add_0 : decode cX3_add 0 = .ok (.lconst 0, 1) := by decide +kernel
theorem d_X3_add_1 : decode cX3_add 1 = .ok (.lstore_n 3, 1) := by decide +kernel
theorem d_X3_add_2 : decode cX3_add 2 = .ok (.iconst 0, 1) := by decide +kernel
theorem d_X3_add_3 : decode cX3_add 3 = .ok (.istore 5, 2) := by decide +kernel
theorem d_X3_add_5 : decode cX3_add 5 = .ok (.iload 5, 2) := by decide +kernel
theorem d_X3_add_7 : decode cX3_add 7 = .ok (.bipush 9, 2) := by decide +kernel
theorem d_X3_add_9 : decode cX3_add 9 = .ok (.if_icmp .ge 58, 3) := by decide +kernel
theorem d_X3_add_12 : decode cX3_add 12 = .ok (.aload_n 0, 1) := by decide +kernel
theorem d_X3_add_13 : decode cX3_add 13 = .ok (.iload 5, 2) := by decide +kernel
theorem d_X3_add_15 : decode cX3_add 15 = .ok (.laload, 1) := by decide +kernel
theorem d_X3_add_16 : decode cX3_add 16 = .ok (.lstore 6, 2) := by decide +kernel
theorem d_X3_add_18 : decode cX3_add 18 = .ok (.aload_n 1, 1) := by decide +kernel
theorem d_X3_add_19 : decode cX3_add 19 = .ok (.iload 5, 2) := by decide +kernel
theorem d_X3_add_21 : decode cX3_add 21 = .ok (.laload, 1) := by decide +kernel
theorem d_X3_add_22 : decode cX3_add 22 = .ok (.lstore 8, 2) := by decide +kernel
theorem d_X3_add_24 : decode cX3_add 24 = .ok (.lload 6, 2) := by decide +kernel
theorem d_X3_add_26 : decode cX3_add 26 = .ok (.lload 8, 2) := by decide +kernel
theorem d_X3_add_28 : decode cX3_add 28 = .ok (.ladd, 1) := by decide +kernel
theorem d_X3_add_29 : decode cX3_add 29 = .ok (.lload_n 3, 1) := by decide +kernel
theorem d_X3_add_30 : decode cX3_add 30 = .ok (.ladd, 1) := by decide +kernel
theorem d_X3_add_31 : decode cX3_add 31 = .ok (.lstore 10, 2) := by decide +kernel
theorem d_X3_add_33 : decode cX3_add 33 = .ok (.aload_n 2, 1) := by decide +kernel
theorem d_X3_add_34 : decode cX3_add 34 = .ok (.iload 5, 2) := by decide +kernel
theorem d_X3_add_36 : decode cX3_add 36 = .ok (.lload 10, 2) := by decide +kernel
theorem d_X3_add_38 : decode cX3_add 38 = .ok (.lastore, 1) := by decide +kernel
theorem d_X3_add_39 : decode cX3_add 39 = .ok (.lload 6, 2) := by decide +kernel
theorem d_X3_add_41 : decode cX3_add 41 = .ok (.lload 8, 2) := by decide +kernel
theorem d_X3_add_43 : decode cX3_add 43 = .ok (.land, 1) := by decide +kernel
theorem d_X3_add_44 : decode cX3_add 44 = .ok (.lload 6, 2) := by decide +kernel
theorem d_X3_add_46 : decode cX3_add 46 = .ok (.lload 8, 2) := by decide +kernel
theorem d_X3_add_48 : decode cX3_add 48 = .ok (.lor, 1) := by decide +kernel
theorem d_X3_add_49 : decode cX3_add 49 = .ok (.lload 10, 2) := by decide +kernel
theorem d_X3_add_51 : decode cX3_add 51 = .ok (.ldc2_w 9, 3) := by decide +kernel
theorem d_X3_add_54 : decode cX3_add 54 = .ok (.lxor, 1) := by decide +kernel
theorem d_X3_add_55 : decode cX3_add 55 = .ok (.land, 1) := by decide +kernel
theorem d_X3_add_56 : decode cX3_add 56 = .ok (.lor, 1) := by decide +kernel
theorem d_X3_add_57 : decode cX3_add 57 = .ok (.bipush 63, 2) := by decide +kernel
theorem d_X3_add_59 : decode cX3_add 59 = .ok (.lushr, 1) := by decide +kernel
theorem d_X3_add_60 : decode cX3_add 60 = .ok (.lstore_n 3, 1) := by decide +kernel
theorem d_X3_add_61 : decode cX3_add 61 = .ok (.iinc 5 1, 3) := by decide +kernel
theorem d_X3_add_64 : decode cX3_add 64 = .ok (.goto (-59), 3) := by decide +kernel
theorem d_X3_add_67 : decode cX3_add 67 = .ok (.return_, 1) := by decide +kernel
theorem sg_X3_add_0 {L : Nat} {xs : Nat → Int32} {σ : ks_St} {mc ms : Nat} {P : ka_O → ks_St → Prop} {a0 na0 : Nat} {a1 na1 : Nat} {a2 na2 : Nat} (ha0 : rl_ a0 na0) (ha1 : rl_ a1 na1) (ha2 : rl_ a2 na2) (k1 : ks_W L xs mX3_add rm_X3_add 5 [(0, .ref a0), (1, .ref a1), (2, .ref a2), (3, .long 0), (5, .int 0)] [] σ mc ms P) : ks_W L xs mX3_add rm_X3_add 0 [(0, .ref a0), (1, .ref a1), (2, .ref a2)] [] σ mc ms P := by
  refine ka_lconst (v := 0) d_X3_add_0 rfl (by decide) ?_
  refine ka_lstore_n (ls' := [(3, .long 0), (0, .ref a0), (1, .ref a1), (2, .ref a2)]) d_X3_add_1 rfl rfl (by decide) rfl ?_
  refine ka_iconst (v := 0) d_X3_add_2 rfl (by decide) ?_
  refine ka_istore (ls' := [(5, .int 0), (3, .long 0), (0, .ref a0), (1, .ref a1), (2, .ref a2)]) d_X3_add_3 rfl (by decide) rfl ?_
  refine ka_sub [2, 3, 4, 1, 0] rfl ?_
  exact k1
theorem sg_X3_add_5 {L : Nat} {xs : Nat → Int32} {σ : ks_St} {mc ms : Nat} {P : ka_O → ks_St → Prop} {a0 na0 : Nat} {a1 na1 : Nat} {a2 na2 : Nat} {x3 : Int64} {x5 : Int32} (ha0 : rl_ a0 na0) (ha1 : rl_ a1 na1) (ha2 : rl_ a2 na2) (r2 : (9 ≤ x5) → P (.inl none) σ) (v3 : (¬ (9 ≤ x5)) → vp_in x5 na0) (v4 : (¬ (9 ≤ x5)) → vp_in x5 na1) (v5 : (¬ (9 ≤ x5)) → vp_in x5 na2) (k6 : (¬ (9 ≤ x5)) → ks_W L xs mX3_add rm_X3_add 5 [(0, .ref a0), (1, .ref a1), (2, .ref a2), (3, .long ((((((sg_ σ a0 x5.toNatClampNeg) &&& (sg_ σ a1 x5.toNatClampNeg)) ||| (((sg_ σ a0 x5.toNatClampNeg) ||| (sg_ σ a1 x5.toNatClampNeg)) &&& ((((sg_ σ a0 x5.toNatClampNeg) + (sg_ σ a1 x5.toNatClampNeg)) + x3) ^^^ ((-1)))))).toUInt64 >>> (((63 : Int32)).toInt64.toUInt64 &&& Int64.toUInt64 63)).toInt64)), (5, .int (x5 + 1))] [] (ug_ σ a2 (vp_updL (sg_ σ a2) x5.toNatClampNeg (((sg_ σ a0 x5.toNatClampNeg) + (sg_ σ a1 x5.toNatClampNeg)) + x3))) mc ms P) : ks_W L xs mX3_add rm_X3_add 5 [(0, .ref a0), (1, .ref a1), (2, .ref a2), (3, .long x3), (5, .int x5)] [] σ mc ms P := by
  refine ka_iload d_X3_add_5 rfl 4 rfl ?_
  refine ka_bipush (v := 9) d_X3_add_7 rfl (by decide) ?_
  refine ka_icmp_ge (tgt := 67) d_X3_add_9 (by decide) rfl (fun c1 => ?_) (fun c1 => ?_)
  · exact ks_vret d_X3_add_67 rfl (r2 c1)
  · refine ka_aload_n d_X3_add_12 rfl rfl 0 rfl ?_
    refine ka_iload d_X3_add_13 rfl 4 rfl ?_
    refine ks_lald ha0 d_X3_add_15 rfl (v3 c1) ?_
    refine ka_lstore (ls' := [(6, .long (sg_ σ a0 x5.toNatClampNeg)), (0, .ref a0), (1, .ref a1), (2, .ref a2), (3, .long x3), (5, .int x5)]) d_X3_add_16 rfl (by decide) rfl ?_
    refine ka_aload_n d_X3_add_18 rfl rfl 2 rfl ?_
    refine ka_iload d_X3_add_19 rfl 5 rfl ?_
    refine ks_lald ha1 d_X3_add_21 rfl (v4 c1) ?_
    refine ka_lstore (ls' := [(8, .long (sg_ σ a1 x5.toNatClampNeg)), (6, .long (sg_ σ a0 x5.toNatClampNeg)), (0, .ref a0), (1, .ref a1), (2, .ref a2), (3, .long x3), (5, .int x5)]) d_X3_add_22 rfl (by decide) rfl ?_
    refine ka_lload d_X3_add_24 rfl 1 rfl ?_
    refine ka_lload d_X3_add_26 rfl 0 rfl ?_
    refine ka_ladd d_X3_add_28 rfl ?_
    refine ka_lload_n d_X3_add_29 rfl rfl 5 rfl ?_
    refine ka_ladd d_X3_add_30 rfl ?_
    refine ka_lstore (ls' := [(10, .long (((sg_ σ a0 x5.toNatClampNeg) + (sg_ σ a1 x5.toNatClampNeg)) + x3)), (8, .long (sg_ σ a1 x5.toNatClampNeg)), (6, .long (sg_ σ a0 x5.toNatClampNeg)), (0, .ref a0), (1, .ref a1), (2, .ref a2), (3, .long x3), (5, .int x5)]) d_X3_add_31 rfl (by decide) rfl ?_
    refine ka_aload_n d_X3_add_33 rfl rfl 5 rfl ?_
    refine ka_iload d_X3_add_34 rfl 7 rfl ?_
    refine ka_lload d_X3_add_36 rfl 0 rfl ?_
    refine ks_last ha2 d_X3_add_38 rfl (v5 c1) ?_
    refine ka_lload d_X3_add_39 rfl 2 rfl ?_
    refine ka_lload d_X3_add_41 rfl 1 rfl ?_
    refine ka_land d_X3_add_43 rfl ?_
    refine ka_lload d_X3_add_44 rfl 2 rfl ?_
    refine ka_lload d_X3_add_46 rfl 1 rfl ?_
    refine ka_lor d_X3_add_48 rfl ?_
    refine ka_lload d_X3_add_49 rfl 0 rfl ?_
    refine ka_ldc2 (v := -1) d_X3_add_51 rfl kl_X3_9 ?_
    refine ka_lxor d_X3_add_54 rfl ?_
    refine ka_land d_X3_add_55 rfl ?_
    refine ka_lor d_X3_add_56 rfl ?_
    refine ka_bipush (v := 63) d_X3_add_57 rfl (by decide) ?_
    refine ka_lushr d_X3_add_59 rfl ?_
    refine ka_lstore_n (ls' := [(3, .long ((((((sg_ σ a0 x5.toNatClampNeg) &&& (sg_ σ a1 x5.toNatClampNeg)) ||| (((sg_ σ a0 x5.toNatClampNeg) ||| (sg_ σ a1 x5.toNatClampNeg)) &&& ((((sg_ σ a0 x5.toNatClampNeg) + (sg_ σ a1 x5.toNatClampNeg)) + x3) ^^^ ((-1)))))).toUInt64 >>> (((63 : Int32)).toInt64.toUInt64 &&& Int64.toUInt64 63)).toInt64)), (10, .long (((sg_ σ a0 x5.toNatClampNeg) + (sg_ σ a1 x5.toNatClampNeg)) + x3)), (8, .long (sg_ σ a1 x5.toNatClampNeg)), (6, .long (sg_ σ a0 x5.toNatClampNeg)), (0, .ref a0), (1, .ref a1), (2, .ref a2), (5, .int x5)]) d_X3_add_60 rfl rfl (by decide) rfl ?_
    refine ka_iinc (g := 7) (v := x5 + 1) (ls' := [(5, .int (x5 + 1)), (3, .long ((((((sg_ σ a0 x5.toNatClampNeg) &&& (sg_ σ a1 x5.toNatClampNeg)) ||| (((sg_ σ a0 x5.toNatClampNeg) ||| (sg_ σ a1 x5.toNatClampNeg)) &&& ((((sg_ σ a0 x5.toNatClampNeg) + (sg_ σ a1 x5.toNatClampNeg)) + x3) ^^^ ((-1)))))).toUInt64 >>> (((63 : Int32)).toInt64.toUInt64 &&& Int64.toUInt64 63)).toInt64)), (10, .long (((sg_ σ a0 x5.toNatClampNeg) + (sg_ σ a1 x5.toNatClampNeg)) + x3)), (8, .long (sg_ σ a1 x5.toNatClampNeg)), (6, .long (sg_ σ a0 x5.toNatClampNeg)), (0, .ref a0), (1, .ref a1), (2, .ref a2)]) d_X3_add_61 rfl rfl rfl (by decide) rfl ?_
    refine ka_goto (q := 5) d_X3_add_64 (by decide) ?_
    refine ka_sub [5, 6, 7, 1, 0] rfl ?_
    exact (k6 c1)
theorem d_X3_bitOrNought_0 : decode cX3_bitOrNought 0 = .ok (.aload_n 0, 1) := by decide +kernel
theorem d_X3_bitOrNought_1 : decode cX3_bitOrNought 1 = .ok (.iload_n 1, 1) := by decide +kernel
theorem d_X3_bitOrNought_2 : decode cX3_bitOrNought 2 = .ok (.bipush 6, 2) := by decide +kernel
theorem d_X3_bitOrNought_4 : decode cX3_bitOrNought 4 = .ok (.ishr, 1) := by decide +kernel
theorem d_X3_bitOrNought_5 : decode cX3_bitOrNought 5 = .ok (.invokestatic 17, 3) := by decide +kernel
theorem d_X3_bitOrNought_8 : decode cX3_bitOrNought 8 = .ok (.iload_n 1, 1) := by decide +kernel
theorem d_X3_bitOrNought_9 : decode cX3_bitOrNought 9 = .ok (.bipush 63, 2) := by decide +kernel
theorem d_X3_bitOrNought_11 : decode cX3_bitOrNought 11 = .ok (.iand, 1) := by decide +kernel
theorem d_X3_bitOrNought_12 : decode cX3_bitOrNought 12 = .ok (.lushr, 1) := by decide +kernel
theorem d_X3_bitOrNought_13 : decode cX3_bitOrNought 13 = .ok (.l2i, 1) := by decide +kernel
theorem d_X3_bitOrNought_14 : decode cX3_bitOrNought 14 = .ok (.iconst 1, 1) := by decide +kernel
theorem d_X3_bitOrNought_15 : decode cX3_bitOrNought 15 = .ok (.iand, 1) := by decide +kernel
theorem d_X3_bitOrNought_16 : decode cX3_bitOrNought 16 = .ok (.ireturn, 1) := by decide +kernel
theorem sg_X3_bitOrNought_0 {L : Nat} {xs : Nat → Int32} {σ : ks_St} {mc ms : Nat} {P : ka_O → ks_St → Prop} {a0 na0 : Nat} {x1 : Int32} (ha0 : rl_ a0 na0) (k1 : ks_W L xs mX3_bitOrNought rm_X3_bitOrNought 5 [(1, .int x1)] [.int (x1 >>> (6 &&& 31)), .ref a0] σ mc ms P) : ks_W L xs mX3_bitOrNought rm_X3_bitOrNought 0 [(0, .ref a0), (1, .int x1)] [] σ mc ms P := by
  refine ka_aload_n d_X3_bitOrNought_0 rfl rfl 0 rfl ?_
  refine ka_iload_n d_X3_bitOrNought_1 rfl rfl 1 rfl ?_
  refine ka_bipush (v := 6) d_X3_bitOrNought_2 rfl (by decide) ?_
  refine ka_ishr d_X3_bitOrNought_4 rfl ?_
  refine ka_sub [1] rfl ?_
  exact k1
theorem cs_X3_bitOrNought_5 {L : Nat} {xs : Nat → Int32} {σ : ks_St} {mc ms : Nat} {P : ka_O → ks_St → Prop} {f : Int64 → ks_St → Prop} {x1 : Int32} {a0 na0 : Nat} {s1 : Int32} (hK : ks_M L xs mX3_limbOrNought rm_X3_limbOrNought [.ref a0, .int s1] σ (pl_ f)) (kr : ∀ r σ', f r σ' → ks_W L xs mX3_bitOrNought rm_X3_bitOrNought 8 [(1, .int x1)] [.long r] σ' mc ms P) : ks_W L xs mX3_bitOrNought rm_X3_bitOrNought 5 [(1, .int x1)] [.int s1, .ref a0] σ mc ms P := by
  refine ks_callS (q := 8) (As := [.ref a0, .int s1]) (st := []) d_X3_bitOrNought_5 rfl rfl lk_X3_17 ⟨by decide, by decide⟩ (Nat.le_of_ble_eq_true rfl) ⟨Nat.le_refl _, Nat.le_refl _⟩ hK (fun v σ' hq => ?_) (fun E σ' hq => ?_)
  · obtain ⟨r, e, hf⟩ := hq; cases e; exact kr r σ' hf
  · obtain ⟨r, e, hf⟩ := hq; cases e
theorem sg_X3_bitOrNought_8 {L : Nat} {xs : Nat → Int32} {σ : ks_St} {mc ms : Nat} {P : ka_O → ks_St → Prop} {x1 : Int32} {s0 : Int64}  (r1 : P (.inl (some (.int (((((s0).toUInt64 >>> (((x1 &&& 63)).toInt64.toUInt64 &&& Int64.toUInt64 63)).toInt64).toInt32) &&& 1)))) σ) : ks_W L xs mX3_bitOrNought rm_X3_bitOrNought 8 [(1, .int x1)] [.long s0] σ mc ms P := by
  refine ka_iload_n d_X3_bitOrNought_8 rfl rfl 0 rfl ?_
  refine ka_bipush (v := 63) d_X3_bitOrNought_9 rfl (by decide) ?_
  refine ka_iand d_X3_bitOrNought_11 rfl ?_
  refine ka_lushr d_X3_bitOrNought_12 rfl ?_
  refine ka_l2i d_X3_bitOrNought_13 rfl ?_
  refine ka_iconst (v := 1) d_X3_bitOrNought_14 rfl (by decide) ?_
  refine ka_iand d_X3_bitOrNought_15 rfl ?_
  exact ks_iret (ty := .int) d_X3_bitOrNought_16 rfl rfl r1
theorem d_X3_subtract_0 : decode cX3_subtract 0 = .ok (.lconst 0, 1) := by decide +kernel
theorem d_X3_subtract_1 : decode cX3_subtract 1 = .ok (.lstore_n 3, 1) := by decide +kernel
theorem d_X3_subtract_2 : decode cX3_subtract 2 = .ok (.iconst 0, 1) := by decide +kernel
theorem d_X3_subtract_3 : decode cX3_subtract 3 = .ok (.istore 5, 2) := by decide +kernel
theorem d_X3_subtract_5 : decode cX3_subtract 5 = .ok (.iload 5, 2) := by decide +kernel
theorem d_X3_subtract_7 : decode cX3_subtract 7 = .ok (.bipush 9, 2) := by decide +kernel
theorem d_X3_subtract_9 : decode cX3_subtract 9 = .ok (.if_icmp .ge 62, 3) := by decide +kernel
theorem d_X3_subtract_12 : decode cX3_subtract 12 = .ok (.aload_n 0, 1) := by decide +kernel
theorem d_X3_subtract_13 : decode cX3_subtract 13 = .ok (.iload 5, 2) := by decide +kernel
theorem d_X3_subtract_15 : decode cX3_subtract 15 = .ok (.laload, 1) := by decide +kernel
theorem d_X3_subtract_16 : decode cX3_subtract 16 = .ok (.lstore 6, 2) := by decide +kernel
theorem d_X3_subtract_18 : decode cX3_subtract 18 = .ok (.aload_n 1, 1) := by decide +kernel
theorem d_X3_subtract_19 : decode cX3_subtract 19 = .ok (.iload 5, 2) := by decide +kernel
theorem d_X3_subtract_21 : decode cX3_subtract 21 = .ok (.laload, 1) := by decide +kernel
theorem d_X3_subtract_22 : decode cX3_subtract 22 = .ok (.lstore 8, 2) := by decide +kernel
theorem d_X3_subtract_24 : decode cX3_subtract 24 = .ok (.lload 6, 2) := by decide +kernel
theorem d_X3_subtract_26 : decode cX3_subtract 26 = .ok (.lload 8, 2) := by decide +kernel
theorem d_X3_subtract_28 : decode cX3_subtract 28 = .ok (.lsub, 1) := by decide +kernel
theorem d_X3_subtract_29 : decode cX3_subtract 29 = .ok (.lload_n 3, 1) := by decide +kernel
theorem d_X3_subtract_30 : decode cX3_subtract 30 = .ok (.lsub, 1) := by decide +kernel
theorem d_X3_subtract_31 : decode cX3_subtract 31 = .ok (.lstore 10, 2) := by decide +kernel
theorem d_X3_subtract_33 : decode cX3_subtract 33 = .ok (.aload_n 2, 1) := by decide +kernel
theorem d_X3_subtract_34 : decode cX3_subtract 34 = .ok (.iload 5, 2) := by decide +kernel
theorem d_X3_subtract_36 : decode cX3_subtract 36 = .ok (.lload 10, 2) := by decide +kernel
theorem d_X3_subtract_38 : decode cX3_subtract 38 = .ok (.lastore, 1) := by decide +kernel
theorem d_X3_subtract_39 : decode cX3_subtract 39 = .ok (.lload 6, 2) := by decide +kernel
theorem d_X3_subtract_41 : decode cX3_subtract 41 = .ok (.ldc2_w 9, 3) := by decide +kernel
theorem d_X3_subtract_44 : decode cX3_subtract 44 = .ok (.lxor, 1) := by decide +kernel
theorem d_X3_subtract_45 : decode cX3_subtract 45 = .ok (.lload 8, 2) := by decide +kernel
theorem d_X3_subtract_47 : decode cX3_subtract 47 = .ok (.land, 1) := by decide +kernel
theorem d_X3_subtract_48 : decode cX3_subtract 48 = .ok (.lload 6, 2) := by decide +kernel
theorem d_X3_subtract_50 : decode cX3_subtract 50 = .ok (.ldc2_w 9, 3) := by decide +kernel
theorem d_X3_subtract_53 : decode cX3_subtract 53 = .ok (.lxor, 1) := by decide +kernel
theorem d_X3_subtract_54 : decode cX3_subtract 54 = .ok (.lload 8, 2) := by decide +kernel
theorem d_X3_subtract_56 : decode cX3_subtract 56 = .ok (.lor, 1) := by decide +kernel
theorem d_X3_subtract_57 : decode cX3_subtract 57 = .ok (.lload 10, 2) := by decide +kernel
theorem d_X3_subtract_59 : decode cX3_subtract 59 = .ok (.land, 1) := by decide +kernel
theorem d_X3_subtract_60 : decode cX3_subtract 60 = .ok (.lor, 1) := by decide +kernel
theorem d_X3_subtract_61 : decode cX3_subtract 61 = .ok (.bipush 63, 2) := by decide +kernel
theorem d_X3_subtract_63 : decode cX3_subtract 63 = .ok (.lushr, 1) := by decide +kernel
theorem d_X3_subtract_64 : decode cX3_subtract 64 = .ok (.lstore_n 3, 1) := by decide +kernel
theorem d_X3_subtract_65 : decode cX3_subtract 65 = .ok (.iinc 5 1, 3) := by decide +kernel
theorem d_X3_subtract_68 : decode cX3_subtract 68 = .ok (.goto (-63), 3) := by decide +kernel
theorem d_X3_subtract_71 : decode cX3_subtract 71 = .ok (.return_, 1) := by decide +kernel
theorem sg_X3_subtract_0 {L : Nat} {xs : Nat → Int32} {σ : ks_St} {mc ms : Nat} {P : ka_O → ks_St → Prop} {a0 na0 : Nat} {a1 na1 : Nat} {a2 na2 : Nat} (ha0 : rl_ a0 na0) (ha1 : rl_ a1 na1) (ha2 : rl_ a2 na2) (k1 : ks_W L xs mX3_subtract rm_X3_subtract 5 [(0, .ref a0), (1, .ref a1), (2, .ref a2), (3, .long 0), (5, .int 0)] [] σ mc ms P) : ks_W L xs mX3_subtract rm_X3_subtract 0 [(0, .ref a0), (1, .ref a1), (2, .ref a2)] [] σ mc ms P := by
  refine ka_lconst (v := 0) d_X3_subtract_0 rfl (by decide) ?_
  refine ka_lstore_n (ls' := [(3, .long 0), (0, .ref a0), (1, .ref a1), (2, .ref a2)]) d_X3_subtract_1 rfl rfl (by decide) rfl ?_
  refine ka_iconst (v := 0) d_X3_subtract_2 rfl (by decide) ?_
  refine ka_istore (ls' := [(5, .int 0), (3, .long 0), (0, .ref a0), (1, .ref a1), (2, .ref a2)]) d_X3_subtract_3 rfl (by decide) rfl ?_
  refine ka_sub [2, 3, 4, 1, 0] rfl ?_
  exact k1
theorem sg_X3_subtract_5 {L : Nat} {xs : Nat → Int32} {σ : ks_St} {mc ms : Nat} {P : ka_O → ks_St → Prop} {a0 na0 : Nat} {a1 na1 : Nat} {a2 na2 : Nat} {x3 : Int64} {x5 : Int32} (ha0 : rl_ a0 na0) (ha1 : rl_ a1 na1) (ha2 : rl_ a2 na2) (r2 : (9 ≤ x5) → P (.inl none) σ) (v3 : (¬ (9 ≤ x5)) → vp_in x5 na0) (v4 : (¬ (9 ≤ x5)) → vp_in x5 na1) (v5 : (¬ (9 ≤ x5)) → vp_in x5 na2) (k6 : (¬ (9 ≤ x5)) → ks_W L xs mX3_subtract rm_X3_subtract 5 [(0, .ref a0), (1, .ref a1), (2, .ref a2), (3, .long (((((((sg_ σ a0 x5.toNatClampNeg) ^^^ ((-1))) &&& (sg_ σ a1 x5.toNatClampNeg)) ||| ((((sg_ σ a0 x5.toNatClampNeg) ^^^ ((-1))) ||| (sg_ σ a1 x5.toNatClampNeg)) &&& (((sg_ σ a0 x5.toNatClampNeg) - (sg_ σ a1 x5.toNatClampNeg)) - x3)))).toUInt64 >>> (((63 : Int32)).toInt64.toUInt64 &&& Int64.toUInt64 63)).toInt64)), (5, .int (x5 + 1))] [] (ug_ σ a2 (vp_updL (sg_ σ a2) x5.toNatClampNeg (((sg_ σ a0 x5.toNatClampNeg) - (sg_ σ a1 x5.toNatClampNeg)) - x3))) mc ms P) : ks_W L xs mX3_subtract rm_X3_subtract 5 [(0, .ref a0), (1, .ref a1), (2, .ref a2), (3, .long x3), (5, .int x5)] [] σ mc ms P := by
  refine ka_iload d_X3_subtract_5 rfl 4 rfl ?_
  refine ka_bipush (v := 9) d_X3_subtract_7 rfl (by decide) ?_
  refine ka_icmp_ge (tgt := 71) d_X3_subtract_9 (by decide) rfl (fun c1 => ?_) (fun c1 => ?_)
  · exact ks_vret d_X3_subtract_71 rfl (r2 c1)
  · refine ka_aload_n d_X3_subtract_12 rfl rfl 0 rfl ?_
    refine ka_iload d_X3_subtract_13 rfl 4 rfl ?_
    refine ks_lald ha0 d_X3_subtract_15 rfl (v3 c1) ?_
    refine ka_lstore (ls' := [(6, .long (sg_ σ a0 x5.toNatClampNeg)), (0, .ref a0), (1, .ref a1), (2, .ref a2), (3, .long x3), (5, .int x5)]) d_X3_subtract_16 rfl (by decide) rfl ?_
    refine ka_aload_n d_X3_subtract_18 rfl rfl 2 rfl ?_
    refine ka_iload d_X3_subtract_19 rfl 5 rfl ?_
    refine ks_lald ha1 d_X3_subtract_21 rfl (v4 c1) ?_
    refine ka_lstore (ls' := [(8, .long (sg_ σ a1 x5.toNatClampNeg)), (6, .long (sg_ σ a0 x5.toNatClampNeg)), (0, .ref a0), (1, .ref a1), (2, .ref a2), (3, .long x3), (5, .int x5)]) d_X3_subtract_22 rfl (by decide) rfl ?_
    refine ka_lload d_X3_subtract_24 rfl 1 rfl ?_
    refine ka_lload d_X3_subtract_26 rfl 0 rfl ?_
    refine ka_lsub d_X3_subtract_28 rfl ?_
    refine ka_lload_n d_X3_subtract_29 rfl rfl 5 rfl ?_
    refine ka_lsub d_X3_subtract_30 rfl ?_
    refine ka_lstore (ls' := [(10, .long (((sg_ σ a0 x5.toNatClampNeg) - (sg_ σ a1 x5.toNatClampNeg)) - x3)), (8, .long (sg_ σ a1 x5.toNatClampNeg)), (6, .long (sg_ σ a0 x5.toNatClampNeg)), (0, .ref a0), (1, .ref a1), (2, .ref a2), (3, .long x3), (5, .int x5)]) d_X3_subtract_31 rfl (by decide) rfl ?_
    refine ka_aload_n d_X3_subtract_33 rfl rfl 5 rfl ?_
    refine ka_iload d_X3_subtract_34 rfl 7 rfl ?_
    refine ka_lload d_X3_subtract_36 rfl 0 rfl ?_
    refine ks_last ha2 d_X3_subtract_38 rfl (v5 c1) ?_
    refine ka_lload d_X3_subtract_39 rfl 2 rfl ?_
    refine ka_ldc2 (v := -1) d_X3_subtract_41 rfl kl_X3_9 ?_
    refine ka_lxor d_X3_subtract_44 rfl ?_
    refine ka_lload d_X3_subtract_45 rfl 1 rfl ?_
    refine ka_land d_X3_subtract_47 rfl ?_
    refine ka_lload d_X3_subtract_48 rfl 2 rfl ?_
    refine ka_ldc2 (v := -1) d_X3_subtract_50 rfl kl_X3_9 ?_
    refine ka_lxor d_X3_subtract_53 rfl ?_
    refine ka_lload d_X3_subtract_54 rfl 1 rfl ?_
    refine ka_lor d_X3_subtract_56 rfl ?_
    refine ka_lload d_X3_subtract_57 rfl 0 rfl ?_
    refine ka_land d_X3_subtract_59 rfl ?_
    refine ka_lor d_X3_subtract_60 rfl ?_
    refine ka_bipush (v := 63) d_X3_subtract_61 rfl (by decide) ?_
    refine ka_lushr d_X3_subtract_63 rfl ?_
    refine ka_lstore_n (ls' := [(3, .long (((((((sg_ σ a0 x5.toNatClampNeg) ^^^ ((-1))) &&& (sg_ σ a1 x5.toNatClampNeg)) ||| ((((sg_ σ a0 x5.toNatClampNeg) ^^^ ((-1))) ||| (sg_ σ a1 x5.toNatClampNeg)) &&& (((sg_ σ a0 x5.toNatClampNeg) - (sg_ σ a1 x5.toNatClampNeg)) - x3)))).toUInt64 >>> (((63 : Int32)).toInt64.toUInt64 &&& Int64.toUInt64 63)).toInt64)), (10, .long (((sg_ σ a0 x5.toNatClampNeg) - (sg_ σ a1 x5.toNatClampNeg)) - x3)), (8, .long (sg_ σ a1 x5.toNatClampNeg)), (6, .long (sg_ σ a0 x5.toNatClampNeg)), (0, .ref a0), (1, .ref a1), (2, .ref a2), (5, .int x5)]) d_X3_subtract_64 rfl rfl (by decide) rfl ?_
    refine ka_iinc (g := 7) (v := x5 + 1) (ls' := [(5, .int (x5 + 1)), (3, .long (((((((sg_ σ a0 x5.toNatClampNeg) ^^^ ((-1))) &&& (sg_ σ a1 x5.toNatClampNeg)) ||| ((((sg_ σ a0 x5.toNatClampNeg) ^^^ ((-1))) ||| (sg_ σ a1 x5.toNatClampNeg)) &&& (((sg_ σ a0 x5.toNatClampNeg) - (sg_ σ a1 x5.toNatClampNeg)) - x3)))).toUInt64 >>> (((63 : Int32)).toInt64.toUInt64 &&& Int64.toUInt64 63)).toInt64)), (10, .long (((sg_ σ a0 x5.toNatClampNeg) - (sg_ σ a1 x5.toNatClampNeg)) - x3)), (8, .long (sg_ σ a1 x5.toNatClampNeg)), (6, .long (sg_ σ a0 x5.toNatClampNeg)), (0, .ref a0), (1, .ref a1), (2, .ref a2)]) d_X3_subtract_65 rfl rfl rfl (by decide) rfl ?_
    refine ka_goto (q := 5) d_X3_subtract_68 (by decide) ?_
    refine ka_sub [5, 6, 7, 1, 0] rfl ?_
    exact (k6 c1)
theorem d_X3_isNought_0 : decode cX3_isNought 0 = .ok (.lconst 0, 1) := by decide +kernel
theorem d_X3_isNought_1 : decode cX3_isNought 1 = .ok (.lstore_n 1, 1) := by decide +kernel
theorem d_X3_isNought_2 : decode cX3_isNought 2 = .ok (.iconst 0, 1) := by decide +kernel
theorem d_X3_isNought_3 : decode cX3_isNought 3 = .ok (.istore_n 3, 1) := by decide +kernel
theorem d_X3_isNought_4 : decode cX3_isNought 4 = .ok (.iload_n 3, 1) := by decide +kernel
theorem d_X3_isNought_5 : decode cX3_isNought 5 = .ok (.aload_n 0, 1) := by decide +kernel
theorem d_X3_isNought_6 : decode cX3_isNought 6 = .ok (.arraylength, 1) := by decide +kernel
theorem d_X3_isNought_7 : decode cX3_isNought 7 = .ok (.if_icmp .ge 15, 3) := by decide +kernel
theorem d_X3_isNought_10 : decode cX3_isNought 10 = .ok (.lload_n 1, 1) := by decide +kernel
theorem d_X3_isNought_11 : decode cX3_isNought 11 = .ok (.aload_n 0, 1) := by decide +kernel
theorem d_X3_isNought_12 : decode cX3_isNought 12 = .ok (.iload_n 3, 1) := by decide +kernel
theorem d_X3_isNought_13 : decode cX3_isNought 13 = .ok (.laload, 1) := by decide +kernel
theorem d_X3_isNought_14 : decode cX3_isNought 14 = .ok (.lor, 1) := by decide +kernel
theorem d_X3_isNought_15 : decode cX3_isNought 15 = .ok (.lstore_n 1, 1) := by decide +kernel
theorem d_X3_isNought_16 : decode cX3_isNought 16 = .ok (.iinc 3 1, 3) := by decide +kernel
theorem d_X3_isNought_19 : decode cX3_isNought 19 = .ok (.goto (-15), 3) := by decide +kernel
theorem d_X3_isNought_22 : decode cX3_isNought 22 = .ok (.lload_n 1, 1) := by decide +kernel
theorem d_X3_isNought_23 : decode cX3_isNought 23 = .ok (.lconst 0, 1) := by decide +kernel
theorem d_X3_isNought_24 : decode cX3_isNought 24 = .ok (.lcmp, 1) := by decide +kernel
theorem d_X3_isNought_25 : decode cX3_isNought 25 = .ok (.ifCond .ne 7, 3) := by decide +kernel
theorem d_X3_isNought_28 : decode cX3_isNought 28 = .ok (.iconst 1, 1) := by decide +kernel
theorem d_X3_isNought_29 : decode cX3_isNought 29 = .ok (.goto 4, 3) := by decide +kernel
theorem d_X3_isNought_32 : decode cX3_isNought 32 = .ok (.iconst 0, 1) := by decide +kernel
theorem d_X3_isNought_33 : decode cX3_isNought 33 = .ok (.ireturn, 1) := by decide +kernel
theorem sg_X3_isNought_0 {L : Nat} {xs : Nat → Int32} {σ : ks_St} {mc ms : Nat} {P : ka_O → ks_St → Prop} {a0 na0 : Nat} (ha0 : rl_ a0 na0) (k1 : ks_W L xs mX3_isNought rm_X3_isNought 4 [(0, .ref a0), (1, .long 0), (3, .int 0)] [] σ mc ms P) : ks_W L xs mX3_isNought rm_X3_isNought 0 [(0, .ref a0)] [] σ mc ms P := by
  refine ka_lconst (v := 0) d_X3_isNought_0 rfl (by decide) ?_
  refine ka_lstore_n (ls' := [(1, .long 0), (0, .ref a0)]) d_X3_isNought_1 rfl rfl (by decide) rfl ?_
  refine ka_iconst (v := 0) d_X3_isNought_2 rfl (by decide) ?_
  refine ka_istore_n (ls' := [(3, .int 0), (1, .long 0), (0, .ref a0)]) d_X3_isNought_3 rfl rfl (by decide) rfl ?_
  refine ka_sub [2, 1, 0] rfl ?_
  exact k1
theorem sg_X3_isNought_4 {L : Nat} {xs : Nat → Int32} {σ : ks_St} {mc ms : Nat} {P : ka_O → ks_St → Prop} {a0 na0 : Nat} {x1 : Int64} {x3 : Int32} (ha0 : rl_ a0 na0) (k3 : ((nI na0) ≤ x3) → (¬ (lg_cmp x1 0) = 0) → ks_W L xs mX3_isNought rm_X3_isNought 33 [] [.int 0] σ mc ms P) (k4 : ((nI na0) ≤ x3) → ((lg_cmp x1 0) = 0) → ks_W L xs mX3_isNought rm_X3_isNought 33 [] [.int 1] σ mc ms P) (v5 : (¬ ((nI na0) ≤ x3)) → vp_in x3 na0) (k6 : (¬ ((nI na0) ≤ x3)) → ks_W L xs mX3_isNought rm_X3_isNought 4 [(0, .ref a0), (1, .long (x1 ||| (sg_ σ a0 x3.toNatClampNeg))), (3, .int (x3 + 1))] [] σ mc ms P) : ks_W L xs mX3_isNought rm_X3_isNought 4 [(0, .ref a0), (1, .long x1), (3, .int x3)] [] σ mc ms P := by
  refine ka_iload_n d_X3_isNought_4 rfl rfl 2 rfl ?_
  refine ka_aload_n d_X3_isNought_5 rfl rfl 0 rfl ?_
  refine ks_llen ha0 d_X3_isNought_6 rfl ?_
  refine ka_icmp_ge (tgt := 22) d_X3_isNought_7 (by decide) rfl (fun c1 => ?_) (fun c1 => ?_)
  · refine ka_lload_n d_X3_isNought_22 rfl rfl 1 rfl ?_
    refine ka_lconst (v := 0) d_X3_isNought_23 rfl (by decide) ?_
    refine ka_lcmp d_X3_isNought_24 rfl ?_
    refine ka_if_ne (tgt := 32) d_X3_isNought_25 (by decide) rfl (fun c2 => ?_) (fun c2 => ?_)
    · refine ka_iconst (v := 0) d_X3_isNought_32 rfl (by decide) ?_
      refine ka_sub [] rfl ?_
      exact (k3 c1 c2)
    · refine ka_iconst (v := 1) d_X3_isNought_28 rfl (by decide) ?_
      refine ka_goto (q := 33) d_X3_isNought_29 (by decide) ?_
      refine ka_sub [] rfl ?_
      exact (k4 c1 c2)
  · refine ka_lload_n d_X3_isNought_10 rfl rfl 1 rfl ?_
    refine ka_aload_n d_X3_isNought_11 rfl rfl 0 rfl ?_
    refine ka_iload_n d_X3_isNought_12 rfl rfl 2 rfl ?_
    refine ks_lald ha0 d_X3_isNought_13 rfl (v5 c1) ?_
    refine ka_lor d_X3_isNought_14 rfl ?_
    refine ka_lstore_n (ls' := [(1, .long (x1 ||| (sg_ σ a0 x3.toNatClampNeg))), (0, .ref a0), (3, .int x3)]) d_X3_isNought_15 rfl rfl (by decide) rfl ?_
    refine ka_iinc (g := 2) (v := x3 + 1) (ls' := [(3, .int (x3 + 1)), (1, .long (x1 ||| (sg_ σ a0 x3.toNatClampNeg))), (0, .ref a0)]) d_X3_isNought_16 rfl rfl rfl (by decide) rfl ?_
    refine ka_goto (q := 4) d_X3_isNought_19 (by decide) ?_
    refine ka_sub [2, 1, 0] rfl ?_
    exact (k6 c1)
theorem sg_X3_isNought_33 {L : Nat} {xs : Nat → Int32} {σ : ks_St} {mc ms : Nat} {P : ka_O → ks_St → Prop} {s0 : Int32}  (b1 : narrow .boolean (.int s0) = .int s0) (r2 : P (.inl (some (.int s0))) σ) : ks_W L xs mX3_isNought rm_X3_isNought 33 [] [.int s0] σ mc ms P := by
  exact ks_iret (ty := .boolean) d_X3_isNought_33 rfl b1 r2
theorem d_X3_maskOf_0 : decode cX3_maskOf 0 = .ok (.iload_n 0, 1) := by decide +kernel
theorem d_X3_maskOf_1 : decode cX3_maskOf 1 = .ok (.iload_n 1, 1) := by decide +kernel
theorem d_X3_maskOf_2 : decode cX3_maskOf 2 = .ok (.bipush 64, 2) := by decide +kernel
theorem d_X3_maskOf_4 : decode cX3_maskOf 4 = .ok (.imul, 1) := by decide +kernel
theorem d_X3_maskOf_5 : decode cX3_maskOf 5 = .ok (.isub, 1) := by decide +kernel
theorem d_X3_maskOf_6 : decode cX3_maskOf 6 = .ok (.istore_n 2, 1) := by decide +kernel
theorem d_X3_maskOf_7 : decode cX3_maskOf 7 = .ok (.iload_n 2, 1) := by decide +kernel
theorem d_X3_maskOf_8 : decode cX3_maskOf 8 = .ok (.bipush 64, 2) := by decide +kernel
theorem d_X3_maskOf_10 : decode cX3_maskOf 10 = .ok (.if_icmp .lt 7, 3) := by decide +kernel
theorem d_X3_maskOf_13 : decode cX3_maskOf 13 = .ok (.ldc2_w 9, 3) := by decide +kernel
theorem d_X3_maskOf_16 : decode cX3_maskOf 16 = .ok (.lreturn, 1) := by decide +kernel
theorem d_X3_maskOf_17 : decode cX3_maskOf 17 = .ok (.iload_n 2, 1) := by decide +kernel
theorem d_X3_maskOf_18 : decode cX3_maskOf 18 = .ok (.ifCond .gt 7, 3) := by decide +kernel
theorem d_X3_maskOf_21 : decode cX3_maskOf 21 = .ok (.lconst 0, 1) := by decide +kernel
theorem d_X3_maskOf_22 : decode cX3_maskOf 22 = .ok (.goto 8, 3) := by decide +kernel
theorem d_X3_maskOf_25 : decode cX3_maskOf 25 = .ok (.lconst 1, 1) := by decide +kernel
theorem d_X3_maskOf_26 : decode cX3_maskOf 26 = .ok (.iload_n 2, 1) := by decide +kernel
theorem d_X3_maskOf_27 : decode cX3_maskOf 27 = .ok (.lshl, 1) := by decide +kernel
theorem d_X3_maskOf_28 : decode cX3_maskOf 28 = .ok (.lconst 1, 1) := by decide +kernel
theorem d_X3_maskOf_29 : decode cX3_maskOf 29 = .ok (.lsub, 1) := by decide +kernel
theorem d_X3_maskOf_30 : decode cX3_maskOf 30 = .ok (.lreturn, 1) := by decide +kernel
theorem sg_X3_maskOf_0 {L : Nat} {xs : Nat → Int32} {σ : ks_St} {mc ms : Nat} {P : ka_O → ks_St → Prop} {x0 : Int32} {x1 : Int32}  (k3 : ((x0 - (x1 * 64)) < 64) → (0 < (x0 - (x1 * 64))) → ks_W L xs mX3_maskOf rm_X3_maskOf 30 [] [.long ((1 <<< (((x0 - (x1 * 64))).toInt64 &&& 63)) - 1)] σ mc ms P) (k4 : ((x0 - (x1 * 64)) < 64) → (¬ (0 < (x0 - (x1 * 64)))) → ks_W L xs mX3_maskOf rm_X3_maskOf 30 [] [.long 0] σ mc ms P) (r5 : (¬ ((x0 - (x1 * 64)) < 64)) → P (.inl (some (.long ((-1))))) σ) : ks_W L xs mX3_maskOf rm_X3_maskOf 0 [(0, .int x0), (1, .int x1)] [] σ mc ms P := by
  refine ka_iload_n d_X3_maskOf_0 rfl rfl 0 rfl ?_
  refine ka_iload_n d_X3_maskOf_1 rfl rfl 1 rfl ?_
  refine ka_bipush (v := 64) d_X3_maskOf_2 rfl (by decide) ?_
  refine ka_imul d_X3_maskOf_4 rfl ?_
  refine ka_isub d_X3_maskOf_5 rfl ?_
  refine ka_istore_n (ls' := [(2, .int (x0 - (x1 * 64))), (0, .int x0), (1, .int x1)]) d_X3_maskOf_6 rfl rfl (by decide) rfl ?_
  refine ka_iload_n d_X3_maskOf_7 rfl rfl 0 rfl ?_
  refine ka_bipush (v := 64) d_X3_maskOf_8 rfl (by decide) ?_
  refine ka_icmp_lt (tgt := 17) d_X3_maskOf_10 (by decide) rfl (fun c1 => ?_) (fun c1 => ?_)
  · refine ka_iload_n d_X3_maskOf_17 rfl rfl 0 rfl ?_
    refine ka_if_gt (tgt := 25) d_X3_maskOf_18 (by decide) rfl (fun c2 => ?_) (fun c2 => ?_)
    · refine ka_lconst (v := 1) d_X3_maskOf_25 rfl (by decide) ?_
      refine ka_iload_n d_X3_maskOf_26 rfl rfl 0 rfl ?_
      refine ka_lshl d_X3_maskOf_27 rfl ?_
      refine ka_lconst (v := 1) d_X3_maskOf_28 rfl (by decide) ?_
      refine ka_lsub d_X3_maskOf_29 rfl ?_
      refine ka_sub [] rfl ?_
      exact (k3 c1 c2)
    · refine ka_lconst (v := 0) d_X3_maskOf_21 rfl (by decide) ?_
      refine ka_goto (q := 30) d_X3_maskOf_22 (by decide) ?_
      refine ka_sub [] rfl ?_
      exact (k4 c1 c2)
  · refine ka_ldc2 (v := -1) d_X3_maskOf_13 rfl kl_X3_9 ?_
    exact ks_lret d_X3_maskOf_16 rfl (r5 c1)
theorem sg_X3_maskOf_30 {L : Nat} {xs : Nat → Int32} {σ : ks_St} {mc ms : Nat} {P : ka_O → ks_St → Prop} {s0 : Int64}  (r1 : P (.inl (some (.long s0))) σ) : ks_W L xs mX3_maskOf rm_X3_maskOf 30 [] [.long s0] σ mc ms P := by
  exact ks_lret d_X3_maskOf_30 rfl r1
theorem d_X3_cut_0 : decode cX3_cut 0 = .ok (.iconst 0, 1) := by decide +kernel
theorem d_X3_cut_1 : decode cX3_cut 1 = .ok (.istore_n 2, 1) := by decide +kernel
theorem d_X3_cut_2 : decode cX3_cut 2 = .ok (.iload_n 2, 1) := by decide +kernel
theorem d_X3_cut_3 : decode cX3_cut 3 = .ok (.aload_n 0, 1) := by decide +kernel
theorem d_X3_cut_4 : decode cX3_cut 4 = .ok (.arraylength, 1) := by decide +kernel
theorem d_X3_cut_5 : decode cX3_cut 5 = .ok (.if_icmp .ge 20, 3) := by decide +kernel
theorem d_X3_cut_8 : decode cX3_cut 8 = .ok (.aload_n 0, 1) := by decide +kernel
theorem d_X3_cut_9 : decode cX3_cut 9 = .ok (.iload_n 2, 1) := by decide +kernel
theorem d_X3_cut_10 : decode cX3_cut 10 = .ok (.dup2, 1) := by decide +kernel
theorem d_X3_cut_11 : decode cX3_cut 11 = .ok (.laload, 1) := by decide +kernel
theorem d_X3_cut_12 : decode cX3_cut 12 = .ok (.iload_n 1, 1) := by decide +kernel
theorem d_X3_cut_13 : decode cX3_cut 13 = .ok (.iload_n 2, 1) := by decide +kernel
theorem d_X3_cut_14 : decode cX3_cut 14 = .ok (.invokestatic 11, 3) := by decide +kernel
theorem d_X3_cut_17 : decode cX3_cut 17 = .ok (.land, 1) := by decide +kernel
theorem d_X3_cut_18 : decode cX3_cut 18 = .ok (.lastore, 1) := by decide +kernel
theorem d_X3_cut_19 : decode cX3_cut 19 = .ok (.iinc 2 1, 3) := by decide +kernel
theorem d_X3_cut_22 : decode cX3_cut 22 = .ok (.goto (-20), 3) := by decide +kernel
theorem d_X3_cut_25 : decode cX3_cut 25 = .ok (.return_, 1) := by decide +kernel
theorem sg_X3_cut_0 {L : Nat} {xs : Nat → Int32} {σ : ks_St} {mc ms : Nat} {P : ka_O → ks_St → Prop} {a0 na0 : Nat} {x1 : Int32} (ha0 : rl_ a0 na0) (k1 : ks_W L xs mX3_cut rm_X3_cut 2 [(0, .ref a0), (1, .int x1), (2, .int 0)] [] σ mc ms P) : ks_W L xs mX3_cut rm_X3_cut 0 [(0, .ref a0), (1, .int x1)] [] σ mc ms P := by
  refine ka_iconst (v := 0) d_X3_cut_0 rfl (by decide) ?_
  refine ka_istore_n (ls' := [(2, .int 0), (0, .ref a0), (1, .int x1)]) d_X3_cut_1 rfl rfl (by decide) rfl ?_
  refine ka_sub [1, 2, 0] rfl ?_
  exact k1
theorem sg_X3_cut_2 {L : Nat} {xs : Nat → Int32} {σ : ks_St} {mc ms : Nat} {P : ka_O → ks_St → Prop} {a0 na0 : Nat} {x1 : Int32} {x2 : Int32} (ha0 : rl_ a0 na0) (r2 : ((nI na0) ≤ x2) → P (.inl none) σ) (v3 : (¬ ((nI na0) ≤ x2)) → vp_in x2 na0) (k4 : (¬ ((nI na0) ≤ x2)) → ks_W L xs mX3_cut rm_X3_cut 14 [(0, .ref a0), (1, .int x1), (2, .int x2)] [.int x2, .int x1, .long (sg_ σ a0 x2.toNatClampNeg), .int x2, .ref a0] σ mc ms P) : ks_W L xs mX3_cut rm_X3_cut 2 [(0, .ref a0), (1, .int x1), (2, .int x2)] [] σ mc ms P := by
  refine ka_iload_n d_X3_cut_2 rfl rfl 2 rfl ?_
  refine ka_aload_n d_X3_cut_3 rfl rfl 0 rfl ?_
  refine ks_llen ha0 d_X3_cut_4 rfl ?_
  refine ka_icmp_ge (tgt := 25) d_X3_cut_5 (by decide) rfl (fun c1 => ?_) (fun c1 => ?_)
  · exact ks_vret d_X3_cut_25 rfl (r2 c1)
  · refine ka_aload_n d_X3_cut_8 rfl rfl 0 rfl ?_
    refine ka_iload_n d_X3_cut_9 rfl rfl 2 rfl ?_
    refine ka_dup2 d_X3_cut_10 rfl rfl rfl ?_
    refine ks_lald ha0 d_X3_cut_11 rfl (v3 c1) ?_
    refine ka_iload_n d_X3_cut_12 rfl rfl 1 rfl ?_
    refine ka_iload_n d_X3_cut_13 rfl rfl 2 rfl ?_
    exact (k4 c1)
theorem cs_X3_cut_14 {L : Nat} {xs : Nat → Int32} {σ : ks_St} {mc ms : Nat} {P : ka_O → ks_St → Prop} {f : Int64 → ks_St → Prop} {a0 na0 : Nat} {x1 : Int32} {x2 : Int32} {s1 : Int32} {s2 : Int64} {s3 : Int32} {s4 : Int32} (hK : ks_M L xs mX3_maskOf rm_X3_maskOf [.int s3, .int s4] σ (pl_ f)) (kr : ∀ r σ', f r σ' → ks_W L xs mX3_cut rm_X3_cut 17 [(0, .ref a0), (1, .int x1), (2, .int x2)] [.long r, .long s2, .int s1, .ref a0] σ' mc ms P) : ks_W L xs mX3_cut rm_X3_cut 14 [(0, .ref a0), (1, .int x1), (2, .int x2)] [.int s4, .int s3, .long s2, .int s1, .ref a0] σ mc ms P := by
  refine ks_callS (q := 17) (As := [.int s3, .int s4]) (st := [.long s2, .int s1, .ref a0]) d_X3_cut_14 rfl rfl lk_X3_11 ⟨by decide, by decide⟩ (Nat.le_of_ble_eq_true rfl) ⟨Nat.le_refl _, Nat.le_refl _⟩ hK (fun v σ' hq => ?_) (fun E σ' hq => ?_)
  · obtain ⟨r, e, hf⟩ := hq; cases e; exact kr r σ' hf
  · obtain ⟨r, e, hf⟩ := hq; cases e
theorem sg_X3_cut_17 {L : Nat} {xs : Nat → Int32} {σ : ks_St} {mc ms : Nat} {P : ka_O → ks_St → Prop} {a0 na0 : Nat} {x1 : Int32} {x2 : Int32} {s1 : Int32} {s2 : Int64} {s3 : Int64} (ha0 : rl_ a0 na0) (v1 : vp_in s1 na0) (k2 : ks_W L xs mX3_cut rm_X3_cut 2 [(0, .ref a0), (1, .int x1), (2, .int (x2 + 1))] [] (ug_ σ a0 (vp_updL (sg_ σ a0) s1.toNatClampNeg (s2 &&& s3))) mc ms P) : ks_W L xs mX3_cut rm_X3_cut 17 [(0, .ref a0), (1, .int x1), (2, .int x2)] [.long s3, .long s2, .int s1, .ref a0] σ mc ms P := by
  refine ka_land d_X3_cut_17 rfl ?_
  refine ks_last ha0 d_X3_cut_18 rfl v1 ?_
  refine ka_iinc (g := 2) (v := x2 + 1) (ls' := [(2, .int (x2 + 1)), (0, .ref a0), (1, .int x1)]) d_X3_cut_19 rfl rfl rfl (by decide) rfl ?_
  refine ka_goto (q := 2) d_X3_cut_22 (by decide) ?_
  refine ka_sub [1, 2, 0] rfl ?_
  exact k2
theorem d_X3_negate_0 : decode cX3_negate 0 = .ok (.lconst 1, 1) := by decide +kernel
theorem d_X3_negate_1 : decode cX3_negate 1 = .ok (.lstore_n 2, 1) := by decide +kernel
theorem d_X3_negate_2 : decode cX3_negate 2 = .ok (.iconst 0, 1) := by decide +kernel
theorem d_X3_negate_3 : decode cX3_negate 3 = .ok (.istore 4, 2) := by decide +kernel
theorem d_X3_negate_5 : decode cX3_negate 5 = .ok (.iload 4, 2) := by decide +kernel
theorem d_X3_negate_7 : decode cX3_negate 7 = .ok (.aload_n 0, 1) := by decide +kernel
theorem d_X3_negate_8 : decode cX3_negate 8 = .ok (.arraylength, 1) := by decide +kernel
theorem d_X3_negate_9 : decode cX3_negate 9 = .ok (.if_icmp .ge 46, 3) := by decide +kernel
theorem d_X3_negate_12 : decode cX3_negate 12 = .ok (.aload_n 0, 1) := by decide +kernel
theorem d_X3_negate_13 : decode cX3_negate 13 = .ok (.iload 4, 2) := by decide +kernel
theorem d_X3_negate_15 : decode cX3_negate 15 = .ok (.laload, 1) := by decide +kernel
theorem d_X3_negate_16 : decode cX3_negate 16 = .ok (.ldc2_w 9, 3) := by decide +kernel
theorem d_X3_negate_19 : decode cX3_negate 19 = .ok (.lxor, 1) := by decide +kernel
theorem d_X3_negate_20 : decode cX3_negate 20 = .ok (.lload_n 2, 1) := by decide +kernel
theorem d_X3_negate_21 : decode cX3_negate 21 = .ok (.ladd, 1) := by decide +kernel
theorem d_X3_negate_22 : decode cX3_negate 22 = .ok (.lstore 5, 2) := by decide +kernel
theorem d_X3_negate_24 : decode cX3_negate 24 = .ok (.lload_n 2, 1) := by decide +kernel
theorem d_X3_negate_25 : decode cX3_negate 25 = .ok (.lconst 1, 1) := by decide +kernel
theorem d_X3_negate_26 : decode cX3_negate 26 = .ok (.lcmp, 1) := by decide +kernel
theorem d_X3_negate_27 : decode cX3_negate 27 = .ok (.ifCond .ne 14, 3) := by decide +kernel
theorem d_X3_negate_30 : decode cX3_negate 30 = .ok (.lload 5, 2) := by decide +kernel
theorem d_X3_negate_32 : decode cX3_negate 32 = .ok (.lconst 0, 1) := by decide +kernel
theorem d_X3_negate_33 : decode cX3_negate 33 = .ok (.lcmp, 1) := by decide +kernel
theorem d_X3_negate_34 : decode cX3_negate 34 = .ok (.ifCond .ne 7, 3) := by decide +kernel
theorem d_X3_negate_37 : decode cX3_negate 37 = .ok (.lconst 1, 1) := by decide +kernel
theorem d_X3_negate_38 : decode cX3_negate 38 = .ok (.goto 4, 3) := by decide +kernel
theorem d_X3_negate_41 : decode cX3_negate 41 = .ok (.lconst 0, 1) := by decide +kernel
theorem d_X3_negate_42 : decode cX3_negate 42 = .ok (.lstore_n 2, 1) := by decide +kernel
theorem d_X3_negate_43 : decode cX3_negate 43 = .ok (.aload_n 0, 1) := by decide +kernel
theorem d_X3_negate_44 : decode cX3_negate 44 = .ok (.iload 4, 2) := by decide +kernel
theorem d_X3_negate_46 : decode cX3_negate 46 = .ok (.lload 5, 2) := by decide +kernel
theorem d_X3_negate_48 : decode cX3_negate 48 = .ok (.lastore, 1) := by decide +kernel
theorem d_X3_negate_49 : decode cX3_negate 49 = .ok (.iinc 4 1, 3) := by decide +kernel
theorem d_X3_negate_52 : decode cX3_negate 52 = .ok (.goto (-47), 3) := by decide +kernel
theorem d_X3_negate_55 : decode cX3_negate 55 = .ok (.aload_n 0, 1) := by decide +kernel
theorem d_X3_negate_56 : decode cX3_negate 56 = .ok (.iload_n 1, 1) := by decide +kernel
theorem d_X3_negate_57 : decode cX3_negate 57 = .ok (.invokestatic 24, 3) := by decide +kernel
theorem d_X3_negate_60 : decode cX3_negate 60 = .ok (.return_, 1) := by decide +kernel
theorem sg_X3_negate_0 {L : Nat} {xs : Nat → Int32} {σ : ks_St} {mc ms : Nat} {P : ka_O → ks_St → Prop} {a0 na0 : Nat} {x1 : Int32} (ha0 : rl_ a0 na0) (k1 : ks_W L xs mX3_negate rm_X3_negate 5 [(0, .ref a0), (1, .int x1), (2, .long 1), (4, .int 0)] [] σ mc ms P) : ks_W L xs mX3_negate rm_X3_negate 0 [(0, .ref a0), (1, .int x1)] [] σ mc ms P := by
  refine ka_lconst (v := 1) d_X3_negate_0 rfl (by decide) ?_
  refine ka_lstore_n (ls' := [(2, .long 1), (0, .ref a0), (1, .int x1)]) d_X3_negate_1 rfl rfl (by decide) rfl ?_
  refine ka_iconst (v := 0) d_X3_negate_2 rfl (by decide) ?_
  refine ka_istore (ls' := [(4, .int 0), (2, .long 1), (0, .ref a0), (1, .int x1)]) d_X3_negate_3 rfl (by decide) rfl ?_
  refine ka_sub [2, 3, 1, 0] rfl ?_
  exact k1
theorem sg_X3_negate_5 {L : Nat} {xs : Nat → Int32} {σ : ks_St} {mc ms : Nat} {P : ka_O → ks_St → Prop} {a0 na0 : Nat} {x1 : Int32} {x2 : Int64} {x4 : Int32} (ha0 : rl_ a0 na0) (k2 : ((nI na0) ≤ x4) → ks_W L xs mX3_negate rm_X3_negate 57 [] [.int x1, .ref a0] σ mc ms P) (v3 : (¬ ((nI na0) ≤ x4)) → vp_in x4 na0) (k5 : (¬ ((nI na0) ≤ x4)) → (¬ (lg_cmp x2 1) = 0) → ks_W L xs mX3_negate rm_X3_negate 41 [(0, .ref a0), (1, .int x1), (4, .int x4), (5, .long (((sg_ σ a0 x4.toNatClampNeg) ^^^ ((-1))) + x2))] [] σ mc ms P) (k7 : (¬ ((nI na0) ≤ x4)) → ((lg_cmp x2 1) = 0) → (¬ (lg_cmp (((sg_ σ a0 x4.toNatClampNeg) ^^^ ((-1))) + x2) 0) = 0) → ks_W L xs mX3_negate rm_X3_negate 41 [(0, .ref a0), (1, .int x1), (4, .int x4), (5, .long (((sg_ σ a0 x4.toNatClampNeg) ^^^ ((-1))) + x2))] [] σ mc ms P) (k8 : (¬ ((nI na0) ≤ x4)) → ((lg_cmp x2 1) = 0) → ((lg_cmp (((sg_ σ a0 x4.toNatClampNeg) ^^^ ((-1))) + x2) 0) = 0) → ks_W L xs mX3_negate rm_X3_negate 42 [(0, .ref a0), (1, .int x1), (4, .int x4), (5, .long (((sg_ σ a0 x4.toNatClampNeg) ^^^ ((-1))) + x2))] [.long 1] σ mc ms P) : ks_W L xs mX3_negate rm_X3_negate 5 [(0, .ref a0), (1, .int x1), (2, .long x2), (4, .int x4)] [] σ mc ms P := by
  refine ka_iload d_X3_negate_5 rfl 3 rfl ?_
  refine ka_aload_n d_X3_negate_7 rfl rfl 0 rfl ?_
  refine ks_llen ha0 d_X3_negate_8 rfl ?_
  refine ka_icmp_ge (tgt := 55) d_X3_negate_9 (by decide) rfl (fun c1 => ?_) (fun c1 => ?_)
  · refine ka_aload_n d_X3_negate_55 rfl rfl 0 rfl ?_
    refine ka_iload_n d_X3_negate_56 rfl rfl 1 rfl ?_
    refine ka_sub [] rfl ?_
    exact (k2 c1)
  · refine ka_aload_n d_X3_negate_12 rfl rfl 0 rfl ?_
    refine ka_iload d_X3_negate_13 rfl 3 rfl ?_
    refine ks_lald ha0 d_X3_negate_15 rfl (v3 c1) ?_
    refine ka_ldc2 (v := -1) d_X3_negate_16 rfl kl_X3_9 ?_
    refine ka_lxor d_X3_negate_19 rfl ?_
    refine ka_lload_n d_X3_negate_20 rfl rfl 2 rfl ?_
    refine ka_ladd d_X3_negate_21 rfl ?_
    refine ka_lstore (ls' := [(5, .long (((sg_ σ a0 x4.toNatClampNeg) ^^^ ((-1))) + x2)), (0, .ref a0), (1, .int x1), (2, .long x2), (4, .int x4)]) d_X3_negate_22 rfl (by decide) rfl ?_
    refine ka_lload_n d_X3_negate_24 rfl rfl 3 rfl ?_
    refine ka_lconst (v := 1) d_X3_negate_25 rfl (by decide) ?_
    refine ka_lcmp d_X3_negate_26 rfl ?_
    refine ka_if_ne (tgt := 41) d_X3_negate_27 (by decide) rfl (fun c4 => ?_) (fun c4 => ?_)
    · refine ka_sub [1, 2, 4, 0] rfl ?_
      exact (k5 c1 c4)
    · refine ka_lload d_X3_negate_30 rfl 0 rfl ?_
      refine ka_lconst (v := 0) d_X3_negate_32 rfl (by decide) ?_
      refine ka_lcmp d_X3_negate_33 rfl ?_
      refine ka_if_ne (tgt := 41) d_X3_negate_34 (by decide) rfl (fun c6 => ?_) (fun c6 => ?_)
      · refine ka_sub [1, 2, 4, 0] rfl ?_
        exact (k7 c1 c4 c6)
      · refine ka_lconst (v := 1) d_X3_negate_37 rfl (by decide) ?_
        refine ka_goto (q := 42) d_X3_negate_38 (by decide) ?_
        refine ka_sub [1, 2, 4, 0] rfl ?_
        exact (k8 c1 c4 c6)
theorem sg_X3_negate_41 {L : Nat} {xs : Nat → Int32} {σ : ks_St} {mc ms : Nat} {P : ka_O → ks_St → Prop} {a0 na0 : Nat} {x1 : Int32} {x4 : Int32} {x5 : Int64} (ha0 : rl_ a0 na0) (k1 : ks_W L xs mX3_negate rm_X3_negate 42 [(0, .ref a0), (1, .int x1), (4, .int x4), (5, .long x5)] [.long 0] σ mc ms P) : ks_W L xs mX3_negate rm_X3_negate 41 [(0, .ref a0), (1, .int x1), (4, .int x4), (5, .long x5)] [] σ mc ms P := by
  refine ka_lconst (v := 0) d_X3_negate_41 rfl (by decide) ?_
  exact k1
theorem sg_X3_negate_42 {L : Nat} {xs : Nat → Int32} {σ : ks_St} {mc ms : Nat} {P : ka_O → ks_St → Prop} {a0 na0 : Nat} {x1 : Int32} {x4 : Int32} {x5 : Int64} {s0 : Int64} (ha0 : rl_ a0 na0) (v1 : vp_in x4 na0) (k2 : ks_W L xs mX3_negate rm_X3_negate 5 [(0, .ref a0), (1, .int x1), (2, .long s0), (4, .int (x4 + 1))] [] (ug_ σ a0 (vp_updL (sg_ σ a0) x4.toNatClampNeg x5)) mc ms P) : ks_W L xs mX3_negate rm_X3_negate 42 [(0, .ref a0), (1, .int x1), (4, .int x4), (5, .long x5)] [.long s0] σ mc ms P := by
  refine ka_lstore_n (ls' := [(2, .long s0), (0, .ref a0), (1, .int x1), (4, .int x4), (5, .long x5)]) d_X3_negate_42 rfl rfl (by decide) rfl ?_
  refine ka_aload_n d_X3_negate_43 rfl rfl 1 rfl ?_
  refine ka_iload d_X3_negate_44 rfl 3 rfl ?_
  refine ka_lload d_X3_negate_46 rfl 4 rfl ?_
  refine ks_last ha0 d_X3_negate_48 rfl v1 ?_
  refine ka_iinc (g := 3) (v := x4 + 1) (ls' := [(4, .int (x4 + 1)), (2, .long s0), (0, .ref a0), (1, .int x1), (5, .long x5)]) d_X3_negate_49 rfl rfl rfl (by decide) rfl ?_
  refine ka_goto (q := 5) d_X3_negate_52 (by decide) ?_
  refine ka_sub [2, 3, 1, 0] rfl ?_
  exact k2
theorem cs_X3_negate_57 {L : Nat} {xs : Nat → Int32} {σ : ks_St} {mc ms : Nat} {P : ka_O → ks_St → Prop} {f : ks_St → Prop} {a0 na0 : Nat} {s1 : Int32} (hK : ks_M L xs mX3_cut rm_X3_cut [.ref a0, .int s1] σ (pv_ f)) (kr : ∀ σ', f σ' → ks_W L xs mX3_negate rm_X3_negate 60 [] [] σ' mc ms P) : ks_W L xs mX3_negate rm_X3_negate 57 [] [.int s1, .ref a0] σ mc ms P := by
  refine ks_callS (q := 60) (As := [.ref a0, .int s1]) (st := []) d_X3_negate_57 rfl rfl lk_X3_24 ⟨by decide, by decide⟩ (Nat.le_of_ble_eq_true rfl) ⟨Nat.le_refl _, Nat.le_refl _⟩ hK (fun v σ' hq => ?_) (fun E σ' hq => ?_)
  · obtain ⟨e, hf⟩ := hq; cases e; exact kr σ' hf
  · obtain ⟨e, hf⟩ := hq; cases e
theorem sg_X3_negate_60 {L : Nat} {xs : Nat → Int32} {σ : ks_St} {mc ms : Nat} {P : ka_O → ks_St → Prop}   (r1 : P (.inl none) σ) : ks_W L xs mX3_negate rm_X3_negate 60 [] [] σ mc ms P := by
  exact ks_vret d_X3_negate_60 rfl r1
theorem d_X3_atMost_0 : decode cX3_atMost 0 = .ok (.iconst 1, 1) := by decide +kernel
theorem d_X3_atMost_1 : decode cX3_atMost 1 = .ok (.istore_n 2, 1) := by decide +kernel
theorem d_X3_atMost_2 : decode cX3_atMost 2 = .ok (.iload_n 2, 1) := by decide +kernel
theorem d_X3_atMost_3 : decode cX3_atMost 3 = .ok (.aload_n 0, 1) := by decide +kernel
theorem d_X3_atMost_4 : decode cX3_atMost 4 = .ok (.arraylength, 1) := by decide +kernel
theorem d_X3_atMost_5 : decode cX3_atMost 5 = .ok (.if_icmp .ge 19, 3) := by decide +kernel
theorem d_X3_atMost_8 : decode cX3_atMost 8 = .ok (.aload_n 0, 1) := by decide +kernel
theorem d_X3_atMost_9 : decode cX3_atMost 9 = .ok (.iload_n 2, 1) := by decide +kernel
theorem d_X3_atMost_10 : decode cX3_atMost 10 = .ok (.laload, 1) := by decide +kernel
theorem d_X3_atMost_11 : decode cX3_atMost 11 = .ok (.lconst 0, 1) := by decide +kernel
theorem d_X3_atMost_12 : decode cX3_atMost 12 = .ok (.lcmp, 1) := by decide +kernel
theorem d_X3_atMost_13 : decode cX3_atMost 13 = .ok (.ifCond .eq 5, 3) := by decide +kernel
theorem d_X3_atMost_16 : decode cX3_atMost 16 = .ok (.iload_n 1, 1) := by decide +kernel
theorem d_X3_atMost_17 : decode cX3_atMost 17 = .ok (.ireturn, 1) := by decide +kernel
theorem d_X3_atMost_18 : decode cX3_atMost 18 = .ok (.iinc 2 1, 3) := by decide +kernel
theorem d_X3_atMost_21 : decode cX3_atMost 21 = .ok (.goto (-19), 3) := by decide +kernel
theorem d_X3_atMost_24 : decode cX3_atMost 24 = .ok (.aload_n 0, 1) := by decide +kernel
theorem d_X3_atMost_25 : decode cX3_atMost 25 = .ok (.iconst 0, 1) := by decide +kernel
theorem d_X3_atMost_26 : decode cX3_atMost 26 = .ok (.laload, 1) := by decide +kernel
theorem d_X3_atMost_27 : decode cX3_atMost 27 = .ok (.lconst 0, 1) := by decide +kernel
theorem d_X3_atMost_28 : decode cX3_atMost 28 = .ok (.lcmp, 1) := by decide +kernel
theorem d_X3_atMost_29 : decode cX3_atMost 29 = .ok (.ifCond .lt 12, 3) := by decide +kernel
theorem d_X3_atMost_32 : decode cX3_atMost 32 = .ok (.aload_n 0, 1) := by decide +kernel
theorem d_X3_atMost_33 : decode cX3_atMost 33 = .ok (.iconst 0, 1) := by decide +kernel
theorem d_X3_atMost_34 : decode cX3_atMost 34 = .ok (.laload, 1) := by decide +kernel
theorem d_X3_atMost_35 : decode cX3_atMost 35 = .ok (.iload_n 1, 1) := by decide +kernel
theorem d_X3_atMost_36 : decode cX3_atMost 36 = .ok (.i2l, 1) := by decide +kernel
theorem d_X3_atMost_37 : decode cX3_atMost 37 = .ok (.lcmp, 1) := by decide +kernel
theorem d_X3_atMost_38 : decode cX3_atMost 38 = .ok (.ifCond .le 7, 3) := by decide +kernel
theorem d_X3_atMost_41 : decode cX3_atMost 41 = .ok (.iload_n 1, 1) := by decide +kernel
theorem d_X3_atMost_42 : decode cX3_atMost 42 = .ok (.goto 7, 3) := by decide +kernel
theorem d_X3_atMost_45 : decode cX3_atMost 45 = .ok (.aload_n 0, 1) := by decide +kernel
theorem d_X3_atMost_46 : decode cX3_atMost 46 = .ok (.iconst 0, 1) := by decide +kernel
theorem d_X3_atMost_47 : decode cX3_atMost 47 = .ok (.laload, 1) := by decide +kernel
theorem d_X3_atMost_48 : decode cX3_atMost 48 = .ok (.l2i, 1) := by decide +kernel
theorem d_X3_atMost_49 : decode cX3_atMost 49 = .ok (.ireturn, 1) := by decide +kernel
theorem sg_X3_atMost_0 {L : Nat} {xs : Nat → Int32} {σ : ks_St} {mc ms : Nat} {P : ka_O → ks_St → Prop} {a0 na0 : Nat} {x1 : Int32} (ha0 : rl_ a0 na0) (k1 : ks_W L xs mX3_atMost rm_X3_atMost 2 [(0, .ref a0), (1, .int x1), (2, .int 1)] [] σ mc ms P) : ks_W L xs mX3_atMost rm_X3_atMost 0 [(0, .ref a0), (1, .int x1)] [] σ mc ms P := by
  refine ka_iconst (v := 1) d_X3_atMost_0 rfl (by decide) ?_
  refine ka_istore_n (ls' := [(2, .int 1), (0, .ref a0), (1, .int x1)]) d_X3_atMost_1 rfl rfl (by decide) rfl ?_
  refine ka_sub [1, 2, 0] rfl ?_
  exact k1
theorem sg_X3_atMost_2 {L : Nat} {xs : Nat → Int32} {σ : ks_St} {mc ms : Nat} {P : ka_O → ks_St → Prop} {a0 na0 : Nat} {x1 : Int32} {x2 : Int32} (ha0 : rl_ a0 na0) (v2 : ((nI na0) ≤ x2) → vp_in 0 na0) (k4 : ((nI na0) ≤ x2) → ((lg_cmp (sg_ σ a0 (0 : Int32).toNatClampNeg) 0) < 0) → ks_W L xs mX3_atMost rm_X3_atMost 41 [(1, .int x1)] [] σ mc ms P) (v5 : ((nI na0) ≤ x2) → (¬ ((lg_cmp (sg_ σ a0 (0 : Int32).toNatClampNeg) 0) < 0)) → vp_in 0 na0) (v7 : ((nI na0) ≤ x2) → (¬ ((lg_cmp (sg_ σ a0 (0 : Int32).toNatClampNeg) 0) < 0)) → ((lg_cmp (sg_ σ a0 (0 : Int32).toNatClampNeg) (x1.toInt64)) ≤ 0) → vp_in 0 na0) (k8 : ((nI na0) ≤ x2) → (¬ ((lg_cmp (sg_ σ a0 (0 : Int32).toNatClampNeg) 0) < 0)) → ((lg_cmp (sg_ σ a0 (0 : Int32).toNatClampNeg) (x1.toInt64)) ≤ 0) → ks_W L xs mX3_atMost rm_X3_atMost 49 [] [.int ((sg_ σ a0 (0 : Int32).toNatClampNeg).toInt32)] σ mc ms P) (k9 : ((nI na0) ≤ x2) → (¬ ((lg_cmp (sg_ σ a0 (0 : Int32).toNatClampNeg) 0) < 0)) → (¬ ((lg_cmp (sg_ σ a0 (0 : Int32).toNatClampNeg) (x1.toInt64)) ≤ 0)) → ks_W L xs mX3_atMost rm_X3_atMost 41 [(1, .int x1)] [] σ mc ms P) (v10 : (¬ ((nI na0) ≤ x2)) → vp_in x2 na0) (k12 : (¬ ((nI na0) ≤ x2)) → ((lg_cmp (sg_ σ a0 x2.toNatClampNeg) 0) = 0) → ks_W L xs mX3_atMost rm_X3_atMost 2 [(0, .ref a0), (1, .int x1), (2, .int (x2 + 1))] [] σ mc ms P) (r13 : (¬ ((nI na0) ≤ x2)) → (¬ ((lg_cmp (sg_ σ a0 x2.toNatClampNeg) 0) = 0)) → P (.inl (some (.int x1))) σ) : ks_W L xs mX3_atMost rm_X3_atMost 2 [(0, .ref a0), (1, .int x1), (2, .int x2)] [] σ mc ms P := by
  refine ka_iload_n d_X3_atMost_2 rfl rfl 2 rfl ?_
  refine ka_aload_n d_X3_atMost_3 rfl rfl 0 rfl ?_
  refine ks_llen ha0 d_X3_atMost_4 rfl ?_
  refine ka_icmp_ge (tgt := 24) d_X3_atMost_5 (by decide) rfl (fun c1 => ?_) (fun c1 => ?_)
  · refine ka_aload_n d_X3_atMost_24 rfl rfl 0 rfl ?_
    refine ka_iconst (v := 0) d_X3_atMost_25 rfl (by decide) ?_
    refine ks_lald ha0 d_X3_atMost_26 rfl (v2 c1) ?_
    refine ka_lconst (v := 0) d_X3_atMost_27 rfl (by decide) ?_
    refine ka_lcmp d_X3_atMost_28 rfl ?_
    refine ka_if_lt (tgt := 41) d_X3_atMost_29 (by decide) rfl (fun c3 => ?_) (fun c3 => ?_)
    · refine ka_sub [1] rfl ?_
      exact (k4 c1 c3)
    · refine ka_aload_n d_X3_atMost_32 rfl rfl 0 rfl ?_
      refine ka_iconst (v := 0) d_X3_atMost_33 rfl (by decide) ?_
      refine ks_lald ha0 d_X3_atMost_34 rfl (v5 c1 c3) ?_
      refine ka_iload_n d_X3_atMost_35 rfl rfl 1 rfl ?_
      refine ka_i2l d_X3_atMost_36 rfl ?_
      refine ka_lcmp d_X3_atMost_37 rfl ?_
      refine ka_if_le (tgt := 45) d_X3_atMost_38 (by decide) rfl (fun c6 => ?_) (fun c6 => ?_)
      · refine ka_aload_n d_X3_atMost_45 rfl rfl 0 rfl ?_
        refine ka_iconst (v := 0) d_X3_atMost_46 rfl (by decide) ?_
        refine ks_lald ha0 d_X3_atMost_47 rfl (v7 c1 c3 c6) ?_
        refine ka_l2i d_X3_atMost_48 rfl ?_
        refine ka_sub [] rfl ?_
        exact (k8 c1 c3 c6)
      · refine ka_sub [1] rfl ?_
        exact (k9 c1 c3 c6)
  · refine ka_aload_n d_X3_atMost_8 rfl rfl 0 rfl ?_
    refine ka_iload_n d_X3_atMost_9 rfl rfl 2 rfl ?_
    refine ks_lald ha0 d_X3_atMost_10 rfl (v10 c1) ?_
    refine ka_lconst (v := 0) d_X3_atMost_11 rfl (by decide) ?_
    refine ka_lcmp d_X3_atMost_12 rfl ?_
    refine ka_if_eq (tgt := 18) d_X3_atMost_13 (by decide) rfl (fun c11 => ?_) (fun c11 => ?_)
    · refine ka_iinc (g := 2) (v := x2 + 1) (ls' := [(2, .int (x2 + 1)), (0, .ref a0), (1, .int x1)]) d_X3_atMost_18 rfl rfl rfl (by decide) rfl ?_
      refine ka_goto (q := 2) d_X3_atMost_21 (by decide) ?_
      refine ka_sub [1, 2, 0] rfl ?_
      exact (k12 c1 c11)
    · refine ka_iload_n d_X3_atMost_16 rfl rfl 1 rfl ?_
      exact ks_iret (ty := .int) d_X3_atMost_17 rfl rfl (r13 c1 c11)
theorem sg_X3_atMost_41 {L : Nat} {xs : Nat → Int32} {σ : ks_St} {mc ms : Nat} {P : ka_O → ks_St → Prop} {x1 : Int32}  (k1 : ks_W L xs mX3_atMost rm_X3_atMost 49 [] [.int x1] σ mc ms P) : ks_W L xs mX3_atMost rm_X3_atMost 41 [(1, .int x1)] [] σ mc ms P := by
  refine ka_iload_n d_X3_atMost_41 rfl rfl 0 rfl ?_
  refine ka_goto (q := 49) d_X3_atMost_42 (by decide) ?_
  refine ka_sub [] rfl ?_
  exact k1
theorem sg_X3_atMost_49 {L : Nat} {xs : Nat → Int32} {σ : ks_St} {mc ms : Nat} {P : ka_O → ks_St → Prop} {s0 : Int32}  (r1 : P (.inl (some (.int s0))) σ) : ks_W L xs mX3_atMost rm_X3_atMost 49 [] [.int s0] σ mc ms P := by
  exact ks_iret (ty := .int) d_X3_atMost_49 rfl rfl r1
theorem d_X3_fillFrom_0 : decode cX3_fillFrom 0 = .ok (.iconst 0, 1) := by decide +kernel
theorem d_X3_fillFrom_1 : decode cX3_fillFrom 1 = .ok (.istore_n 2, 1) := by decide +kernel
theorem d_X3_fillFrom_2 : decode cX3_fillFrom 2 = .ok (.iload_n 2, 1) := by decide +kernel
theorem d_X3_fillFrom_3 : decode cX3_fillFrom 3 = .ok (.aload_n 0, 1) := by decide +kernel
theorem d_X3_fillFrom_4 : decode cX3_fillFrom 4 = .ok (.arraylength, 1) := by decide +kernel
theorem d_X3_fillFrom_5 : decode cX3_fillFrom 5 = .ok (.if_icmp .ge 24, 3) := by decide +kernel
theorem d_X3_fillFrom_8 : decode cX3_fillFrom 8 = .ok (.aload_n 0, 1) := by decide +kernel
theorem d_X3_fillFrom_9 : decode cX3_fillFrom 9 = .ok (.iload_n 2, 1) := by decide +kernel
theorem d_X3_fillFrom_10 : decode cX3_fillFrom 10 = .ok (.dup2, 1) := by decide +kernel
theorem d_X3_fillFrom_11 : decode cX3_fillFrom 11 = .ok (.laload, 1) := by decide +kernel
theorem d_X3_fillFrom_12 : decode cX3_fillFrom 12 = .ok (.iload_n 1, 1) := by decide +kernel
theorem d_X3_fillFrom_13 : decode cX3_fillFrom 13 = .ok (.iload_n 2, 1) := by decide +kernel
theorem d_X3_fillFrom_14 : decode cX3_fillFrom 14 = .ok (.invokestatic 11, 3) := by decide +kernel
theorem d_X3_fillFrom_17 : decode cX3_fillFrom 17 = .ok (.ldc2_w 9, 3) := by decide +kernel
theorem d_X3_fillFrom_20 : decode cX3_fillFrom 20 = .ok (.lxor, 1) := by decide +kernel
theorem d_X3_fillFrom_21 : decode cX3_fillFrom 21 = .ok (.lor, 1) := by decide +kernel
theorem d_X3_fillFrom_22 : decode cX3_fillFrom 22 = .ok (.lastore, 1) := by decide +kernel
theorem d_X3_fillFrom_23 : decode cX3_fillFrom 23 = .ok (.iinc 2 1, 3) := by decide +kernel
theorem d_X3_fillFrom_26 : decode cX3_fillFrom 26 = .ok (.goto (-24), 3) := by decide +kernel
theorem d_X3_fillFrom_29 : decode cX3_fillFrom 29 = .ok (.return_, 1) := by decide +kernel
theorem sg_X3_fillFrom_0 {L : Nat} {xs : Nat → Int32} {σ : ks_St} {mc ms : Nat} {P : ka_O → ks_St → Prop} {a0 na0 : Nat} {x1 : Int32} (ha0 : rl_ a0 na0) (k1 : ks_W L xs mX3_fillFrom rm_X3_fillFrom 2 [(0, .ref a0), (1, .int x1), (2, .int 0)] [] σ mc ms P) : ks_W L xs mX3_fillFrom rm_X3_fillFrom 0 [(0, .ref a0), (1, .int x1)] [] σ mc ms P := by
  refine ka_iconst (v := 0) d_X3_fillFrom_0 rfl (by decide) ?_
  refine ka_istore_n (ls' := [(2, .int 0), (0, .ref a0), (1, .int x1)]) d_X3_fillFrom_1 rfl rfl (by decide) rfl ?_
  refine ka_sub [1, 2, 0] rfl ?_
  exact k1
theorem sg_X3_fillFrom_2 {L : Nat} {xs : Nat → Int32} {σ : ks_St} {mc ms : Nat} {P : ka_O → ks_St → Prop} {a0 na0 : Nat} {x1 : Int32} {x2 : Int32} (ha0 : rl_ a0 na0) (r2 : ((nI na0) ≤ x2) → P (.inl none) σ) (v3 : (¬ ((nI na0) ≤ x2)) → vp_in x2 na0) (k4 : (¬ ((nI na0) ≤ x2)) → ks_W L xs mX3_fillFrom rm_X3_fillFrom 14 [(0, .ref a0), (1, .int x1), (2, .int x2)] [.int x2, .int x1, .long (sg_ σ a0 x2.toNatClampNeg), .int x2, .ref a0] σ mc ms P) : ks_W L xs mX3_fillFrom rm_X3_fillFrom 2 [(0, .ref a0), (1, .int x1), (2, .int x2)] [] σ mc ms P := by
  refine ka_iload_n d_X3_fillFrom_2 rfl rfl 2 rfl ?_
  refine ka_aload_n d_X3_fillFrom_3 rfl rfl 0 rfl ?_
  refine ks_llen ha0 d_X3_fillFrom_4 rfl ?_
  refine ka_icmp_ge (tgt := 29) d_X3_fillFrom_5 (by decide) rfl (fun c1 => ?_) (fun c1 => ?_)
  · exact ks_vret d_X3_fillFrom_29 rfl (r2 c1)
  · refine ka_aload_n d_X3_fillFrom_8 rfl rfl 0 rfl ?_
    refine ka_iload_n d_X3_fillFrom_9 rfl rfl 2 rfl ?_
    refine ka_dup2 d_X3_fillFrom_10 rfl rfl rfl ?_
    refine ks_lald ha0 d_X3_fillFrom_11 rfl (v3 c1) ?_
    refine ka_iload_n d_X3_fillFrom_12 rfl rfl 1 rfl ?_
    refine ka_iload_n d_X3_fillFrom_13 rfl rfl 2 rfl ?_
    exact (k4 c1)
theorem cs_X3_fillFrom_14 {L : Nat} {xs : Nat → Int32} {σ : ks_St} {mc ms : Nat} {P : ka_O → ks_St → Prop} {f : Int64 → ks_St → Prop} {a0 na0 : Nat} {x1 : Int32} {x2 : Int32} {s1 : Int32} {s2 : Int64} {s3 : Int32} {s4 : Int32} (hK : ks_M L xs mX3_maskOf rm_X3_maskOf [.int s3, .int s4] σ (pl_ f)) (kr : ∀ r σ', f r σ' → ks_W L xs mX3_fillFrom rm_X3_fillFrom 17 [(0, .ref a0), (1, .int x1), (2, .int x2)] [.long r, .long s2, .int s1, .ref a0] σ' mc ms P) : ks_W L xs mX3_fillFrom rm_X3_fillFrom 14 [(0, .ref a0), (1, .int x1), (2, .int x2)] [.int s4, .int s3, .long s2, .int s1, .ref a0] σ mc ms P := by
  refine ks_callS (q := 17) (As := [.int s3, .int s4]) (st := [.long s2, .int s1, .ref a0]) d_X3_fillFrom_14 rfl rfl lk_X3_11 ⟨by decide, by decide⟩ (Nat.le_of_ble_eq_true rfl) ⟨Nat.le_refl _, Nat.le_refl _⟩ hK (fun v σ' hq => ?_) (fun E σ' hq => ?_)
  · obtain ⟨r, e, hf⟩ := hq; cases e; exact kr r σ' hf
  · obtain ⟨r, e, hf⟩ := hq; cases e
theorem sg_X3_fillFrom_17 {L : Nat} {xs : Nat → Int32} {σ : ks_St} {mc ms : Nat} {P : ka_O → ks_St → Prop} {a0 na0 : Nat} {x1 : Int32} {x2 : Int32} {s1 : Int32} {s2 : Int64} {s3 : Int64} (ha0 : rl_ a0 na0) (v1 : vp_in s1 na0) (k2 : ks_W L xs mX3_fillFrom rm_X3_fillFrom 2 [(0, .ref a0), (1, .int x1), (2, .int (x2 + 1))] [] (ug_ σ a0 (vp_updL (sg_ σ a0) s1.toNatClampNeg (s2 ||| (s3 ^^^ ((-1)))))) mc ms P) : ks_W L xs mX3_fillFrom rm_X3_fillFrom 17 [(0, .ref a0), (1, .int x1), (2, .int x2)] [.long s3, .long s2, .int s1, .ref a0] σ mc ms P := by
  refine ka_ldc2 (v := -1) d_X3_fillFrom_17 rfl kl_X3_9 ?_
  refine ka_lxor d_X3_fillFrom_20 rfl ?_
  refine ka_lor d_X3_fillFrom_21 rfl ?_
  refine ks_last ha0 d_X3_fillFrom_22 rfl v1 ?_
  refine ka_iinc (g := 2) (v := x2 + 1) (ls' := [(2, .int (x2 + 1)), (0, .ref a0), (1, .int x1)]) d_X3_fillFrom_23 rfl rfl rfl (by decide) rfl ?_
  refine ka_goto (q := 2) d_X3_fillFrom_26 (by decide) ?_
  refine ka_sub [1, 2, 0] rfl ?_
  exact k2
theorem d_X3_restBy_0 : decode cX3_restBy 0 = .ok (.iload_n 1, 1) := by decide +kernel
theorem d_X3_restBy_1 : decode cX3_restBy 1 = .ok (.ifCond .gt 5, 3) := by decide +kernel
theorem d_X3_restBy_4 : decode cX3_restBy 4 = .ok (.iconst 0, 1) := by decide +kernel
theorem d_X3_restBy_5 : decode cX3_restBy 5 = .ok (.ireturn, 1) := by decide +kernel
theorem d_X3_restBy_6 : decode cX3_restBy 6 = .ok (.lconst 0, 1) := by decide +kernel
theorem d_X3_restBy_7 : decode cX3_restBy 7 = .ok (.lstore_n 2, 1) := by decide +kernel
theorem d_X3_restBy_8 : decode cX3_restBy 8 = .ok (.aload_n 0, 1) := by decide +kernel
theorem d_X3_restBy_9 : decode cX3_restBy 9 = .ok (.arraylength, 1) := by decide +kernel
theorem d_X3_restBy_10 : decode cX3_restBy 10 = .ok (.iconst 1, 1) := by decide +kernel
theorem d_X3_restBy_11 : decode cX3_restBy 11 = .ok (.isub, 1) := by decide +kernel
theorem d_X3_restBy_12 : decode cX3_restBy 12 = .ok (.istore 4, 2) := by decide +kernel
theorem d_X3_restBy_14 : decode cX3_restBy 14 = .ok (.iload 4, 2) := by decide +kernel
theorem d_X3_restBy_16 : decode cX3_restBy 16 = .ok (.ifCond .lt 42, 3) := by decide +kernel
theorem d_X3_restBy_19 : decode cX3_restBy 19 = .ok (.lload_n 2, 1) := by decide +kernel
theorem d_X3_restBy_20 : decode cX3_restBy 20 = .ok (.bipush 32, 2) := by decide +kernel
theorem d_X3_restBy_22 : decode cX3_restBy 22 = .ok (.lshl, 1) := by decide +kernel
theorem d_X3_restBy_23 : decode cX3_restBy 23 = .ok (.aload_n 0, 1) := by decide +kernel
theorem d_X3_restBy_24 : decode cX3_restBy 24 = .ok (.iload 4, 2) := by decide +kernel
theorem d_X3_restBy_26 : decode cX3_restBy 26 = .ok (.laload, 1) := by decide +kernel
theorem d_X3_restBy_27 : decode cX3_restBy 27 = .ok (.bipush 32, 2) := by decide +kernel
theorem d_X3_restBy_29 : decode cX3_restBy 29 = .ok (.lushr, 1) := by decide +kernel
theorem d_X3_restBy_30 : decode cX3_restBy 30 = .ok (.lor, 1) := by decide +kernel
theorem d_X3_restBy_31 : decode cX3_restBy 31 = .ok (.iload_n 1, 1) := by decide +kernel
theorem d_X3_restBy_32 : decode cX3_restBy 32 = .ok (.i2l, 1) := by decide +kernel
theorem d_X3_restBy_33 : decode cX3_restBy 33 = .ok (.lrem, 1) := by decide +kernel
theorem d_X3_restBy_34 : decode cX3_restBy 34 = .ok (.lstore_n 2, 1) := by decide +kernel
theorem d_X3_restBy_35 : decode cX3_restBy 35 = .ok (.lload_n 2, 1) := by decide +kernel
theorem d_X3_restBy_36 : decode cX3_restBy 36 = .ok (.bipush 32, 2) := by decide +kernel
theorem d_X3_restBy_38 : decode cX3_restBy 38 = .ok (.lshl, 1) := by decide +kernel
theorem d_X3_restBy_39 : decode cX3_restBy 39 = .ok (.aload_n 0, 1) := by decide +kernel
theorem d_X3_restBy_40 : decode cX3_restBy 40 = .ok (.iload 4, 2) := by decide +kernel
theorem d_X3_restBy_42 : decode cX3_restBy 42 = .ok (.laload, 1) := by decide +kernel
theorem d_X3_restBy_43 : decode cX3_restBy 43 = .ok (.ldc2_w 28, 3) := by decide +kernel
theorem d_X3_restBy_46 : decode cX3_restBy 46 = .ok (.land, 1) := by decide +kernel
theorem d_X3_restBy_47 : decode cX3_restBy 47 = .ok (.lor, 1) := by decide +kernel
theorem d_X3_restBy_48 : decode cX3_restBy 48 = .ok (.iload_n 1, 1) := by decide +kernel
theorem d_X3_restBy_49 : decode cX3_restBy 49 = .ok (.i2l, 1) := by decide +kernel
theorem d_X3_restBy_50 : decode cX3_restBy 50 = .ok (.lrem, 1) := by decide +kernel
theorem d_X3_restBy_51 : decode cX3_restBy 51 = .ok (.lstore_n 2, 1) := by decide +kernel
theorem d_X3_restBy_52 : decode cX3_restBy 52 = .ok (.iinc 4 (-1), 3) := by decide +kernel
theorem d_X3_restBy_55 : decode cX3_restBy 55 = .ok (.goto (-41), 3) := by decide +kernel
theorem d_X3_restBy_58 : decode cX3_restBy 58 = .ok (.lload_n 2, 1) := by decide +kernel
theorem d_X3_restBy_59 : decode cX3_restBy 59 = .ok (.l2i, 1) := by decide +kernel
theorem d_X3_restBy_60 : decode cX3_restBy 60 = .ok (.ireturn, 1) := by decide +kernel
theorem sg_X3_restBy_0 {L : Nat} {xs : Nat → Int32} {σ : ks_St} {mc ms : Nat} {P : ka_O → ks_St → Prop} {a0 na0 : Nat} {x1 : Int32} (ha0 : rl_ a0 na0) (k2 : (0 < x1) → ks_W L xs mX3_restBy rm_X3_restBy 14 [(0, .ref a0), (1, .int x1), (2, .long 0), (4, .int ((nI na0) - 1))] [] σ mc ms P) (r3 : (¬ (0 < x1)) → P (.inl (some (.int 0))) σ) : ks_W L xs mX3_restBy rm_X3_restBy 0 [(0, .ref a0), (1, .int x1)] [] σ mc ms P := by
  refine ka_iload_n d_X3_restBy_0 rfl rfl 1 rfl ?_
  refine ka_if_gt (tgt := 6) d_X3_restBy_1 (by decide) rfl (fun c1 => ?_) (fun c1 => ?_)
  · refine ka_lconst (v := 0) d_X3_restBy_6 rfl (by decide) ?_
    refine ka_lstore_n (ls' := [(2, .long 0), (0, .ref a0), (1, .int x1)]) d_X3_restBy_7 rfl rfl (by decide) rfl ?_
    refine ka_aload_n d_X3_restBy_8 rfl rfl 1 rfl ?_
    refine ks_llen ha0 d_X3_restBy_9 rfl ?_
    refine ka_iconst (v := 1) d_X3_restBy_10 rfl (by decide) ?_
    refine ka_isub d_X3_restBy_11 rfl ?_
    refine ka_istore (ls' := [(4, .int ((nI na0) - 1)), (2, .long 0), (0, .ref a0), (1, .int x1)]) d_X3_restBy_12 rfl (by decide) rfl ?_
    refine ka_sub [2, 3, 1, 0] rfl ?_
    exact (k2 c1)
  · refine ka_iconst (v := 0) d_X3_restBy_4 rfl (by decide) ?_
    exact ks_iret (ty := .int) d_X3_restBy_5 rfl rfl (r3 c1)
theorem sg_X3_restBy_14 {L : Nat} {xs : Nat → Int32} {σ : ks_St} {mc ms : Nat} {P : ka_O → ks_St → Prop} {a0 na0 : Nat} {x1 : Int32} {x2 : Int64} {x4 : Int32} (ha0 : rl_ a0 na0) (r2 : (x4 < 0) → P (.inl (some (.int (x2.toInt32)))) σ) (v3 : (¬ (x4 < 0)) → vp_in x4 na0) (z4 : (¬ (x4 < 0)) → ¬ (x1.toInt64) = 0) (v5 : (¬ (x4 < 0)) → vp_in x4 na0) (z6 : (¬ (x4 < 0)) → ¬ (x1.toInt64) = 0) (k7 : (¬ (x4 < 0)) → ks_W L xs mX3_restBy rm_X3_restBy 14 [(0, .ref a0), (1, .int x1), (2, .long ((((((x2 <<< (((32 : Int32)).toInt64 &&& 63)) ||| ((((sg_ σ a0 x4.toNatClampNeg)).toUInt64 >>> (((32 : Int32)).toInt64.toUInt64 &&& Int64.toUInt64 63)).toInt64)) - ((x2 <<< (((32 : Int32)).toInt64 &&& 63)) ||| ((((sg_ σ a0 x4.toNatClampNeg)).toUInt64 >>> (((32 : Int32)).toInt64.toUInt64 &&& Int64.toUInt64 63)).toInt64)) / (x1.toInt64) * (x1.toInt64)) <<< (((32 : Int32)).toInt64 &&& 63)) ||| ((sg_ σ a0 x4.toNatClampNeg) &&& 4294967295)) - (((((x2 <<< (((32 : Int32)).toInt64 &&& 63)) ||| ((((sg_ σ a0 x4.toNatClampNeg)).toUInt64 >>> (((32 : Int32)).toInt64.toUInt64 &&& Int64.toUInt64 63)).toInt64)) - ((x2 <<< (((32 : Int32)).toInt64 &&& 63)) ||| ((((sg_ σ a0 x4.toNatClampNeg)).toUInt64 >>> (((32 : Int32)).toInt64.toUInt64 &&& Int64.toUInt64 63)).toInt64)) / (x1.toInt64) * (x1.toInt64)) <<< (((32 : Int32)).toInt64 &&& 63)) ||| ((sg_ σ a0 x4.toNatClampNeg) &&& 4294967295)) / (x1.toInt64) * (x1.toInt64))), (4, .int (x4 + (-1)))] [] σ mc ms P) : ks_W L xs mX3_restBy rm_X3_restBy 14 [(0, .ref a0), (1, .int x1), (2, .long x2), (4, .int x4)] [] σ mc ms P := by
  refine ka_iload d_X3_restBy_14 rfl 3 rfl ?_
  refine ka_if_lt (tgt := 58) d_X3_restBy_16 (by decide) rfl (fun c1 => ?_) (fun c1 => ?_)
  · refine ka_lload_n d_X3_restBy_58 rfl rfl 2 rfl ?_
    refine ka_l2i d_X3_restBy_59 rfl ?_
    exact ks_iret (ty := .int) d_X3_restBy_60 rfl rfl (r2 c1)
  · refine ka_lload_n d_X3_restBy_19 rfl rfl 2 rfl ?_
    refine ka_bipush (v := 32) d_X3_restBy_20 rfl (by decide) ?_
    refine ka_lshl d_X3_restBy_22 rfl ?_
    refine ka_aload_n d_X3_restBy_23 rfl rfl 0 rfl ?_
    refine ka_iload d_X3_restBy_24 rfl 3 rfl ?_
    refine ks_lald ha0 d_X3_restBy_26 rfl (v3 c1) ?_
    refine ka_bipush (v := 32) d_X3_restBy_27 rfl (by decide) ?_
    refine ka_lushr d_X3_restBy_29 rfl ?_
    refine ka_lor d_X3_restBy_30 rfl ?_
    refine ka_iload_n d_X3_restBy_31 rfl rfl 1 rfl ?_
    refine ka_i2l d_X3_restBy_32 rfl ?_
    refine ka_lrem d_X3_restBy_33 rfl (z4 c1) ?_
    refine ka_lstore_n (ls' := [(2, .long (((x2 <<< (((32 : Int32)).toInt64 &&& 63)) ||| ((((sg_ σ a0 x4.toNatClampNeg)).toUInt64 >>> (((32 : Int32)).toInt64.toUInt64 &&& Int64.toUInt64 63)).toInt64)) - ((x2 <<< (((32 : Int32)).toInt64 &&& 63)) ||| ((((sg_ σ a0 x4.toNatClampNeg)).toUInt64 >>> (((32 : Int32)).toInt64.toUInt64 &&& Int64.toUInt64 63)).toInt64)) / (x1.toInt64) * (x1.toInt64))), (0, .ref a0), (1, .int x1), (4, .int x4)]) d_X3_restBy_34 rfl rfl (by decide) rfl ?_
    refine ka_lload_n d_X3_restBy_35 rfl rfl 0 rfl ?_
    refine ka_bipush (v := 32) d_X3_restBy_36 rfl (by decide) ?_
    refine ka_lshl d_X3_restBy_38 rfl ?_
    refine ka_aload_n d_X3_restBy_39 rfl rfl 1 rfl ?_
    refine ka_iload d_X3_restBy_40 rfl 3 rfl ?_
    refine ks_lald ha0 d_X3_restBy_42 rfl (v5 c1) ?_
    refine ka_ldc2 (v := 4294967295) d_X3_restBy_43 rfl kl_X3_28 ?_
    refine ka_land d_X3_restBy_46 rfl ?_
    refine ka_lor d_X3_restBy_47 rfl ?_
    refine ka_iload_n d_X3_restBy_48 rfl rfl 2 rfl ?_
    refine ka_i2l d_X3_restBy_49 rfl ?_
    refine ka_lrem d_X3_restBy_50 rfl (z6 c1) ?_
    refine ka_lstore_n (ls' := [(2, .long ((((((x2 <<< (((32 : Int32)).toInt64 &&& 63)) ||| ((((sg_ σ a0 x4.toNatClampNeg)).toUInt64 >>> (((32 : Int32)).toInt64.toUInt64 &&& Int64.toUInt64 63)).toInt64)) - ((x2 <<< (((32 : Int32)).toInt64 &&& 63)) ||| ((((sg_ σ a0 x4.toNatClampNeg)).toUInt64 >>> (((32 : Int32)).toInt64.toUInt64 &&& Int64.toUInt64 63)).toInt64)) / (x1.toInt64) * (x1.toInt64)) <<< (((32 : Int32)).toInt64 &&& 63)) ||| ((sg_ σ a0 x4.toNatClampNeg) &&& 4294967295)) - (((((x2 <<< (((32 : Int32)).toInt64 &&& 63)) ||| ((((sg_ σ a0 x4.toNatClampNeg)).toUInt64 >>> (((32 : Int32)).toInt64.toUInt64 &&& Int64.toUInt64 63)).toInt64)) - ((x2 <<< (((32 : Int32)).toInt64 &&& 63)) ||| ((((sg_ σ a0 x4.toNatClampNeg)).toUInt64 >>> (((32 : Int32)).toInt64.toUInt64 &&& Int64.toUInt64 63)).toInt64)) / (x1.toInt64) * (x1.toInt64)) <<< (((32 : Int32)).toInt64 &&& 63)) ||| ((sg_ σ a0 x4.toNatClampNeg) &&& 4294967295)) / (x1.toInt64) * (x1.toInt64))), (0, .ref a0), (1, .int x1), (4, .int x4)]) d_X3_restBy_51 rfl rfl (by decide) rfl ?_
    refine ka_iinc (g := 3) (v := x4 + (-1)) (ls' := [(4, .int (x4 + (-1))), (2, .long ((((((x2 <<< (((32 : Int32)).toInt64 &&& 63)) ||| ((((sg_ σ a0 x4.toNatClampNeg)).toUInt64 >>> (((32 : Int32)).toInt64.toUInt64 &&& Int64.toUInt64 63)).toInt64)) - ((x2 <<< (((32 : Int32)).toInt64 &&& 63)) ||| ((((sg_ σ a0 x4.toNatClampNeg)).toUInt64 >>> (((32 : Int32)).toInt64.toUInt64 &&& Int64.toUInt64 63)).toInt64)) / (x1.toInt64) * (x1.toInt64)) <<< (((32 : Int32)).toInt64 &&& 63)) ||| ((sg_ σ a0 x4.toNatClampNeg) &&& 4294967295)) - (((((x2 <<< (((32 : Int32)).toInt64 &&& 63)) ||| ((((sg_ σ a0 x4.toNatClampNeg)).toUInt64 >>> (((32 : Int32)).toInt64.toUInt64 &&& Int64.toUInt64 63)).toInt64)) - ((x2 <<< (((32 : Int32)).toInt64 &&& 63)) ||| ((((sg_ σ a0 x4.toNatClampNeg)).toUInt64 >>> (((32 : Int32)).toInt64.toUInt64 &&& Int64.toUInt64 63)).toInt64)) / (x1.toInt64) * (x1.toInt64)) <<< (((32 : Int32)).toInt64 &&& 63)) ||| ((sg_ σ a0 x4.toNatClampNeg) &&& 4294967295)) / (x1.toInt64) * (x1.toInt64))), (0, .ref a0), (1, .int x1)]) d_X3_restBy_52 rfl rfl rfl (by decide) rfl ?_
    refine ka_goto (q := 14) d_X3_restBy_55 (by decide) ?_
    refine ka_sub [2, 3, 1, 0] rfl ?_
    exact (k7 c1)
theorem d_X3_orMovedUp_0 : decode cX3_orMovedUp 0 = .ok (.iconst 0, 1) := by decide +kernel
theorem d_X3_orMovedUp_1 : decode cX3_orMovedUp 1 = .ok (.istore_n 3, 1) := by decide +kernel
theorem d_X3_orMovedUp_2 : decode cX3_orMovedUp 2 = .ok (.iload_n 3, 1) := by decide +kernel
theorem d_X3_orMovedUp_3 : decode cX3_orMovedUp 3 = .ok (.aload_n 2, 1) := by decide +kernel
theorem d_X3_orMovedUp_4 : decode cX3_orMovedUp 4 = .ok (.arraylength, 1) := by decide +kernel
theorem d_X3_orMovedUp_5 : decode cX3_orMovedUp 5 = .ok (.if_icmp .ge 25, 3) := by decide +kernel
theorem d_X3_orMovedUp_8 : decode cX3_orMovedUp 8 = .ok (.aload_n 2, 1) := by decide +kernel
theorem d_X3_orMovedUp_9 : decode cX3_orMovedUp 9 = .ok (.iload_n 3, 1) := by decide +kernel
theorem d_X3_orMovedUp_10 : decode cX3_orMovedUp 10 = .ok (.dup2, 1) := by decide +kernel
theorem d_X3_orMovedUp_11 : decode cX3_orMovedUp 11 = .ok (.laload, 1) := by decide +kernel
theorem d_X3_orMovedUp_12 : decode cX3_orMovedUp 12 = .ok (.aload_n 0, 1) := by decide +kernel
theorem d_X3_orMovedUp_13 : decode cX3_orMovedUp 13 = .ok (.iload_n 3, 1) := by decide +kernel
theorem d_X3_orMovedUp_14 : decode cX3_orMovedUp 14 = .ok (.bipush 64, 2) := by decide +kernel
theorem d_X3_orMovedUp_16 : decode cX3_orMovedUp 16 = .ok (.imul, 1) := by decide +kernel
theorem d_X3_orMovedUp_17 : decode cX3_orMovedUp 17 = .ok (.iload_n 1, 1) := by decide +kernel
theorem d_X3_orMovedUp_18 : decode cX3_orMovedUp 18 = .ok (.isub, 1) := by decide +kernel
theorem d_X3_orMovedUp_19 : decode cX3_orMovedUp 19 = .ok (.invokestatic 21, 3) := by decide +kernel
theorem d_X3_orMovedUp_22 : decode cX3_orMovedUp 22 = .ok (.lor, 1) := by decide +kernel
theorem d_X3_orMovedUp_23 : decode cX3_orMovedUp 23 = .ok (.lastore, 1) := by decide +kernel
theorem d_X3_orMovedUp_24 : decode cX3_orMovedUp 24 = .ok (.iinc 3 1, 3) := by decide +kernel
theorem d_X3_orMovedUp_27 : decode cX3_orMovedUp 27 = .ok (.goto (-25), 3) := by decide +kernel
theorem d_X3_orMovedUp_30 : decode cX3_orMovedUp 30 = .ok (.return_, 1) := by decide +kernel
theorem sg_X3_orMovedUp_0 {L : Nat} {xs : Nat → Int32} {σ : ks_St} {mc ms : Nat} {P : ka_O → ks_St → Prop} {a0 na0 : Nat} {x1 : Int32} {a2 na2 : Nat} (ha0 : rl_ a0 na0) (ha2 : rl_ a2 na2) (k1 : ks_W L xs mX3_orMovedUp rm_X3_orMovedUp 2 [(0, .ref a0), (1, .int x1), (2, .ref a2), (3, .int 0)] [] σ mc ms P) : ks_W L xs mX3_orMovedUp rm_X3_orMovedUp 0 [(0, .ref a0), (1, .int x1), (2, .ref a2)] [] σ mc ms P := by
  refine ka_iconst (v := 0) d_X3_orMovedUp_0 rfl (by decide) ?_
  refine ka_istore_n (ls' := [(3, .int 0), (0, .ref a0), (1, .int x1), (2, .ref a2)]) d_X3_orMovedUp_1 rfl rfl (by decide) rfl ?_
  refine ka_sub [1, 2, 3, 0] rfl ?_
  exact k1
theorem sg_X3_orMovedUp_2 {L : Nat} {xs : Nat → Int32} {σ : ks_St} {mc ms : Nat} {P : ka_O → ks_St → Prop} {a0 na0 : Nat} {x1 : Int32} {a2 na2 : Nat} {x3 : Int32} (ha0 : rl_ a0 na0) (ha2 : rl_ a2 na2) (r2 : ((nI na2) ≤ x3) → P (.inl none) σ) (v3 : (¬ ((nI na2) ≤ x3)) → vp_in x3 na2) (k4 : (¬ ((nI na2) ≤ x3)) → ks_W L xs mX3_orMovedUp rm_X3_orMovedUp 19 [(0, .ref a0), (1, .int x1), (2, .ref a2), (3, .int x3)] [.int ((x3 * 64) - x1), .ref a0, .long (sg_ σ a2 x3.toNatClampNeg), .int x3, .ref a2] σ mc ms P) : ks_W L xs mX3_orMovedUp rm_X3_orMovedUp 2 [(0, .ref a0), (1, .int x1), (2, .ref a2), (3, .int x3)] [] σ mc ms P := by
  refine ka_iload_n d_X3_orMovedUp_2 rfl rfl 3 rfl ?_
  refine ka_aload_n d_X3_orMovedUp_3 rfl rfl 2 rfl ?_
  refine ks_llen ha2 d_X3_orMovedUp_4 rfl ?_
  refine ka_icmp_ge (tgt := 30) d_X3_orMovedUp_5 (by decide) rfl (fun c1 => ?_) (fun c1 => ?_)
  · exact ks_vret d_X3_orMovedUp_30 rfl (r2 c1)
  · refine ka_aload_n d_X3_orMovedUp_8 rfl rfl 2 rfl ?_
    refine ka_iload_n d_X3_orMovedUp_9 rfl rfl 3 rfl ?_
    refine ka_dup2 d_X3_orMovedUp_10 rfl rfl rfl ?_
    refine ks_lald ha2 d_X3_orMovedUp_11 rfl (v3 c1) ?_
    refine ka_aload_n d_X3_orMovedUp_12 rfl rfl 0 rfl ?_
    refine ka_iload_n d_X3_orMovedUp_13 rfl rfl 3 rfl ?_
    refine ka_bipush (v := 64) d_X3_orMovedUp_14 rfl (by decide) ?_
    refine ka_imul d_X3_orMovedUp_16 rfl ?_
    refine ka_iload_n d_X3_orMovedUp_17 rfl rfl 1 rfl ?_
    refine ka_isub d_X3_orMovedUp_18 rfl ?_
    exact (k4 c1)
theorem cs_X3_orMovedUp_19 {L : Nat} {xs : Nat → Int32} {σ : ks_St} {mc ms : Nat} {P : ka_O → ks_St → Prop} {f : Int64 → ks_St → Prop} {a0 na0 : Nat} {x1 : Int32} {a2 na2 : Nat} {x3 : Int32} {s1 : Int32} {s2 : Int64} {s4 : Int32} (hK : ks_M L xs mX3_bitsFrom rm_X3_bitsFrom [.ref a0, .int s4] σ (pl_ f)) (kr : ∀ r σ', f r σ' → ks_W L xs mX3_orMovedUp rm_X3_orMovedUp 22 [(0, .ref a0), (1, .int x1), (2, .ref a2), (3, .int x3)] [.long r, .long s2, .int s1, .ref a2] σ' mc ms P) : ks_W L xs mX3_orMovedUp rm_X3_orMovedUp 19 [(0, .ref a0), (1, .int x1), (2, .ref a2), (3, .int x3)] [.int s4, .ref a0, .long s2, .int s1, .ref a2] σ mc ms P := by
  refine ks_callS (q := 22) (As := [.ref a0, .int s4]) (st := [.long s2, .int s1, .ref a2]) d_X3_orMovedUp_19 rfl rfl lk_X3_21 ⟨by decide, by decide⟩ (Nat.le_of_ble_eq_true rfl) ⟨Nat.le_refl _, Nat.le_refl _⟩ hK (fun v σ' hq => ?_) (fun E σ' hq => ?_)
  · obtain ⟨r, e, hf⟩ := hq; cases e; exact kr r σ' hf
  · obtain ⟨r, e, hf⟩ := hq; cases e
theorem sg_X3_orMovedUp_22 {L : Nat} {xs : Nat → Int32} {σ : ks_St} {mc ms : Nat} {P : ka_O → ks_St → Prop} {a0 na0 : Nat} {x1 : Int32} {a2 na2 : Nat} {x3 : Int32} {s1 : Int32} {s2 : Int64} {s3 : Int64} (ha0 : rl_ a0 na0) (ha2 : rl_ a2 na2) (v1 : vp_in s1 na2) (k2 : ks_W L xs mX3_orMovedUp rm_X3_orMovedUp 2 [(0, .ref a0), (1, .int x1), (2, .ref a2), (3, .int (x3 + 1))] [] (ug_ σ a2 (vp_updL (sg_ σ a2) s1.toNatClampNeg (s2 ||| s3))) mc ms P) : ks_W L xs mX3_orMovedUp rm_X3_orMovedUp 22 [(0, .ref a0), (1, .int x1), (2, .ref a2), (3, .int x3)] [.long s3, .long s2, .int s1, .ref a2] σ mc ms P := by
  refine ka_lor d_X3_orMovedUp_22 rfl ?_
  refine ks_last ha2 d_X3_orMovedUp_23 rfl v1 ?_
  refine ka_iinc (g := 3) (v := x3 + 1) (ls' := [(3, .int (x3 + 1)), (0, .ref a0), (1, .int x1), (2, .ref a2)]) d_X3_orMovedUp_24 rfl rfl rfl (by decide) rfl ?_
  refine ka_goto (q := 2) d_X3_orMovedUp_27 (by decide) ?_
  refine ka_sub [1, 2, 3, 0] rfl ?_
  exact k2
theorem d_X3_swapped_0 : decode cX3_swapped 0 = .ok (.lload_n 0, 1) := by decide +kernel
theorem d_X3_swapped_1 : decode cX3_swapped 1 = .ok (.iload 4, 2) := by decide +kernel
theorem d_X3_swapped_3 : decode cX3_swapped 3 = .ok (.lushr, 1) := by decide +kernel
theorem d_X3_swapped_4 : decode cX3_swapped 4 = .ok (.lload_n 2, 1) := by decide +kernel
theorem d_X3_swapped_5 : decode cX3_swapped 5 = .ok (.land, 1) := by decide +kernel
theorem d_X3_swapped_6 : decode cX3_swapped 6 = .ok (.lload_n 0, 1) := by decide +kernel
theorem d_X3_swapped_7 : decode cX3_swapped 7 = .ok (.lload_n 2, 1) := by decide +kernel
theorem d_X3_swapped_8 : decode cX3_swapped 8 = .ok (.land, 1) := by decide +kernel
theorem d_X3_swapped_9 : decode cX3_swapped 9 = .ok (.iload 4, 2) := by decide +kernel
theorem d_X3_swapped_11 : decode cX3_swapped 11 = .ok (.lshl, 1) := by decide +kernel
theorem d_X3_swapped_12 : decode cX3_swapped 12 = .ok (.lor, 1) := by decide +kernel
theorem d_X3_swapped_13 : decode cX3_swapped 13 = .ok (.lreturn, 1) := by decide +kernel
theorem sg_X3_swapped_0 {L : Nat} {xs : Nat → Int32} {σ : ks_St} {mc ms : Nat} {P : ka_O → ks_St → Prop} {x0 : Int64} {x2 : Int64} {x4 : Int32}  (r1 : P (.inl (some (.long (((((x0).toUInt64 >>> ((x4).toInt64.toUInt64 &&& Int64.toUInt64 63)).toInt64) &&& x2) ||| ((x0 &&& x2) <<< ((x4).toInt64 &&& 63)))))) σ) : ks_W L xs mX3_swapped rm_X3_swapped 0 [(0, .long x0), (2, .long x2), (4, .int x4)] [] σ mc ms P := by
  refine ka_lload_n d_X3_swapped_0 rfl rfl 0 rfl ?_
  refine ka_iload d_X3_swapped_1 rfl 2 rfl ?_
  refine ka_lushr d_X3_swapped_3 rfl ?_
  refine ka_lload_n d_X3_swapped_4 rfl rfl 1 rfl ?_
  refine ka_land d_X3_swapped_5 rfl ?_
  refine ka_lload_n d_X3_swapped_6 rfl rfl 0 rfl ?_
  refine ka_lload_n d_X3_swapped_7 rfl rfl 1 rfl ?_
  refine ka_land d_X3_swapped_8 rfl ?_
  refine ka_iload d_X3_swapped_9 rfl 2 rfl ?_
  refine ka_lshl d_X3_swapped_11 rfl ?_
  refine ka_lor d_X3_swapped_12 rfl ?_
  exact ks_lret d_X3_swapped_13 rfl r1
theorem d_X3_bytesReversed_0 : decode cX3_bytesReversed 0 = .ok (.lload_n 0, 1) := by decide +kernel
theorem d_X3_bytesReversed_1 : decode cX3_bytesReversed 1 = .ok (.ldc2_w 34, 3) := by decide +kernel
theorem d_X3_bytesReversed_4 : decode cX3_bytesReversed 4 = .ok (.bipush 8, 2) := by decide +kernel
theorem d_X3_bytesReversed_6 : decode cX3_bytesReversed 6 = .ok (.invokestatic 36, 3) := by decide +kernel
theorem d_X3_bytesReversed_9 : decode cX3_bytesReversed 9 = .ok (.lstore_n 2, 1) := by decide +kernel
theorem d_X3_bytesReversed_10 : decode cX3_bytesReversed 10 = .ok (.lload_n 2, 1) := by decide +kernel
theorem d_X3_bytesReversed_11 : decode cX3_bytesReversed 11 = .ok (.ldc2_w 40, 3) := by decide +kernel
theorem d_X3_bytesReversed_14 : decode cX3_bytesReversed 14 = .ok (.bipush 16, 2) := by decide +kernel
theorem d_X3_bytesReversed_16 : decode cX3_bytesReversed 16 = .ok (.invokestatic 36, 3) := by decide +kernel
theorem d_X3_bytesReversed_19 : decode cX3_bytesReversed 19 = .ok (.ldc2_w 28, 3) := by decide +kernel
theorem d_X3_bytesReversed_22 : decode cX3_bytesReversed 22 = .ok (.bipush 32, 2) := by decide +kernel
theorem d_X3_bytesReversed_24 : decode cX3_bytesReversed 24 = .ok (.invokestatic 36, 3) := by decide +kernel
theorem d_X3_bytesReversed_27 : decode cX3_bytesReversed 27 = .ok (.lreturn, 1) := by decide +kernel
theorem sg_X3_bytesReversed_0 {L : Nat} {xs : Nat → Int32} {σ : ks_St} {mc ms : Nat} {P : ka_O → ks_St → Prop} {x0 : Int64}  (k1 : ks_W L xs mX3_bytesReversed rm_X3_bytesReversed 6 [] [.int 8, .long 71777214294589695, .long x0] σ mc ms P) : ks_W L xs mX3_bytesReversed rm_X3_bytesReversed 0 [(0, .long x0)] [] σ mc ms P := by
  refine ka_lload_n d_X3_bytesReversed_0 rfl rfl 0 rfl ?_
  refine ka_ldc2 (v := 71777214294589695) d_X3_bytesReversed_1 rfl kl_X3_34 ?_
  refine ka_bipush (v := 8) d_X3_bytesReversed_4 rfl (by decide) ?_
  refine ka_sub [] rfl ?_
  exact k1
theorem cs_X3_bytesReversed_6 {L : Nat} {xs : Nat → Int32} {σ : ks_St} {mc ms : Nat} {P : ka_O → ks_St → Prop} {f : Int64 → ks_St → Prop} {s0 : Int64} {s1 : Int64} {s2 : Int32} (hK : ks_M L xs mX3_swapped rm_X3_swapped [.long s0, .long s1, .int s2] σ (pl_ f)) (kr : ∀ r σ', f r σ' → ks_W L xs mX3_bytesReversed rm_X3_bytesReversed 9 [] [.long r] σ' mc ms P) : ks_W L xs mX3_bytesReversed rm_X3_bytesReversed 6 [] [.int s2, .long s1, .long s0] σ mc ms P := by
  refine ks_callS (q := 9) (As := [.long s0, .long s1, .int s2]) (st := []) d_X3_bytesReversed_6 rfl rfl lk_X3_36 ⟨by decide, by decide⟩ (Nat.le_of_ble_eq_true rfl) ⟨Nat.le_refl _, Nat.le_refl _⟩ hK (fun v σ' hq => ?_) (fun E σ' hq => ?_)
  · obtain ⟨r, e, hf⟩ := hq; cases e; exact kr r σ' hf
  · obtain ⟨r, e, hf⟩ := hq; cases e
theorem sg_X3_bytesReversed_9 {L : Nat} {xs : Nat → Int32} {σ : ks_St} {mc ms : Nat} {P : ka_O → ks_St → Prop} {s0 : Int64}  (k1 : ks_W L xs mX3_bytesReversed rm_X3_bytesReversed 16 [] [.int 16, .long 281470681808895, .long s0] σ mc ms P) : ks_W L xs mX3_bytesReversed rm_X3_bytesReversed 9 [] [.long s0] σ mc ms P := by
  refine ka_lstore_n (ls' := [(2, .long s0)]) d_X3_bytesReversed_9 rfl rfl (by decide) rfl ?_
  refine ka_lload_n d_X3_bytesReversed_10 rfl rfl 0 rfl ?_
  refine ka_ldc2 (v := 281470681808895) d_X3_bytesReversed_11 rfl kl_X3_40 ?_
  refine ka_bipush (v := 16) d_X3_bytesReversed_14 rfl (by decide) ?_
  refine ka_sub [] rfl ?_
  exact k1
theorem cs_X3_bytesReversed_16 {L : Nat} {xs : Nat → Int32} {σ : ks_St} {mc ms : Nat} {P : ka_O → ks_St → Prop} {f : Int64 → ks_St → Prop} {s0 : Int64} {s1 : Int64} {s2 : Int32} (hK : ks_M L xs mX3_swapped rm_X3_swapped [.long s0, .long s1, .int s2] σ (pl_ f)) (kr : ∀ r σ', f r σ' → ks_W L xs mX3_bytesReversed rm_X3_bytesReversed 19 [] [.long r] σ' mc ms P) : ks_W L xs mX3_bytesReversed rm_X3_bytesReversed 16 [] [.int s2, .long s1, .long s0] σ mc ms P := by
  refine ks_callS (q := 19) (As := [.long s0, .long s1, .int s2]) (st := []) d_X3_bytesReversed_16 rfl rfl lk_X3_36 ⟨by decide, by decide⟩ (Nat.le_of_ble_eq_true rfl) ⟨Nat.le_refl _, Nat.le_refl _⟩ hK (fun v σ' hq => ?_) (fun E σ' hq => ?_)
  · obtain ⟨r, e, hf⟩ := hq; cases e; exact kr r σ' hf
  · obtain ⟨r, e, hf⟩ := hq; cases e
theorem sg_X3_bytesReversed_19 {L : Nat} {xs : Nat → Int32} {σ : ks_St} {mc ms : Nat} {P : ka_O → ks_St → Prop} {s0 : Int64}  (k1 : ks_W L xs mX3_bytesReversed rm_X3_bytesReversed 24 [] [.int 32, .long 4294967295, .long s0] σ mc ms P) : ks_W L xs mX3_bytesReversed rm_X3_bytesReversed 19 [] [.long s0] σ mc ms P := by
  refine ka_ldc2 (v := 4294967295) d_X3_bytesReversed_19 rfl kl_X3_28 ?_
  refine ka_bipush (v := 32) d_X3_bytesReversed_22 rfl (by decide) ?_
  exact k1
theorem cs_X3_bytesReversed_24 {L : Nat} {xs : Nat → Int32} {σ : ks_St} {mc ms : Nat} {P : ka_O → ks_St → Prop} {f : Int64 → ks_St → Prop} {s0 : Int64} {s1 : Int64} {s2 : Int32} (hK : ks_M L xs mX3_swapped rm_X3_swapped [.long s0, .long s1, .int s2] σ (pl_ f)) (kr : ∀ r σ', f r σ' → ks_W L xs mX3_bytesReversed rm_X3_bytesReversed 27 [] [.long r] σ' mc ms P) : ks_W L xs mX3_bytesReversed rm_X3_bytesReversed 24 [] [.int s2, .long s1, .long s0] σ mc ms P := by
  refine ks_callS (q := 27) (As := [.long s0, .long s1, .int s2]) (st := []) d_X3_bytesReversed_24 rfl rfl lk_X3_36 ⟨by decide, by decide⟩ (Nat.le_of_ble_eq_true rfl) ⟨Nat.le_refl _, Nat.le_refl _⟩ hK (fun v σ' hq => ?_) (fun E σ' hq => ?_)
  · obtain ⟨r, e, hf⟩ := hq; cases e; exact kr r σ' hf
  · obtain ⟨r, e, hf⟩ := hq; cases e
theorem sg_X3_bytesReversed_27 {L : Nat} {xs : Nat → Int32} {σ : ks_St} {mc ms : Nat} {P : ka_O → ks_St → Prop} {s0 : Int64}  (r1 : P (.inl (some (.long s0))) σ) : ks_W L xs mX3_bytesReversed rm_X3_bytesReversed 27 [] [.long s0] σ mc ms P := by
  exact ks_lret d_X3_bytesReversed_27 rfl r1
theorem d_X3_bitsReversed_0 : decode cX3_bitsReversed 0 = .ok (.lload_n 0, 1) := by decide +kernel
theorem d_X3_bitsReversed_1 : decode cX3_bitsReversed 1 = .ok (.ldc2_w 42, 3) := by decide +kernel
theorem d_X3_bitsReversed_4 : decode cX3_bitsReversed 4 = .ok (.iconst 1, 1) := by decide +kernel
theorem d_X3_bitsReversed_5 : decode cX3_bitsReversed 5 = .ok (.invokestatic 36, 3) := by decide +kernel
theorem d_X3_bitsReversed_8 : decode cX3_bitsReversed 8 = .ok (.lstore_n 2, 1) := by decide +kernel
theorem d_X3_bitsReversed_9 : decode cX3_bitsReversed 9 = .ok (.lload_n 2, 1) := by decide +kernel
theorem d_X3_bitsReversed_10 : decode cX3_bitsReversed 10 = .ok (.ldc2_w 44, 3) := by decide +kernel
theorem d_X3_bitsReversed_13 : decode cX3_bitsReversed 13 = .ok (.iconst 2, 1) := by decide +kernel
theorem d_X3_bitsReversed_14 : decode cX3_bitsReversed 14 = .ok (.invokestatic 36, 3) := by decide +kernel
theorem d_X3_bitsReversed_17 : decode cX3_bitsReversed 17 = .ok (.lstore 4, 2) := by decide +kernel
theorem d_X3_bitsReversed_19 : decode cX3_bitsReversed 19 = .ok (.lload 4, 2) := by decide +kernel
theorem d_X3_bitsReversed_21 : decode cX3_bitsReversed 21 = .ok (.ldc2_w 46, 3) := by decide +kernel
theorem d_X3_bitsReversed_24 : decode cX3_bitsReversed 24 = .ok (.iconst 4, 1) := by decide +kernel
theorem d_X3_bitsReversed_25 : decode cX3_bitsReversed 25 = .ok (.invokestatic 36, 3) := by decide +kernel
theorem d_X3_bitsReversed_28 : decode cX3_bitsReversed 28 = .ok (.invokestatic 48, 3) := by decide +kernel
theorem d_X3_bitsReversed_31 : decode cX3_bitsReversed 31 = .ok (.lreturn, 1) := by decide +kernel
theorem sg_X3_bitsReversed_0 {L : Nat} {xs : Nat → Int32} {σ : ks_St} {mc ms : Nat} {P : ka_O → ks_St → Prop} {x0 : Int64}  (k1 : ks_W L xs mX3_bitsReversed rm_X3_bitsReversed 5 [] [.int 1, .long 6148914691236517205, .long x0] σ mc ms P) : ks_W L xs mX3_bitsReversed rm_X3_bitsReversed 0 [(0, .long x0)] [] σ mc ms P := by
  refine ka_lload_n d_X3_bitsReversed_0 rfl rfl 0 rfl ?_
  refine ka_ldc2 (v := 6148914691236517205) d_X3_bitsReversed_1 rfl kl_X3_42 ?_
  refine ka_iconst (v := 1) d_X3_bitsReversed_4 rfl (by decide) ?_
  refine ka_sub [] rfl ?_
  exact k1
theorem cs_X3_bitsReversed_5 {L : Nat} {xs : Nat → Int32} {σ : ks_St} {mc ms : Nat} {P : ka_O → ks_St → Prop} {f : Int64 → ks_St → Prop} {s0 : Int64} {s1 : Int64} {s2 : Int32} (hK : ks_M L xs mX3_swapped rm_X3_swapped [.long s0, .long s1, .int s2] σ (pl_ f)) (kr : ∀ r σ', f r σ' → ks_W L xs mX3_bitsReversed rm_X3_bitsReversed 8 [] [.long r] σ' mc ms P) : ks_W L xs mX3_bitsReversed rm_X3_bitsReversed 5 [] [.int s2, .long s1, .long s0] σ mc ms P := by
  refine ks_callS (q := 8) (As := [.long s0, .long s1, .int s2]) (st := []) d_X3_bitsReversed_5 rfl rfl lk_X3_36 ⟨by decide, by decide⟩ (Nat.le_of_ble_eq_true rfl) ⟨Nat.le_refl _, Nat.le_refl _⟩ hK (fun v σ' hq => ?_) (fun E σ' hq => ?_)
  · obtain ⟨r, e, hf⟩ := hq; cases e; exact kr r σ' hf
  · obtain ⟨r, e, hf⟩ := hq; cases e
theorem sg_X3_bitsReversed_8 {L : Nat} {xs : Nat → Int32} {σ : ks_St} {mc ms : Nat} {P : ka_O → ks_St → Prop} {s0 : Int64}  (k1 : ks_W L xs mX3_bitsReversed rm_X3_bitsReversed 14 [] [.int 2, .long 3689348814741910323, .long s0] σ mc ms P) : ks_W L xs mX3_bitsReversed rm_X3_bitsReversed 8 [] [.long s0] σ mc ms P := by
  refine ka_lstore_n (ls' := [(2, .long s0)]) d_X3_bitsReversed_8 rfl rfl (by decide) rfl ?_
  refine ka_lload_n d_X3_bitsReversed_9 rfl rfl 0 rfl ?_
  refine ka_ldc2 (v := 3689348814741910323) d_X3_bitsReversed_10 rfl kl_X3_44 ?_
  refine ka_iconst (v := 2) d_X3_bitsReversed_13 rfl (by decide) ?_
  refine ka_sub [] rfl ?_
  exact k1
theorem cs_X3_bitsReversed_14 {L : Nat} {xs : Nat → Int32} {σ : ks_St} {mc ms : Nat} {P : ka_O → ks_St → Prop} {f : Int64 → ks_St → Prop} {s0 : Int64} {s1 : Int64} {s2 : Int32} (hK : ks_M L xs mX3_swapped rm_X3_swapped [.long s0, .long s1, .int s2] σ (pl_ f)) (kr : ∀ r σ', f r σ' → ks_W L xs mX3_bitsReversed rm_X3_bitsReversed 17 [] [.long r] σ' mc ms P) : ks_W L xs mX3_bitsReversed rm_X3_bitsReversed 14 [] [.int s2, .long s1, .long s0] σ mc ms P := by
  refine ks_callS (q := 17) (As := [.long s0, .long s1, .int s2]) (st := []) d_X3_bitsReversed_14 rfl rfl lk_X3_36 ⟨by decide, by decide⟩ (Nat.le_of_ble_eq_true rfl) ⟨Nat.le_refl _, Nat.le_refl _⟩ hK (fun v σ' hq => ?_) (fun E σ' hq => ?_)
  · obtain ⟨r, e, hf⟩ := hq; cases e; exact kr r σ' hf
  · obtain ⟨r, e, hf⟩ := hq; cases e
theorem sg_X3_bitsReversed_17 {L : Nat} {xs : Nat → Int32} {σ : ks_St} {mc ms : Nat} {P : ka_O → ks_St → Prop} {s0 : Int64}  (k1 : ks_W L xs mX3_bitsReversed rm_X3_bitsReversed 25 [] [.int 4, .long 1085102592571150095, .long s0] σ mc ms P) : ks_W L xs mX3_bitsReversed rm_X3_bitsReversed 17 [] [.long s0] σ mc ms P := by
  refine ka_lstore (ls' := [(4, .long s0)]) d_X3_bitsReversed_17 rfl (by decide) rfl ?_
  refine ka_lload d_X3_bitsReversed_19 rfl 0 rfl ?_
  refine ka_ldc2 (v := 1085102592571150095) d_X3_bitsReversed_21 rfl kl_X3_46 ?_
  refine ka_iconst (v := 4) d_X3_bitsReversed_24 rfl (by decide) ?_
  refine ka_sub [] rfl ?_
  exact k1
theorem cs_X3_bitsReversed_25 {L : Nat} {xs : Nat → Int32} {σ : ks_St} {mc ms : Nat} {P : ka_O → ks_St → Prop} {f : Int64 → ks_St → Prop} {s0 : Int64} {s1 : Int64} {s2 : Int32} (hK : ks_M L xs mX3_swapped rm_X3_swapped [.long s0, .long s1, .int s2] σ (pl_ f)) (kr : ∀ r σ', f r σ' → ks_W L xs mX3_bitsReversed rm_X3_bitsReversed 28 [] [.long r] σ' mc ms P) : ks_W L xs mX3_bitsReversed rm_X3_bitsReversed 25 [] [.int s2, .long s1, .long s0] σ mc ms P := by
  refine ks_callS (q := 28) (As := [.long s0, .long s1, .int s2]) (st := []) d_X3_bitsReversed_25 rfl rfl lk_X3_36 ⟨by decide, by decide⟩ (Nat.le_of_ble_eq_true rfl) ⟨Nat.le_refl _, Nat.le_refl _⟩ hK (fun v σ' hq => ?_) (fun E σ' hq => ?_)
  · obtain ⟨r, e, hf⟩ := hq; cases e; exact kr r σ' hf
  · obtain ⟨r, e, hf⟩ := hq; cases e
theorem cs_X3_bitsReversed_28 {L : Nat} {xs : Nat → Int32} {σ : ks_St} {mc ms : Nat} {P : ka_O → ks_St → Prop} {f : Int64 → ks_St → Prop} {s0 : Int64} (hK : ks_M L xs mX3_bytesReversed rm_X3_bytesReversed [.long s0] σ (pl_ f)) (kr : ∀ r σ', f r σ' → ks_W L xs mX3_bitsReversed rm_X3_bitsReversed 31 [] [.long r] σ' mc ms P) : ks_W L xs mX3_bitsReversed rm_X3_bitsReversed 28 [] [.long s0] σ mc ms P := by
  refine ks_callS (q := 31) (As := [.long s0]) (st := []) d_X3_bitsReversed_28 rfl rfl lk_X3_48 ⟨by decide, by decide⟩ (Nat.le_of_ble_eq_true rfl) ⟨Nat.le_refl _, Nat.le_refl _⟩ hK (fun v σ' hq => ?_) (fun E σ' hq => ?_)
  · obtain ⟨r, e, hf⟩ := hq; cases e; exact kr r σ' hf
  · obtain ⟨r, e, hf⟩ := hq; cases e
theorem sg_X3_bitsReversed_31 {L : Nat} {xs : Nat → Int32} {σ : ks_St} {mc ms : Nat} {P : ka_O → ks_St → Prop} {s0 : Int64}  (r1 : P (.inl (some (.long s0))) σ) : ks_W L xs mX3_bitsReversed rm_X3_bitsReversed 31 [] [.long s0] σ mc ms P := by
  exact ks_lret d_X3_bitsReversed_31 rfl r1
end
