section
-- ===== PART A: goes FIRST, ahead of the names: the tables' words, and 'selects' of the private methods out of them =====
/-- a private method of a class that the tables say can be made, by its rows of tables_1 -/
def lw_okq (q : MethodName × Nat) : Prop := (q.1.cls ≠ "java/lang/invoke/MethodHandle" ∧ q.1.cls ≠ "java/lang/invoke/VarHandle") ∧ Cond.instantiable q.1.cls q.2 ∈ tables_1 ∧ Cond.privateMethod q.1 ∈ tables_1 ∧ Cond.instanceMethod q.1 ∈ tables_1
theorem lw_p0 : lw_okq (⟨"ScriptFront$Tree", "has", "(I)Z"⟩, 9) := ⟨⟨by decide +kernel, by decide +kernel⟩, List.mem_of_getElem? (i := 176) (by decide +kernel), List.mem_of_getElem? (i := 310) (by decide +kernel), List.mem_of_getElem? (i := 311) (by decide +kernel)⟩
theorem lw_p1 : lw_okq (⟨"ScriptFront$Scanner", "behindBlanks", "(I)I"⟩, 8) := ⟨⟨by decide +kernel, by decide +kernel⟩, List.mem_of_getElem? (i := 111) (by decide +kernel), List.mem_of_getElem? (i := 358) (by decide +kernel), List.mem_of_getElem? (i := 359) (by decide +kernel)⟩
theorem lw_p2 : lw_okq (⟨"ScriptFront$Scanner", "behindLine", "(I)I"⟩, 8) := ⟨⟨by decide +kernel, by decide +kernel⟩, List.mem_of_getElem? (i := 111) (by decide +kernel), List.mem_of_getElem? (i := 367) (by decide +kernel), List.mem_of_getElem? (i := 368) (by decide +kernel)⟩
theorem lw_p3 : lw_okq (⟨"ScriptFront$Scanner", "behindComment", "(I)I"⟩, 8) := ⟨⟨by decide +kernel, by decide +kernel⟩, List.mem_of_getElem? (i := 111) (by decide +kernel), List.mem_of_getElem? (i := 371) (by decide +kernel), List.mem_of_getElem? (i := 372) (by decide +kernel)⟩
theorem lw_p4 : lw_okq (⟨"ScriptFront$Scanner", "readNumber", "()V"⟩, 8) := ⟨⟨by decide +kernel, by decide +kernel⟩, List.mem_of_getElem? (i := 111) (by decide +kernel), List.mem_of_getElem? (i := 378) (by decide +kernel), List.mem_of_getElem? (i := 379) (by decide +kernel)⟩
theorem lw_p5 : lw_okq (⟨"ScriptFront$Scanner", "refuseIf", "(Z)V"⟩, 8) := ⟨⟨by decide +kernel, by decide +kernel⟩, List.mem_of_getElem? (i := 111) (by decide +kernel), List.mem_of_getElem? (i := 382) (by decide +kernel), List.mem_of_getElem? (i := 383) (by decide +kernel)⟩
theorem lw_p6 : lw_okq (⟨"java/lang/Throwable", "fillInStackTrace", "(I)Ljava/lang/Throwable;"⟩, 6) := ⟨⟨by decide +kernel, by decide +kernel⟩, List.mem_of_getElem? (i := 427) (by decide +kernel), List.mem_of_getElem? (i := 425) (by decide +kernel), List.mem_of_getElem? (i := 426) (by decide +kernel)⟩
theorem lw_p7 : lw_okq (⟨"ScriptFront$Scanner", "behindDigits", "(IZ)I"⟩, 8) := ⟨⟨by decide +kernel, by decide +kernel⟩, List.mem_of_getElem? (i := 111) (by decide +kernel), List.mem_of_getElem? (i := 457) (by decide +kernel), List.mem_of_getElem? (i := 458) (by decide +kernel)⟩
theorem lw_p8 : lw_okq (⟨"ScriptFront$Scanner", "exponentPlace", "(I)I"⟩, 8) := ⟨⟨by decide +kernel, by decide +kernel⟩, List.mem_of_getElem? (i := 111) (by decide +kernel), List.mem_of_getElem? (i := 461) (by decide +kernel), List.mem_of_getElem? (i := 462) (by decide +kernel)⟩
theorem lw_p9 : lw_okq (⟨"ScriptFront$Scanner", "readName", "()V"⟩, 8) := ⟨⟨by decide +kernel, by decide +kernel⟩, List.mem_of_getElem? (i := 111) (by decide +kernel), List.mem_of_getElem? (i := 468) (by decide +kernel), List.mem_of_getElem? (i := 469) (by decide +kernel)⟩
theorem lw_p10 : lw_okq (⟨"ScriptFront$Scanner", "wordCode", "()I"⟩, 8) := ⟨⟨by decide +kernel, by decide +kernel⟩, List.mem_of_getElem? (i := 111) (by decide +kernel), List.mem_of_getElem? (i := 472) (by decide +kernel), List.mem_of_getElem? (i := 473) (by decide +kernel)⟩
theorem lw_p11 : lw_okq (⟨"ScriptFront$Scanner", "readString", "(I)V"⟩, 8) := ⟨⟨by decide +kernel, by decide +kernel⟩, List.mem_of_getElem? (i := 111) (by decide +kernel), List.mem_of_getElem? (i := 529) (by decide +kernel), List.mem_of_getElem? (i := 530) (by decide +kernel)⟩
theorem lw_p12 : lw_okq (⟨"ScriptFront$Scanner", "readSign", "()V"⟩, 8) := ⟨⟨by decide +kernel, by decide +kernel⟩, List.mem_of_getElem? (i := 111) (by decide +kernel), List.mem_of_getElem? (i := 533) (by decide +kernel), List.mem_of_getElem? (i := 534) (by decide +kernel)⟩
theorem lw_p13 : lw_okq (⟨"ScriptFront$Parser", "element", "(I)I"⟩, 8) := ⟨⟨by decide +kernel, by decide +kernel⟩, List.mem_of_getElem? (i := 109) (by decide +kernel), List.mem_of_getElem? (i := 547) (by decide +kernel), List.mem_of_getElem? (i := 548) (by decide +kernel)⟩
theorem lw_p14 : lw_okq (⟨"ScriptFront$Parser", "statement", "(I)I"⟩, 8) := ⟨⟨by decide +kernel, by decide +kernel⟩, List.mem_of_getElem? (i := 109) (by decide +kernel), List.mem_of_getElem? (i := 551) (by decide +kernel), List.mem_of_getElem? (i := 552) (by decide +kernel)⟩
theorem lw_p15 : lw_okq (⟨"ScriptFront$Parser", "beginWithin", "(I)V"⟩, 8) := ⟨⟨by decide +kernel, by decide +kernel⟩, List.mem_of_getElem? (i := 109) (by decide +kernel), List.mem_of_getElem? (i := 555) (by decide +kernel), List.mem_of_getElem? (i := 556) (by decide +kernel)⟩
def lw_privs_1 : List (MethodName × Nat) := [(⟨"ScriptFront$Tree", "has", "(I)Z"⟩, 9), (⟨"ScriptFront$Scanner", "behindBlanks", "(I)I"⟩, 8), (⟨"ScriptFront$Scanner", "behindLine", "(I)I"⟩, 8), (⟨"ScriptFront$Scanner", "behindComment", "(I)I"⟩, 8), (⟨"ScriptFront$Scanner", "readNumber", "()V"⟩, 8), (⟨"ScriptFront$Scanner", "refuseIf", "(Z)V"⟩, 8), (⟨"java/lang/Throwable", "fillInStackTrace", "(I)Ljava/lang/Throwable;"⟩, 6), (⟨"ScriptFront$Scanner", "behindDigits", "(IZ)I"⟩, 8), (⟨"ScriptFront$Scanner", "exponentPlace", "(I)I"⟩, 8), (⟨"ScriptFront$Scanner", "readName", "()V"⟩, 8), (⟨"ScriptFront$Scanner", "wordCode", "()I"⟩, 8), (⟨"ScriptFront$Scanner", "readString", "(I)V"⟩, 8), (⟨"ScriptFront$Scanner", "readSign", "()V"⟩, 8), (⟨"ScriptFront$Parser", "element", "(I)I"⟩, 8), (⟨"ScriptFront$Parser", "statement", "(I)I"⟩, 8), (⟨"ScriptFront$Parser", "beginWithin", "(I)V"⟩, 8)]
theorem lw_r1 : ∀ q ∈ lw_privs_1, lw_okq q := List.forall_mem_cons.mpr ⟨lw_p0, List.forall_mem_cons.mpr ⟨lw_p1, List.forall_mem_cons.mpr ⟨lw_p2, List.forall_mem_cons.mpr ⟨lw_p3, List.forall_mem_cons.mpr ⟨lw_p4, List.forall_mem_cons.mpr ⟨lw_p5, List.forall_mem_cons.mpr ⟨lw_p6, List.forall_mem_cons.mpr ⟨lw_p7, List.forall_mem_cons.mpr ⟨lw_p8, List.forall_mem_cons.mpr ⟨lw_p9, List.forall_mem_cons.mpr ⟨lw_p10, List.forall_mem_cons.mpr ⟨lw_p11, List.forall_mem_cons.mpr ⟨lw_p12, List.forall_mem_cons.mpr ⟨lw_p13, List.forall_mem_cons.mpr ⟨lw_p14, List.forall_mem_cons.mpr ⟨lw_p15, fun _ h => absurd h List.not_mem_nil⟩⟩⟩⟩⟩⟩⟩⟩⟩⟩⟩⟩⟩⟩⟩⟩
theorem lw_p16 : lw_okq (⟨"ScriptFront$Scanner", "readPattern", "()V"⟩, 8) := ⟨⟨by decide +kernel, by decide +kernel⟩, List.mem_of_getElem? (i := 111) (by decide +kernel), List.mem_of_getElem? (i := 563) (by decide +kernel), List.mem_of_getElem? (i := 564) (by decide +kernel)⟩
theorem lw_p17 : lw_okq (⟨"ScriptFront$Scanner", "behindFlags", "(I)I"⟩, 8) := ⟨⟨by decide +kernel, by decide +kernel⟩, List.mem_of_getElem? (i := 111) (by decide +kernel), List.mem_of_getElem? (i := 567) (by decide +kernel), List.mem_of_getElem? (i := 568) (by decide +kernel)⟩
theorem lw_p18 : lw_okq (⟨"ScriptFront$Parser", "refuse", "()V"⟩, 8) := ⟨⟨by decide +kernel, by decide +kernel⟩, List.mem_of_getElem? (i := 109) (by decide +kernel), List.mem_of_getElem? (i := 571) (by decide +kernel), List.mem_of_getElem? (i := 572) (by decide +kernel)⟩
theorem lw_p19 : lw_okq (⟨"ScriptFront$Parser", "unended", "(I)I"⟩, 8) := ⟨⟨by decide +kernel, by decide +kernel⟩, List.mem_of_getElem? (i := 109) (by decide +kernel), List.mem_of_getElem? (i := 576) (by decide +kernel), List.mem_of_getElem? (i := 577) (by decide +kernel)⟩
theorem lw_p20 : lw_okq (⟨"ScriptFront$Parser", "block", "(I)I"⟩, 8) := ⟨⟨by decide +kernel, by decide +kernel⟩, List.mem_of_getElem? (i := 109) (by decide +kernel), List.mem_of_getElem? (i := 580) (by decide +kernel), List.mem_of_getElem? (i := 581) (by decide +kernel)⟩
theorem lw_p21 : lw_okq (⟨"ScriptFront$Parser", "demand", "(I)V"⟩, 8) := ⟨⟨by decide +kernel, by decide +kernel⟩, List.mem_of_getElem? (i := 109) (by decide +kernel), List.mem_of_getElem? (i := 584) (by decide +kernel), List.mem_of_getElem? (i := 585) (by decide +kernel)⟩
theorem lw_p22 : lw_okq (⟨"ScriptFront$Parser", "makeFirst", "(I)I"⟩, 8) := ⟨⟨by decide +kernel, by decide +kernel⟩, List.mem_of_getElem? (i := 109) (by decide +kernel), List.mem_of_getElem? (i := 588) (by decide +kernel), List.mem_of_getElem? (i := 589) (by decide +kernel)⟩
theorem lw_p23 : lw_okq (⟨"ScriptFront$Parser", "listGoesOn", "()Z"⟩, 8) := ⟨⟨by decide +kernel, by decide +kernel⟩, List.mem_of_getElem? (i := 109) (by decide +kernel), List.mem_of_getElem? (i := 593) (by decide +kernel), List.mem_of_getElem? (i := 594) (by decide +kernel)⟩
theorem lw_p24 : lw_okq (⟨"ScriptFront$Draft", "has", "(I)Z"⟩, 11) := ⟨⟨by decide +kernel, by decide +kernel⟩, List.mem_of_getElem? (i := 68) (by decide +kernel), List.mem_of_getElem? (i := 601) (by decide +kernel), List.mem_of_getElem? (i := 602) (by decide +kernel)⟩
theorem lw_p25 : lw_okq (⟨"ScriptFront$Parser", "pass", "(I)V"⟩, 8) := ⟨⟨by decide +kernel, by decide +kernel⟩, List.mem_of_getElem? (i := 109) (by decide +kernel), List.mem_of_getElem? (i := 605) (by decide +kernel), List.mem_of_getElem? (i := 606) (by decide +kernel)⟩
theorem lw_p26 : lw_okq (⟨"ScriptFront$Parser", "declarators", "(IZ)I"⟩, 8) := ⟨⟨by decide +kernel, by decide +kernel⟩, List.mem_of_getElem? (i := 109) (by decide +kernel), List.mem_of_getElem? (i := 609) (by decide +kernel), List.mem_of_getElem? (i := 610) (by decide +kernel)⟩
theorem lw_p27 : lw_okq (⟨"ScriptFront$Parser", "declarator", "(IZ)I"⟩, 8) := ⟨⟨by decide +kernel, by decide +kernel⟩, List.mem_of_getElem? (i := 109) (by decide +kernel), List.mem_of_getElem? (i := 613) (by decide +kernel), List.mem_of_getElem? (i := 614) (by decide +kernel)⟩
theorem lw_p28 : lw_okq (⟨"ScriptFront$Parser", "demandName", "()V"⟩, 8) := ⟨⟨by decide +kernel, by decide +kernel⟩, List.mem_of_getElem? (i := 109) (by decide +kernel), List.mem_of_getElem? (i := 617) (by decide +kernel), List.mem_of_getElem? (i := 618) (by decide +kernel)⟩
theorem lw_p29 : lw_okq (⟨"ScriptFront$Parser", "makeOf", "(I)I"⟩, 8) := ⟨⟨by decide +kernel, by decide +kernel⟩, List.mem_of_getElem? (i := 109) (by decide +kernel), List.mem_of_getElem? (i := 621) (by decide +kernel), List.mem_of_getElem? (i := 622) (by decide +kernel)⟩
theorem lw_p30 : lw_okq (⟨"ScriptFront$Parser", "x", "(IZ)I"⟩, 8) := ⟨⟨by decide +kernel, by decide +kernel⟩, List.mem_of_getElem? (i := 109) (by decide +kernel), List.mem_of_getElem? (i := 626) (by decide +kernel), List.mem_of_getElem? (i := 627) (by decide +kernel)⟩
theorem lw_p31 : lw_okq (⟨"ScriptFront$Parser", "choice", "(IZ)I"⟩, 8) := ⟨⟨by decide +kernel, by decide +kernel⟩, List.mem_of_getElem? (i := 109) (by decide +kernel), List.mem_of_getElem? (i := 630) (by decide +kernel), List.mem_of_getElem? (i := 631) (by decide +kernel)⟩
def lw_privs_2 : List (MethodName × Nat) := [(⟨"ScriptFront$Scanner", "readPattern", "()V"⟩, 8), (⟨"ScriptFront$Scanner", "behindFlags", "(I)I"⟩, 8), (⟨"ScriptFront$Parser", "refuse", "()V"⟩, 8), (⟨"ScriptFront$Parser", "unended", "(I)I"⟩, 8), (⟨"ScriptFront$Parser", "block", "(I)I"⟩, 8), (⟨"ScriptFront$Parser", "demand", "(I)V"⟩, 8), (⟨"ScriptFront$Parser", "makeFirst", "(I)I"⟩, 8), (⟨"ScriptFront$Parser", "listGoesOn", "()Z"⟩, 8), (⟨"ScriptFront$Draft", "has", "(I)Z"⟩, 11), (⟨"ScriptFront$Parser", "pass", "(I)V"⟩, 8), (⟨"ScriptFront$Parser", "declarators", "(IZ)I"⟩, 8), (⟨"ScriptFront$Parser", "declarator", "(IZ)I"⟩, 8), (⟨"ScriptFront$Parser", "demandName", "()V"⟩, 8), (⟨"ScriptFront$Parser", "makeOf", "(I)I"⟩, 8), (⟨"ScriptFront$Parser", "x", "(IZ)I"⟩, 8), (⟨"ScriptFront$Parser", "choice", "(IZ)I"⟩, 8)]
theorem lw_r2 : ∀ q ∈ lw_privs_2, lw_okq q := List.forall_mem_cons.mpr ⟨lw_p16, List.forall_mem_cons.mpr ⟨lw_p17, List.forall_mem_cons.mpr ⟨lw_p18, List.forall_mem_cons.mpr ⟨lw_p19, List.forall_mem_cons.mpr ⟨lw_p20, List.forall_mem_cons.mpr ⟨lw_p21, List.forall_mem_cons.mpr ⟨lw_p22, List.forall_mem_cons.mpr ⟨lw_p23, List.forall_mem_cons.mpr ⟨lw_p24, List.forall_mem_cons.mpr ⟨lw_p25, List.forall_mem_cons.mpr ⟨lw_p26, List.forall_mem_cons.mpr ⟨lw_p27, List.forall_mem_cons.mpr ⟨lw_p28, List.forall_mem_cons.mpr ⟨lw_p29, List.forall_mem_cons.mpr ⟨lw_p30, List.forall_mem_cons.mpr ⟨lw_p31, fun _ h => absurd h List.not_mem_nil⟩⟩⟩⟩⟩⟩⟩⟩⟩⟩⟩⟩⟩⟩⟩⟩
theorem lw_p32 : lw_okq (⟨"ScriptFront$Parser", "binary", "(IZ)I"⟩, 8) := ⟨⟨by decide +kernel, by decide +kernel⟩, List.mem_of_getElem? (i := 109) (by decide +kernel), List.mem_of_getElem? (i := 634) (by decide +kernel), List.mem_of_getElem? (i := 635) (by decide +kernel)⟩
theorem lw_p33 : lw_okq (⟨"ScriptFront$Parser", "unary", "(I)I"⟩, 8) := ⟨⟨by decide +kernel, by decide +kernel⟩, List.mem_of_getElem? (i := 109) (by decide +kernel), List.mem_of_getElem? (i := 638) (by decide +kernel), List.mem_of_getElem? (i := 639) (by decide +kernel)⟩
theorem lw_p34 : lw_okq (⟨"ScriptFront$Parser", "left", "(I)I"⟩, 8) := ⟨⟨by decide +kernel, by decide +kernel⟩, List.mem_of_getElem? (i := 109) (by decide +kernel), List.mem_of_getElem? (i := 645) (by decide +kernel), List.mem_of_getElem? (i := 646) (by decide +kernel)⟩
theorem lw_p35 : lw_okq (⟨"ScriptFront$Parser", "head", "(I)I"⟩, 8) := ⟨⟨by decide +kernel, by decide +kernel⟩, List.mem_of_getElem? (i := 109) (by decide +kernel), List.mem_of_getElem? (i := 649) (by decide +kernel), List.mem_of_getElem? (i := 650) (by decide +kernel)⟩
theorem lw_p36 : lw_okq (⟨"ScriptFront$Parser", "creation", "(I)I"⟩, 8) := ⟨⟨by decide +kernel, by decide +kernel⟩, List.mem_of_getElem? (i := 109) (by decide +kernel), List.mem_of_getElem? (i := 653) (by decide +kernel), List.mem_of_getElem? (i := 654) (by decide +kernel)⟩
theorem lw_p37 : lw_okq (⟨"ScriptFront$Parser", "member", "(I)I"⟩, 8) := ⟨⟨by decide +kernel, by decide +kernel⟩, List.mem_of_getElem? (i := 109) (by decide +kernel), List.mem_of_getElem? (i := 657) (by decide +kernel), List.mem_of_getElem? (i := 658) (by decide +kernel)⟩
theorem lw_p38 : lw_okq (⟨"ScriptFront$Parser", "access", "(II)I"⟩, 8) := ⟨⟨by decide +kernel, by decide +kernel⟩, List.mem_of_getElem? (i := 109) (by decide +kernel), List.mem_of_getElem? (i := 661) (by decide +kernel), List.mem_of_getElem? (i := 662) (by decide +kernel)⟩
theorem lw_p39 : lw_okq (⟨"ScriptFront$Parser", "makeHere", "(I)I"⟩, 8) := ⟨⟨by decide +kernel, by decide +kernel⟩, List.mem_of_getElem? (i := 109) (by decide +kernel), List.mem_of_getElem? (i := 665) (by decide +kernel), List.mem_of_getElem? (i := 666) (by decide +kernel)⟩
theorem lw_p40 : lw_okq (⟨"ScriptFront$Parser", "sequence", "(IZ)I"⟩, 8) := ⟨⟨by decide +kernel, by decide +kernel⟩, List.mem_of_getElem? (i := 109) (by decide +kernel), List.mem_of_getElem? (i := 669) (by decide +kernel), List.mem_of_getElem? (i := 670) (by decide +kernel)⟩
theorem lw_p41 : lw_okq (⟨"ScriptFront$Parser", "arguments", "(II)V"⟩, 8) := ⟨⟨by decide +kernel, by decide +kernel⟩, List.mem_of_getElem? (i := 109) (by decide +kernel), List.mem_of_getElem? (i := 673) (by decide +kernel), List.mem_of_getElem? (i := 674) (by decide +kernel)⟩
theorem lw_p42 : lw_okq (⟨"ScriptFront$Parser", "operand", "(I)I"⟩, 8) := ⟨⟨by decide +kernel, by decide +kernel⟩, List.mem_of_getElem? (i := 109) (by decide +kernel), List.mem_of_getElem? (i := 677) (by decide +kernel), List.mem_of_getElem? (i := 678) (by decide +kernel)⟩
theorem lw_p43 : lw_okq (⟨"ScriptFront$Parser", "codedOperand", "(I)I"⟩, 8) := ⟨⟨by decide +kernel, by decide +kernel⟩, List.mem_of_getElem? (i := 109) (by decide +kernel), List.mem_of_getElem? (i := 681) (by decide +kernel), List.mem_of_getElem? (i := 682) (by decide +kernel)⟩
theorem lw_p44 : lw_okq (⟨"ScriptFront$Parser", "function", "(II)I"⟩, 8) := ⟨⟨by decide +kernel, by decide +kernel⟩, List.mem_of_getElem? (i := 109) (by decide +kernel), List.mem_of_getElem? (i := 685) (by decide +kernel), List.mem_of_getElem? (i := 686) (by decide +kernel)⟩
theorem lw_p45 : lw_okq (⟨"ScriptFront$Parser", "body", "(I)I"⟩, 8) := ⟨⟨by decide +kernel, by decide +kernel⟩, List.mem_of_getElem? (i := 109) (by decide +kernel), List.mem_of_getElem? (i := 689) (by decide +kernel), List.mem_of_getElem? (i := 690) (by decide +kernel)⟩
theorem lw_p46 : lw_okq (⟨"ScriptFront$Parser", "array", "(I)I"⟩, 8) := ⟨⟨by decide +kernel, by decide +kernel⟩, List.mem_of_getElem? (i := 109) (by decide +kernel), List.mem_of_getElem? (i := 693) (by decide +kernel), List.mem_of_getElem? (i := 694) (by decide +kernel)⟩
theorem lw_p47 : lw_okq (⟨"ScriptFront$Parser", "nothing", "()I"⟩, 8) := ⟨⟨by decide +kernel, by decide +kernel⟩, List.mem_of_getElem? (i := 109) (by decide +kernel), List.mem_of_getElem? (i := 697) (by decide +kernel), List.mem_of_getElem? (i := 698) (by decide +kernel)⟩
def lw_privs_3 : List (MethodName × Nat) := [(⟨"ScriptFront$Parser", "binary", "(IZ)I"⟩, 8), (⟨"ScriptFront$Parser", "unary", "(I)I"⟩, 8), (⟨"ScriptFront$Parser", "left", "(I)I"⟩, 8), (⟨"ScriptFront$Parser", "head", "(I)I"⟩, 8), (⟨"ScriptFront$Parser", "creation", "(I)I"⟩, 8), (⟨"ScriptFront$Parser", "member", "(I)I"⟩, 8), (⟨"ScriptFront$Parser", "access", "(II)I"⟩, 8), (⟨"ScriptFront$Parser", "makeHere", "(I)I"⟩, 8), (⟨"ScriptFront$Parser", "sequence", "(IZ)I"⟩, 8), (⟨"ScriptFront$Parser", "arguments", "(II)V"⟩, 8), (⟨"ScriptFront$Parser", "operand", "(I)I"⟩, 8), (⟨"ScriptFront$Parser", "codedOperand", "(I)I"⟩, 8), (⟨"ScriptFront$Parser", "function", "(II)I"⟩, 8), (⟨"ScriptFront$Parser", "body", "(I)I"⟩, 8), (⟨"ScriptFront$Parser", "array", "(I)I"⟩, 8), (⟨"ScriptFront$Parser", "nothing", "()I"⟩, 8)]
theorem lw_r3 : ∀ q ∈ lw_privs_3, lw_okq q := List.forall_mem_cons.mpr ⟨lw_p32, List.forall_mem_cons.mpr ⟨lw_p33, List.forall_mem_cons.mpr ⟨lw_p34, List.forall_mem_cons.mpr ⟨lw_p35, List.forall_mem_cons.mpr ⟨lw_p36, List.forall_mem_cons.mpr ⟨lw_p37, List.forall_mem_cons.mpr ⟨lw_p38, List.forall_mem_cons.mpr ⟨lw_p39, List.forall_mem_cons.mpr ⟨lw_p40, List.forall_mem_cons.mpr ⟨lw_p41, List.forall_mem_cons.mpr ⟨lw_p42, List.forall_mem_cons.mpr ⟨lw_p43, List.forall_mem_cons.mpr ⟨lw_p44, List.forall_mem_cons.mpr ⟨lw_p45, List.forall_mem_cons.mpr ⟨lw_p46, List.forall_mem_cons.mpr ⟨lw_p47, fun _ h => absurd h List.not_mem_nil⟩⟩⟩⟩⟩⟩⟩⟩⟩⟩⟩⟩⟩⟩⟩⟩
theorem lw_p48 : lw_okq (⟨"ScriptFront$Parser", "object", "(I)I"⟩, 8) := ⟨⟨by decide +kernel, by decide +kernel⟩, List.mem_of_getElem? (i := 109) (by decide +kernel), List.mem_of_getElem? (i := 701) (by decide +kernel), List.mem_of_getElem? (i := 702) (by decide +kernel)⟩
theorem lw_p49 : lw_okq (⟨"ScriptFront$Parser", "property", "(I)I"⟩, 8) := ⟨⟨by decide +kernel, by decide +kernel⟩, List.mem_of_getElem? (i := 109) (by decide +kernel), List.mem_of_getElem? (i := 705) (by decide +kernel), List.mem_of_getElem? (i := 706) (by decide +kernel)⟩
theorem lw_p50 : lw_okq (⟨"ScriptFront$Parser", "call", "(II)I"⟩, 8) := ⟨⟨by decide +kernel, by decide +kernel⟩, List.mem_of_getElem? (i := 109) (by decide +kernel), List.mem_of_getElem? (i := 709) (by decide +kernel), List.mem_of_getElem? (i := 710) (by decide +kernel)⟩
theorem lw_p51 : lw_okq (⟨"ScriptFront$Parser", "closeWaiting", "(III)I"⟩, 8) := ⟨⟨by decide +kernel, by decide +kernel⟩, List.mem_of_getElem? (i := 109) (by decide +kernel), List.mem_of_getElem? (i := 716) (by decide +kernel), List.mem_of_getElem? (i := 717) (by decide +kernel)⟩
theorem lw_p52 : lw_okq (⟨"ScriptFront$Parser", "hold", "(II)V"⟩, 8) := ⟨⟨by decide +kernel, by decide +kernel⟩, List.mem_of_getElem? (i := 109) (by decide +kernel), List.mem_of_getElem? (i := 720) (by decide +kernel), List.mem_of_getElem? (i := 721) (by decide +kernel)⟩
theorem lw_p53 : lw_okq (⟨"ScriptFront$Parser", "ifStatement", "(I)I"⟩, 8) := ⟨⟨by decide +kernel, by decide +kernel⟩, List.mem_of_getElem? (i := 109) (by decide +kernel), List.mem_of_getElem? (i := 727) (by decide +kernel), List.mem_of_getElem? (i := 728) (by decide +kernel)⟩
theorem lw_p54 : lw_okq (⟨"ScriptFront$Parser", "condition", "(II)V"⟩, 8) := ⟨⟨by decide +kernel, by decide +kernel⟩, List.mem_of_getElem? (i := 109) (by decide +kernel), List.mem_of_getElem? (i := 731) (by decide +kernel), List.mem_of_getElem? (i := 732) (by decide +kernel)⟩
theorem lw_p55 : lw_okq (⟨"ScriptFront$Parser", "doStatement", "(I)I"⟩, 8) := ⟨⟨by decide +kernel, by decide +kernel⟩, List.mem_of_getElem? (i := 109) (by decide +kernel), List.mem_of_getElem? (i := 735) (by decide +kernel), List.mem_of_getElem? (i := 736) (by decide +kernel)⟩
theorem lw_p56 : lw_okq (⟨"ScriptFront$Parser", "whileStatement", "(I)I"⟩, 8) := ⟨⟨by decide +kernel, by decide +kernel⟩, List.mem_of_getElem? (i := 109) (by decide +kernel), List.mem_of_getElem? (i := 739) (by decide +kernel), List.mem_of_getElem? (i := 740) (by decide +kernel)⟩
theorem lw_p57 : lw_okq (⟨"ScriptFront$Parser", "forStatement", "(I)I"⟩, 8) := ⟨⟨by decide +kernel, by decide +kernel⟩, List.mem_of_getElem? (i := 109) (by decide +kernel), List.mem_of_getElem? (i := 743) (by decide +kernel), List.mem_of_getElem? (i := 744) (by decide +kernel)⟩
theorem lw_p58 : lw_okq (⟨"ScriptFront$Parser", "forParts", "(III)I"⟩, 8) := ⟨⟨by decide +kernel, by decide +kernel⟩, List.mem_of_getElem? (i := 109) (by decide +kernel), List.mem_of_getElem? (i := 747) (by decide +kernel), List.mem_of_getElem? (i := 748) (by decide +kernel)⟩
theorem lw_p59 : lw_okq (⟨"ScriptFront$Parser", "forIn", "(III)I"⟩, 8) := ⟨⟨by decide +kernel, by decide +kernel⟩, List.mem_of_getElem? (i := 109) (by decide +kernel), List.mem_of_getElem? (i := 755) (by decide +kernel), List.mem_of_getElem? (i := 756) (by decide +kernel)⟩
theorem lw_p60 : lw_okq (⟨"ScriptFront$Parser", "jump", "(I)I"⟩, 8) := ⟨⟨by decide +kernel, by decide +kernel⟩, List.mem_of_getElem? (i := 109) (by decide +kernel), List.mem_of_getElem? (i := 759) (by decide +kernel), List.mem_of_getElem? (i := 760) (by decide +kernel)⟩
theorem lw_p61 : lw_okq (⟨"ScriptFront$Parser", "returnStatement", "(I)I"⟩, 8) := ⟨⟨by decide +kernel, by decide +kernel⟩, List.mem_of_getElem? (i := 109) (by decide +kernel), List.mem_of_getElem? (i := 763) (by decide +kernel), List.mem_of_getElem? (i := 764) (by decide +kernel)⟩
theorem lw_p62 : lw_okq (⟨"ScriptFront$Parser", "switchStatement", "(I)I"⟩, 8) := ⟨⟨by decide +kernel, by decide +kernel⟩, List.mem_of_getElem? (i := 109) (by decide +kernel), List.mem_of_getElem? (i := 767) (by decide +kernel), List.mem_of_getElem? (i := 768) (by decide +kernel)⟩
theorem lw_p63 : lw_okq (⟨"ScriptFront$Parser", "switchCase", "(I)I"⟩, 8) := ⟨⟨by decide +kernel, by decide +kernel⟩, List.mem_of_getElem? (i := 109) (by decide +kernel), List.mem_of_getElem? (i := 771) (by decide +kernel), List.mem_of_getElem? (i := 772) (by decide +kernel)⟩
def lw_privs_4 : List (MethodName × Nat) := [(⟨"ScriptFront$Parser", "object", "(I)I"⟩, 8), (⟨"ScriptFront$Parser", "property", "(I)I"⟩, 8), (⟨"ScriptFront$Parser", "call", "(II)I"⟩, 8), (⟨"ScriptFront$Parser", "closeWaiting", "(III)I"⟩, 8), (⟨"ScriptFront$Parser", "hold", "(II)V"⟩, 8), (⟨"ScriptFront$Parser", "ifStatement", "(I)I"⟩, 8), (⟨"ScriptFront$Parser", "condition", "(II)V"⟩, 8), (⟨"ScriptFront$Parser", "doStatement", "(I)I"⟩, 8), (⟨"ScriptFront$Parser", "whileStatement", "(I)I"⟩, 8), (⟨"ScriptFront$Parser", "forStatement", "(I)I"⟩, 8), (⟨"ScriptFront$Parser", "forParts", "(III)I"⟩, 8), (⟨"ScriptFront$Parser", "forIn", "(III)I"⟩, 8), (⟨"ScriptFront$Parser", "jump", "(I)I"⟩, 8), (⟨"ScriptFront$Parser", "returnStatement", "(I)I"⟩, 8), (⟨"ScriptFront$Parser", "switchStatement", "(I)I"⟩, 8), (⟨"ScriptFront$Parser", "switchCase", "(I)I"⟩, 8)]
theorem lw_r4 : ∀ q ∈ lw_privs_4, lw_okq q := List.forall_mem_cons.mpr ⟨lw_p48, List.forall_mem_cons.mpr ⟨lw_p49, List.forall_mem_cons.mpr ⟨lw_p50, List.forall_mem_cons.mpr ⟨lw_p51, List.forall_mem_cons.mpr ⟨lw_p52, List.forall_mem_cons.mpr ⟨lw_p53, List.forall_mem_cons.mpr ⟨lw_p54, List.forall_mem_cons.mpr ⟨lw_p55, List.forall_mem_cons.mpr ⟨lw_p56, List.forall_mem_cons.mpr ⟨lw_p57, List.forall_mem_cons.mpr ⟨lw_p58, List.forall_mem_cons.mpr ⟨lw_p59, List.forall_mem_cons.mpr ⟨lw_p60, List.forall_mem_cons.mpr ⟨lw_p61, List.forall_mem_cons.mpr ⟨lw_p62, List.forall_mem_cons.mpr ⟨lw_p63, fun _ h => absurd h List.not_mem_nil⟩⟩⟩⟩⟩⟩⟩⟩⟩⟩⟩⟩⟩⟩⟩⟩
theorem lw_p64 : lw_okq (⟨"ScriptFront$Parser", "throwStatement", "(I)I"⟩, 8) := ⟨⟨by decide +kernel, by decide +kernel⟩, List.mem_of_getElem? (i := 109) (by decide +kernel), List.mem_of_getElem? (i := 775) (by decide +kernel), List.mem_of_getElem? (i := 776) (by decide +kernel)⟩
theorem lw_p65 : lw_okq (⟨"ScriptFront$Parser", "tryStatement", "(I)I"⟩, 8) := ⟨⟨by decide +kernel, by decide +kernel⟩, List.mem_of_getElem? (i := 109) (by decide +kernel), List.mem_of_getElem? (i := 779) (by decide +kernel), List.mem_of_getElem? (i := 780) (by decide +kernel)⟩
theorem lw_p66 : lw_okq (⟨"ScriptFront$Parser", "catchPart", "(I)I"⟩, 8) := ⟨⟨by decide +kernel, by decide +kernel⟩, List.mem_of_getElem? (i := 109) (by decide +kernel), List.mem_of_getElem? (i := 783) (by decide +kernel), List.mem_of_getElem? (i := 784) (by decide +kernel)⟩
theorem lw_p67 : lw_okq (⟨"ScriptFront$Parser", "nameOrExpression", "(I)I"⟩, 8) := ⟨⟨by decide +kernel, by decide +kernel⟩, List.mem_of_getElem? (i := 109) (by decide +kernel), List.mem_of_getElem? (i := 787) (by decide +kernel), List.mem_of_getElem? (i := 788) (by decide +kernel)⟩
theorem lw_p68 : lw_okq (⟨"ScriptFront$Parser", "endStatement", "()V"⟩, 8) := ⟨⟨by decide +kernel, by decide +kernel⟩, List.mem_of_getElem? (i := 109) (by decide +kernel), List.mem_of_getElem? (i := 802) (by decide +kernel), List.mem_of_getElem? (i := 803) (by decide +kernel)⟩
theorem lw_p69 : lw_okq (⟨"ScriptFront$Draft", "behind", "(I)I"⟩, 11) := ⟨⟨by decide +kernel, by decide +kernel⟩, List.mem_of_getElem? (i := 68) (by decide +kernel), List.mem_of_getElem? (i := 818) (by decide +kernel), List.mem_of_getElem? (i := 819) (by decide +kernel)⟩
theorem lw_p70 : lw_okq (⟨"ScriptFront$Judge", "strictness", "(I)Z"⟩, 3) := ⟨⟨by decide +kernel, by decide +kernel⟩, List.mem_of_getElem? (i := 214) (by decide +kernel), List.mem_of_getElem? (i := 826) (by decide +kernel), List.mem_of_getElem? (i := 827) (by decide +kernel)⟩
theorem lw_p71 : lw_okq (⟨"ScriptFront$Judge", "hasDirective", "(I)Z"⟩, 3) := ⟨⟨by decide +kernel, by decide +kernel⟩, List.mem_of_getElem? (i := 214) (by decide +kernel), List.mem_of_getElem? (i := 835) (by decide +kernel), List.mem_of_getElem? (i := 836) (by decide +kernel)⟩
theorem lw_p72 : lw_okq (⟨"ScriptFront$Judge", "isLoneString", "(I)Z"⟩, 3) := ⟨⟨by decide +kernel, by decide +kernel⟩, List.mem_of_getElem? (i := 214) (by decide +kernel), List.mem_of_getElem? (i := 839) (by decide +kernel), List.mem_of_getElem? (i := 840) (by decide +kernel)⟩
theorem lw_p73 : lw_okq (⟨"ScriptFront$Judge", "isWrongTarget", "(I)Z"⟩, 3) := ⟨⟨by decide +kernel, by decide +kernel⟩, List.mem_of_getElem? (i := 214) (by decide +kernel), List.mem_of_getElem? (i := 871) (by decide +kernel), List.mem_of_getElem? (i := 872) (by decide +kernel)⟩
theorem lw_p74 : lw_okq (⟨"ScriptFront$Judge", "hasTarget", "(I)Z"⟩, 3) := ⟨⟨by decide +kernel, by decide +kernel⟩, List.mem_of_getElem? (i := 214) (by decide +kernel), List.mem_of_getElem? (i := 875) (by decide +kernel), List.mem_of_getElem? (i := 876) (by decide +kernel)⟩
theorem lw_p75 : lw_okq (⟨"ScriptFront$Judge", "refuseIf", "(ZII)V"⟩, 3) := ⟨⟨by decide +kernel, by decide +kernel⟩, List.mem_of_getElem? (i := 214) (by decide +kernel), List.mem_of_getElem? (i := 883) (by decide +kernel), List.mem_of_getElem? (i := 884) (by decide +kernel)⟩
theorem lw_p76 : lw_okq (⟨"ScriptFront$Judge", "isWrongInStrictCode", "(I)Z"⟩, 3) := ⟨⟨by decide +kernel, by decide +kernel⟩, List.mem_of_getElem? (i := 214) (by decide +kernel), List.mem_of_getElem? (i := 888) (by decide +kernel), List.mem_of_getElem? (i := 889) (by decide +kernel)⟩
theorem lw_p77 : lw_okq (⟨"ScriptFront$Judge", "isGuarded", "(I)Z"⟩, 3) := ⟨⟨by decide +kernel, by decide +kernel⟩, List.mem_of_getElem? (i := 214) (by decide +kernel), List.mem_of_getElem? (i := 892) (by decide +kernel), List.mem_of_getElem? (i := 893) (by decide +kernel)⟩
theorem lw_p78 : lw_okq (⟨"ScriptFront$Judge", "isRepeated", "(I)Z"⟩, 3) := ⟨⟨by decide +kernel, by decide +kernel⟩, List.mem_of_getElem? (i := 214) (by decide +kernel), List.mem_of_getElem? (i := 898) (by decide +kernel), List.mem_of_getElem? (i := 899) (by decide +kernel)⟩
theorem lw_p79 : lw_okq (⟨"ScriptFront$Judge", "areAlike", "(II)Z"⟩, 3) := ⟨⟨by decide +kernel, by decide +kernel⟩, List.mem_of_getElem? (i := 214) (by decide +kernel), List.mem_of_getElem? (i := 902) (by decide +kernel), List.mem_of_getElem? (i := 903) (by decide +kernel)⟩
def lw_privs_5 : List (MethodName × Nat) := [(⟨"ScriptFront$Parser", "throwStatement", "(I)I"⟩, 8), (⟨"ScriptFront$Parser", "tryStatement", "(I)I"⟩, 8), (⟨"ScriptFront$Parser", "catchPart", "(I)I"⟩, 8), (⟨"ScriptFront$Parser", "nameOrExpression", "(I)I"⟩, 8), (⟨"ScriptFront$Parser", "endStatement", "()V"⟩, 8), (⟨"ScriptFront$Draft", "behind", "(I)I"⟩, 11), (⟨"ScriptFront$Judge", "strictness", "(I)Z"⟩, 3), (⟨"ScriptFront$Judge", "hasDirective", "(I)Z"⟩, 3), (⟨"ScriptFront$Judge", "isLoneString", "(I)Z"⟩, 3), (⟨"ScriptFront$Judge", "isWrongTarget", "(I)Z"⟩, 3), (⟨"ScriptFront$Judge", "hasTarget", "(I)Z"⟩, 3), (⟨"ScriptFront$Judge", "refuseIf", "(ZII)V"⟩, 3), (⟨"ScriptFront$Judge", "isWrongInStrictCode", "(I)Z"⟩, 3), (⟨"ScriptFront$Judge", "isGuarded", "(I)Z"⟩, 3), (⟨"ScriptFront$Judge", "isRepeated", "(I)Z"⟩, 3), (⟨"ScriptFront$Judge", "areAlike", "(II)Z"⟩, 3)]
theorem lw_r5 : ∀ q ∈ lw_privs_5, lw_okq q := List.forall_mem_cons.mpr ⟨lw_p64, List.forall_mem_cons.mpr ⟨lw_p65, List.forall_mem_cons.mpr ⟨lw_p66, List.forall_mem_cons.mpr ⟨lw_p67, List.forall_mem_cons.mpr ⟨lw_p68, List.forall_mem_cons.mpr ⟨lw_p69, List.forall_mem_cons.mpr ⟨lw_p70, List.forall_mem_cons.mpr ⟨lw_p71, List.forall_mem_cons.mpr ⟨lw_p72, List.forall_mem_cons.mpr ⟨lw_p73, List.forall_mem_cons.mpr ⟨lw_p74, List.forall_mem_cons.mpr ⟨lw_p75, List.forall_mem_cons.mpr ⟨lw_p76, List.forall_mem_cons.mpr ⟨lw_p77, List.forall_mem_cons.mpr ⟨lw_p78, List.forall_mem_cons.mpr ⟨lw_p79, fun _ h => absurd h List.not_mem_nil⟩⟩⟩⟩⟩⟩⟩⟩⟩⟩⟩⟩⟩⟩⟩⟩
theorem lw_p80 : lw_okq (⟨"ScriptFront$Judge", "isGuardedTarget", "(I)Z"⟩, 3) := ⟨⟨by decide +kernel, by decide +kernel⟩, List.mem_of_getElem? (i := 214) (by decide +kernel), List.mem_of_getElem? (i := 907) (by decide +kernel), List.mem_of_getElem? (i := 908) (by decide +kernel)⟩
theorem lw_p81 : lw_okq (⟨"ScriptFront$Judge", "isDeletedName", "(I)Z"⟩, 3) := ⟨⟨by decide +kernel, by decide +kernel⟩, List.mem_of_getElem? (i := 214) (by decide +kernel), List.mem_of_getElem? (i := 911) (by decide +kernel), List.mem_of_getElem? (i := 912) (by decide +kernel)⟩
theorem lw_p82 : lw_okq (⟨"ScriptFront$Judge", "isWrongJump", "(I)Z"⟩, 3) := ⟨⟨by decide +kernel, by decide +kernel⟩, List.mem_of_getElem? (i := 214) (by decide +kernel), List.mem_of_getElem? (i := 915) (by decide +kernel), List.mem_of_getElem? (i := 916) (by decide +kernel)⟩
theorem lw_p83 : lw_okq (⟨"ScriptFront$Judge", "isSecondDefault", "(I)Z"⟩, 3) := ⟨⟨by decide +kernel, by decide +kernel⟩, List.mem_of_getElem? (i := 214) (by decide +kernel), List.mem_of_getElem? (i := 919) (by decide +kernel), List.mem_of_getElem? (i := 920) (by decide +kernel)⟩
theorem lw_p84 : lw_okq (⟨"ScriptFront$Judge", "isInFunction", "(I)Z"⟩, 3) := ⟨⟨by decide +kernel, by decide +kernel⟩, List.mem_of_getElem? (i := 214) (by decide +kernel), List.mem_of_getElem? (i := 923) (by decide +kernel), List.mem_of_getElem? (i := 924) (by decide +kernel)⟩
theorem lw_p85 : lw_okq (⟨"ScriptFront$Judge", "labelAround", "(I)I"⟩, 3) := ⟨⟨by decide +kernel, by decide +kernel⟩, List.mem_of_getElem? (i := 214) (by decide +kernel), List.mem_of_getElem? (i := 927) (by decide +kernel), List.mem_of_getElem? (i := 928) (by decide +kernel)⟩
theorem lw_p86 : lw_okq (⟨"ScriptFront$Judge", "isInLoop", "(IZ)Z"⟩, 3) := ⟨⟨by decide +kernel, by decide +kernel⟩, List.mem_of_getElem? (i := 214) (by decide +kernel), List.mem_of_getElem? (i := 931) (by decide +kernel), List.mem_of_getElem? (i := 932) (by decide +kernel)⟩
theorem lw_p87 : lw_okq (⟨"ScriptFront$Judge", "isLoopLabel", "(I)Z"⟩, 3) := ⟨⟨by decide +kernel, by decide +kernel⟩, List.mem_of_getElem? (i := 214) (by decide +kernel), List.mem_of_getElem? (i := 938) (by decide +kernel), List.mem_of_getElem? (i := 939) (by decide +kernel)⟩
theorem lw_p88 : lw_okq (⟨"ScriptFront$Printer", "isHeading", "(I)Z"⟩, 7) := ⟨⟨by decide +kernel, by decide +kernel⟩, List.mem_of_getElem? (i := 230) (by decide +kernel), List.mem_of_getElem? (i := 946) (by decide +kernel), List.mem_of_getElem? (i := 947) (by decide +kernel)⟩
theorem lw_p89 : lw_okq (⟨"ScriptFront$Printer", "bindsLess", "(I)Z"⟩, 7) := ⟨⟨by decide +kernel, by decide +kernel⟩, List.mem_of_getElem? (i := 230) (by decide +kernel), List.mem_of_getElem? (i := 956) (by decide +kernel), List.mem_of_getElem? (i := 957) (by decide +kernel)⟩
theorem lw_p90 : lw_okq (⟨"ScriptFront$Printer", "levelOf", "(I)I"⟩, 7) := ⟨⟨by decide +kernel, by decide +kernel⟩, List.mem_of_getElem? (i := 230) (by decide +kernel), List.mem_of_getElem? (i := 960) (by decide +kernel), List.mem_of_getElem? (i := 961) (by decide +kernel)⟩
theorem lw_p91 : lw_okq (⟨"ScriptFront$Printer", "isMisread", "(I)Z"⟩, 7) := ⟨⟨by decide +kernel, by decide +kernel⟩, List.mem_of_getElem? (i := 230) (by decide +kernel), List.mem_of_getElem? (i := 966) (by decide +kernel), List.mem_of_getElem? (i := 967) (by decide +kernel)⟩
theorem lw_p92 : lw_okq (⟨"ScriptFront$Printer", "hasCall", "(I)Z"⟩, 7) := ⟨⟨by decide +kernel, by decide +kernel⟩, List.mem_of_getElem? (i := 230) (by decide +kernel), List.mem_of_getElem? (i := 970) (by decide +kernel), List.mem_of_getElem? (i := 971) (by decide +kernel)⟩
theorem lw_p93 : lw_okq (⟨"ScriptFront$Printer", "beginsLikeAnother", "(I)Z"⟩, 7) := ⟨⟨by decide +kernel, by decide +kernel⟩, List.mem_of_getElem? (i := 230) (by decide +kernel), List.mem_of_getElem? (i := 974) (by decide +kernel), List.mem_of_getElem? (i := 975) (by decide +kernel)⟩
theorem lw_p94 : lw_okq (⟨"ScriptFront$Printer", "hasBrackets", "(I)Z"⟩, 7) := ⟨⟨by decide +kernel, by decide +kernel⟩, List.mem_of_getElem? (i := 230) (by decide +kernel), List.mem_of_getElem? (i := 978) (by decide +kernel), List.mem_of_getElem? (i := 979) (by decide +kernel)⟩
theorem lw_p95 : lw_okq (⟨"ScriptFront$Printer", "hadBrackets", "(I)Z"⟩, 7) := ⟨⟨by decide +kernel, by decide +kernel⟩, List.mem_of_getElem? (i := 230) (by decide +kernel), List.mem_of_getElem? (i := 982) (by decide +kernel), List.mem_of_getElem? (i := 983) (by decide +kernel)⟩
def lw_privs_6 : List (MethodName × Nat) := [(⟨"ScriptFront$Judge", "isGuardedTarget", "(I)Z"⟩, 3), (⟨"ScriptFront$Judge", "isDeletedName", "(I)Z"⟩, 3), (⟨"ScriptFront$Judge", "isWrongJump", "(I)Z"⟩, 3), (⟨"ScriptFront$Judge", "isSecondDefault", "(I)Z"⟩, 3), (⟨"ScriptFront$Judge", "isInFunction", "(I)Z"⟩, 3), (⟨"ScriptFront$Judge", "labelAround", "(I)I"⟩, 3), (⟨"ScriptFront$Judge", "isInLoop", "(IZ)Z"⟩, 3), (⟨"ScriptFront$Judge", "isLoopLabel", "(I)Z"⟩, 3), (⟨"ScriptFront$Printer", "isHeading", "(I)Z"⟩, 7), (⟨"ScriptFront$Printer", "bindsLess", "(I)Z"⟩, 7), (⟨"ScriptFront$Printer", "levelOf", "(I)I"⟩, 7), (⟨"ScriptFront$Printer", "isMisread", "(I)Z"⟩, 7), (⟨"ScriptFront$Printer", "hasCall", "(I)Z"⟩, 7), (⟨"ScriptFront$Printer", "beginsLikeAnother", "(I)Z"⟩, 7), (⟨"ScriptFront$Printer", "hasBrackets", "(I)Z"⟩, 7), (⟨"ScriptFront$Printer", "hadBrackets", "(I)Z"⟩, 7)]
theorem lw_r6 : ∀ q ∈ lw_privs_6, lw_okq q := List.forall_mem_cons.mpr ⟨lw_p80, List.forall_mem_cons.mpr ⟨lw_p81, List.forall_mem_cons.mpr ⟨lw_p82, List.forall_mem_cons.mpr ⟨lw_p83, List.forall_mem_cons.mpr ⟨lw_p84, List.forall_mem_cons.mpr ⟨lw_p85, List.forall_mem_cons.mpr ⟨lw_p86, List.forall_mem_cons.mpr ⟨lw_p87, List.forall_mem_cons.mpr ⟨lw_p88, List.forall_mem_cons.mpr ⟨lw_p89, List.forall_mem_cons.mpr ⟨lw_p90, List.forall_mem_cons.mpr ⟨lw_p91, List.forall_mem_cons.mpr ⟨lw_p92, List.forall_mem_cons.mpr ⟨lw_p93, List.forall_mem_cons.mpr ⟨lw_p94, List.forall_mem_cons.mpr ⟨lw_p95, fun _ h => absurd h List.not_mem_nil⟩⟩⟩⟩⟩⟩⟩⟩⟩⟩⟩⟩⟩⟩⟩⟩
theorem lw_p96 : lw_okq (⟨"ScriptFront$Printer", "closeUpTo", "(II)V"⟩, 7) := ⟨⟨by decide +kernel, by decide +kernel⟩, List.mem_of_getElem? (i := 230) (by decide +kernel), List.mem_of_getElem? (i := 987) (by decide +kernel), List.mem_of_getElem? (i := 988) (by decide +kernel)⟩
theorem lw_p97 : lw_okq (⟨"ScriptFront$Printer", "closeExpression", "(II)V"⟩, 7) := ⟨⟨by decide +kernel, by decide +kernel⟩, List.mem_of_getElem? (i := 230) (by decide +kernel), List.mem_of_getElem? (i := 991) (by decide +kernel), List.mem_of_getElem? (i := 992) (by decide +kernel)⟩
theorem lw_p98 : lw_okq (⟨"ScriptFront$Printer", "putIf", "(ZLjava/lang/String;)V"⟩, 7) := ⟨⟨by decide +kernel, by decide +kernel⟩, List.mem_of_getElem? (i := 230) (by decide +kernel), List.mem_of_getElem? (i := 997) (by decide +kernel), List.mem_of_getElem? (i := 998) (by decide +kernel)⟩
theorem lw_p99 : lw_okq (⟨"ScriptFront$Printer", "put", "(Ljava/lang/String;)V"⟩, 7) := ⟨⟨by decide +kernel, by decide +kernel⟩, List.mem_of_getElem? (i := 230) (by decide +kernel), List.mem_of_getElem? (i := 1001) (by decide +kernel), List.mem_of_getElem? (i := 1002) (by decide +kernel)⟩
theorem lw_p100 : lw_okq (⟨"ScriptFront$Printer", "separateFrom", "(I)V"⟩, 7) := ⟨⟨by decide +kernel, by decide +kernel⟩, List.mem_of_getElem? (i := 230) (by decide +kernel), List.mem_of_getElem? (i := 1010) (by decide +kernel), List.mem_of_getElem? (i := 1011) (by decide +kernel)⟩
theorem lw_p101 : lw_okq (⟨"ScriptFront$Printer", "append", "(I)V"⟩, 7) := ⟨⟨by decide +kernel, by decide +kernel⟩, List.mem_of_getElem? (i := 230) (by decide +kernel), List.mem_of_getElem? (i := 1016) (by decide +kernel), List.mem_of_getElem? (i := 1017) (by decide +kernel)⟩
theorem lw_p102 : lw_okq (⟨"ScriptFront$Printer", "putText", "(I)V"⟩, 7) := ⟨⟨by decide +kernel, by decide +kernel⟩, List.mem_of_getElem? (i := 230) (by decide +kernel), List.mem_of_getElem? (i := 1024) (by decide +kernel), List.mem_of_getElem? (i := 1025) (by decide +kernel)⟩
theorem lw_p103 : lw_okq (⟨"ScriptFront$Printer", "closeStatement", "(I)V"⟩, 7) := ⟨⟨by decide +kernel, by decide +kernel⟩, List.mem_of_getElem? (i := 230) (by decide +kernel), List.mem_of_getElem? (i := 1032) (by decide +kernel), List.mem_of_getElem? (i := 1033) (by decide +kernel)⟩
theorem lw_p104 : lw_okq (⟨"ScriptFront$Printer", "isForPart", "(I)Z"⟩, 7) := ⟨⟨by decide +kernel, by decide +kernel⟩, List.mem_of_getElem? (i := 230) (by decide +kernel), List.mem_of_getElem? (i := 1038) (by decide +kernel), List.mem_of_getElem? (i := 1039) (by decide +kernel)⟩
theorem lw_p105 : lw_okq (⟨"ScriptFront$Printer", "putAhead", "(I)V"⟩, 7) := ⟨⟨by decide +kernel, by decide +kernel⟩, List.mem_of_getElem? (i := 230) (by decide +kernel), List.mem_of_getElem? (i := 1043) (by decide +kernel), List.mem_of_getElem? (i := 1044) (by decide +kernel)⟩
theorem lw_p106 : lw_okq (⟨"ScriptFront$Printer", "putAheadInHead", "(II)V"⟩, 7) := ⟨⟨by decide +kernel, by decide +kernel⟩, List.mem_of_getElem? (i := 230) (by decide +kernel), List.mem_of_getElem? (i := 1051) (by decide +kernel), List.mem_of_getElem? (i := 1052) (by decide +kernel)⟩
theorem lw_p107 : lw_okq (⟨"ScriptFront$Printer", "open", "(I)V"⟩, 7) := ⟨⟨by decide +kernel, by decide +kernel⟩, List.mem_of_getElem? (i := 230) (by decide +kernel), List.mem_of_getElem? (i := 1058) (by decide +kernel), List.mem_of_getElem? (i := 1059) (by decide +kernel)⟩
theorem lw_p108 : lw_okq (⟨"ScriptFront$Printer", "openExpression", "(II)V"⟩, 7) := ⟨⟨by decide +kernel, by decide +kernel⟩, List.mem_of_getElem? (i := 230) (by decide +kernel), List.mem_of_getElem? (i := 1062) (by decide +kernel), List.mem_of_getElem? (i := 1063) (by decide +kernel)⟩
theorem lw_p109 : lw_okq (⟨"ScriptFront$Printer", "openFunction", "(I)V"⟩, 7) := ⟨⟨by decide +kernel, by decide +kernel⟩, List.mem_of_getElem? (i := 230) (by decide +kernel), List.mem_of_getElem? (i := 1067) (by decide +kernel), List.mem_of_getElem? (i := 1068) (by decide +kernel)⟩
theorem lw_p110 : lw_okq (⟨"ScriptFront$Printer", "openStatement", "(II)V"⟩, 7) := ⟨⟨by decide +kernel, by decide +kernel⟩, List.mem_of_getElem? (i := 230) (by decide +kernel), List.mem_of_getElem? (i := 1073) (by decide +kernel), List.mem_of_getElem? (i := 1074) (by decide +kernel)⟩
theorem lw_p111 : lw_okq (⟨"ScriptFront$Printer", "openHead", "(II)V"⟩, 7) := ⟨⟨by decide +kernel, by decide +kernel⟩, List.mem_of_getElem? (i := 230) (by decide +kernel), List.mem_of_getElem? (i := 1085) (by decide +kernel), List.mem_of_getElem? (i := 1086) (by decide +kernel)⟩
def lw_privs_7 : List (MethodName × Nat) := [(⟨"ScriptFront$Printer", "closeUpTo", "(II)V"⟩, 7), (⟨"ScriptFront$Printer", "closeExpression", "(II)V"⟩, 7), (⟨"ScriptFront$Printer", "putIf", "(ZLjava/lang/String;)V"⟩, 7), (⟨"ScriptFront$Printer", "put", "(Ljava/lang/String;)V"⟩, 7), (⟨"ScriptFront$Printer", "separateFrom", "(I)V"⟩, 7), (⟨"ScriptFront$Printer", "append", "(I)V"⟩, 7), (⟨"ScriptFront$Printer", "putText", "(I)V"⟩, 7), (⟨"ScriptFront$Printer", "closeStatement", "(I)V"⟩, 7), (⟨"ScriptFront$Printer", "isForPart", "(I)Z"⟩, 7), (⟨"ScriptFront$Printer", "putAhead", "(I)V"⟩, 7), (⟨"ScriptFront$Printer", "putAheadInHead", "(II)V"⟩, 7), (⟨"ScriptFront$Printer", "open", "(I)V"⟩, 7), (⟨"ScriptFront$Printer", "openExpression", "(II)V"⟩, 7), (⟨"ScriptFront$Printer", "openFunction", "(I)V"⟩, 7), (⟨"ScriptFront$Printer", "openStatement", "(II)V"⟩, 7), (⟨"ScriptFront$Printer", "openHead", "(II)V"⟩, 7)]
theorem lw_r7 : ∀ q ∈ lw_privs_7, lw_okq q := List.forall_mem_cons.mpr ⟨lw_p96, List.forall_mem_cons.mpr ⟨lw_p97, List.forall_mem_cons.mpr ⟨lw_p98, List.forall_mem_cons.mpr ⟨lw_p99, List.forall_mem_cons.mpr ⟨lw_p100, List.forall_mem_cons.mpr ⟨lw_p101, List.forall_mem_cons.mpr ⟨lw_p102, List.forall_mem_cons.mpr ⟨lw_p103, List.forall_mem_cons.mpr ⟨lw_p104, List.forall_mem_cons.mpr ⟨lw_p105, List.forall_mem_cons.mpr ⟨lw_p106, List.forall_mem_cons.mpr ⟨lw_p107, List.forall_mem_cons.mpr ⟨lw_p108, List.forall_mem_cons.mpr ⟨lw_p109, List.forall_mem_cons.mpr ⟨lw_p110, List.forall_mem_cons.mpr ⟨lw_p111, fun _ h => absurd h List.not_mem_nil⟩⟩⟩⟩⟩⟩⟩⟩⟩⟩⟩⟩⟩⟩⟩⟩
theorem lw_p112 : lw_okq (⟨"ScriptFrontModel", "readAll", "()I"⟩, 55) := ⟨⟨by decide +kernel, by decide +kernel⟩, List.mem_of_getElem? (i := 1124) (by decide +kernel), List.mem_of_getElem? (i := 1346) (by decide +kernel), List.mem_of_getElem? (i := 1347) (by decide +kernel)⟩
theorem lw_p113 : lw_okq (⟨"ScriptFrontModel", "push", "(IIIII)V"⟩, 55) := ⟨⟨by decide +kernel, by decide +kernel⟩, List.mem_of_getElem? (i := 1124) (by decide +kernel), List.mem_of_getElem? (i := 1350) (by decide +kernel), List.mem_of_getElem? (i := 1351) (by decide +kernel)⟩
theorem lw_p114 : lw_okq (⟨"ScriptFrontModel", "later", "(II)V"⟩, 55) := ⟨⟨by decide +kernel, by decide +kernel⟩, List.mem_of_getElem? (i := 1124) (by decide +kernel), List.mem_of_getElem? (i := 1354) (by decide +kernel), List.mem_of_getElem? (i := 1355) (by decide +kernel)⟩
theorem lw_p115 : lw_okq (⟨"ScriptFrontModel", "step", "()V"⟩, 55) := ⟨⟨by decide +kernel, by decide +kernel⟩, List.mem_of_getElem? (i := 1124) (by decide +kernel), List.mem_of_getElem? (i := 1358) (by decide +kernel), List.mem_of_getElem? (i := 1359) (by decide +kernel)⟩
theorem lw_p116 : lw_okq (⟨"ScriptFrontModel", "statements", "(I)V"⟩, 55) := ⟨⟨by decide +kernel, by decide +kernel⟩, List.mem_of_getElem? (i := 1124) (by decide +kernel), List.mem_of_getElem? (i := 1362) (by decide +kernel), List.mem_of_getElem? (i := 1363) (by decide +kernel)⟩
theorem lw_p117 : lw_okq (⟨"ScriptFrontModel", "look", "(Z)V"⟩, 55) := ⟨⟨by decide +kernel, by decide +kernel⟩, List.mem_of_getElem? (i := 1124) (by decide +kernel), List.mem_of_getElem? (i := 1366) (by decide +kernel), List.mem_of_getElem? (i := 1367) (by decide +kernel)⟩
theorem lw_p118 : lw_okq (⟨"ScriptFrontModel", "here", "(I)I"⟩, 55) := ⟨⟨by decide +kernel, by decide +kernel⟩, List.mem_of_getElem? (i := 1124) (by decide +kernel), List.mem_of_getElem? (i := 1370) (by decide +kernel), List.mem_of_getElem? (i := 1371) (by decide +kernel)⟩
theorem lw_p119 : lw_okq (⟨"ScriptFrontModel", "skip", "()V"⟩, 55) := ⟨⟨by decide +kernel, by decide +kernel⟩, List.mem_of_getElem? (i := 1124) (by decide +kernel), List.mem_of_getElem? (i := 1374) (by decide +kernel), List.mem_of_getElem? (i := 1375) (by decide +kernel)⟩
theorem lw_p120 : lw_okq (⟨"ScriptFrontModel", "commentEnd", "(I)I"⟩, 55) := ⟨⟨by decide +kernel, by decide +kernel⟩, List.mem_of_getElem? (i := 1124) (by decide +kernel), List.mem_of_getElem? (i := 1381) (by decide +kernel), List.mem_of_getElem? (i := 1382) (by decide +kernel)⟩
theorem lw_p121 : lw_okq (⟨"ScriptFrontModel", "wrong", "(II)V"⟩, 55) := ⟨⟨by decide +kernel, by decide +kernel⟩, List.mem_of_getElem? (i := 1124) (by decide +kernel), List.mem_of_getElem? (i := 1385) (by decide +kernel), List.mem_of_getElem? (i := 1386) (by decide +kernel)⟩
theorem lw_p122 : lw_okq (⟨"ScriptFrontModel", "wordOf", "(II)I"⟩, 55) := ⟨⟨by decide +kernel, by decide +kernel⟩, List.mem_of_getElem? (i := 1124) (by decide +kernel), List.mem_of_getElem? (i := 1398) (by decide +kernel), List.mem_of_getElem? (i := 1399) (by decide +kernel)⟩
theorem lw_p123 : lw_okq (⟨"ScriptFrontModel", "numberEnd", "(I)I"⟩, 55) := ⟨⟨by decide +kernel, by decide +kernel⟩, List.mem_of_getElem? (i := 1124) (by decide +kernel), List.mem_of_getElem? (i := 1404) (by decide +kernel), List.mem_of_getElem? (i := 1405) (by decide +kernel)⟩
theorem lw_p124 : lw_okq (⟨"ScriptFrontModel", "digits", "(I)I"⟩, 55) := ⟨⟨by decide +kernel, by decide +kernel⟩, List.mem_of_getElem? (i := 1124) (by decide +kernel), List.mem_of_getElem? (i := 1411) (by decide +kernel), List.mem_of_getElem? (i := 1412) (by decide +kernel)⟩
theorem lw_p125 : lw_okq (⟨"ScriptFrontModel", "stringEnd", "(I)I"⟩, 55) := ⟨⟨by decide +kernel, by decide +kernel⟩, List.mem_of_getElem? (i := 1124) (by decide +kernel), List.mem_of_getElem? (i := 1415) (by decide +kernel), List.mem_of_getElem? (i := 1416) (by decide +kernel)⟩
theorem lw_p126 : lw_okq (⟨"ScriptFrontModel", "patternEnd", "(I)I"⟩, 55) := ⟨⟨by decide +kernel, by decide +kernel⟩, List.mem_of_getElem? (i := 1124) (by decide +kernel), List.mem_of_getElem? (i := 1419) (by decide +kernel), List.mem_of_getElem? (i := 1420) (by decide +kernel)⟩
theorem lw_p127 : lw_okq (⟨"ScriptFrontModel", "flagsEnd", "(I)I"⟩, 55) := ⟨⟨by decide +kernel, by decide +kernel⟩, List.mem_of_getElem? (i := 1124) (by decide +kernel), List.mem_of_getElem? (i := 1423) (by decide +kernel), List.mem_of_getElem? (i := 1424) (by decide +kernel)⟩
def lw_privs_8 : List (MethodName × Nat) := [(⟨"ScriptFrontModel", "readAll", "()I"⟩, 55), (⟨"ScriptFrontModel", "push", "(IIIII)V"⟩, 55), (⟨"ScriptFrontModel", "later", "(II)V"⟩, 55), (⟨"ScriptFrontModel", "step", "()V"⟩, 55), (⟨"ScriptFrontModel", "statements", "(I)V"⟩, 55), (⟨"ScriptFrontModel", "look", "(Z)V"⟩, 55), (⟨"ScriptFrontModel", "here", "(I)I"⟩, 55), (⟨"ScriptFrontModel", "skip", "()V"⟩, 55), (⟨"ScriptFrontModel", "commentEnd", "(I)I"⟩, 55), (⟨"ScriptFrontModel", "wrong", "(II)V"⟩, 55), (⟨"ScriptFrontModel", "wordOf", "(II)I"⟩, 55), (⟨"ScriptFrontModel", "numberEnd", "(I)I"⟩, 55), (⟨"ScriptFrontModel", "digits", "(I)I"⟩, 55), (⟨"ScriptFrontModel", "stringEnd", "(I)I"⟩, 55), (⟨"ScriptFrontModel", "patternEnd", "(I)I"⟩, 55), (⟨"ScriptFrontModel", "flagsEnd", "(I)I"⟩, 55)]
theorem lw_r8 : ∀ q ∈ lw_privs_8, lw_okq q := List.forall_mem_cons.mpr ⟨lw_p112, List.forall_mem_cons.mpr ⟨lw_p113, List.forall_mem_cons.mpr ⟨lw_p114, List.forall_mem_cons.mpr ⟨lw_p115, List.forall_mem_cons.mpr ⟨lw_p116, List.forall_mem_cons.mpr ⟨lw_p117, List.forall_mem_cons.mpr ⟨lw_p118, List.forall_mem_cons.mpr ⟨lw_p119, List.forall_mem_cons.mpr ⟨lw_p120, List.forall_mem_cons.mpr ⟨lw_p121, List.forall_mem_cons.mpr ⟨lw_p122, List.forall_mem_cons.mpr ⟨lw_p123, List.forall_mem_cons.mpr ⟨lw_p124, List.forall_mem_cons.mpr ⟨lw_p125, List.forall_mem_cons.mpr ⟨lw_p126, List.forall_mem_cons.mpr ⟨lw_p127, fun _ h => absurd h List.not_mem_nil⟩⟩⟩⟩⟩⟩⟩⟩⟩⟩⟩⟩⟩⟩⟩⟩
theorem lw_p128 : lw_okq (⟨"ScriptFrontModel", "signAt", "(I)I"⟩, 55) := ⟨⟨by decide +kernel, by decide +kernel⟩, List.mem_of_getElem? (i := 1124) (by decide +kernel), List.mem_of_getElem? (i := 1427) (by decide +kernel), List.mem_of_getElem? (i := 1428) (by decide +kernel)⟩
theorem lw_p129 : lw_okq (⟨"ScriptFrontModel", "take", "()V"⟩, 55) := ⟨⟨by decide +kernel, by decide +kernel⟩, List.mem_of_getElem? (i := 1124) (by decide +kernel), List.mem_of_getElem? (i := 1436) (by decide +kernel), List.mem_of_getElem? (i := 1437) (by decide +kernel)⟩
theorem lw_p130 : lw_okq (⟨"ScriptFrontModel", "statement", "(Z)V"⟩, 55) := ⟨⟨by decide +kernel, by decide +kernel⟩, List.mem_of_getElem? (i := 1124) (by decide +kernel), List.mem_of_getElem? (i := 1440) (by decide +kernel), List.mem_of_getElem? (i := 1441) (by decide +kernel)⟩
theorem lw_p131 : lw_okq (⟨"ScriptFrontModel", "enters", "()Z"⟩, 55) := ⟨⟨by decide +kernel, by decide +kernel⟩, List.mem_of_getElem? (i := 1124) (by decide +kernel), List.mem_of_getElem? (i := 1444) (by decide +kernel), List.mem_of_getElem? (i := 1445) (by decide +kernel)⟩
theorem lw_p132 : lw_okq (⟨"ScriptFrontModel", "leaf", "(II)V"⟩, 55) := ⟨⟨by decide +kernel, by decide +kernel⟩, List.mem_of_getElem? (i := 1124) (by decide +kernel), List.mem_of_getElem? (i := 1448) (by decide +kernel), List.mem_of_getElem? (i := 1449) (by decide +kernel)⟩
theorem lw_p133 : lw_okq (⟨"ScriptFrontModel", "reduce", "(IIII)V"⟩, 55) := ⟨⟨by decide +kernel, by decide +kernel⟩, List.mem_of_getElem? (i := 1124) (by decide +kernel), List.mem_of_getElem? (i := 1452) (by decide +kernel), List.mem_of_getElem? (i := 1453) (by decide +kernel)⟩
theorem lw_p134 : lw_okq (⟨"ScriptFrontModel", "labels", "()Z"⟩, 55) := ⟨⟨by decide +kernel, by decide +kernel⟩, List.mem_of_getElem? (i := 1124) (by decide +kernel), List.mem_of_getElem? (i := 1456) (by decide +kernel), List.mem_of_getElem? (i := 1457) (by decide +kernel)⟩
theorem lw_p135 : lw_okq (⟨"ScriptFrontModel", "function", "(I)V"⟩, 55) := ⟨⟨by decide +kernel, by decide +kernel⟩, List.mem_of_getElem? (i := 1124) (by decide +kernel), List.mem_of_getElem? (i := 1460) (by decide +kernel), List.mem_of_getElem? (i := 1461) (by decide +kernel)⟩
theorem lw_p136 : lw_okq (⟨"ScriptFrontModel", "bad", "()V"⟩, 55) := ⟨⟨by decide +kernel, by decide +kernel⟩, List.mem_of_getElem? (i := 1124) (by decide +kernel), List.mem_of_getElem? (i := 1464) (by decide +kernel), List.mem_of_getElem? (i := 1465) (by decide +kernel)⟩
theorem lw_p137 : lw_okq (⟨"ScriptFrontModel", "line", "(II)V"⟩, 55) := ⟨⟨by decide +kernel, by decide +kernel⟩, List.mem_of_getElem? (i := 1124) (by decide +kernel), List.mem_of_getElem? (i := 1468) (by decide +kernel), List.mem_of_getElem? (i := 1469) (by decide +kernel)⟩
theorem lw_p138 : lw_okq (⟨"ScriptFrontModel", "isHead", "()Z"⟩, 55) := ⟨⟨by decide +kernel, by decide +kernel⟩, List.mem_of_getElem? (i := 1124) (by decide +kernel), List.mem_of_getElem? (i := 1472) (by decide +kernel), List.mem_of_getElem? (i := 1473) (by decide +kernel)⟩
theorem lw_p139 : lw_okq (⟨"ScriptFrontModel", "head", "(II)V"⟩, 55) := ⟨⟨by decide +kernel, by decide +kernel⟩, List.mem_of_getElem? (i := 1124) (by decide +kernel), List.mem_of_getElem? (i := 1476) (by decide +kernel), List.mem_of_getElem? (i := 1477) (by decide +kernel)⟩
theorem lw_p140 : lw_okq (⟨"ScriptFrontModel", "condition", "()V"⟩, 55) := ⟨⟨by decide +kernel, by decide +kernel⟩, List.mem_of_getElem? (i := 1124) (by decide +kernel), List.mem_of_getElem? (i := 1480) (by decide +kernel), List.mem_of_getElem? (i := 1481) (by decide +kernel)⟩
theorem lw_p141 : lw_okq (⟨"ScriptFrontModel", "need", "(I)V"⟩, 55) := ⟨⟨by decide +kernel, by decide +kernel⟩, List.mem_of_getElem? (i := 1124) (by decide +kernel), List.mem_of_getElem? (i := 1484) (by decide +kernel), List.mem_of_getElem? (i := 1485) (by decide +kernel)⟩
theorem lw_p142 : lw_okq (⟨"ScriptFrontModel", "semicolon", "()V"⟩, 55) := ⟨⟨by decide +kernel, by decide +kernel⟩, List.mem_of_getElem? (i := 1124) (by decide +kernel), List.mem_of_getElem? (i := 1488) (by decide +kernel), List.mem_of_getElem? (i := 1489) (by decide +kernel)⟩
theorem lw_p143 : lw_okq (⟨"ScriptFrontModel", "elsePart", "()V"⟩, 55) := ⟨⟨by decide +kernel, by decide +kernel⟩, List.mem_of_getElem? (i := 1124) (by decide +kernel), List.mem_of_getElem? (i := 1492) (by decide +kernel), List.mem_of_getElem? (i := 1493) (by decide +kernel)⟩
def lw_privs_9 : List (MethodName × Nat) := [(⟨"ScriptFrontModel", "signAt", "(I)I"⟩, 55), (⟨"ScriptFrontModel", "take", "()V"⟩, 55), (⟨"ScriptFrontModel", "statement", "(Z)V"⟩, 55), (⟨"ScriptFrontModel", "enters", "()Z"⟩, 55), (⟨"ScriptFrontModel", "leaf", "(II)V"⟩, 55), (⟨"ScriptFrontModel", "reduce", "(IIII)V"⟩, 55), (⟨"ScriptFrontModel", "labels", "()Z"⟩, 55), (⟨"ScriptFrontModel", "function", "(I)V"⟩, 55), (⟨"ScriptFrontModel", "bad", "()V"⟩, 55), (⟨"ScriptFrontModel", "line", "(II)V"⟩, 55), (⟨"ScriptFrontModel", "isHead", "()Z"⟩, 55), (⟨"ScriptFrontModel", "head", "(II)V"⟩, 55), (⟨"ScriptFrontModel", "condition", "()V"⟩, 55), (⟨"ScriptFrontModel", "need", "(I)V"⟩, 55), (⟨"ScriptFrontModel", "semicolon", "()V"⟩, 55), (⟨"ScriptFrontModel", "elsePart", "()V"⟩, 55)]
theorem lw_r9 : ∀ q ∈ lw_privs_9, lw_okq q := List.forall_mem_cons.mpr ⟨lw_p128, List.forall_mem_cons.mpr ⟨lw_p129, List.forall_mem_cons.mpr ⟨lw_p130, List.forall_mem_cons.mpr ⟨lw_p131, List.forall_mem_cons.mpr ⟨lw_p132, List.forall_mem_cons.mpr ⟨lw_p133, List.forall_mem_cons.mpr ⟨lw_p134, List.forall_mem_cons.mpr ⟨lw_p135, List.forall_mem_cons.mpr ⟨lw_p136, List.forall_mem_cons.mpr ⟨lw_p137, List.forall_mem_cons.mpr ⟨lw_p138, List.forall_mem_cons.mpr ⟨lw_p139, List.forall_mem_cons.mpr ⟨lw_p140, List.forall_mem_cons.mpr ⟨lw_p141, List.forall_mem_cons.mpr ⟨lw_p142, List.forall_mem_cons.mpr ⟨lw_p143, fun _ h => absurd h List.not_mem_nil⟩⟩⟩⟩⟩⟩⟩⟩⟩⟩⟩⟩⟩⟩⟩⟩
theorem lw_p144 : lw_okq (⟨"ScriptFrontModel", "forHead", "(II)V"⟩, 55) := ⟨⟨by decide +kernel, by decide +kernel⟩, List.mem_of_getElem? (i := 1124) (by decide +kernel), List.mem_of_getElem? (i := 1496) (by decide +kernel), List.mem_of_getElem? (i := 1497) (by decide +kernel)⟩
theorem lw_p145 : lw_okq (⟨"ScriptFrontModel", "nothing", "()V"⟩, 55) := ⟨⟨by decide +kernel, by decide +kernel⟩, List.mem_of_getElem? (i := 1124) (by decide +kernel), List.mem_of_getElem? (i := 1500) (by decide +kernel), List.mem_of_getElem? (i := 1501) (by decide +kernel)⟩
theorem lw_p146 : lw_okq (⟨"ScriptFrontModel", "forRest", "(II)V"⟩, 55) := ⟨⟨by decide +kernel, by decide +kernel⟩, List.mem_of_getElem? (i := 1124) (by decide +kernel), List.mem_of_getElem? (i := 1504) (by decide +kernel), List.mem_of_getElem? (i := 1505) (by decide +kernel)⟩
theorem lw_p147 : lw_okq (⟨"ScriptFrontModel", "forVariables", "(IIII)V"⟩, 55) := ⟨⟨by decide +kernel, by decide +kernel⟩, List.mem_of_getElem? (i := 1124) (by decide +kernel), List.mem_of_getElem? (i := 1508) (by decide +kernel), List.mem_of_getElem? (i := 1509) (by decide +kernel)⟩
theorem lw_p148 : lw_okq (⟨"ScriptFrontModel", "forMore", "(IIZ)V"⟩, 55) := ⟨⟨by decide +kernel, by decide +kernel⟩, List.mem_of_getElem? (i := 1124) (by decide +kernel), List.mem_of_getElem? (i := 1512) (by decide +kernel), List.mem_of_getElem? (i := 1513) (by decide +kernel)⟩
theorem lw_p149 : lw_okq (⟨"ScriptFrontModel", "forIn", "(II)V"⟩, 55) := ⟨⟨by decide +kernel, by decide +kernel⟩, List.mem_of_getElem? (i := 1124) (by decide +kernel), List.mem_of_getElem? (i := 1516) (by decide +kernel), List.mem_of_getElem? (i := 1517) (by decide +kernel)⟩
theorem lw_p150 : lw_okq (⟨"ScriptFrontModel", "optional", "(I)V"⟩, 55) := ⟨⟨by decide +kernel, by decide +kernel⟩, List.mem_of_getElem? (i := 1124) (by decide +kernel), List.mem_of_getElem? (i := 1520) (by decide +kernel), List.mem_of_getElem? (i := 1521) (by decide +kernel)⟩
theorem lw_p151 : lw_okq (⟨"ScriptFrontModel", "cases", "()V"⟩, 55) := ⟨⟨by decide +kernel, by decide +kernel⟩, List.mem_of_getElem? (i := 1124) (by decide +kernel), List.mem_of_getElem? (i := 1524) (by decide +kernel), List.mem_of_getElem? (i := 1525) (by decide +kernel)⟩
theorem lw_p152 : lw_okq (⟨"ScriptFrontModel", "block", "()V"⟩, 55) := ⟨⟨by decide +kernel, by decide +kernel⟩, List.mem_of_getElem? (i := 1124) (by decide +kernel), List.mem_of_getElem? (i := 1528) (by decide +kernel), List.mem_of_getElem? (i := 1529) (by decide +kernel)⟩
theorem lw_p153 : lw_okq (⟨"ScriptFrontModel", "catchPart", "(II)V"⟩, 55) := ⟨⟨by decide +kernel, by decide +kernel⟩, List.mem_of_getElem? (i := 1124) (by decide +kernel), List.mem_of_getElem? (i := 1532) (by decide +kernel), List.mem_of_getElem? (i := 1533) (by decide +kernel)⟩
theorem lw_p154 : lw_okq (⟨"ScriptFrontModel", "catchName", "()V"⟩, 55) := ⟨⟨by decide +kernel, by decide +kernel⟩, List.mem_of_getElem? (i := 1124) (by decide +kernel), List.mem_of_getElem? (i := 1536) (by decide +kernel), List.mem_of_getElem? (i := 1537) (by decide +kernel)⟩
theorem lw_p155 : lw_okq (⟨"ScriptFrontModel", "finalPart", "(IIZ)V"⟩, 55) := ⟨⟨by decide +kernel, by decide +kernel⟩, List.mem_of_getElem? (i := 1124) (by decide +kernel), List.mem_of_getElem? (i := 1540) (by decide +kernel), List.mem_of_getElem? (i := 1541) (by decide +kernel)⟩
theorem lw_p156 : lw_okq (⟨"ScriptFrontModel", "variable", "(I)V"⟩, 55) := ⟨⟨by decide +kernel, by decide +kernel⟩, List.mem_of_getElem? (i := 1124) (by decide +kernel), List.mem_of_getElem? (i := 1544) (by decide +kernel), List.mem_of_getElem? (i := 1545) (by decide +kernel)⟩
theorem lw_p157 : lw_okq (⟨"ScriptFrontModel", "initial", "(I)V"⟩, 55) := ⟨⟨by decide +kernel, by decide +kernel⟩, List.mem_of_getElem? (i := 1124) (by decide +kernel), List.mem_of_getElem? (i := 1548) (by decide +kernel), List.mem_of_getElem? (i := 1549) (by decide +kernel)⟩
theorem lw_p158 : lw_okq (⟨"ScriptFrontModel", "variableMore", "(I)V"⟩, 55) := ⟨⟨by decide +kernel, by decide +kernel⟩, List.mem_of_getElem? (i := 1124) (by decide +kernel), List.mem_of_getElem? (i := 1552) (by decide +kernel), List.mem_of_getElem? (i := 1553) (by decide +kernel)⟩
theorem lw_p159 : lw_okq (⟨"ScriptFrontModel", "parameters", "(Z)V"⟩, 55) := ⟨⟨by decide +kernel, by decide +kernel⟩, List.mem_of_getElem? (i := 1124) (by decide +kernel), List.mem_of_getElem? (i := 1556) (by decide +kernel), List.mem_of_getElem? (i := 1557) (by decide +kernel)⟩
def lw_privs_10 : List (MethodName × Nat) := [(⟨"ScriptFrontModel", "forHead", "(II)V"⟩, 55), (⟨"ScriptFrontModel", "nothing", "()V"⟩, 55), (⟨"ScriptFrontModel", "forRest", "(II)V"⟩, 55), (⟨"ScriptFrontModel", "forVariables", "(IIII)V"⟩, 55), (⟨"ScriptFrontModel", "forMore", "(IIZ)V"⟩, 55), (⟨"ScriptFrontModel", "forIn", "(II)V"⟩, 55), (⟨"ScriptFrontModel", "optional", "(I)V"⟩, 55), (⟨"ScriptFrontModel", "cases", "()V"⟩, 55), (⟨"ScriptFrontModel", "block", "()V"⟩, 55), (⟨"ScriptFrontModel", "catchPart", "(II)V"⟩, 55), (⟨"ScriptFrontModel", "catchName", "()V"⟩, 55), (⟨"ScriptFrontModel", "finalPart", "(IIZ)V"⟩, 55), (⟨"ScriptFrontModel", "variable", "(I)V"⟩, 55), (⟨"ScriptFrontModel", "initial", "(I)V"⟩, 55), (⟨"ScriptFrontModel", "variableMore", "(I)V"⟩, 55), (⟨"ScriptFrontModel", "parameters", "(Z)V"⟩, 55)]
theorem lw_r10 : ∀ q ∈ lw_privs_10, lw_okq q := List.forall_mem_cons.mpr ⟨lw_p144, List.forall_mem_cons.mpr ⟨lw_p145, List.forall_mem_cons.mpr ⟨lw_p146, List.forall_mem_cons.mpr ⟨lw_p147, List.forall_mem_cons.mpr ⟨lw_p148, List.forall_mem_cons.mpr ⟨lw_p149, List.forall_mem_cons.mpr ⟨lw_p150, List.forall_mem_cons.mpr ⟨lw_p151, List.forall_mem_cons.mpr ⟨lw_p152, List.forall_mem_cons.mpr ⟨lw_p153, List.forall_mem_cons.mpr ⟨lw_p154, List.forall_mem_cons.mpr ⟨lw_p155, List.forall_mem_cons.mpr ⟨lw_p156, List.forall_mem_cons.mpr ⟨lw_p157, List.forall_mem_cons.mpr ⟨lw_p158, List.forall_mem_cons.mpr ⟨lw_p159, fun _ h => absurd h List.not_mem_nil⟩⟩⟩⟩⟩⟩⟩⟩⟩⟩⟩⟩⟩⟩⟩⟩
theorem lw_p160 : lw_okq (⟨"ScriptFrontModel", "parameterMore", "()V"⟩, 55) := ⟨⟨by decide +kernel, by decide +kernel⟩, List.mem_of_getElem? (i := 1124) (by decide +kernel), List.mem_of_getElem? (i := 1560) (by decide +kernel), List.mem_of_getElem? (i := 1561) (by decide +kernel)⟩
theorem lw_p161 : lw_okq (⟨"ScriptFrontModel", "body", "()V"⟩, 55) := ⟨⟨by decide +kernel, by decide +kernel⟩, List.mem_of_getElem? (i := 1124) (by decide +kernel), List.mem_of_getElem? (i := 1564) (by decide +kernel), List.mem_of_getElem? (i := 1565) (by decide +kernel)⟩
theorem lw_p162 : lw_okq (⟨"ScriptFrontModel", "expression", "(IIII)V"⟩, 55) := ⟨⟨by decide +kernel, by decide +kernel⟩, List.mem_of_getElem? (i := 1124) (by decide +kernel), List.mem_of_getElem? (i := 1568) (by decide +kernel), List.mem_of_getElem? (i := 1569) (by decide +kernel)⟩
theorem lw_p163 : lw_okq (⟨"ScriptFrontModel", "comma", "(III)V"⟩, 55) := ⟨⟨by decide +kernel, by decide +kernel⟩, List.mem_of_getElem? (i := 1124) (by decide +kernel), List.mem_of_getElem? (i := 1572) (by decide +kernel), List.mem_of_getElem? (i := 1573) (by decide +kernel)⟩
theorem lw_p164 : lw_okq (⟨"ScriptFrontModel", "one", "(I)V"⟩, 55) := ⟨⟨by decide +kernel, by decide +kernel⟩, List.mem_of_getElem? (i := 1124) (by decide +kernel), List.mem_of_getElem? (i := 1576) (by decide +kernel), List.mem_of_getElem? (i := 1577) (by decide +kernel)⟩
theorem lw_p165 : lw_okq (⟨"ScriptFrontModel", "behind", "(I)V"⟩, 55) := ⟨⟨by decide +kernel, by decide +kernel⟩, List.mem_of_getElem? (i := 1124) (by decide +kernel), List.mem_of_getElem? (i := 1580) (by decide +kernel), List.mem_of_getElem? (i := 1581) (by decide +kernel)⟩
theorem lw_p166 : lw_okq (⟨"ScriptFrontModel", "between", "(II)V"⟩, 55) := ⟨⟨by decide +kernel, by decide +kernel⟩, List.mem_of_getElem? (i := 1124) (by decide +kernel), List.mem_of_getElem? (i := 1587) (by decide +kernel), List.mem_of_getElem? (i := 1588) (by decide +kernel)⟩
theorem lw_p167 : lw_okq (⟨"ScriptFrontModel", "join", "()V"⟩, 55) := ⟨⟨by decide +kernel, by decide +kernel⟩, List.mem_of_getElem? (i := 1124) (by decide +kernel), List.mem_of_getElem? (i := 1594) (by decide +kernel), List.mem_of_getElem? (i := 1595) (by decide +kernel)⟩
theorem lw_p168 : lw_okq (⟨"ScriptFrontModel", "unary", "(Z)V"⟩, 55) := ⟨⟨by decide +kernel, by decide +kernel⟩, List.mem_of_getElem? (i := 1124) (by decide +kernel), List.mem_of_getElem? (i := 1598) (by decide +kernel), List.mem_of_getElem? (i := 1599) (by decide +kernel)⟩
theorem lw_p169 : lw_okq (⟨"ScriptFrontModel", "postfix", "()V"⟩, 55) := ⟨⟨by decide +kernel, by decide +kernel⟩, List.mem_of_getElem? (i := 1124) (by decide +kernel), List.mem_of_getElem? (i := 1602) (by decide +kernel), List.mem_of_getElem? (i := 1603) (by decide +kernel)⟩
theorem lw_p170 : lw_okq (⟨"ScriptFrontModel", "operandOrNew", "(I)V"⟩, 55) := ⟨⟨by decide +kernel, by decide +kernel⟩, List.mem_of_getElem? (i := 1124) (by decide +kernel), List.mem_of_getElem? (i := 1606) (by decide +kernel), List.mem_of_getElem? (i := 1607) (by decide +kernel)⟩
theorem lw_p171 : lw_okq (⟨"ScriptFrontModel", "member", "()V"⟩, 55) := ⟨⟨by decide +kernel, by decide +kernel⟩, List.mem_of_getElem? (i := 1124) (by decide +kernel), List.mem_of_getElem? (i := 1610) (by decide +kernel), List.mem_of_getElem? (i := 1611) (by decide +kernel)⟩
theorem lw_p172 : lw_okq (⟨"ScriptFrontModel", "tail", "(I)V"⟩, 55) := ⟨⟨by decide +kernel, by decide +kernel⟩, List.mem_of_getElem? (i := 1124) (by decide +kernel), List.mem_of_getElem? (i := 1614) (by decide +kernel), List.mem_of_getElem? (i := 1615) (by decide +kernel)⟩
theorem lw_p173 : lw_okq (⟨"ScriptFrontModel", "newArguments", "(II)V"⟩, 55) := ⟨⟨by decide +kernel, by decide +kernel⟩, List.mem_of_getElem? (i := 1124) (by decide +kernel), List.mem_of_getElem? (i := 1618) (by decide +kernel), List.mem_of_getElem? (i := 1619) (by decide +kernel)⟩
theorem lw_p174 : lw_okq (⟨"ScriptFrontModel", "arguments", "(III)V"⟩, 55) := ⟨⟨by decide +kernel, by decide +kernel⟩, List.mem_of_getElem? (i := 1124) (by decide +kernel), List.mem_of_getElem? (i := 1622) (by decide +kernel), List.mem_of_getElem? (i := 1623) (by decide +kernel)⟩
theorem lw_p175 : lw_okq (⟨"ScriptFrontModel", "argumentMore", "(III)V"⟩, 55) := ⟨⟨by decide +kernel, by decide +kernel⟩, List.mem_of_getElem? (i := 1124) (by decide +kernel), List.mem_of_getElem? (i := 1626) (by decide +kernel), List.mem_of_getElem? (i := 1627) (by decide +kernel)⟩
def lw_privs_11 : List (MethodName × Nat) := [(⟨"ScriptFrontModel", "parameterMore", "()V"⟩, 55), (⟨"ScriptFrontModel", "body", "()V"⟩, 55), (⟨"ScriptFrontModel", "expression", "(IIII)V"⟩, 55), (⟨"ScriptFrontModel", "comma", "(III)V"⟩, 55), (⟨"ScriptFrontModel", "one", "(I)V"⟩, 55), (⟨"ScriptFrontModel", "behind", "(I)V"⟩, 55), (⟨"ScriptFrontModel", "between", "(II)V"⟩, 55), (⟨"ScriptFrontModel", "join", "()V"⟩, 55), (⟨"ScriptFrontModel", "unary", "(Z)V"⟩, 55), (⟨"ScriptFrontModel", "postfix", "()V"⟩, 55), (⟨"ScriptFrontModel", "operandOrNew", "(I)V"⟩, 55), (⟨"ScriptFrontModel", "member", "()V"⟩, 55), (⟨"ScriptFrontModel", "tail", "(I)V"⟩, 55), (⟨"ScriptFrontModel", "newArguments", "(II)V"⟩, 55), (⟨"ScriptFrontModel", "arguments", "(III)V"⟩, 55), (⟨"ScriptFrontModel", "argumentMore", "(III)V"⟩, 55)]
theorem lw_r11 : ∀ q ∈ lw_privs_11, lw_okq q := List.forall_mem_cons.mpr ⟨lw_p160, List.forall_mem_cons.mpr ⟨lw_p161, List.forall_mem_cons.mpr ⟨lw_p162, List.forall_mem_cons.mpr ⟨lw_p163, List.forall_mem_cons.mpr ⟨lw_p164, List.forall_mem_cons.mpr ⟨lw_p165, List.forall_mem_cons.mpr ⟨lw_p166, List.forall_mem_cons.mpr ⟨lw_p167, List.forall_mem_cons.mpr ⟨lw_p168, List.forall_mem_cons.mpr ⟨lw_p169, List.forall_mem_cons.mpr ⟨lw_p170, List.forall_mem_cons.mpr ⟨lw_p171, List.forall_mem_cons.mpr ⟨lw_p172, List.forall_mem_cons.mpr ⟨lw_p173, List.forall_mem_cons.mpr ⟨lw_p174, List.forall_mem_cons.mpr ⟨lw_p175, fun _ h => absurd h List.not_mem_nil⟩⟩⟩⟩⟩⟩⟩⟩⟩⟩⟩⟩⟩⟩⟩⟩
theorem lw_p176 : lw_okq (⟨"ScriptFrontModel", "operand", "()V"⟩, 55) := ⟨⟨by decide +kernel, by decide +kernel⟩, List.mem_of_getElem? (i := 1124) (by decide +kernel), List.mem_of_getElem? (i := 1630) (by decide +kernel), List.mem_of_getElem? (i := 1631) (by decide +kernel)⟩
theorem lw_p177 : lw_okq (⟨"ScriptFrontModel", "elements", "(II)V"⟩, 55) := ⟨⟨by decide +kernel, by decide +kernel⟩, List.mem_of_getElem? (i := 1124) (by decide +kernel), List.mem_of_getElem? (i := 1634) (by decide +kernel), List.mem_of_getElem? (i := 1635) (by decide +kernel)⟩
theorem lw_p178 : lw_okq (⟨"ScriptFrontModel", "elementMore", "(II)V"⟩, 55) := ⟨⟨by decide +kernel, by decide +kernel⟩, List.mem_of_getElem? (i := 1124) (by decide +kernel), List.mem_of_getElem? (i := 1638) (by decide +kernel), List.mem_of_getElem? (i := 1639) (by decide +kernel)⟩
theorem lw_p179 : lw_okq (⟨"ScriptFrontModel", "properties", "(II)V"⟩, 55) := ⟨⟨by decide +kernel, by decide +kernel⟩, List.mem_of_getElem? (i := 1124) (by decide +kernel), List.mem_of_getElem? (i := 1642) (by decide +kernel), List.mem_of_getElem? (i := 1643) (by decide +kernel)⟩
theorem lw_p180 : lw_okq (⟨"ScriptFrontModel", "propertyMore", "(II)V"⟩, 55) := ⟨⟨by decide +kernel, by decide +kernel⟩, List.mem_of_getElem? (i := 1124) (by decide +kernel), List.mem_of_getElem? (i := 1646) (by decide +kernel), List.mem_of_getElem? (i := 1647) (by decide +kernel)⟩
theorem lw_p181 : lw_okq (⟨"ScriptFrontModel", "closeParen", "()V"⟩, 55) := ⟨⟨by decide +kernel, by decide +kernel⟩, List.mem_of_getElem? (i := 1124) (by decide +kernel), List.mem_of_getElem? (i := 1650) (by decide +kernel), List.mem_of_getElem? (i := 1651) (by decide +kernel)⟩
theorem lw_p182 : lw_okq (⟨"ScriptFrontModel", "arrange", "(I)I"⟩, 55) := ⟨⟨by decide +kernel, by decide +kernel⟩, List.mem_of_getElem? (i := 1124) (by decide +kernel), List.mem_of_getElem? (i := 1654) (by decide +kernel), List.mem_of_getElem? (i := 1655) (by decide +kernel)⟩
theorem lw_p183 : lw_okq (⟨"ScriptFrontModel", "settle", "(I)V"⟩, 55) := ⟨⟨by decide +kernel, by decide +kernel⟩, List.mem_of_getElem? (i := 1124) (by decide +kernel), List.mem_of_getElem? (i := 1658) (by decide +kernel), List.mem_of_getElem? (i := 1659) (by decide +kernel)⟩
theorem lw_p184 : lw_okq (⟨"ScriptFrontModel", "begins", "(I)Z"⟩, 55) := ⟨⟨by decide +kernel, by decide +kernel⟩, List.mem_of_getElem? (i := 1124) (by decide +kernel), List.mem_of_getElem? (i := 1662) (by decide +kernel), List.mem_of_getElem? (i := 1663) (by decide +kernel)⟩
theorem lw_p185 : lw_okq (⟨"ScriptFrontModel", "isPlainString", "(I)Z"⟩, 55) := ⟨⟨by decide +kernel, by decide +kernel⟩, List.mem_of_getElem? (i := 1124) (by decide +kernel), List.mem_of_getElem? (i := 1666) (by decide +kernel), List.mem_of_getElem? (i := 1667) (by decide +kernel)⟩
theorem lw_p186 : lw_okq (⟨"ScriptFrontModel", "saysStrict", "(I)Z"⟩, 55) := ⟨⟨by decide +kernel, by decide +kernel⟩, List.mem_of_getElem? (i := 1124) (by decide +kernel), List.mem_of_getElem? (i := 1670) (by decide +kernel), List.mem_of_getElem? (i := 1671) (by decide +kernel)⟩
theorem lw_p187 : lw_okq (⟨"ScriptFrontModel", "last", "(I)I"⟩, 55) := ⟨⟨by decide +kernel, by decide +kernel⟩, List.mem_of_getElem? (i := 1124) (by decide +kernel), List.mem_of_getElem? (i := 1674) (by decide +kernel), List.mem_of_getElem? (i := 1675) (by decide +kernel)⟩
theorem lw_p188 : lw_okq (⟨"ScriptFrontModel", "child", "(II)I"⟩, 55) := ⟨⟨by decide +kernel, by decide +kernel⟩, List.mem_of_getElem? (i := 1124) (by decide +kernel), List.mem_of_getElem? (i := 1678) (by decide +kernel), List.mem_of_getElem? (i := 1679) (by decide +kernel)⟩
theorem lw_p189 : lw_okq (⟨"ScriptFrontModel", "judge", "(I)V"⟩, 55) := ⟨⟨by decide +kernel, by decide +kernel⟩, List.mem_of_getElem? (i := 1124) (by decide +kernel), List.mem_of_getElem? (i := 1682) (by decide +kernel), List.mem_of_getElem? (i := 1683) (by decide +kernel)⟩
theorem lw_p190 : lw_okq (⟨"ScriptFrontModel", "hasTarget", "(I)Z"⟩, 55) := ⟨⟨by decide +kernel, by decide +kernel⟩, List.mem_of_getElem? (i := 1124) (by decide +kernel), List.mem_of_getElem? (i := 1686) (by decide +kernel), List.mem_of_getElem? (i := 1687) (by decide +kernel)⟩
theorem lw_p191 : lw_okq (⟨"ScriptFrontModel", "breaksStrict", "(I)Z"⟩, 55) := ⟨⟨by decide +kernel, by decide +kernel⟩, List.mem_of_getElem? (i := 1124) (by decide +kernel), List.mem_of_getElem? (i := 1690) (by decide +kernel), List.mem_of_getElem? (i := 1691) (by decide +kernel)⟩
def lw_privs_12 : List (MethodName × Nat) := [(⟨"ScriptFrontModel", "operand", "()V"⟩, 55), (⟨"ScriptFrontModel", "elements", "(II)V"⟩, 55), (⟨"ScriptFrontModel", "elementMore", "(II)V"⟩, 55), (⟨"ScriptFrontModel", "properties", "(II)V"⟩, 55), (⟨"ScriptFrontModel", "propertyMore", "(II)V"⟩, 55), (⟨"ScriptFrontModel", "closeParen", "()V"⟩, 55), (⟨"ScriptFrontModel", "arrange", "(I)I"⟩, 55), (⟨"ScriptFrontModel", "settle", "(I)V"⟩, 55), (⟨"ScriptFrontModel", "begins", "(I)Z"⟩, 55), (⟨"ScriptFrontModel", "isPlainString", "(I)Z"⟩, 55), (⟨"ScriptFrontModel", "saysStrict", "(I)Z"⟩, 55), (⟨"ScriptFrontModel", "last", "(I)I"⟩, 55), (⟨"ScriptFrontModel", "child", "(II)I"⟩, 55), (⟨"ScriptFrontModel", "judge", "(I)V"⟩, 55), (⟨"ScriptFrontModel", "hasTarget", "(I)Z"⟩, 55), (⟨"ScriptFrontModel", "breaksStrict", "(I)Z"⟩, 55)]
theorem lw_r12 : ∀ q ∈ lw_privs_12, lw_okq q := List.forall_mem_cons.mpr ⟨lw_p176, List.forall_mem_cons.mpr ⟨lw_p177, List.forall_mem_cons.mpr ⟨lw_p178, List.forall_mem_cons.mpr ⟨lw_p179, List.forall_mem_cons.mpr ⟨lw_p180, List.forall_mem_cons.mpr ⟨lw_p181, List.forall_mem_cons.mpr ⟨lw_p182, List.forall_mem_cons.mpr ⟨lw_p183, List.forall_mem_cons.mpr ⟨lw_p184, List.forall_mem_cons.mpr ⟨lw_p185, List.forall_mem_cons.mpr ⟨lw_p186, List.forall_mem_cons.mpr ⟨lw_p187, List.forall_mem_cons.mpr ⟨lw_p188, List.forall_mem_cons.mpr ⟨lw_p189, List.forall_mem_cons.mpr ⟨lw_p190, List.forall_mem_cons.mpr ⟨lw_p191, fun _ h => absurd h List.not_mem_nil⟩⟩⟩⟩⟩⟩⟩⟩⟩⟩⟩⟩⟩⟩⟩⟩
theorem lw_p192 : lw_okq (⟨"ScriptFrontModel", "isSpecial", "(I)Z"⟩, 55) := ⟨⟨by decide +kernel, by decide +kernel⟩, List.mem_of_getElem? (i := 1124) (by decide +kernel), List.mem_of_getElem? (i := 1694) (by decide +kernel), List.mem_of_getElem? (i := 1695) (by decide +kernel)⟩
theorem lw_p193 : lw_okq (⟨"ScriptFrontModel", "isDelete", "(I)Z"⟩, 55) := ⟨⟨by decide +kernel, by decide +kernel⟩, List.mem_of_getElem? (i := 1124) (by decide +kernel), List.mem_of_getElem? (i := 1700) (by decide +kernel), List.mem_of_getElem? (i := 1701) (by decide +kernel)⟩
theorem lw_p194 : lw_okq (⟨"ScriptFrontModel", "isTwice", "(I)Z"⟩, 55) := ⟨⟨by decide +kernel, by decide +kernel⟩, List.mem_of_getElem? (i := 1124) (by decide +kernel), List.mem_of_getElem? (i := 1704) (by decide +kernel), List.mem_of_getElem? (i := 1705) (by decide +kernel)⟩
theorem lw_p195 : lw_okq (⟨"ScriptFrontModel", "alike", "(II)Z"⟩, 55) := ⟨⟨by decide +kernel, by decide +kernel⟩, List.mem_of_getElem? (i := 1124) (by decide +kernel), List.mem_of_getElem? (i := 1708) (by decide +kernel), List.mem_of_getElem? (i := 1709) (by decide +kernel)⟩
theorem lw_p196 : lw_okq (⟨"ScriptFrontModel", "jumpsWrong", "(I)Z"⟩, 55) := ⟨⟨by decide +kernel, by decide +kernel⟩, List.mem_of_getElem? (i := 1124) (by decide +kernel), List.mem_of_getElem? (i := 1712) (by decide +kernel), List.mem_of_getElem? (i := 1713) (by decide +kernel)⟩
theorem lw_p197 : lw_okq (⟨"ScriptFrontModel", "lands", "(I)Z"⟩, 55) := ⟨⟨by decide +kernel, by decide +kernel⟩, List.mem_of_getElem? (i := 1124) (by decide +kernel), List.mem_of_getElem? (i := 1716) (by decide +kernel), List.mem_of_getElem? (i := 1717) (by decide +kernel)⟩
theorem lw_p198 : lw_okq (⟨"ScriptFrontModel", "print", "(I)V"⟩, 55) := ⟨⟨by decide +kernel, by decide +kernel⟩, List.mem_of_getElem? (i := 1124) (by decide +kernel), List.mem_of_getElem? (i := 1723) (by decide +kernel), List.mem_of_getElem? (i := 1724) (by decide +kernel)⟩
theorem lw_p199 : lw_okq (⟨"ScriptFrontModel", "plan", "(III)V"⟩, 55) := ⟨⟨by decide +kernel, by decide +kernel⟩, List.mem_of_getElem? (i := 1124) (by decide +kernel), List.mem_of_getElem? (i := 1727) (by decide +kernel), List.mem_of_getElem? (i := 1728) (by decide +kernel)⟩
theorem lw_p200 : lw_okq (⟨"ScriptFrontModel", "printSign", "(I)V"⟩, 55) := ⟨⟨by decide +kernel, by decide +kernel⟩, List.mem_of_getElem? (i := 1124) (by decide +kernel), List.mem_of_getElem? (i := 1731) (by decide +kernel), List.mem_of_getElem? (i := 1732) (by decide +kernel)⟩
theorem lw_p201 : lw_okq (⟨"ScriptFrontModel", "part", "(I)V"⟩, 55) := ⟨⟨by decide +kernel, by decide +kernel⟩, List.mem_of_getElem? (i := 1124) (by decide +kernel), List.mem_of_getElem? (i := 1735) (by decide +kernel), List.mem_of_getElem? (i := 1736) (by decide +kernel)⟩
theorem lw_p202 : lw_okq (⟨"ScriptFrontModel", "letter", "(I)V"⟩, 55) := ⟨⟨by decide +kernel, by decide +kernel⟩, List.mem_of_getElem? (i := 1124) (by decide +kernel), List.mem_of_getElem? (i := 1739) (by decide +kernel), List.mem_of_getElem? (i := 1740) (by decide +kernel)⟩
theorem lw_p203 : lw_okq (⟨"ScriptFrontModel", "printWord", "(I)V"⟩, 55) := ⟨⟨by decide +kernel, by decide +kernel⟩, List.mem_of_getElem? (i := 1124) (by decide +kernel), List.mem_of_getElem? (i := 1743) (by decide +kernel), List.mem_of_getElem? (i := 1744) (by decide +kernel)⟩
theorem lw_p204 : lw_okq (⟨"ScriptFrontModel", "printValue", "(II)V"⟩, 55) := ⟨⟨by decide +kernel, by decide +kernel⟩, List.mem_of_getElem? (i := 1124) (by decide +kernel), List.mem_of_getElem? (i := 1748) (by decide +kernel), List.mem_of_getElem? (i := 1749) (by decide +kernel)⟩
theorem lw_p205 : lw_okq (⟨"ScriptFrontModel", "bind", "(I)I"⟩, 55) := ⟨⟨by decide +kernel, by decide +kernel⟩, List.mem_of_getElem? (i := 1124) (by decide +kernel), List.mem_of_getElem? (i := 1752) (by decide +kernel), List.mem_of_getElem? (i := 1753) (by decide +kernel)⟩
theorem lw_p206 : lw_okq (⟨"ScriptFrontModel", "signOf", "(I)I"⟩, 55) := ⟨⟨by decide +kernel, by decide +kernel⟩, List.mem_of_getElem? (i := 1124) (by decide +kernel), List.mem_of_getElem? (i := 1756) (by decide +kernel), List.mem_of_getElem? (i := 1757) (by decide +kernel)⟩
theorem lw_p207 : lw_okq (⟨"ScriptFrontModel", "isIn", "(I)Z"⟩, 55) := ⟨⟨by decide +kernel, by decide +kernel⟩, List.mem_of_getElem? (i := 1124) (by decide +kernel), List.mem_of_getElem? (i := 1760) (by decide +kernel), List.mem_of_getElem? (i := 1761) (by decide +kernel)⟩
def lw_privs_13 : List (MethodName × Nat) := [(⟨"ScriptFrontModel", "isSpecial", "(I)Z"⟩, 55), (⟨"ScriptFrontModel", "isDelete", "(I)Z"⟩, 55), (⟨"ScriptFrontModel", "isTwice", "(I)Z"⟩, 55), (⟨"ScriptFrontModel", "alike", "(II)Z"⟩, 55), (⟨"ScriptFrontModel", "jumpsWrong", "(I)Z"⟩, 55), (⟨"ScriptFrontModel", "lands", "(I)Z"⟩, 55), (⟨"ScriptFrontModel", "print", "(I)V"⟩, 55), (⟨"ScriptFrontModel", "plan", "(III)V"⟩, 55), (⟨"ScriptFrontModel", "printSign", "(I)V"⟩, 55), (⟨"ScriptFrontModel", "part", "(I)V"⟩, 55), (⟨"ScriptFrontModel", "letter", "(I)V"⟩, 55), (⟨"ScriptFrontModel", "printWord", "(I)V"⟩, 55), (⟨"ScriptFrontModel", "printValue", "(II)V"⟩, 55), (⟨"ScriptFrontModel", "bind", "(I)I"⟩, 55), (⟨"ScriptFrontModel", "signOf", "(I)I"⟩, 55), (⟨"ScriptFrontModel", "isIn", "(I)Z"⟩, 55)]
theorem lw_r13 : ∀ q ∈ lw_privs_13, lw_okq q := List.forall_mem_cons.mpr ⟨lw_p192, List.forall_mem_cons.mpr ⟨lw_p193, List.forall_mem_cons.mpr ⟨lw_p194, List.forall_mem_cons.mpr ⟨lw_p195, List.forall_mem_cons.mpr ⟨lw_p196, List.forall_mem_cons.mpr ⟨lw_p197, List.forall_mem_cons.mpr ⟨lw_p198, List.forall_mem_cons.mpr ⟨lw_p199, List.forall_mem_cons.mpr ⟨lw_p200, List.forall_mem_cons.mpr ⟨lw_p201, List.forall_mem_cons.mpr ⟨lw_p202, List.forall_mem_cons.mpr ⟨lw_p203, List.forall_mem_cons.mpr ⟨lw_p204, List.forall_mem_cons.mpr ⟨lw_p205, List.forall_mem_cons.mpr ⟨lw_p206, List.forall_mem_cons.mpr ⟨lw_p207, fun _ h => absurd h List.not_mem_nil⟩⟩⟩⟩⟩⟩⟩⟩⟩⟩⟩⟩⟩⟩⟩⟩
theorem lw_p208 : lw_okq (⟨"ScriptFrontModel", "printOperand", "(I)V"⟩, 55) := ⟨⟨by decide +kernel, by decide +kernel⟩, List.mem_of_getElem? (i := 1124) (by decide +kernel), List.mem_of_getElem? (i := 1764) (by decide +kernel), List.mem_of_getElem? (i := 1765) (by decide +kernel)⟩
theorem lw_p209 : lw_okq (⟨"ScriptFrontModel", "printFunction", "(I)V"⟩, 55) := ⟨⟨by decide +kernel, by decide +kernel⟩, List.mem_of_getElem? (i := 1124) (by decide +kernel), List.mem_of_getElem? (i := 1768) (by decide +kernel), List.mem_of_getElem? (i := 1769) (by decide +kernel)⟩
theorem lw_p210 : lw_okq (⟨"ScriptFrontModel", "printToken", "(I)V"⟩, 55) := ⟨⟨by decide +kernel, by decide +kernel⟩, List.mem_of_getElem? (i := 1124) (by decide +kernel), List.mem_of_getElem? (i := 1772) (by decide +kernel), List.mem_of_getElem? (i := 1773) (by decide +kernel)⟩
theorem lw_p211 : lw_okq (⟨"ScriptFrontModel", "hasCall", "(I)Z"⟩, 55) := ⟨⟨by decide +kernel, by decide +kernel⟩, List.mem_of_getElem? (i := 1124) (by decide +kernel), List.mem_of_getElem? (i := 1776) (by decide +kernel), List.mem_of_getElem? (i := 1777) (by decide +kernel)⟩
theorem lw_p212 : lw_okq (⟨"ScriptFrontModel", "printJoined", "(II)V"⟩, 55) := ⟨⟨by decide +kernel, by decide +kernel⟩, List.mem_of_getElem? (i := 1124) (by decide +kernel), List.mem_of_getElem? (i := 1780) (by decide +kernel), List.mem_of_getElem? (i := 1781) (by decide +kernel)⟩
theorem lw_p213 : lw_okq (⟨"ScriptFrontModel", "printAct", "(I)V"⟩, 55) := ⟨⟨by decide +kernel, by decide +kernel⟩, List.mem_of_getElem? (i := 1124) (by decide +kernel), List.mem_of_getElem? (i := 1784) (by decide +kernel), List.mem_of_getElem? (i := 1785) (by decide +kernel)⟩
theorem lw_p214 : lw_okq (⟨"ScriptFrontModel", "braces", "(I)V"⟩, 55) := ⟨⟨by decide +kernel, by decide +kernel⟩, List.mem_of_getElem? (i := 1124) (by decide +kernel), List.mem_of_getElem? (i := 1788) (by decide +kernel), List.mem_of_getElem? (i := 1789) (by decide +kernel)⟩
theorem lw_p215 : lw_okq (⟨"ScriptFrontModel", "startsBadly", "(I)Z"⟩, 55) := ⟨⟨by decide +kernel, by decide +kernel⟩, List.mem_of_getElem? (i := 1124) (by decide +kernel), List.mem_of_getElem? (i := 1792) (by decide +kernel), List.mem_of_getElem? (i := 1793) (by decide +kernel)⟩
theorem lw_p216 : lw_okq (⟨"ScriptFrontModel", "wanted", "(I)I"⟩, 55) := ⟨⟨by decide +kernel, by decide +kernel⟩, List.mem_of_getElem? (i := 1124) (by decide +kernel), List.mem_of_getElem? (i := 1796) (by decide +kernel), List.mem_of_getElem? (i := 1797) (by decide +kernel)⟩
theorem lw_p217 : lw_okq (⟨"ScriptFrontModel", "printHead", "(II)V"⟩, 55) := ⟨⟨by decide +kernel, by decide +kernel⟩, List.mem_of_getElem? (i := 1124) (by decide +kernel), List.mem_of_getElem? (i := 1800) (by decide +kernel), List.mem_of_getElem? (i := 1801) (by decide +kernel)⟩
theorem lw_p218 : lw_okq (⟨"ScriptFrontModel", "inBrackets", "(I)V"⟩, 55) := ⟨⟨by decide +kernel, by decide +kernel⟩, List.mem_of_getElem? (i := 1124) (by decide +kernel), List.mem_of_getElem? (i := 1804) (by decide +kernel), List.mem_of_getElem? (i := 1805) (by decide +kernel)⟩
theorem lw_p219 : lw_okq (⟨"ScriptFrontModel", "printFor", "(II)V"⟩, 55) := ⟨⟨by decide +kernel, by decide +kernel⟩, List.mem_of_getElem? (i := 1124) (by decide +kernel), List.mem_of_getElem? (i := 1808) (by decide +kernel), List.mem_of_getElem? (i := 1809) (by decide +kernel)⟩
theorem lw_p220 : lw_okq (⟨"ScriptFrontModel", "planFirst", "(I)V"⟩, 55) := ⟨⟨by decide +kernel, by decide +kernel⟩, List.mem_of_getElem? (i := 1124) (by decide +kernel), List.mem_of_getElem? (i := 1812) (by decide +kernel), List.mem_of_getElem? (i := 1813) (by decide +kernel)⟩
theorem lw_p221 : lw_okq (⟨"ScriptFrontModel", "printTry", "(III)V"⟩, 55) := ⟨⟨by decide +kernel, by decide +kernel⟩, List.mem_of_getElem? (i := 1124) (by decide +kernel), List.mem_of_getElem? (i := 1816) (by decide +kernel), List.mem_of_getElem? (i := 1817) (by decide +kernel)⟩
theorem lw_p222 : lw_okq (⟨"ScriptFrontModel", "printChoice", "(I)V"⟩, 55) := ⟨⟨by decide +kernel, by decide +kernel⟩, List.mem_of_getElem? (i := 1124) (by decide +kernel), List.mem_of_getElem? (i := 1820) (by decide +kernel), List.mem_of_getElem? (i := 1821) (by decide +kernel)⟩
theorem lw_p223 : lw_okq (⟨"ScriptFrontModel", "printRow", "(III)V"⟩, 55) := ⟨⟨by decide +kernel, by decide +kernel⟩, List.mem_of_getElem? (i := 1124) (by decide +kernel), List.mem_of_getElem? (i := 1824) (by decide +kernel), List.mem_of_getElem? (i := 1825) (by decide +kernel)⟩
def lw_privs_14 : List (MethodName × Nat) := [(⟨"ScriptFrontModel", "printOperand", "(I)V"⟩, 55), (⟨"ScriptFrontModel", "printFunction", "(I)V"⟩, 55), (⟨"ScriptFrontModel", "printToken", "(I)V"⟩, 55), (⟨"ScriptFrontModel", "hasCall", "(I)Z"⟩, 55), (⟨"ScriptFrontModel", "printJoined", "(II)V"⟩, 55), (⟨"ScriptFrontModel", "printAct", "(I)V"⟩, 55), (⟨"ScriptFrontModel", "braces", "(I)V"⟩, 55), (⟨"ScriptFrontModel", "startsBadly", "(I)Z"⟩, 55), (⟨"ScriptFrontModel", "wanted", "(I)I"⟩, 55), (⟨"ScriptFrontModel", "printHead", "(II)V"⟩, 55), (⟨"ScriptFrontModel", "inBrackets", "(I)V"⟩, 55), (⟨"ScriptFrontModel", "printFor", "(II)V"⟩, 55), (⟨"ScriptFrontModel", "planFirst", "(I)V"⟩, 55), (⟨"ScriptFrontModel", "printTry", "(III)V"⟩, 55), (⟨"ScriptFrontModel", "printChoice", "(I)V"⟩, 55), (⟨"ScriptFrontModel", "printRow", "(III)V"⟩, 55)]
theorem lw_r14 : ∀ q ∈ lw_privs_14, lw_okq q := List.forall_mem_cons.mpr ⟨lw_p208, List.forall_mem_cons.mpr ⟨lw_p209, List.forall_mem_cons.mpr ⟨lw_p210, List.forall_mem_cons.mpr ⟨lw_p211, List.forall_mem_cons.mpr ⟨lw_p212, List.forall_mem_cons.mpr ⟨lw_p213, List.forall_mem_cons.mpr ⟨lw_p214, List.forall_mem_cons.mpr ⟨lw_p215, List.forall_mem_cons.mpr ⟨lw_p216, List.forall_mem_cons.mpr ⟨lw_p217, List.forall_mem_cons.mpr ⟨lw_p218, List.forall_mem_cons.mpr ⟨lw_p219, List.forall_mem_cons.mpr ⟨lw_p220, List.forall_mem_cons.mpr ⟨lw_p221, List.forall_mem_cons.mpr ⟨lw_p222, List.forall_mem_cons.mpr ⟨lw_p223, fun _ h => absurd h List.not_mem_nil⟩⟩⟩⟩⟩⟩⟩⟩⟩⟩⟩⟩⟩⟩⟩⟩
def lw_privs : List (MethodName × Nat) := lw_privs_1 ++ (lw_privs_2 ++ (lw_privs_3 ++ (lw_privs_4 ++ (lw_privs_5 ++ (lw_privs_6 ++ (lw_privs_7 ++ (lw_privs_8 ++ (lw_privs_9 ++ (lw_privs_10 ++ (lw_privs_11 ++ (lw_privs_12 ++ (lw_privs_13 ++ (lw_privs_14)))))))))))))
def lw_tbl : List Cond := k2_sels lw_privs ++ tables_1
theorem lw_privs_ok : ∀ q ∈ lw_privs, lw_okq q := by
  show ∀ q ∈ lw_privs_1 ++ (lw_privs_2 ++ (lw_privs_3 ++ (lw_privs_4 ++ (lw_privs_5 ++ (lw_privs_6 ++ (lw_privs_7 ++ (lw_privs_8 ++ (lw_privs_9 ++ (lw_privs_10 ++ (lw_privs_11 ++ (lw_privs_12 ++ (lw_privs_13 ++ (lw_privs_14))))))))))))), lw_okq q
  exact List.forall_mem_append.mpr ⟨lw_r1, List.forall_mem_append.mpr ⟨lw_r2, List.forall_mem_append.mpr ⟨lw_r3, List.forall_mem_append.mpr ⟨lw_r4, List.forall_mem_append.mpr ⟨lw_r5, List.forall_mem_append.mpr ⟨lw_r6, List.forall_mem_append.mpr ⟨lw_r7, List.forall_mem_append.mpr ⟨lw_r8, List.forall_mem_append.mpr ⟨lw_r9, List.forall_mem_append.mpr ⟨lw_r10, List.forall_mem_append.mpr ⟨lw_r11, List.forall_mem_append.mpr ⟨lw_r12, List.forall_mem_append.mpr ⟨lw_r13, lw_r14⟩⟩⟩⟩⟩⟩⟩⟩⟩⟩⟩⟩⟩
end
section
/-! ===== AN ABSTRACT MACHINE: values and cells by places (a place's address is ad's); one walk for every method ===== -/
def am_tv (ad : Nat → Nat) (v : Value) : Value := match v with
  | .ref i => .ref (ad i)
  | .int x => .int x
  | .long x => .long x
  | .float x => .float x
  | .double x => .double x
  | .null => .null
  | .retAddr x => .retAddr x
def am_te (ad ct : Nat → Nat) (e : va_E) : va_E := match e with
  | .inl x => .inl (ct x.1, x.2)
  | .inr o => .inr (o.1, o.2.map (am_tv ad))
def am_ws (ad ct : Nat → Nat) (h : List va_E) : va_W := h.mapIdx (fun i e => (ad i, am_te ad ct e))
def am_lv (ad : Nat → Nat) (lv : List (Nat × Value)) : List (Nat × Value) := lv.map (fun q => (q.1, am_tv ad q.2))
theorem am_tv_cat (ad : Nat → Nat) (v : Value) : (am_tv ad v).category = v.category := by cases v <;> rfl
theorem am_ws_at {ad ct : Nat → Nat} {h : List va_E} {i : Nat} {e : va_E} (hi : h[i]? = some e) : (am_ws ad ct h)[i]? = some (ad i, am_te ad ct e) := by
  simp [am_ws, List.getElem?_mapIdx, hi]
theorem am_ws_set (ad ct : Nat → Nat) (h : List va_E) (i : Nat) (e : va_E) : am_ws ad ct (h.set i e) = (am_ws ad ct h).set i (ad i, am_te ad ct e) := by
  simp [am_ws, List.mapIdx_set]
theorem am_look {ad : Nat → Nat} {lv : List (Nat × Value)} {i : Nat} {v : Value} (h : lv.lookup i = some v) : ∃ k : Nat, (am_lv ad lv)[k]? = some (i, am_tv ad v) := by
  induction lv with
  | nil => cases h
  | cons q r ih =>
    obtain ⟨j, w⟩ := q
    rw [List.lookup_cons] at h
    by_cases e : (i == j) = true
    · rw [e] at h
      cases h
      have e2 : i = j := by simpa using e
      subst e2
      exact ⟨0, rfl⟩
    · rw [Bool.not_eq_true] at e
      rw [e] at h
      obtain ⟨k, hk⟩ := ih h
      exact ⟨k + 1, by simpa [am_lv] using hk⟩
/-- a local of one word is written -/
def am_sto (lv : List (Nat × Value)) (i : Nat) (v : Value) : List (Nat × Value) := (i, v) :: lv.filter (fun q => !(q.1 == i) && !(q.1 + 1 == i && q.2.category == 2))
/-- a local of two words is written -/
def am_sto2 (lv : List (Nat × Value)) (i : Nat) (v : Value) : List (Nat × Value) := (i, v) :: lv.filter (fun q => !(q.1 == i) && (!(q.1 == i + 1) && !(q.1 + 1 == i && q.2.category == 2)))
theorem am_sto_lv (ad : Nat → Nat) (lv : List (Nat × Value)) (i : Nat) (v : Value) : (i, am_tv ad v) :: (am_lv ad lv).filter (fun q => !(q.1 == i) && !(q.1 + 1 == i && q.2.category == 2)) = am_lv ad (am_sto lv i v) := by
  unfold am_sto am_lv
  rw [List.map_cons, List.filter_map]
  congr 2
  apply List.filter_congr
  intro q _
  simp only [Function.comp, am_tv_cat]
theorem am_sto2_lv (ad : Nat → Nat) (lv : List (Nat × Value)) (i : Nat) (v : Value) : (i, am_tv ad v) :: (am_lv ad lv).filter (fun q => !(q.1 == i) && (!(q.1 == i + 1) && !(q.1 + 1 == i && q.2.category == 2))) = am_lv ad (am_sto2 lv i v) := by
  unfold am_sto2 am_lv
  rw [List.map_cons, List.filter_map]
  congr 2
  apply List.filter_congr
  intro q _
  simp only [Function.comp, am_tv_cat]
/-- a state of one frame: pc, locals, stack, cells -/
abbrev am_F : Type := Nat × List (Nat × Value) × List Value × List va_E
def am_c (c : ClassFile.Cond) (x y : Int32) : Bool := match c with
  | .eq => decide (x = y)
  | .ne => decide (¬ x = y)
  | .lt => decide (x < y)
  | .ge => decide (y ≤ x)
  | .gt => decide (y < x)
  | .le => decide (x ≤ y)
def am_to (pc : Nat) (off : Int) : Option Nat := match (pc : Int) + off with
  | .ofNat t => some t
  | .negSucc _ => none
theorem am_to_eq {pc t : Nat} {off : Int} (h : am_to pc off = some t) : (pc : Int) + off = (t : Int) := by
  unfold am_to at h
  split at h
  · next e => cases h; exact e
  · cases h
def am_ok (i : Int32) (n : Nat) : Bool := !(decide (i < 0) || decide (n ≤ i.toNatClampNeg))
theorem am_ok_eq {i : Int32} {n : Nat} (h : am_ok i n = true) : vp_in i n := by
  intro q
  unfold am_ok at h
  rcases q with q | q <;> simp [q] at h
/-- an int on the stack, two, a long .. -/
def am_i1 {α : Type} (st : List Value) (f : Int32 → List Value → Option α) : Option α := match st with
  | .int x :: r => f x r
  | _ => none
def am_i2 {α : Type} (st : List Value) (f : Int32 → Int32 → List Value → Option α) : Option α := match st with
  | .int y :: .int x :: r => f x y r
  | _ => none
def am_l1 {α : Type} (st : List Value) (f : Int64 → List Value → Option α) : Option α := match st with
  | .long x :: r => f x r
  | _ => none
def am_l2 {α : Type} (st : List Value) (f : Int64 → Int64 → List Value → Option α) : Option α := match st with
  | .long y :: .long x :: r => f x y r
  | _ => none
def am_li {α : Type} (st : List Value) (f : Int64 → Int32 → List Value → Option α) : Option α := match st with
  | .int y :: .long x :: r => f x y r
  | _ => none
def am_r1 {α : Type} (st : List Value) (f : Nat → List Value → Option α) : Option α := match st with
  | .ref a :: r => f a r
  | _ => none
def am_ri {α : Type} (st : List Value) (f : Nat → Int32 → List Value → Option α) : Option α := match st with
  | .int i :: .ref a :: r => f a i r
  | _ => none
def am_rii {α : Type} (st : List Value) (f : Nat → Int32 → Int32 → List Value → Option α) : Option α := match st with
  | .int x :: .int i :: .ref a :: r => f a i x r
  | _ => none
def am_ril {α : Type} (st : List Value) (f : Nat → Int32 → Int64 → List Value → Option α) : Option α := match st with
  | .long x :: .int i :: .ref a :: r => f a i x r
  | _ => none
theorem am_i1_eq {α : Type} {st : List Value} {f : Int32 → List Value → Option α} {z : α} (h : am_i1 st f = some z) : ∃ x r, st = .int x :: r ∧ f x r = some z := by
  unfold am_i1 at h; split at h
  · exact ⟨_, _, rfl, h⟩
  · cases h
theorem am_i2_eq {α : Type} {st : List Value} {f : Int32 → Int32 → List Value → Option α} {z : α} (h : am_i2 st f = some z) : ∃ x y r, st = .int y :: .int x :: r ∧ f x y r = some z := by
  unfold am_i2 at h; split at h
  · exact ⟨_, _, _, rfl, h⟩
  · cases h
theorem am_l1_eq {α : Type} {st : List Value} {f : Int64 → List Value → Option α} {z : α} (h : am_l1 st f = some z) : ∃ x r, st = .long x :: r ∧ f x r = some z := by
  unfold am_l1 at h; split at h
  · exact ⟨_, _, rfl, h⟩
  · cases h
theorem am_l2_eq {α : Type} {st : List Value} {f : Int64 → Int64 → List Value → Option α} {z : α} (h : am_l2 st f = some z) : ∃ x y r, st = .long y :: .long x :: r ∧ f x y r = some z := by
  unfold am_l2 at h; split at h
  · exact ⟨_, _, _, rfl, h⟩
  · cases h
theorem am_li_eq {α : Type} {st : List Value} {f : Int64 → Int32 → List Value → Option α} {z : α} (h : am_li st f = some z) : ∃ x y r, st = .int y :: .long x :: r ∧ f x y r = some z := by
  unfold am_li at h; split at h
  · exact ⟨_, _, _, rfl, h⟩
  · cases h
theorem am_r1_eq {α : Type} {st : List Value} {f : Nat → List Value → Option α} {z : α} (h : am_r1 st f = some z) : ∃ a r, st = .ref a :: r ∧ f a r = some z := by
  unfold am_r1 at h; split at h
  · exact ⟨_, _, rfl, h⟩
  · cases h
theorem am_ri_eq {α : Type} {st : List Value} {f : Nat → Int32 → List Value → Option α} {z : α} (h : am_ri st f = some z) : ∃ a i r, st = .int i :: .ref a :: r ∧ f a i r = some z := by
  unfold am_ri at h; split at h
  · exact ⟨_, _, _, rfl, h⟩
  · cases h
theorem am_rii_eq {α : Type} {st : List Value} {f : Nat → Int32 → Int32 → List Value → Option α} {z : α} (h : am_rii st f = some z) : ∃ a i x r, st = .int x :: .int i :: .ref a :: r ∧ f a i x r = some z := by
  unfold am_rii at h; split at h
  · exact ⟨_, _, _, _, rfl, h⟩
  · cases h
theorem am_ril_eq {α : Type} {st : List Value} {f : Nat → Int32 → Int64 → List Value → Option α} {z : α} (h : am_ril st f = some z) : ∃ a i x r, st = .long x :: .int i :: .ref a :: r ∧ f a i x r = some z := by
  unfold am_ril at h; split at h
  · exact ⟨_, _, _, _, rfl, h⟩
  · cases h
/-- a local that holds an int, a long, a cell -/
def am_gi {α : Type} (lv : List (Nat × Value)) (k : Nat) (f : Int32 → Option α) : Option α := match lv.lookup k with
  | some (.int x) => f x
  | _ => none
def am_gl {α : Type} (lv : List (Nat × Value)) (k : Nat) (f : Int64 → Option α) : Option α := match lv.lookup k with
  | some (.long x) => f x
  | _ => none
def am_gr {α : Type} (lv : List (Nat × Value)) (k : Nat) (f : Nat → Option α) : Option α := match lv.lookup k with
  | some (.ref x) => f x
  | _ => none
theorem am_gi_eq {α : Type} {lv : List (Nat × Value)} {k : Nat} {f : Int32 → Option α} {z : α} (h : am_gi lv k f = some z) : ∃ x, lv.lookup k = some (.int x) ∧ f x = some z := by
  unfold am_gi at h; split at h
  · next x e => exact ⟨x, e, h⟩
  · cases h
theorem am_gl_eq {α : Type} {lv : List (Nat × Value)} {k : Nat} {f : Int64 → Option α} {z : α} (h : am_gl lv k f = some z) : ∃ x, lv.lookup k = some (.long x) ∧ f x = some z := by
  unfold am_gl at h; split at h
  · next x e => exact ⟨x, e, h⟩
  · cases h
theorem am_gr_eq {α : Type} {lv : List (Nat × Value)} {k : Nat} {f : Nat → Option α} {z : α} (h : am_gr lv k f = some z) : ∃ x, lv.lookup k = some (.ref x) ∧ f x = some z := by
  unfold am_gr at h; split at h
  · next x e => exact ⟨x, e, h⟩
  · cases h
/-- the row of ints at a place, of the kind t -/
def am_row {α : Type} (h : List va_E) (a : Nat) (f : Nat → Nat → (Nat → Int32) → Option α) : Option α := match h[a]? with
  | some (.inl (t, n, .inl g)) => f t n g
  | _ => none
def am_rowl {α : Type} (h : List va_E) (a : Nat) (f : Nat → Nat → (Nat → Int64) → Option α) : Option α := match h[a]? with
  | some (.inl (t, n, .inr (.inl g))) => f t n g
  | _ => none
def am_obj {α : Type} (h : List va_E) (a : Nat) (f : Nat → List Value → Option α) : Option α := match h[a]? with
  | some (.inr (c, fs)) => f c fs
  | _ => none
theorem am_row_eq {α : Type} {h : List va_E} {a : Nat} {f : Nat → Nat → (Nat → Int32) → Option α} {z : α} (q : am_row h a f = some z) : ∃ t n g, h[a]? = some (.inl (t, n, .inl g)) ∧ f t n g = some z := by
  unfold am_row at q; split at q
  · next t n g e => exact ⟨t, n, g, e, q⟩
  · cases q
theorem am_rowl_eq {α : Type} {h : List va_E} {a : Nat} {f : Nat → Nat → (Nat → Int64) → Option α} {z : α} (q : am_rowl h a f = some z) : ∃ t n g, h[a]? = some (.inl (t, n, .inr (.inl g))) ∧ f t n g = some z := by
  unfold am_rowl at q; split at q
  · next t n g e => exact ⟨t, n, g, e, q⟩
  · cases q
theorem am_obj_eq {α : Type} {h : List va_E} {a : Nat} {f : Nat → List Value → Option α} {z : α} (q : am_obj h a f = some z) : ∃ c fs, h[a]? = some (.inr (c, fs)) ∧ f c fs = some z := by
  unfold am_obj at q; split at q
  · next c fs e => exact ⟨c, fs, e, q⟩
  · cases q
theorem am_if {α : Type} {b : Bool} {x : Option α} {z : α} (h : (if b = true then x else none) = some z) : b = true ∧ x = some z := by
  cases b
  · simp at h
  · exact ⟨rfl, by simpa using h⟩
end
section
/-- the kinds of rows: 0 int, 1 char, 2 boolean, 3 byte, 4 long -/
def am_aty (t : Nat) : FieldType := match t with
  | 0 => .int
  | 1 => .char
  | 2 => .boolean
  | 3 => .byte
  | _ => .long
abbrev am_L : Type := List (Nat × Value)
/-- one instruction that neither calls, makes, returns nor throws -/
def am_step (fl : Nat → Option (Nat × Nat × FieldType × Bool)) (kc : Nat → Option Value) (kl : Nat → Option Int64) (gs : Nat → Option Value) (ro : Nat → Option (Nat × (Nat → Int32))) (ini : Bool) (nL : Nat) (i : Instr) (pc : Nat) (lv : am_L) (st : List Value) (h : List va_E) : Option am_F := match i with
  | .iconst c => some (pc + 1, lv, .int (Int32.ofInt c) :: st, h)
  | .bipush c => some (pc + 2, lv, .int (Int8.ofInt c).toInt32 :: st, h)
  | .sipush c => some (pc + 3, lv, .int (Int16.ofInt c).toInt32 :: st, h)
  | .lconst c => some (pc + 1, lv, .long (Int64.ofNat c) :: st, h)
  | .iload k => am_gi lv k fun x => some (pc + 2, lv, .int x :: st, h)
  | .iload_n k => am_gi lv k fun x => some (pc + 1, lv, .int x :: st, h)
  | .lload_n k => am_gl lv k fun x => some (pc + 1, lv, .long x :: st, h)
  | .aload k => am_gr lv k fun x => some (pc + 2, lv, .ref x :: st, h)
  | .aload_n k => am_gr lv k fun x => some (pc + 1, lv, .ref x :: st, h)
  | .istore k => am_i1 st fun x r => if decide (k < nL) = true then some (pc + 2, am_sto lv k (.int x), r, h) else none
  | .istore_n k => am_i1 st fun x r => if decide ((k : Nat) < nL) = true then some (pc + 1, am_sto lv k (.int x), r, h) else none
  | .lstore_n k => am_l1 st fun x r => if decide ((k : Nat) + 1 < nL) = true then some (pc + 1, am_sto2 lv k (.long x), r, h) else none
  | .astore k => am_r1 st fun x r => if decide (k < nL) = true then some (pc + 2, am_sto lv k (.ref x), r, h) else none
  | .astore_n k => am_r1 st fun x r => if decide ((k : Nat) < nL) = true then some (pc + 1, am_sto lv k (.ref x), r, h) else none
  | .iinc k c => am_gi lv k fun x => if decide (k < nL) = true then some (pc + 3, am_sto lv k (.int (x + Int32.ofInt c)), st, h) else none
  | .iadd => am_i2 st fun x y r => some (pc + 1, lv, .int (x + y) :: r, h)
  | .isub => am_i2 st fun x y r => some (pc + 1, lv, .int (x - y) :: r, h)
  | .imul => am_i2 st fun x y r => some (pc + 1, lv, .int (x * y) :: r, h)
  | .iand => am_i2 st fun x y r => some (pc + 1, lv, .int (x &&& y) :: r, h)
  | .ior => am_i2 st fun x y r => some (pc + 1, lv, .int (x ||| y) :: r, h)
  | .ishl => am_i2 st fun x y r => some (pc + 1, lv, .int (x <<< (y &&& 31)) :: r, h)
  | .ishr => am_i2 st fun x y r => some (pc + 1, lv, .int (x >>> (y &&& 31)) :: r, h)
  | .ladd => am_l2 st fun x y r => some (pc + 1, lv, .long (x + y) :: r, h)
  | .lsub => am_l2 st fun x y r => some (pc + 1, lv, .long (x - y) :: r, h)
  | .lmul => am_l2 st fun x y r => some (pc + 1, lv, .long (x * y) :: r, h)
  | .land => am_l2 st fun x y r => some (pc + 1, lv, .long (x &&& y) :: r, h)
  | .lor => am_l2 st fun x y r => some (pc + 1, lv, .long (x ||| y) :: r, h)
  | .lshl => am_li st fun x y r => some (pc + 1, lv, .long (x <<< (y.toInt64 &&& 63)) :: r, h)
  | .lshr => am_li st fun x y r => some (pc + 1, lv, .long (x >>> (y.toInt64 &&& 63)) :: r, h)
  | .lushr => am_li st fun x y r => some (pc + 1, lv, .long (x.toUInt64 >>> (y.toInt64.toUInt64 &&& Int64.toUInt64 63)).toInt64 :: r, h)
  | .i2l => am_i1 st fun x r => some (pc + 1, lv, .long x.toInt64 :: r, h)
  | .l2i => am_l1 st fun x r => some (pc + 1, lv, .int x.toInt32 :: r, h)
  | .i2c => am_i1 st fun x r => some (pc + 1, lv, .int (x.toUInt32 % 65536).toInt32 :: r, h)
  | .i2b => am_i1 st fun x r => some (pc + 1, lv, .int x.toInt8.toInt32 :: r, h)
  | .lcmp => am_l2 st fun x y r => some (pc + 1, lv, .int (lg_cmp x y) :: r, h)
  | .dup => match st with
    | v :: r => if decide (v.category = 1) = true then some (pc + 1, lv, v :: v :: r, h) else none
    | _ => none
  | .dup2 => match st with
    | v :: w :: r => if (decide (v.category = 1) && decide (w.category = 1)) = true then some (pc + 1, lv, v :: w :: v :: w :: r, h) else none
    | _ => none
  | .goto off => (am_to pc off).bind fun t => some (t, lv, st, h)
  | .ifCond c off => am_i1 st fun x r => (am_to pc off).bind fun t => some (if am_c c x 0 = true then t else pc + 3, lv, r, h)
  | .if_icmp c off => am_i2 st fun x y r => (am_to pc off).bind fun t => some (if am_c c x y = true then t else pc + 3, lv, r, h)
  | .tableswitch d lo hi offs => am_i1 st fun x r => (am_to pc (if (decide (x.toInt < lo) || decide (hi < x.toInt)) = true then d else (offs[(x.toInt - lo).toNat]?).getD d)).bind fun t => if ((decide (x.toInt < lo) || decide (hi < x.toInt)) || (offs[(x.toInt - lo).toNat]?).isSome) = true then some (t, lv, r, h) else none
  | .lookupswitch d ps => am_i1 st fun x r => if ((ps.toList.zip (ps.toList.drop 1)).all (fun (a, next) => a.1 < next.1)) = true then (am_to pc (Op.lookupswitch.offset ps.toList d x.toInt)).bind fun t => some (t, lv, r, h) else none
  | .ldc k => (kc k).bind fun v => some (pc + 2, lv, v :: st, h)
  | .ldc2_w k => (kl k).bind fun v => some (pc + 3, lv, .long v :: st, h)
  | .getfield k => am_r1 st fun a r => (fl k).bind fun q => am_obj h a fun c fs => if decide (c = q.1) = true then (fs[q.2.1]?).bind fun v => some (pc + 3, lv, v :: r, h) else none
  | .putfield k => match st with
    | v :: .ref a :: r => (fl k).bind fun q => am_obj h a fun c fs => if (decide (c = q.1) && (decide (q.2.1 < fs.length) && ((!q.2.2.2 || ini) && (decide (narrow q.2.2.1 v = v) && fits q.2.2.1 v)))) = true then some (pc + 3, lv, r, h.set a (.inr (c, fs.set q.2.1 v))) else none
    | _ => none
  | .getstatic k => (gs k).bind fun v => some (pc + 3, lv, v :: st, h)
  | .iaload => am_ri st fun a j r => match ro a with
    | some q => if am_ok j q.1 = true then some (pc + 1, lv, .int (q.2 j.toNatClampNeg) :: r, h) else none
    | none => am_row h a fun t n g => if (t == 0 && am_ok j n) = true then some (pc + 1, lv, .int (g j.toNatClampNeg) :: r, h) else none
  | .caload => am_ri st fun a j r => am_row h a fun t n g => if (t == 1 && am_ok j n) = true then some (pc + 1, lv, .int (g j.toNatClampNeg) :: r, h) else none
  | .baload => am_ri st fun a j r => am_row h a fun t n g => if ((t == 2 || t == 3) && am_ok j n) = true then some (pc + 1, lv, .int (g j.toNatClampNeg) :: r, h) else none
  | .laload => am_ri st fun a j r => am_rowl h a fun t n g => if (t == 4 && am_ok j n) = true then some (pc + 1, lv, .long (g j.toNatClampNeg) :: r, h) else none
  | .iastore => am_rii st fun a j x r => am_row h a fun t n g => if (t == 0 && am_ok j n) = true then some (pc + 1, lv, r, h.set a (.inl (t, n, .inl (upd g j.toNatClampNeg x)))) else none
  | .castore => am_rii st fun a j x r => am_row h a fun t n g => if (t == 1 && am_ok j n) = true then some (pc + 1, lv, r, h.set a (.inl (t, n, .inl (upd g j.toNatClampNeg (vp_nar .char x))))) else none
  | .bastore => am_rii st fun a j x r => am_row h a fun t n g => if ((t == 2 || t == 3) && am_ok j n) = true then some (pc + 1, lv, r, h.set a (.inl (t, n, .inl (upd g j.toNatClampNeg (vp_nar (am_aty t) x))))) else none
  | .lastore => am_ril st fun a j x r => am_rowl h a fun t n g => if (t == 4 && am_ok j n) = true then some (pc + 1, lv, r, h.set a (.inl (t, n, .inr (.inl (vp_updL g j.toNatClampNeg x))))) else none
  | .arraylength => am_r1 st fun a r => match ro a with
    | some q => some (pc + 1, lv, .int (Int32.ofNat q.1) :: r, h)
    | none => match h[a]? with
      | some (.inl (t, x)) => if decide (t < 5) = true then some (pc + 1, lv, .int (Int32.ofNat x.1) :: r, h) else none
      | _ => none
  | _ => none
/-- an instruction's length; 0: it is what it is -/
def am_len (i : Instr) : Nat := match i with
  | .bipush _ | .iload _ | .aload _ | .istore _ | .astore _ | .ldc _ | .newarray _ => 2
  | .sipush _ | .iinc _ _ | .goto _ | .ifCond _ _ | .if_icmp _ _ | .ldc2_w _ | .getfield _ | .putfield _ | .getstatic _ | .new _ | .invokevirtual _ | .invokespecial _ | .invokestatic _ => 3
  | .tableswitch _ _ _ _ | .lookupswitch _ _ => 0
  | _ => 1
/-- what a method's links are, by the words Ts -/
def am_FL (fl : Nat → Option (Nat × Nat × FieldType × Bool)) (own : String) (cl : List vw_C) (Ts : List Jvm.Cond) : Prop := ∀ idx q, fl idx = some q → ∃ (C : String) (T : u_T) (N : Nat) (ty0 : Nat → FieldType), (∀ w ∈ u_ws C T N, w ∈ Ts) ∧ cl[q.1]? = some (C, T, N) ∧ q.2.1 < N ∧ Jvm.Cond.fieldLink own idx (T q.2.1).1 (T q.2.1).2.1 (T q.2.1).2.2.1 ∈ Ts ∧ (∀ k, k < N → parseFieldDescriptor (T k).2.2.1 = some (ty0 k)) ∧ ty0 q.2.1 = q.2.2.1 ∧ (∀ a, a < N → ∀ b, b < N → a ≠ b → (T a).2.1 ≠ (T b).2.1) ∧ (T q.2.1).2.2.2 = q.2.2.2 ∧ (q.2.2.2 = true → (T q.2.1).1 = own)
def am_KC (kc : Nat → Option Value) (own : String) (ad : Nat → Nat) (Ts : List Jvm.Cond) (s : State) : Prop := ∀ idx v, kc idx = some v → (∃ x, v = .int x ∧ Jvm.Cond.constant own idx x ∈ Ts) ∨ ∃ a tx, v = .ref a ∧ vk_R own idx tx (ad a) s
def am_KL (kl : Nat → Option Int64) (own : String) (Ts : List Jvm.Cond) : Prop := ∀ idx v, kl idx = some v → Jvm.Cond.constantLong own idx v ∈ Ts
def am_GS (gs : Nat → Option Value) (own : String) (ad : Nat → Nat) (A : Nat → Prop) (Ts : List Jvm.Cond) (s : State) : Prop := ∀ idx v, gs idx = some v → ∃ C n d, va_Z C n d (am_tv ad v) A s s.heap ∧ Jvm.Cond.fieldLink own idx C n d ∈ Ts
def am_RO (ro : Nat → Option (Nat × (Nat → Int32))) (ad : Nat → Nat) (A : Nat → Prop) (s : State) : Prop := ∀ a n f, ro a = some (n, f) → va_T .int (ad a) n (fun j => .int (f j)) A s s.heap
def am_TY (tys : List (ClassId × FieldType)) (ct : Nat → Nat) : Prop := ∀ t, t < 5 → tys[t]? = some (ct t, am_aty t)
end
section
section AM1
variable {p : Program} {l : Launch} {e : Env} {R : Room} {s : State} {m : MethodId} {args : Array Value} {below : List Frame} {meth : Method} {c : Code} {H : Heap} {locs : List Loc} {cells slots : Nat} {Q : State → Prop}
variable {cc : ByteArray} {D : va_G} {cl : List vw_C} {A : Nat → Prop} {tys : List (ClassId × FieldType)} {ad ct : Nat → Nat} {Ts : List Jvm.Cond} {own : String}
variable {fl : Nat → Option (Nat × Nat × FieldType × Bool)} {kc : Nat → Option Value} {kl : Nat → Option Int64} {gs : Nat → Option Value} {ro : Nat → Option (Nat × (Nat → Int32))} {ini : Bool} {nL : Nat}
theorem am_pick (P : Nat → Prop) {b : Bool} {t u : Nat} (k : P (if b = true then t else u)) : (b = true → P t) ∧ (¬ b = true → P u) := ⟨fun q => by rw [if_pos q] at k; exact k, fun q => by rw [if_neg q] at k; exact k⟩
set_option maxHeartbeats 4000000 in
set_option maxRecDepth 20000 in
theorem am_step_ok (hx : p.tables.exec = Jvm.exec) (hb : c.code = cc) (hts : ∀ w ∈ Ts, w.before args s = true) (hown : s.vm.findClass own = some m.cls) (hK : va_K D cl tys s)
    (hFL : am_FL fl own cl Ts) (hKC : am_KC kc own ad Ts s) (hKL : am_KL kl own Ts) (hGS : am_GS gs own ad A Ts s) (hRO : am_RO ro ad A s) (hTY : am_TY tys ct) (hin : ini = true → meth.name = "<init>")
    {i : Instr} {pc pc' : Nat} {lv lv' : am_L} {st st' : List Value} {h h' : List va_E} {ls : Array Slot} (hst : am_step fl kc kl gs ro ini nL i pc lv st h = some (pc', lv', st', h'))
    (hd0 : ∃ n, decode cc pc = .ok (i, n) ∧ (am_len i ≠ 0 → n = am_len i)) (hP : va_P D cl (am_ws ad ct h) H) (hD : va_D A (am_ws ad ct h)) (hS : va_S A s.heap H locs) (hl : lv_has ls nL (am_lv ad lv))
    (kk : ∀ (H' : Heap) (locs' : List Loc) (ls' : Array Slot), va_P D cl (am_ws ad ct h') H' → va_D A (am_ws ad ct h') → va_S A s.heap H' locs' → lv_has ls' nL (am_lv ad lv') → W p l e R s m args below meth c H' locs' cells slots Q (F0 m pc' ls' (st'.map (am_tv ad)))) :
    W p l e R s m args below meth c H locs cells slots Q (F0 m pc ls (st.map (am_tv ad))) := by
  obtain ⟨n, hd, hn⟩ := hd0
  unfold am_step at hst
  split at hst
  -- iconst .. lconst
  · cases hst; cases hn (by simp [am_len]); exact lv_iconst hx hb hd rfl (kk H locs ls hP hD hS hl)
  · cases hst; cases hn (by simp [am_len]); exact lv_bipush hx hb hd rfl (kk H locs ls hP hD hS hl)
  · cases hst; cases hn (by simp [am_len]); exact lv_sipush hx hb hd rfl (kk H locs ls hP hD hS hl)
  · cases hst; cases hn (by simp [am_len]); exact lv_lconst hx hb hd rfl (kk H locs ls hP hD hS hl)
  -- loads
  · obtain ⟨x, e1, h2⟩ := am_gi_eq hst; cases h2; cases hn (by simp [am_len]); obtain ⟨k, hk⟩ := am_look (ad := ad) e1; exact lv_iload hx hb hd (lv_at hl k hk) (kk H locs ls hP hD hS hl)
  · obtain ⟨x, e1, h2⟩ := am_gi_eq hst; cases h2; cases hn (by simp [am_len]); obtain ⟨k, hk⟩ := am_look (ad := ad) e1; exact lv_iload_n hx hb hd rfl (lv_at hl k hk) (kk H locs ls hP hD hS hl)
  · obtain ⟨x, e1, h2⟩ := am_gl_eq hst; cases h2; cases hn (by simp [am_len]); obtain ⟨k, hk⟩ := am_look (ad := ad) e1; exact lv_lload_n hx hb hd rfl (lv_at hl k hk) (kk H locs ls hP hD hS hl)
  · obtain ⟨x, e1, h2⟩ := am_gr_eq hst; cases h2; cases hn (by simp [am_len]); obtain ⟨k, hk⟩ := am_look (ad := ad) e1; exact lv_aload hx hb hd (lv_at hl k hk) (kk H locs ls hP hD hS hl)
  · obtain ⟨x, e1, h2⟩ := am_gr_eq hst; cases h2; cases hn (by simp [am_len]); obtain ⟨k, hk⟩ := am_look (ad := ad) e1; exact lv_aload_n hx hb hd rfl (lv_at hl k hk) (kk H locs ls hP hD hS hl)
  -- stores
  · obtain ⟨x, r, rfl, h2⟩ := am_i1_eq hst; obtain ⟨h3, h4⟩ := am_if h2; cases h4; cases hn (by simp [am_len]); exact lv_istore hx hb hd hl (of_decide_eq_true h3) (am_sto_lv ad lv _ (.int x)) (fun ls' hl' => kk H locs ls' hP hD hS hl')
  · obtain ⟨x, r, rfl, h2⟩ := am_i1_eq hst; obtain ⟨h3, h4⟩ := am_if h2; cases h4; cases hn (by simp [am_len]); exact lv_istore_n hx hb hd rfl hl (of_decide_eq_true h3) (am_sto_lv ad lv _ (.int x)) (fun ls' hl' => kk H locs ls' hP hD hS hl')
  · obtain ⟨x, r, rfl, h2⟩ := am_l1_eq hst; obtain ⟨h3, h4⟩ := am_if h2; cases h4; cases hn (by simp [am_len]); exact lv_lstore_n hx hb hd rfl hl (of_decide_eq_true h3) (am_sto2_lv ad lv _ (.long x)) (fun ls' hl' => kk H locs ls' hP hD hS hl')
  · obtain ⟨x, r, rfl, h2⟩ := am_r1_eq hst; obtain ⟨h3, h4⟩ := am_if h2; cases h4; cases hn (by simp [am_len]); exact lv_astore hx hb hd hl (of_decide_eq_true h3) (am_sto_lv ad lv _ (.ref x)) (fun ls' hl' => kk H locs ls' hP hD hS hl')
  · obtain ⟨x, r, rfl, h2⟩ := am_r1_eq hst; obtain ⟨h3, h4⟩ := am_if h2; cases h4; cases hn (by simp [am_len]); exact lv_astore_n hx hb hd rfl hl (of_decide_eq_true h3) (am_sto_lv ad lv _ (.ref x)) (fun ls' hl' => kk H locs ls' hP hD hS hl')
  · obtain ⟨x, e1, h2⟩ := am_gi_eq hst; obtain ⟨h3, h4⟩ := am_if h2; cases h4; cases hn (by simp [am_len]); obtain ⟨k, hk⟩ := am_look (ad := ad) e1; exact lv_iinc hx hb hd hl hk rfl (of_decide_eq_true h3) (am_sto_lv ad lv _ (.int _)) (fun ls' hl' => kk H locs ls' hP hD hS hl')
  -- ints
  · obtain ⟨x, y, r, rfl, h2⟩ := am_i2_eq hst; cases h2; cases hn (by simp [am_len]); exact lv_iadd hx hb hd (kk H locs ls hP hD hS hl)
  · obtain ⟨x, y, r, rfl, h2⟩ := am_i2_eq hst; cases h2; cases hn (by simp [am_len]); exact lv_isub hx hb hd (kk H locs ls hP hD hS hl)
  · obtain ⟨x, y, r, rfl, h2⟩ := am_i2_eq hst; cases h2; cases hn (by simp [am_len]); exact lv_imul hx hb hd (kk H locs ls hP hD hS hl)
  · obtain ⟨x, y, r, rfl, h2⟩ := am_i2_eq hst; cases h2; cases hn (by simp [am_len]); exact lv_iand hx hb hd (kk H locs ls hP hD hS hl)
  · obtain ⟨x, y, r, rfl, h2⟩ := am_i2_eq hst; cases h2; cases hn (by simp [am_len]); exact lv_ior hx hb hd (kk H locs ls hP hD hS hl)
  · obtain ⟨x, y, r, rfl, h2⟩ := am_i2_eq hst; cases h2; cases hn (by simp [am_len]); exact lv_ishl hx hb hd (kk H locs ls hP hD hS hl)
  · obtain ⟨x, y, r, rfl, h2⟩ := am_i2_eq hst; cases h2; cases hn (by simp [am_len]); exact lv_ishr hx hb hd (kk H locs ls hP hD hS hl)
  -- longs
  · obtain ⟨x, y, r, rfl, h2⟩ := am_l2_eq hst; cases h2; cases hn (by simp [am_len]); exact lv_ladd hx hb hd (kk H locs ls hP hD hS hl)
  · obtain ⟨x, y, r, rfl, h2⟩ := am_l2_eq hst; cases h2; cases hn (by simp [am_len]); exact lv_lsub hx hb hd (kk H locs ls hP hD hS hl)
  · obtain ⟨x, y, r, rfl, h2⟩ := am_l2_eq hst; cases h2; cases hn (by simp [am_len]); exact lv_lmul hx hb hd (kk H locs ls hP hD hS hl)
  · obtain ⟨x, y, r, rfl, h2⟩ := am_l2_eq hst; cases h2; cases hn (by simp [am_len]); exact lv_land hx hb hd (kk H locs ls hP hD hS hl)
  · obtain ⟨x, y, r, rfl, h2⟩ := am_l2_eq hst; cases h2; cases hn (by simp [am_len]); exact lv_lor hx hb hd (kk H locs ls hP hD hS hl)
  · obtain ⟨x, y, r, rfl, h2⟩ := am_li_eq hst; cases h2; cases hn (by simp [am_len]); exact lv_lshl hx hb hd rfl (kk H locs ls hP hD hS hl)
  · obtain ⟨x, y, r, rfl, h2⟩ := am_li_eq hst; cases h2; cases hn (by simp [am_len]); exact lv_lshr hx hb hd rfl (kk H locs ls hP hD hS hl)
  · obtain ⟨x, y, r, rfl, h2⟩ := am_li_eq hst; cases h2; cases hn (by simp [am_len]); exact lv_lushr hx hb hd rfl (kk H locs ls hP hD hS hl)
  · obtain ⟨x, r, rfl, h2⟩ := am_i1_eq hst; cases h2; cases hn (by simp [am_len]); exact lv_i2l hx hb hd rfl (kk H locs ls hP hD hS hl)
  · obtain ⟨x, r, rfl, h2⟩ := am_l1_eq hst; cases h2; cases hn (by simp [am_len]); exact lv_l2i hx hb hd rfl (kk H locs ls hP hD hS hl)
  · obtain ⟨x, r, rfl, h2⟩ := am_i1_eq hst; cases h2; cases hn (by simp [am_len]); exact lv_i2c hx hb hd rfl (kk H locs ls hP hD hS hl)
  · obtain ⟨x, r, rfl, h2⟩ := am_i1_eq hst; cases h2; cases hn (by simp [am_len]); exact lv_i2b hx hb hd rfl (kk H locs ls hP hD hS hl)
  · obtain ⟨x, y, r, rfl, h2⟩ := am_l2_eq hst; cases h2; cases hn (by simp [am_len]); exact W.lcmp hx hb hd (kk H locs ls hP hD hS hl)
  -- dup, dup2
  · split at hst
    · obtain ⟨h3, h4⟩ := am_if hst; cases h4; cases hn (by simp [am_len]); exact lv_dup hx hb hd ((am_tv_cat ad _).trans (of_decide_eq_true h3)) (kk H locs ls hP hD hS hl)
    · cases hst
  · split at hst
    · obtain ⟨h3, h4⟩ := am_if hst; cases h4; cases hn (by simp [am_len])
      rw [Bool.and_eq_true] at h3
      exact lv_dup2_11 hx hb hd ((am_tv_cat ad _).trans (of_decide_eq_true h3.1)) ((am_tv_cat ad _).trans (of_decide_eq_true h3.2)) (kk H locs ls hP hD hS hl)
    · cases hst
  -- goto
  · obtain ⟨t, ht, h2⟩ := Option.bind_eq_some_iff.mp hst; cases h2; cases hn (by simp [am_len]); exact lv_goto hx hb hd (am_to_eq ht) (kk H locs ls hP hD hS hl)
  -- ifCond
  · obtain ⟨x, r, rfl, h2⟩ := am_i1_eq hst
    obtain ⟨t, ht, h3⟩ := Option.bind_eq_some_iff.mp h2; cases h3; cases hn (by simp [am_len])
    have k1 := am_pick (fun z => W p l e R s m args below meth c H locs cells slots Q (F0 m z ls (List.map (am_tv ad) st'))) (kk H locs ls hP hD hS hl)
    rename_i cnd off
    cases cnd
    · exact lv_if_eq hx hb hd (am_to_eq ht) (fun q => k1.1 (decide_eq_true q)) (fun q => k1.2 (fun z => q (of_decide_eq_true z)))
    · exact lv_if_ne hx hb hd (am_to_eq ht) (fun q => k1.1 (decide_eq_true q)) (fun q => k1.2 (fun z => (of_decide_eq_true z) q))
    · exact lv_if_lt hx hb hd (am_to_eq ht) (fun q => k1.1 (decide_eq_true q)) (fun q => k1.2 (fun z => q (of_decide_eq_true z)))
    · exact lv_if_ge hx hb hd (am_to_eq ht) (fun q => k1.1 (decide_eq_true q)) (fun q => k1.2 (fun z => q (of_decide_eq_true z)))
    · exact lv_if_gt hx hb hd (am_to_eq ht) (fun q => k1.1 (decide_eq_true q)) (fun q => k1.2 (fun z => q (of_decide_eq_true z)))
    · exact lv_if_le hx hb hd (am_to_eq ht) (fun q => k1.1 (decide_eq_true q)) (fun q => k1.2 (fun z => q (of_decide_eq_true z)))
  -- if_icmp
  · obtain ⟨x, y, r, rfl, h2⟩ := am_i2_eq hst
    obtain ⟨t, ht, h3⟩ := Option.bind_eq_some_iff.mp h2; cases h3; cases hn (by simp [am_len])
    have k1 := am_pick (fun z => W p l e R s m args below meth c H locs cells slots Q (F0 m z ls (List.map (am_tv ad) st'))) (kk H locs ls hP hD hS hl)
    rename_i cnd off
    cases cnd
    · exact lv_icmp_eq hx hb hd (am_to_eq ht) (fun q => k1.1 (decide_eq_true q)) (fun q => k1.2 (fun z => q (of_decide_eq_true z)))
    · exact lv_icmp_ne hx hb hd (am_to_eq ht) (fun q => k1.1 (decide_eq_true q)) (fun q => k1.2 (fun z => (of_decide_eq_true z) q))
    · exact lv_icmp_lt hx hb hd (am_to_eq ht) (fun q => k1.1 (decide_eq_true q)) (fun q => k1.2 (fun z => q (of_decide_eq_true z)))
    · exact lv_icmp_ge hx hb hd (am_to_eq ht) (fun q => k1.1 (decide_eq_true q)) (fun q => k1.2 (fun z => q (of_decide_eq_true z)))
    · exact lv_icmp_gt hx hb hd (am_to_eq ht) (fun q => k1.1 (decide_eq_true q)) (fun q => k1.2 (fun z => q (of_decide_eq_true z)))
    · exact lv_icmp_le hx hb hd (am_to_eq ht) (fun q => k1.1 (decide_eq_true q)) (fun q => k1.2 (fun z => q (of_decide_eq_true z)))
  -- tableswitch
  · obtain ⟨x, r, rfl, h2⟩ := am_i1_eq hst
    obtain ⟨t, ht, h3⟩ := Option.bind_eq_some_iff.mp h2
    obtain ⟨h4, h5⟩ := am_if h3; cases h5
    rename_i d lo hi offs
    by_cases q : (decide (x.toInt < lo) || decide (hi < x.toInt)) = true
    · rw [if_pos q] at ht
      refine lv_tableOut hx hb hd ?_ (am_to_eq ht) (kk H locs ls hP hD hS hl)
      rw [Bool.or_eq_true] at q
      exact q.imp of_decide_eq_true of_decide_eq_true
    · rw [if_neg q] at ht
      cases ho : offs[(x.toInt - lo).toNat]? with
      | none => rw [ho] at h4; simp at h4; simp at q; omega
      | some off =>
        rw [ho] at ht
        simp only [Bool.or_eq_true, decide_eq_true_eq, not_or] at q
        exact lv_tableIn hx hb hd q.1 q.2 ho (am_to_eq ht) (kk H locs ls hP hD hS hl)
  -- lookupswitch
  · obtain ⟨x, r, rfl, h2⟩ := am_i1_eq hst
    obtain ⟨h4, h5⟩ := am_if h2
    obtain ⟨t, ht, h3⟩ := Option.bind_eq_some_iff.mp h5; cases h3
    exact lv_lookup hx hb hd h4 rfl (am_to_eq ht) (kk H locs ls hP hD hS hl)
  -- ldc, ldc2_w
  · obtain ⟨v, hv, h2⟩ := Option.bind_eq_some_iff.mp hst; cases h2; cases hn (by simp [am_len])
    rcases hKC _ _ hv with ⟨x, rfl, hw⟩ | ⟨a, tx, rfl, hw⟩
    · exact lv_ldc hx hb hown (hts _ hw) hd (kk H locs ls hP hD hS hl)
    · exact va_ldcS hx hb hown hw hd (kk H locs ls hP hD hS hl)
  · obtain ⟨v, hv, h2⟩ := Option.bind_eq_some_iff.mp hst; cases h2; cases hn (by simp [am_len])
    exact lv_ldc2 hx hb hown (hts _ (hKL _ _ hv)) hd (kk H locs ls hP hD hS hl)
  -- getfield
  · obtain ⟨a, r, rfl, h2⟩ := am_r1_eq hst
    obtain ⟨q, hq, h3⟩ := Option.bind_eq_some_iff.mp h2
    obtain ⟨ci, fs, hc, h4⟩ := am_obj_eq h3
    obtain ⟨h5, h6⟩ := am_if h4
    obtain ⟨v, hv, h7⟩ := Option.bind_eq_some_iff.mp h6; cases h7; cases hn (by simp [am_len])
    obtain ⟨C, T, N, ty0, g1, g2, g3, g4, -⟩ := hFL _ _ hq
    have h5 := of_decide_eq_true h5
    subst h5
    exact va_get (v := am_tv ad v) hx hb hts g1 hown hK hP a (am_ws_at hc) g2 q.2.1 g3 (hts _ g4) (fun _ z => z) (by rw [List.getElem?_map, hv]; rfl) hd (kk H locs ls hP hD hS hl)
  -- putfield
  · split at hst
    · next v a r =>
      obtain ⟨q, hq, h3⟩ := Option.bind_eq_some_iff.mp hst
      obtain ⟨ci, fs, hc, h4⟩ := am_obj_eq h3
      obtain ⟨h5, h6⟩ := am_if h4; cases h6; cases hn (by simp [am_len])
      simp only [Bool.and_eq_true, decide_eq_true_eq] at h5
      obtain ⟨h5, h6, h7, h8, h9⟩ := h5
      obtain ⟨C, T, N, ty0, g1, g2, g3, g4, g5, g6, g7, g8, g9⟩ := hFL _ _ hq
      subst h5
      have e1 : am_ws ad ct (h.set a (.inr (q.1, fs.set q.2.1 v))) = (am_ws ad ct h).set a (ad a, .inr (q.1, (fs.map (am_tv ad)).set q.2.1 (am_tv ad v))) := by
        rw [am_ws_set]
        simp [am_te, List.map_set]
      rw [e1] at kk
      have n1 : narrow q.2.2.1 (am_tv ad v) = am_tv ad v := by
        cases v with
        | int x => exact h8
        | long x => exact h8
        | float x => exact h8
        | double x => exact h8
        | null => exact h8
        | ref x => cases q.2.2.1 <;> rfl
        | retAddr x => exact h8
      have f1 : fits q.2.2.1 (am_tv ad v) = true := by
        cases v with
        | int x => exact h9
        | long x => exact h9
        | float x => exact h9
        | double x => exact h9
        | null => exact h9
        | ref x => revert h9; cases q.2.2.1 <;> simp [fits, am_tv]
        | retAddr x => exact h9
      have hty := g5 _ g3
      rw [g6] at hty
      cases hf : q.2.2.2 with
      | false =>
        rw [hf] at g8
        exact va_put hx hb hts g1 ty0 g5 g7 hown hK hP hD hS a (am_ws_at hc) g2 q.2.1 g3 (hts _ g4) (fun _ z => z) g8 hty n1 f1 (by simpa using h6) hd (fun H1 locs1 hP1 hD1 hS1 => kk H1 locs1 ls hP1 hD1 hS1 hl)
      | true =>
        rw [hf] at g8 g9 h7
        exact va_putF hx hb hts g1 ty0 g5 g7 hown hK hP hD hS a (am_ws_at hc) g2 q.2.1 g3 (hts _ g4) (fun _ z => z) g8 (hin (by simpa using h7)) (g9 rfl) hty n1 f1 (by simpa using h6) hd (fun H1 locs1 hP1 hD1 hS1 => kk H1 locs1 ls hP1 hD1 hS1 hl)
    · cases hst
  -- getstatic
  · obtain ⟨v, hv, h2⟩ := Option.bind_eq_some_iff.mp hst; cases h2; cases hn (by simp [am_len])
    obtain ⟨C, n1, d1, hz, hw⟩ := hGS _ _ hv
    exact va_gets hx hb hz hS hown (hts _ hw) (fun _ z => z) hd (kk H locs ls hP hD hS hl)
  -- iaload
  · obtain ⟨a, j, r, rfl, h2⟩ := am_ri_eq hst
    cases hn (by simp [am_len])
    split at h2
    · next q hq =>
      obtain ⟨h3, h4⟩ := am_if h2; cases h4
      exact va_ti hx hb (hRO a q.1 q.2 hq) hS (am_ok_eq h3) rfl hd (kk H locs ls hP hD hS hl)
    · obtain ⟨t, n1, g, hg, h3⟩ := am_row_eq h2
      obtain ⟨h4, h5⟩ := am_if h3; cases h5
      simp only [Bool.and_eq_true, beq_iff_eq] at h4
      obtain ⟨rfl, h4⟩ := h4
      exact va_iald hx hb hK hP a 0 (am_ws_at hg) (hTY 0 (by decide)) (am_ok_eq h4) hd (kk H locs ls hP hD hS hl)
  -- caload
  · obtain ⟨a, j, r, rfl, h2⟩ := am_ri_eq hst
    cases hn (by simp [am_len])
    obtain ⟨t, n1, g, hg, h3⟩ := am_row_eq h2
    obtain ⟨h4, h5⟩ := am_if h3; cases h5
    simp only [Bool.and_eq_true, beq_iff_eq] at h4
    obtain ⟨rfl, h4⟩ := h4
    exact va_cald hx hb hK hP a 1 (am_ws_at hg) (hTY 1 (by decide)) (am_ok_eq h4) hd (kk H locs ls hP hD hS hl)
  -- baload
  · obtain ⟨a, j, r, rfl, h2⟩ := am_ri_eq hst
    cases hn (by simp [am_len])
    obtain ⟨t, n1, g, hg, h3⟩ := am_row_eq h2
    obtain ⟨h4, h5⟩ := am_if h3; cases h5
    simp only [Bool.and_eq_true, Bool.or_eq_true, beq_iff_eq] at h4
    obtain ⟨h6, h4⟩ := h4
    rcases h6 with rfl | rfl
    · exact va_zald hx hb hK hP a 2 (am_ws_at hg) (hTY 2 (by decide)) (am_ok_eq h4) hd (kk H locs ls hP hD hS hl)
    · exact va_bald hx hb hK hP a 3 (am_ws_at hg) (hTY 3 (by decide)) (am_ok_eq h4) hd (kk H locs ls hP hD hS hl)
  -- laload
  · obtain ⟨a, j, r, rfl, h2⟩ := am_ri_eq hst
    cases hn (by simp [am_len])
    obtain ⟨t, n1, g, hg, h3⟩ := am_rowl_eq h2
    obtain ⟨h4, h5⟩ := am_if h3; cases h5
    simp only [Bool.and_eq_true, beq_iff_eq] at h4
    obtain ⟨rfl, h4⟩ := h4
    exact va_lald hx hb hK hP a 4 (am_ws_at hg) (hTY 4 (by decide)) (am_ok_eq h4) hd (kk H locs ls hP hD hS hl)
  -- iastore
  · obtain ⟨a, j, x, r, rfl, h2⟩ := am_rii_eq hst
    cases hn (by simp [am_len])
    obtain ⟨t, n1, g, hg, h3⟩ := am_row_eq h2
    obtain ⟨h4, h5⟩ := am_if h3; cases h5
    simp only [Bool.and_eq_true, beq_iff_eq] at h4
    obtain ⟨rfl, h4⟩ := h4
    rw [am_ws_set] at kk
    exact va_iast hx hb hK hP hD hS a 0 (am_ws_at hg) (hTY 0 (by decide)) (am_ok_eq h4) hd (fun H1 locs1 hP1 hD1 hS1 => kk H1 locs1 ls hP1 hD1 hS1 hl)
  -- castore
  · obtain ⟨a, j, x, r, rfl, h2⟩ := am_rii_eq hst
    cases hn (by simp [am_len])
    obtain ⟨t, n1, g, hg, h3⟩ := am_row_eq h2
    obtain ⟨h4, h5⟩ := am_if h3; cases h5
    simp only [Bool.and_eq_true, beq_iff_eq] at h4
    obtain ⟨rfl, h4⟩ := h4
    rw [am_ws_set] at kk
    exact va_cast hx hb hK hP hD hS a 1 (am_ws_at hg) (hTY 1 (by decide)) (am_ok_eq h4) hd (fun H1 locs1 hP1 hD1 hS1 => kk H1 locs1 ls hP1 hD1 hS1 hl)
  -- bastore
  · obtain ⟨a, j, x, r, rfl, h2⟩ := am_rii_eq hst
    cases hn (by simp [am_len])
    obtain ⟨t, n1, g, hg, h3⟩ := am_row_eq h2
    obtain ⟨h4, h5⟩ := am_if h3; cases h5
    simp only [Bool.and_eq_true, Bool.or_eq_true, beq_iff_eq] at h4
    obtain ⟨h6, h4⟩ := h4
    rw [am_ws_set] at kk
    rcases h6 with rfl | rfl
    · exact va_zast hx hb hK hP hD hS a 2 (am_ws_at hg) (hTY 2 (by decide)) (am_ok_eq h4) hd (fun H1 locs1 hP1 hD1 hS1 => kk H1 locs1 ls hP1 hD1 hS1 hl)
    · exact va_bast hx hb hK hP hD hS a 3 (am_ws_at hg) (hTY 3 (by decide)) (am_ok_eq h4) hd (fun H1 locs1 hP1 hD1 hS1 => kk H1 locs1 ls hP1 hD1 hS1 hl)
  -- lastore
  · obtain ⟨a, j, x, r, rfl, h2⟩ := am_ril_eq hst
    cases hn (by simp [am_len])
    obtain ⟨t, n1, g, hg, h3⟩ := am_rowl_eq h2
    obtain ⟨h4, h5⟩ := am_if h3; cases h5
    simp only [Bool.and_eq_true, beq_iff_eq] at h4
    obtain ⟨rfl, h4⟩ := h4
    rw [am_ws_set] at kk
    exact va_last hx hb hK hP hD hS a 4 (am_ws_at hg) (hTY 4 (by decide)) (am_ok_eq h4) hd (fun H1 locs1 hP1 hD1 hS1 => kk H1 locs1 ls hP1 hD1 hS1 hl)
  -- arraylength
  · obtain ⟨a, r, rfl, h2⟩ := am_r1_eq hst
    cases hn (by simp [am_len])
    split at h2
    · next q hq =>
      cases h2
      exact va_tlen hx hb (hRO a q.1 q.2 hq) hS rfl hd (kk H locs ls hP hD hS hl)
    · split at h2
      · next t x hg =>
        obtain ⟨h4, h5⟩ := am_if h2; cases h5
        exact va_alen hx hb hK hP a t (am_ws_at hg) (hTY t (of_decide_eq_true h4)) rfl hd (kk H locs ls hP hD hS hl)
      · cases h2
  · cases hst
end AM1
theorem am_step_len {fl : Nat → Option (Nat × Nat × FieldType × Bool)} {kc : Nat → Option Value} {kl : Nat → Option Int64} {gs : Nat → Option Value} {ro : Nat → Option (Nat × (Nat → Int32))} {ini : Bool} {nL : Nat} {i : Instr} {pc pc' : Nat} {lv lv' : am_L} {st st' : List Value} {h h' : List va_E} (hst : am_step fl kc kl gs ro ini nL i pc lv st h = some (pc', lv', st', h')) : h'.length = h.length := by
  unfold am_step at hst
  split at hst
  all_goals first
    | (cases hst; done)
    | (cases hst; rfl)
    | (obtain ⟨_, _, h2⟩ := am_gi_eq hst; first | (cases h2; rfl) | (obtain ⟨_, h4⟩ := am_if h2; cases h4; rfl))
    | (obtain ⟨_, _, h2⟩ := am_gl_eq hst; cases h2; rfl)
    | (obtain ⟨_, _, h2⟩ := am_gr_eq hst; cases h2; rfl)
    | (obtain ⟨_, _, _, h2⟩ := am_i1_eq hst; first | (cases h2; rfl) | (obtain ⟨_, h4⟩ := am_if h2; first | (cases h4; rfl) | (obtain ⟨_, _, h5⟩ := Option.bind_eq_some_iff.mp h4; cases h5; rfl)) | (obtain ⟨_, _, h4⟩ := Option.bind_eq_some_iff.mp h2; first | (cases h4; rfl) | (obtain ⟨_, h5⟩ := am_if h4; cases h5; rfl)))
    | (obtain ⟨_, _, _, _, h2⟩ := am_i2_eq hst; first | (cases h2; rfl) | (obtain ⟨_, _, h4⟩ := Option.bind_eq_some_iff.mp h2; cases h4; rfl))
    | (obtain ⟨_, _, _, h2⟩ := am_l1_eq hst; first | (cases h2; rfl) | (obtain ⟨_, h4⟩ := am_if h2; cases h4; rfl))
    | (obtain ⟨_, _, _, _, h2⟩ := am_l2_eq hst; cases h2; rfl)
    | (obtain ⟨_, _, _, _, h2⟩ := am_li_eq hst; cases h2; rfl)
    | (obtain ⟨_, _, h2⟩ := Option.bind_eq_some_iff.mp hst; cases h2; rfl)
    | (obtain ⟨_, _, _, h2⟩ := am_r1_eq hst; first | (obtain ⟨_, h4⟩ := am_if h2; cases h4; rfl) | (obtain ⟨_, _, h3⟩ := Option.bind_eq_some_iff.mp h2; obtain ⟨_, _, _, h4⟩ := am_obj_eq h3; obtain ⟨_, h6⟩ := am_if h4; obtain ⟨_, _, h7⟩ := Option.bind_eq_some_iff.mp h6; cases h7; rfl) | (split at h2 <;> first | (cases h2; done) | (cases h2; rfl) | (split at h2 <;> first | (cases h2; done) | (obtain ⟨_, h5⟩ := am_if h2; cases h5; rfl))))
    | (obtain ⟨_, _, _, _, h2⟩ := am_ri_eq hst; first | (obtain ⟨_, _, _, _, h3⟩ := am_row_eq h2; obtain ⟨_, h5⟩ := am_if h3; cases h5; rfl) | (obtain ⟨_, _, _, _, h3⟩ := am_rowl_eq h2; obtain ⟨_, h5⟩ := am_if h3; cases h5; rfl) | (split at h2 <;> first | (obtain ⟨_, h4⟩ := am_if h2; cases h4; rfl) | (obtain ⟨_, _, _, _, h3⟩ := am_row_eq h2; obtain ⟨_, h5⟩ := am_if h3; cases h5; rfl)))
    | (obtain ⟨_, _, _, _, _, h2⟩ := am_rii_eq hst; obtain ⟨_, _, _, _, h3⟩ := am_row_eq h2; obtain ⟨_, h5⟩ := am_if h3; cases h5; exact List.length_set)
    | (obtain ⟨_, _, _, _, _, h2⟩ := am_ril_eq hst; obtain ⟨_, _, _, _, h3⟩ := am_rowl_eq h2; obtain ⟨_, h5⟩ := am_if h3; cases h5; exact List.length_set)
    | (split at hst <;> first | (cases hst; done) | (obtain ⟨_, h4⟩ := am_if hst; cases h4; rfl))
    | (split at hst <;> first | (cases hst; done) | (obtain ⟨_, _, h3⟩ := Option.bind_eq_some_iff.mp hst; obtain ⟨_, _, _, h4⟩ := am_obj_eq h3; obtain ⟨_, h6⟩ := am_if h4; cases h6; exact List.length_set))
end
section
abbrev am_O : Type := Option Value ⊕ Nat
/-- how a run ends: its outcome, the cells, how many cells and slots it made -/
abbrev am_R : Type := am_O × List va_E × Nat × Nat
/-- no place from n on, but for the constants' -/
def am_old (n : Nat) (v : Value) : Bool := match v with
  | .ref i => decide (i < n) || decide (1000 ≤ i)
  | _ => true
def am_oldL (n : Nat) (lv : am_L) (st : List Value) : Bool := lv.all (fun q => am_old n q.2) && st.all (am_old n)
def am_oldE (n : Nat) (e : va_E) : Bool := match e with
  | .inl _ => true
  | .inr o => o.2.all (am_old n)
def am_oldH (n : Nat) (h : List va_E) : Bool := h.all (am_oldE n)
def am_pop (vir : Bool) (n : Nat) (st : List Value) : Option (List Value × List Value) := if decide (n ≤ st.length) = true then (match vir with
  | true => match st.drop n with
    | .ref a :: r => some (.ref a :: (st.take n).reverse, r)
    | _ => none
  | false => some ((st.take n).reverse, st.drop n)) else none
def am_nk (t : ArrayType) : Option Nat := match t with
  | .int => some 0
  | .char => some 1
  | .boolean => some 2
  | .byte => some 3
  | .long => some 4
  | _ => none
def am_zero (t n : Nat) : vp_A := if t = 4 then (n, .inr (.inl fun _ => 0)) else (n, .inl fun _ => 0)
/-- what a call's kind is: 0 virtual, 1 static, 2 a constructor, 3 a nest mate's -/
def am_vir (k : Nat) : Bool := !(k == 1)
/-- the receiver is of the class ci -/
def am_rcv (as : List Value) (h : List va_E) (ci : Nat) : Bool := match as with
  | .ref a :: _ => (match h[a]? with
    | some (.inr o) => o.1 == ci
    | _ => false)
  | _ => false
/-- a method's run: kk steps at most -/
def am_exec (fetch : Nat → Option Instr) (stp : Instr → Nat → am_L → List Value → List va_E → Option am_F) (cal : Instr → Option (Nat × Nat × Nat × Nat)) (oi : Nat → Bool) (nw : Nat → Option (Nat × List Value)) (run : Nat → List Value → List va_E → Option am_R) (thr : Nat → Option Nat) (ret : Option FieldType) (xc xs : Nat) : Nat → Nat → am_L → List Value → List va_E → Option am_R
  | 0, _, _, _, _ => none
  | kk + 1, pc, lv, st, h => match thr pc with
    | some e => if decide ((st.map fun v => v.category).sum ≤ 8) = true then some (.inr e, h, xc, xs) else none
    | none => match fetch pc with
      | none => none
      | some i => match i with
        | .return_ => if (ret.isNone && st.isEmpty) = true then some (.inl none, h, 0, 0) else none
        | .ireturn => match st with
          | [.int x] => match ret with
            | some ty => if decide (narrow ty (.int x) = .int x) = true then some (.inl (some (.int x)), h, 0, 0) else none
            | none => none
          | _ => none
        | .new k => (nw k).bind fun q => if (decide (h.length < 1000) && (am_oldL h.length lv st && am_oldH h.length h)) = true then (am_exec fetch stp cal oi nw run thr ret xc xs kk (pc + 3) lv (.ref h.length :: st) (h ++ [.inr q])).bind fun r => some (r.1, r.2.1, r.2.2.1 + 1, r.2.2.2 + q.2.length) else none
        | .newarray t => am_i1 st fun x r0 => (am_nk t).bind fun t0 => if (decide (¬ x < 0) && (decide (x.toNatClampNeg ≤ 65536) && (decide (h.length < 1000) && (am_oldL h.length lv st && am_oldH h.length h)))) = true then (am_exec fetch stp cal oi nw run thr ret xc xs kk (pc + 2) lv (.ref h.length :: r0) (h ++ [.inl (t0, am_zero t0 x.toNatClampNeg)])).bind fun r => some (r.1, r.2.1, r.2.2.1 + 1, r.2.2.2 + x.toNatClampNeg) else none
        | _ => match (match i with
            | .invokespecial k => oi k
            | _ => false) with
          | true => am_r1 st fun _ r => if decide ((r.map fun v => v.category).sum ≤ 8) = true then am_exec fetch stp cal oi nw run thr ret xc xs kk (pc + 3) lv r h else none
          | false => match cal i with
            | some q => (am_pop (am_vir q.1) q.2.2.1 st).bind fun w => if (decide ((w.2.map fun v => v.category).sum ≤ 8) && ((q.1 != 0) || am_rcv w.1 h q.2.2.2)) = true then (run q.2.1 w.1 h).bind fun r => match r.1 with
                | .inr e => if decide (q.1 < 2) = true then some (.inr e, r.2) else none
                | .inl v => if (decide (h.length ≤ r.2.1.length) && (r.2.2.1 == 0 || am_oldL h.length lv w.2)) = true then (am_exec fetch stp cal oi nw run thr ret xc xs kk (pc + 3) lv (v.toList ++ w.2) r.2.1).bind fun r2 => some (r2.1, r2.2.1, r.2.2.1 + r2.2.2.1, r.2.2.2 + r2.2.2.2) else none
                else none
            | none => (stp i pc lv st h).bind fun q => am_exec fetch stp cal oi nw run thr ret xc xs kk q.1 q.2.1 q.2.2.1 q.2.2.2
theorem am_exec_s (fetch : Nat → Option Instr) (stp : Instr → Nat → am_L → List Value → List va_E → Option am_F) (cal : Instr → Option (Nat × Nat × Nat × Nat)) (oi : Nat → Bool) (nw : Nat → Option (Nat × List Value)) (run : Nat → List Value → List va_E → Option am_R) (thr : Nat → Option Nat) (ret : Option FieldType) (xc xs : Nat) (kk pc : Nat) (lv : am_L) (st : List Value) (h : List va_E) : am_exec fetch stp cal oi nw run thr ret xc xs (kk + 1) pc lv st h = (match thr pc with
    | some e => if decide ((st.map fun v => v.category).sum ≤ 8) = true then some (.inr e, h, xc, xs) else none
    | none => match fetch pc with
      | none => none
      | some i => match i with
        | .return_ => if (ret.isNone && st.isEmpty) = true then some (.inl none, h, 0, 0) else none
        | .ireturn => match st with
          | [.int x] => match ret with
            | some ty => if decide (narrow ty (.int x) = .int x) = true then some (.inl (some (.int x)), h, 0, 0) else none
            | none => none
          | _ => none
        | .new k => (nw k).bind fun q => if (decide (h.length < 1000) && (am_oldL h.length lv st && am_oldH h.length h)) = true then (am_exec fetch stp cal oi nw run thr ret xc xs kk (pc + 3) lv (.ref h.length :: st) (h ++ [.inr q])).bind fun r => some (r.1, r.2.1, r.2.2.1 + 1, r.2.2.2 + q.2.length) else none
        | .newarray t => am_i1 st fun x r0 => (am_nk t).bind fun t0 => if (decide (¬ x < 0) && (decide (x.toNatClampNeg ≤ 65536) && (decide (h.length < 1000) && (am_oldL h.length lv st && am_oldH h.length h)))) = true then (am_exec fetch stp cal oi nw run thr ret xc xs kk (pc + 2) lv (.ref h.length :: r0) (h ++ [.inl (t0, am_zero t0 x.toNatClampNeg)])).bind fun r => some (r.1, r.2.1, r.2.2.1 + 1, r.2.2.2 + x.toNatClampNeg) else none
        | _ => match (match i with
            | .invokespecial k => oi k
            | _ => false) with
          | true => am_r1 st fun _ r => if decide ((r.map fun v => v.category).sum ≤ 8) = true then am_exec fetch stp cal oi nw run thr ret xc xs kk (pc + 3) lv r h else none
          | false => match cal i with
            | some q => (am_pop (am_vir q.1) q.2.2.1 st).bind fun w => if (decide ((w.2.map fun v => v.category).sum ≤ 8) && ((q.1 != 0) || am_rcv w.1 h q.2.2.2)) = true then (run q.2.1 w.1 h).bind fun r => match r.1 with
                | .inr e => if decide (q.1 < 2) = true then some (.inr e, r.2) else none
                | .inl v => if (decide (h.length ≤ r.2.1.length) && (r.2.2.1 == 0 || am_oldL h.length lv w.2)) = true then (am_exec fetch stp cal oi nw run thr ret xc xs kk (pc + 3) lv (v.toList ++ w.2) r.2.1).bind fun r2 => some (r2.1, r2.2.1, r.2.2.1 + r2.2.2.1, r.2.2.2 + r2.2.2.2) else none
                else none
            | none => (stp i pc lv st h).bind fun q => am_exec fetch stp cal oi nw run thr ret xc xs kk q.1 q.2.1 q.2.2.1 q.2.2.2) := rfl
theorem am_tv_old {ad ad' : Nat → Nat} {n : Nat} (ha : ∀ i, (i < n ∨ 1000 ≤ i) → ad' i = ad i) {v : Value} (h : am_old n v = true) : am_tv ad' v = am_tv ad v := by
  cases v with
  | ref i =>
    unfold am_old at h
    rw [Bool.or_eq_true] at h
    show Value.ref (ad' i) = Value.ref (ad i)
    rw [ha i (h.imp of_decide_eq_true of_decide_eq_true)]
  | _ => rfl
theorem am_st_old {ad ad' : Nat → Nat} {n : Nat} (ha : ∀ i, (i < n ∨ 1000 ≤ i) → ad' i = ad i) {st : List Value} (h : st.all (am_old n) = true) : st.map (am_tv ad') = st.map (am_tv ad) := List.map_congr_left fun v hv => am_tv_old ha (List.all_eq_true.mp h v hv)
theorem am_lv_old {ad ad' : Nat → Nat} {n : Nat} (ha : ∀ i, (i < n ∨ 1000 ≤ i) → ad' i = ad i) {lv : am_L} (h : lv.all (fun q => am_old n q.2) = true) : am_lv ad' lv = am_lv ad lv := List.map_congr_left fun q hq => by rw [am_tv_old ha (List.all_eq_true.mp h q hq)]
theorem am_te_old {ad ad' : Nat → Nat} {n : Nat} (ct : Nat → Nat) (ha : ∀ i, (i < n ∨ 1000 ≤ i) → ad' i = ad i) {e : va_E} (h : am_oldE n e = true) : am_te ad' ct e = am_te ad ct e := by
  cases e with
  | inl x => rfl
  | inr o =>
    show Sum.inr (o.1, o.2.map (am_tv ad')) = Sum.inr (o.1, o.2.map (am_tv ad))
    rw [am_st_old ha h]
theorem am_ws_old {ad ad' : Nat → Nat} {n : Nat} (ct : Nat → Nat) (ha : ∀ i, (i < n ∨ 1000 ≤ i) → ad' i = ad i) {h : List va_E} (hn : h.length ≤ n) (ho : am_oldH n h = true) : am_ws ad' ct h = am_ws ad ct h := by
  unfold am_ws
  apply List.mapIdx_eq_mapIdx_iff.mpr
  intro i hi
  rw [ha i (Or.inl (by omega)), am_te_old ct ha (List.all_eq_true.mp ho _ (List.getElem_mem hi))]
end
section
/-- what holds ahead of a run: the cells, the tables, the constants (K0), at the addresses ad -/
def am_Pre (D : va_G) (cl : List vw_C) (ct : Nat → Nat) (tys : List (ClassId × FieldType)) (ak : Nat → Nat) (K0 : (Nat → Prop) → State → Prop) (ad : Nat → Nat) (h : List va_E) (sz : Nat) (as : List Value) : Array Value → State → Prop :=
  va_Pc (as.map (am_tv ad)) (fun U => U.heap.size = sz ∧ va_P D cl (am_ws ad ct h) U.heap ∧ va_K D cl tys U ∧ va_D (fun _ => True) (am_ws ad ct h) ∧ (∀ i, 1000 ≤ i → ad i = ak i) ∧ K0 (va_A (am_ws ad ct h) sz) U)
/-- an outcome as the machine has it; X: what an exception's cell is -/
def am_oc (X : Nat → Nat → State → Prop) (o : am_O) (ad : Nat → Nat) (oc : Outcome) (t : State) : Prop := match o with
  | .inl v => oc = .returned (v.map (am_tv ad))
  | .inr e => ∃ a, oc = .threw a ∧ X e a t
/-- what holds behind it -/
def am_Post (D : va_G) (cl : List vw_C) (ct : Nat → Nat) (tys : List (ClassId × FieldType)) (X : Nat → Nat → State → Prop) (ad : Nat → Nat) (n0 : Nat) (A : Nat → Prop) (o : am_O) (h' : List va_E) (nc : Nat) : Array Value → State → Outcome → State → Prop :=
  fun _ st oc t => ∃ ad' : Nat → Nat, (∀ i, (i < n0 ∨ 1000 ≤ i) → ad' i = ad i) ∧ (nc = 0 → ad' = ad) ∧ am_oc X o ad' oc t ∧ va_P D cl (am_ws ad' ct h') t.heap ∧ va_K D cl tys t ∧ va_D A (am_ws ad' ct h') ∧ va_F A st t
/-- what is asked of the constants' words -/
def am_K0 (K0 : (Nat → Prop) → State → Prop) : Prop := (∀ (A : Nat → Prop) (U : State) (g : JFrame) (mk : MethodId) (a : Array Value), K0 A U → K0 A (U.calling g mk a)) ∧ ∀ (A A' : Nat → Prop) (s U : State), K0 A s → s.WarmedH U.vm → (∀ q, q < s.heap.size → ¬ A q → U.heap[q]? = s.heap[q]?) → (∀ q, A' q → A q) → K0 A' U
/-- no reference -/
def am_nor (v : Value) : Bool := match v with
  | .ref _ => false
  | _ => true
section AM2
variable {p : Program} {l : Launch} {e : Env} {R : Room} {s : State} {m : MethodId} {args : Array Value} {below : List Frame} {meth : Method} {c : Code} {H : Heap} {locs : List Loc} {cells slots : Nat} {Q : State → Prop}
variable {cc : ByteArray} {D : va_G} {cl : List vw_C} {A : Nat → Prop} {tys : List (ClassId × FieldType)} {ad ct ak : Nat → Nat} {Ts : List Jvm.Cond} {own : String} {nL : Nat} {K0 : (Nat → Prop) → State → Prop} {X : Nat → Nat → State → Prop}
theorem am_free {h : List va_E} (hD : va_D A (am_ws ad ct h)) (hS : va_S A s.heap H locs) (hA : ∀ q, s.heap.size ≤ q → A q) : ∀ q, va_A (am_ws ad ct h) H.size q → A q := by
  intro q hq
  rcases hq with ⟨k, e0, hk⟩ | hq
  · exact hD.2 k _ hk
  · exact hA q (Nat.le_trans hS.1 hq)
theorem am_blind {h : List va_E} {sz : Nat} {as : List Value} (h0 : am_K0 K0) : FrameBlind (am_Pre D cl ct tys ak K0 ad h sz as) := by
  intro a U g mk q
  obtain ⟨q0, q1, qP, qK, qD, qa, q6⟩ := q
  exact ⟨q0, q1, qP, va_K.moved (u := U) (U := U.calling g mk a) (Vm.Alike.refl U.vm) qK, qD, qa, h0.1 _ _ _ _ _ q6⟩
theorem am_ahead {h : List va_E} {as : List Value} (h0 : am_K0 K0) (hK : va_K D cl tys s) (hP : va_P D cl (am_ws ad ct h) H) (hD : va_D A (am_ws ad ct h)) (hS : va_S A s.heap H locs) (hA : ∀ q, s.heap.size ≤ q → A q) (hak : ∀ i, 1000 ≤ i → ad i = ak i) (hK0 : K0 A s) {av : Array Value} (hav : av = (as.map (am_tv ad)).toArray) : ∀ U : State, U.heap = H → s.WarmedH U.vm → am_Pre D cl ct tys ak K0 ad h H.size as av U := by
  intro U hU hW
  refine ⟨hav, by rw [hU], by rw [hU]; exact hP, va_K.moved hW.alike hK, hD.weaken (fun _ _ _ _ => trivial), hak, ?_⟩
  exact h0.2 A _ s U hK0 hW (fun q h1 h2 => by rw [hU]; exact hS.2.1 q h1 h2) (am_free hD hS hA)
/-- behind a call that came back -/
theorem am_use {h h' : List va_E} {av : Array Value} {v : Option Value} {nc ns pc : Nat} {ls : Array Slot} {st0 rest : List Value}
    (hr : va_Run p l e R s m args below meth c H locs cells slots nc ns (F0 m pc ls st0) rest (am_Post D cl ct tys X ad h.length (va_A (am_ws ad ct h) H.size) (.inl v) h' nc av) (va_A (am_ws ad ct h) H.size))
    (hD : va_D A (am_ws ad ct h)) (hS : va_S A s.heap H locs) (hA : ∀ q, s.heap.size ≤ q → A q)
    (kk : ∀ (ad' : Nat → Nat) (H1 : Heap) (locs1 : List Loc), (∀ i, (i < h.length ∨ 1000 ≤ i) → ad' i = ad i) → (nc = 0 → ad' = ad) → va_P D cl (am_ws ad' ct h') H1 → va_D A (am_ws ad' ct h') → va_S A s.heap H1 locs1 → W p l e R s m args below meth c H1 locs1 (cells + nc) (slots + ns) Q (F0 m (pc + 3) ls ((v.toList.map (am_tv ad')) ++ rest))) :
    W p l e R s m args below meth c H locs cells slots Q (F0 m pc ls st0) := by
  have hf := am_free hD hS hA
  intro T hT X1
  obtain ⟨v1, st₀, t, T', L, h0, X', hL, e1, e2, ⟨ad', a1, a2, a3, a4, a5, a6, hz, hk⟩, st⟩ := hr T hT X1
  have a3 : Outcome.returned v1 = .returned (v.map (am_tv ad')) := a3
  cases a3
  rw [h0] at hz hk
  have hS1 : va_S A s.heap T'.heap (locs ++ L) := ⟨Nat.le_trans hS.1 (by rw [e1]; exact hz), fun q h1 h2 => by rw [e1, hk q (Nat.lt_of_lt_of_le h1 hS.1) (fun z => h2 (hf q z))]; exact hS.2.1 q h1 h2, fun q hq => by
      rcases List.mem_append.mp hq with h | h
      · exact hS.2.2 q h
      · exact hf _ (hL q h)⟩
  obtain ⟨t2, b1, b2⟩ := kk ad' T'.heap (locs ++ L) a1 a2 (by rw [e1]; exact a4) (a6.weaken (fun k q _ z => hf q.1 z)) hS1 T' rfl X'
  refine ⟨t2, st t2 ?_, b2⟩
  have ev : (v.map (am_tv ad')).toList = v.toList.map (am_tv ad') := by cases v <;> rfl
  rw [ev]
  exact b1
/-- a new object -/
theorem am_new {h : List va_E} (hx : p.tables.exec = Jvm.exec) (hb : c.code = cc) (hts : ∀ w ∈ Ts, w.before args s = true) {C : String} {T : u_T} {N ci index : Nat} (hin : ∀ w ∈ u_ws C T N, w ∈ Ts) (ty : Nat → FieldType) (hty : ∀ k, k < N → parseFieldDescriptor (T k).2.2.1 = some (ty k)) (hown : s.vm.findClass own = some m.cls) (hcl : Jvm.Cond.classLink own index C ∈ Ts) (hinst : Jvm.Cond.instantiable C N ∈ Ts) (hini : Jvm.Cond.initialized C ∈ Ts)
    (hK : va_K D cl tys s) (hP : va_P D cl (am_ws ad ct h) H) (hD : va_D A (am_ws ad ct h)) (hS : va_S A s.heap H locs) (hA : ∀ q, s.heap.size ≤ q → A q) (hc : cl[ci]? = some (C, T, N)) {fs : List Value} (hfs : ∀ j, j < N → defaultValue (ty j) = vp_V fs j) (hfn : ∀ v ∈ fs, am_nor v = true) (hcells : cells + 1 ≤ R.cells) (hslots : slots + N ≤ R.slots) {pc : Nat} {ls : Array Slot} {st : List Value} {lv : am_L} (hdg : decode cc pc = .ok (.new index, 3))
    (hl : lv_has ls nL (am_lv ad lv)) (hlen : h.length < 1000) (ho : am_oldL h.length lv st = true) (ho2 : am_oldH h.length h = true)
    (kk : ∀ (ad' : Nat → Nat) (H1 : Heap), (∀ i, (i < h.length ∨ 1000 ≤ i) → ad' i = ad i) → va_P D cl (am_ws ad' ct (h ++ [.inr (ci, fs)])) H1 → va_D A (am_ws ad' ct (h ++ [.inr (ci, fs)])) → va_S A s.heap H1 locs → lv_has ls nL (am_lv ad' lv) → W p l e R s m args below meth c H1 locs (cells + 1) (slots + N) Q (F0 m (pc + 3) ls ((Value.ref h.length :: st).map (am_tv ad')))) :
    W p l e R s m args below meth c H locs cells slots Q (F0 m pc ls (st.map (am_tv ad))) := by
  refine va_new (fs := fs) hx hb hts hin ty hty hown (hts _ hcl) (hts _ hinst) (hts _ hini) hK hP hD hS hA hc hfs hcells hslots hdg (fun q H1 hP1 hD1 hS1 => ?_)
  let ad' : Nat → Nat := fun i => if i = h.length then q else ad i
  have ha : ∀ i, (i < h.length ∨ 1000 ≤ i) → ad' i = ad i := fun i hi => if_neg (by omega)
  unfold am_oldL at ho
  rw [Bool.and_eq_true] at ho
  have ef : fs.map (am_tv ad') = fs := by
    conv => rhs; rw [← List.map_id fs]
    apply List.map_congr_left
    intro v hv
    have := hfn v hv
    cases v with
    | ref i => cases this
    | _ => rfl
  have ew : am_ws ad' ct (h ++ [.inr (ci, fs)]) = am_ws ad ct h ++ [(q, .inr (ci, fs))] := by
    have e0 : am_ws ad' ct (h ++ [.inr (ci, fs)]) = am_ws ad' ct h ++ [(ad' h.length, am_te ad' ct (.inr (ci, fs)))] := by simp [am_ws, List.mapIdx_append]
    rw [e0, am_ws_old ct ha (Nat.le_refl _) ho2]
    have e1 : ad' h.length = q := if_pos rfl
    rw [e1]
    show _ ++ [(q, Sum.inr (ci, fs.map (am_tv ad')))] = _
    rw [ef]
  have k1 := kk ad' H1 ha (by rw [ew]; exact hP1) (by rw [ew]; exact hD1) hS1 (by rw [am_lv_old ha ho.1]; exact hl)
  have es : (Value.ref h.length :: st).map (am_tv ad') = .ref q :: st.map (am_tv ad) := by
    rw [List.map_cons, am_st_old ha ho.2]
    show Value.ref (ad' h.length) :: _ = _
    rw [show ad' h.length = q from if_pos rfl]
  rw [es] at k1
  exact k1
end AM2
end
section
section AM3
variable {p : Program} {l : Launch} {e : Env} {R : Room} {s : State} {m : MethodId} {args : Array Value} {below : List Frame} {meth : Method} {c : Code} {H : Heap} {locs : List Loc} {cells slots : Nat} {Q : State → Prop}
variable {cc : ByteArray} {D : va_G} {cl : List vw_C} {A : Nat → Prop} {tys : List (ClassId × FieldType)} {ad ct ak : Nat → Nat} {Ts : List Jvm.Cond} {own : String} {nL : Nat} {K0 : (Nat → Prop) → State → Prop} {X : Nat → Nat → State → Prop}
theorem am_nk_ty {t : ArrayType} {t0 : Nat} (h : am_nk t = some t0) : t0 < 5 ∧ am_aty t0 = newarray.typeOf t ∧ componentBytes (newarray.typeOf t) ≤ 8 ∧ (∀ (cA n : Nat), vp_cell cA (am_zero t0 n) = arrV cA n (fun _ => defaultValue (newarray.typeOf t))) ∧ ∀ (U : State) (cA : ClassId), va_RA U cA (am_aty t0) → U.vm.findClass ("[" ++ (newarray.typeOf t).toString) = some cA := by
  cases t <;> cases h <;> exact ⟨by decide, rfl, by decide, fun _ _ => rfl, fun _ _ z => z⟩
/-- a new row -/
theorem am_newa {h : List va_E} (hx : p.tables.exec = Jvm.exec) (hb : c.code = cc) (hts : ∀ w ∈ Ts, w.before args s = true) {t : ArrayType} {t0 : Nat} (ht : am_nk t = some t0) (harr : Jvm.Cond.arrayClass (newarray.typeOf t) ∈ Ts) (hTY : am_TY tys ct)
    (hK : va_K D cl tys s) (hP : va_P D cl (am_ws ad ct h) H) (hD : va_D A (am_ws ad ct h)) (hS : va_S A s.heap H locs) (hA : ∀ q, s.heap.size ≤ q → A q) {x : Int32} (hn : ¬ x < 0) (hN : x.toNatClampNeg ≤ 65536) (hcells : cells + 1 ≤ R.cells) (hslots : slots + x.toNatClampNeg ≤ R.slots) {pc : Nat} {ls : Array Slot} {st : List Value} {lv : am_L} (hdg : decode cc pc = .ok (.newarray t, 2))
    (hl : lv_has ls nL (am_lv ad lv)) (hlen : h.length < 1000) (ho : am_oldL h.length lv st = true) (ho2 : am_oldH h.length h = true)
    (kk : ∀ (ad' : Nat → Nat) (H1 : Heap), (∀ i, (i < h.length ∨ 1000 ≤ i) → ad' i = ad i) → va_P D cl (am_ws ad' ct (h ++ [.inl (t0, am_zero t0 x.toNatClampNeg)])) H1 → va_D A (am_ws ad' ct (h ++ [.inl (t0, am_zero t0 x.toNatClampNeg)])) → va_S A s.heap H1 locs → lv_has ls nL (am_lv ad' lv) → W p l e R s m args below meth c H1 locs (cells + 1) (slots + x.toNatClampNeg) Q (F0 m (pc + 2) ls ((Value.ref h.length :: st).map (am_tv ad')))) :
    W p l e R s m args below meth c H locs cells slots Q (F0 m pc ls ((Value.int x :: st).map (am_tv ad))) := by
  obtain ⟨k1, k2, k3, k4, k5⟩ := am_nk_ty ht
  refine va_newaK hx hb (hts _ harr) (g := F0 m pc ls ((Value.int x :: st).map (am_tv ad))) rfl hdg (rest := st.map (am_tv ad)) rfl hn rfl (Nat.le_trans (Nat.mul_le_mul hN k3) (by decide)) hcells hslots rfl (fun H1 cA e1 z1 o1 hof hfc => ?_)
  have hcA : cA = ct t0 := by
    have h5 := k5 s (ct t0) (hK.2 t0 _ (hTY t0 k1)).2
    exact Option.some.inj (hfc.symm.trans h5)
  subst hcA
  let ad' : Nat → Nat := fun i => if i = h.length then H.size else ad i
  have ha : ∀ i, (i < h.length ∨ 1000 ≤ i) → ad' i = ad i := fun i hi => if_neg (by omega)
  have ea : ad' h.length = H.size := if_pos rfl
  unfold am_oldL at ho
  rw [Bool.and_eq_true] at ho
  have ew : am_ws ad' ct (h ++ [.inl (t0, am_zero t0 x.toNatClampNeg)]) = am_ws ad ct h ++ [(H.size, .inl (ct t0, am_zero t0 x.toNatClampNeg))] := by
    have e0 : am_ws ad' ct (h ++ [.inl (t0, am_zero t0 x.toNatClampNeg)]) = am_ws ad' ct h ++ [(ad' h.length, am_te ad' ct (.inl (t0, am_zero t0 x.toNatClampNeg)))] := by simp [am_ws, List.mapIdx_append]
    rw [e0, am_ws_old ct ha (Nat.le_refl _) ho2, ea]
    rfl
  have hk : ∀ (k : Nat) (y : Nat × va_E), (am_ws ad ct h)[k]? = some y → H1[y.1]? = H[y.1]? := fun k y hy => o1 y.1 ((hP k y hy).lt)
  have hP1 : va_P D cl (am_ws ad ct h ++ [(H.size, .inl (ct t0, am_zero t0 x.toNatClampNeg))]) H1 := by
    refine (hP.kept hk).app (fun k y hy => ?_)
    have hz : k < 1 := (List.getElem?_eq_some_iff.mp hy).1
    rw [show k = 0 by omega] at hy
    cases hy
    show H1[H.size]? = some (vp_cell (ct t0) (am_zero t0 x.toNatClampNeg))
    rw [e1, k4]
  have hD1 : va_D A (am_ws ad ct h ++ [(H.size, .inl (ct t0, am_zero t0 x.toNatClampNeg))]) := hD.push hP rfl (hA _ hS.1)
  have hS1 : va_S A s.heap H1 locs := ⟨Nat.le_trans hS.1 (by omega), fun y h1 h2 => (o1 y (Nat.lt_of_lt_of_le h1 hS.1)).trans (hS.2.1 y h1 h2), hS.2.2⟩
  have kq := kk ad' H1 ha (by rw [ew]; exact hP1) (by rw [ew]; exact hD1) hS1 (by rw [am_lv_old ha ho.1]; exact hl)
  have es : (Value.ref h.length :: st).map (am_tv ad') = .ref H.size :: st.map (am_tv ad) := by
    rw [List.map_cons, am_st_old ha ho.2]
    show Value.ref (ad' h.length) :: _ = _
    rw [ea]
  rw [es] at kq
  exact kq
end AM3
end
section
/-- a method's room at depth d -/
def am_rm (d nc ns : Nat) : Room := { frames := d + 8, cells := nc, slots := ns, locals := d * 40 + 400 }
/-- what is asked of the calls' words; nm, by, mL, rt, wsM: a method's name, bytes, locals, answer, words -/
def am_CT (cal : Instr → Option (Nat × Nat × Nat × Nat)) (own : String) (cl : List vw_C) (Ts : List Jvm.Cond) (s : State) (nm : Nat → MethodName) (bt : Nat → ByteArray) (mL : Nat → Nat) (rt : Nat → Option FieldType) (wsM : Nat → List Jvm.Cond) : Prop := ∀ i q, cal i = some q → (∃ ws', wsM q.2.1 = Jvm.Cond.code (nm q.2.1) (bt q.2.1) (mL q.2.1) (rt q.2.1) :: ws') ∧ mL q.2.1 ≤ 20 ∧ ((nm q.2.1).cls ≠ "java/lang/invoke/MethodHandle" ∧ (nm q.2.1).cls ≠ "java/lang/invoke/VarHandle" ∧ (parseMethodDescriptor (nm q.2.1).desc).map (fun d => d.parameters.length) = some q.2.2.1) ∧
  ((q.1 = 0 ∧ ∃ index C T N, i = .invokevirtual index ∧ cl[q.2.2.2]? = some (C, T, N) ∧ (nm q.2.1).cls = C ∧ GoodIn Ts (wsV own index C (nm q.2.1) (wsM q.2.1))) ∨
   (q.1 = 1 ∧ ∃ index, i = .invokestatic index ∧ GoodIn Ts (va_wsS own index (nm q.2.1) (wsM q.2.1))) ∨
   (q.1 = 2 ∧ ∃ index, i = .invokespecial index ∧ rt q.2.1 = none ∧ GoodIn Ts (wsM q.2.1) ∧ Jvm.Cond.initialized (nm q.2.1).cls ∈ Ts ∧ Jvm.Cond.methodLink own index (nm q.2.1) ∈ Ts ∧ Jvm.Cond.instanceMethod (nm q.2.1) ∈ Ts ∧ (nm q.2.1).name = "<init>") ∨
   (q.1 = 3 ∧ ∃ index host, i = .invokespecial index ∧ rt q.2.1 = none ∧ GoodIn Ts (wsM q.2.1) ∧ Jvm.Cond.initialized (nm q.2.1).cls ∈ Ts ∧ va_Nw (.methodLinkNest own index (nm q.2.1) host) s ∧ Jvm.Cond.instanceMethod (nm q.2.1) ∈ Ts ∧ (nm q.2.1).name = "<init>"))
def am_OI (oi : Nat → Bool) (own : String) (Ts : List Jvm.Cond) : Prop := ∀ k, oi k = true → Jvm.Cond.methodLink own k Lib.objectInit ∈ Ts ∧ Jvm.Cond.instanceMethod Lib.objectInit ∈ Ts ∧ Jvm.Cond.code Lib.objectInit ⟨#[0xb1]⟩ 1 none ∈ Ts
def am_NW (nw : Nat → Option (Nat × List Value)) (own : String) (cl : List vw_C) (Ts : List Jvm.Cond) : Prop := ∀ k q, nw k = some q → ∃ (C : String) (T : u_T) (ty : Nat → FieldType), cl[q.1]? = some (C, T, q.2.length) ∧ (∀ w ∈ u_ws C T q.2.length, w ∈ Ts) ∧ (∀ j, j < q.2.length → parseFieldDescriptor (T j).2.2.1 = some (ty j)) ∧ Jvm.Cond.classLink own k C ∈ Ts ∧ Jvm.Cond.instantiable C q.2.length ∈ Ts ∧ Jvm.Cond.initialized C ∈ Ts ∧ (∀ j, j < q.2.length → defaultValue (ty j) = vp_V q.2 j) ∧ ∀ v ∈ q.2, am_nor v = true
def am_AR (Ts : List Jvm.Cond) : Prop := ∀ t t0, am_nk t = some t0 → Jvm.Cond.arrayClass (newarray.typeOf t) ∈ Ts
theorem am_pop_eq {vir : Bool} {n : Nat} {st : List Value} {w : List Value × List Value} (h : am_pop vir n st = some w) : (vir = true → ∃ a as, w.1 = .ref a :: as ∧ as.length = n ∧ st = as.reverse ++ .ref a :: w.2) ∧ (vir = false → w.1.length = n ∧ st = w.1.reverse ++ w.2) := by
  unfold am_pop at h
  obtain ⟨h1, h2⟩ := am_if h
  have h1 := of_decide_eq_true h1
  cases vir with
  | true =>
    refine ⟨fun _ => ?_, fun q => by cases q⟩
    simp only at h2
    split at h2
    · next a r hd =>
      cases h2
      refine ⟨a, (st.take n).reverse, rfl, by simp; omega, ?_⟩
      rw [List.reverse_reverse, ← hd, List.take_append_drop]
    · cases h2
  | false =>
    refine ⟨fun q => (by cases q), fun _ => ?_⟩
    cases h2
    exact ⟨by simp; omega, by simp⟩
section AM4
variable {p : Program} {l : Launch} {e : Env} {R : Room} {s : State} {m : MethodId} {args : Array Value} {below : List Frame} {meth : Method} {c : Code} {H : Heap} {locs : List Loc} {cells slots : Nat} {Q : State → Prop}
variable {cc : ByteArray} {D : va_G} {cl : List vw_C} {A : Nat → Prop} {tys : List (ClassId × FieldType)} {ad ct ak : Nat → Nat} {Ts : List Jvm.Cond} {own : String} {nL : Nat} {K0 : (Nat → Prop) → State → Prop} {X : Nat → Nat → State → Prop}
variable {cal : Instr → Option (Nat × Nat × Nat × Nat)} {nm : Nat → MethodName} {bt : Nat → ByteArray} {mL : Nat → Nat} {rt : Nat → Option FieldType} {wsM : Nat → List Jvm.Cond}
theorem am_cats (ad : Nat → Nat) (st : List Value) : ((st.map (am_tv ad)).map fun v => v.category).sum = (st.map fun v => v.category).sum := by
  rw [List.map_map]
  congr 1
  apply List.map_congr_left
  intro v _
  exact am_tv_cat ad v
set_option maxHeartbeats 1000000 in
/-- a call that comes back, of any kind -/
theorem am_callR (hx : p.tables.exec = Jvm.exec) (hb : c.code = cc) (hml : c.maxLocals = nL) (hts : ∀ w ∈ Ts, w.before args s = true) (hown : s.vm.findClass own = some m.cls) (hK : va_K D cl tys s) (h0 : am_K0 K0) (hCT : am_CT cal own cl Ts s nm bt mL rt wsM)
    {i : Instr} {q : Nat × Nat × Nat × Nat} (hq : cal i = some q) {d nc ns : Nat} {h h' : List va_E} {st : List Value} {w : List Value × List Value} {v : Option Value} (hw : am_pop (am_vir q.1) q.2.2.1 st = some w) (h8 : (w.2.map fun v => v.category).sum ≤ 8)
    (hrc : q.1 = 0 → am_rcv w.1 h q.2.2.2 = true)
    (hM : Met l (nm q.2.1) (wsM q.2.1) (am_rm d nc ns) (am_Pre D cl ct tys ak K0 ad h H.size w.1) (am_Post D cl ct tys X ad h.length (va_A (am_ws ad ct h) H.size) (.inl v) h' nc) nc ns (va_A (am_ws ad ct h) H.size))
    (hR : d + 9 ≤ R.frames ∧ (d + 1) * 40 + 400 ≤ R.locals) (hc : cells + nc ≤ R.cells) (hs : slots + ns ≤ R.slots) {pc : Nat} {ls : Array Slot} (hd : decode cc pc = .ok (i, 3)) (hls : ls.size = nL)
    (hP : va_P D cl (am_ws ad ct h) H) (hD : va_D A (am_ws ad ct h)) (hS : va_S A s.heap H locs) (hA : ∀ q, s.heap.size ≤ q → A q) (hak : ∀ i, 1000 ≤ i → ad i = ak i) (hK0 : K0 A s)
    (kk : ∀ (ad' : Nat → Nat) (H1 : Heap) (locs1 : List Loc), (∀ i, (i < h.length ∨ 1000 ≤ i) → ad' i = ad i) → (nc = 0 → ad' = ad) → va_P D cl (am_ws ad' ct h') H1 → va_D A (am_ws ad' ct h') → va_S A s.heap H1 locs1 → W p l e R s m args below meth c H1 locs1 (cells + nc) (slots + ns) Q (F0 m (pc + 3) ls ((v.toList.map (am_tv ad')) ++ w.2.map (am_tv ad)))) :
    W p l e R s m args below meth c H locs cells slots Q (F0 m pc ls (st.map (am_tv ad))) := by
  obtain ⟨⟨ws', hws⟩, hm20, hd3, hkind⟩ := hCT i q hq
  obtain ⟨hp1, hp2⟩ := am_pop_eq hw
  have hR2 : (am_rm d nc ns).frames + 1 ≤ R.frames ∧ 8 + (mL q.2.1 + 11) + (am_rm d nc ns).locals ≤ R.locals := by
    refine ⟨by show d + 8 + 1 ≤ _; omega, ?_⟩
    show 8 + (mL q.2.1 + 11) + (d * 40 + 400) ≤ _
    omega
  have hroom : ∀ (pc : Nat) (ls : Array Slot) (rest : List Value), 2 * (F0 m pc ls rest).monitorRoom + ((w.2.map (am_tv ad)).map fun v => v.category).sum ≤ 8 := fun pc ls rest => lv_room (by rw [am_cats]; exact h8)
  rcases hkind with ⟨k0, index, C, T, N, rfl, hcl, hC, hG⟩ | ⟨k1, index, rfl, hG⟩ | ⟨k2, index, rfl, hrt, hG, hini, hml2, hin, hy1⟩ | ⟨k3, index, host, rfl, hrt, hG, hini, hnw, hin, hy1⟩
  · obtain ⟨a, as, ew, el, est⟩ := hp1 (by rw [k0]; rfl)
    have hrc := hrc k0
    rw [ew] at hrc
    unfold am_rcv at hrc
    simp only at hrc
    split at hrc
    · next o ho =>
      have ho2 : o.1 = q.2.2.2 := by simpa using hrc
      have hav : (Value.ref (ad a) :: as.map (am_tv ad)).toArray = (w.1.map (am_tv ad)).toArray := by rw [ew]; rfl
      refine am_use (X := X) (rest := w.2.map (am_tv ad)) (va_runV (As := as.map (am_tv ad)) (b := ad a) ⟨hx, hb, hml, hown, hts⟩ hM (cwV q.2.2.1 hts hG hws rfl rfl ⟨hC, hd3⟩ hR2) ⟨am_blind h0, ?_, am_ahead h0 hK hP hD hS hA hak hK0 hav⟩ rfl (by rw [List.length_map]; exact el) hls ?_ (hroom _ _ _) hd ⟨hc, hs⟩) hD hS hA kk
      · have hat := am_ws_at (ad := ad) (ct := ct) ho
        have e1 : am_te ad ct (.inr o) = .inr (q.2.2.2, o.2.map (am_tv ad)) := by rw [← ho2]; rfl
        rw [e1] at hat
        exact va_recv hK hP hcl hat
      · show st.map (am_tv ad) = _
        rw [est, List.map_append, List.map_reverse]
        rfl
    · cases hrc
  · obtain ⟨el, est⟩ := hp2 (by rw [k1]; rfl)
    refine am_use (X := X) (rest := w.2.map (am_tv ad)) (va_runS (As := w.1.map (am_tv ad)) ⟨hx, hb, hml, hown, hts⟩ hM (va_cwS q.2.2.1 hts hG hws rfl rfl hd3 hR2) ⟨am_blind h0, am_ahead h0 hK hP hD hS hA hak hK0 rfl⟩ rfl (by rw [List.length_map]; exact el) hls ?_ (hroom _ _ _) hd ⟨hc, hs⟩) hD hS hA kk
    show st.map (am_tv ad) = _
    rw [est, List.map_append, List.map_reverse]
  · obtain ⟨a, as, ew, el, est⟩ := hp1 (by rw [k2]; rfl)
    have hav : (Value.ref (ad a) :: as.map (am_tv ad)).toArray = (w.1.map (am_tv ad)).toArray := by rw [ew]; rfl
    rw [hrt] at hws
    refine am_use (X := X) (rest := w.2.map (am_tv ad)) (va_runI (As := as.map (am_tv ad)) (b := ad a) ⟨hx, hb, hml, hown, hts⟩ hM (cwI q.2.2.1 hts hG hws rfl rfl (hts _ hini) (hts _ hml2) (hts _ hin) hy1 hd3 hR2) ⟨am_blind h0, am_ahead h0 hK hP hD hS hA hak hK0 hav⟩ rfl (by rw [List.length_map]; exact el) hls ?_ (hroom _ _ _) hd ⟨hc, hs⟩) hD hS hA kk
    show st.map (am_tv ad) = _
    rw [est, List.map_append, List.map_reverse]
    rfl
  · obtain ⟨a, as, ew, el, est⟩ := hp1 (by rw [k3]; rfl)
    have hav : (Value.ref (ad a) :: as.map (am_tv ad)).toArray = (w.1.map (am_tv ad)).toArray := by rw [ew]; rfl
    rw [hrt] at hws
    refine am_use (X := X) (rest := w.2.map (am_tv ad)) (va_runIN (As := as.map (am_tv ad)) (b := ad a) ⟨hx, hb, hml, hown, hts⟩ hM ⟨va_cnB q.2.2.1 hts hG hws rfl rfl hnw (hts _ hini) hd3 hR2, hy1, hts _ hin⟩ ⟨am_blind h0, am_ahead h0 hK hP hD hS hA hak hK0 hav⟩ rfl (by rw [List.length_map]; exact el) hls ?_ (hroom _ _ _) hd ⟨hc, hs⟩) hD hS hA kk
    show st.map (am_tv ad) = _
    rw [est, List.map_append, List.map_reverse]
    rfl
end AM4
end
section
section AM5
variable {p : Program} {l : Launch} {e : Env} {R : Room} {s : State} {m : MethodId} {args : Array Value} {below : List Frame} {meth : Method} {c : Code}
variable {cc : ByteArray} {D : va_G} {cl : List vw_C} {A : Nat → Prop} {tys : List (ClassId × FieldType)} {ct ak : Nat → Nat} {Ts : List Jvm.Cond} {own : String} {nL : Nat} {K0 : (Nat → Prop) → State → Prop} {X : Nat → Nat → State → Prop}
variable {cal : Instr → Option (Nat × Nat × Nat × Nat)} {nm : Nat → MethodName} {bt : Nat → ByteArray} {mL : Nat → Nat} {rt : Nat → Option FieldType} {wsM : Nat → List Jvm.Cond}
variable {fl : Nat → Option (Nat × Nat × FieldType × Bool)} {kc : Nat → Option Value} {kl : Nat → Option Int64} {gs : Nat → Option Value} {ro : Nat → Option (Nat × (Nat → Int32))} {ini : Bool}
variable {fetch : Nat → Option Instr} {oi : Nat → Bool} {nw : Nat → Option (Nat × List Value)} {run : Nat → List Value → List va_E → Option am_R} {thr : Nat → Option Nat} {ret : Option FieldType} {xc xs d : Nat}
/-- what one method's run stands on -/
def am_M (p : Program) (l : Launch) (s : State) (m : MethodId) (args : Array Value) (meth : Method) (c : Code) (R : Room) (cc : ByteArray) (D : va_G) (cl : List vw_C) (A : Nat → Prop) (tys : List (ClassId × FieldType)) (ct ak : Nat → Nat) (Ts : List Jvm.Cond) (own : String) (nL : Nat) (K0 : (Nat → Prop) → State → Prop) (cal : Instr → Option (Nat × Nat × Nat × Nat)) (nm : Nat → MethodName) (bt : Nat → ByteArray) (mL : Nat → Nat) (rt : Nat → Option FieldType) (wsM : Nat → List Jvm.Cond) (fl : Nat → Option (Nat × Nat × FieldType × Bool)) (kc : Nat → Option Value) (kl : Nat → Option Int64) (gs : Nat → Option Value) (ro : Nat → Option (Nat × (Nat → Int32))) (ini : Bool) (fetch : Nat → Option Instr) (oi : Nat → Bool) (nw : Nat → Option (Nat × List Value)) (ret : Option FieldType) (d : Nat) : Prop :=
  p.tables.exec = Jvm.exec ∧ c.code = cc ∧ c.maxLocals = nL ∧ (∀ w ∈ Ts, w.before args s = true) ∧ s.vm.findClass own = some m.cls ∧ meth.locks = false ∧ meth.sig.returnType = ret ∧ va_K D cl tys s ∧ am_K0 K0 ∧ K0 A s ∧ (∀ q, s.heap.size ≤ q → A q) ∧
  am_FL fl own cl Ts ∧ (∀ ad : Nat → Nat, (∀ i, 1000 ≤ i → ad i = ak i) → am_KC kc own ad Ts s ∧ am_GS gs own ad A Ts s ∧ am_RO ro ad A s) ∧ am_KL kl own Ts ∧ am_TY tys ct ∧ (ini = true → meth.name = "<init>") ∧ am_CT cal own cl Ts s nm bt mL rt wsM ∧ am_OI oi own Ts ∧ am_NW nw own cl Ts ∧ am_AR Ts ∧
  (∀ pc i, fetch pc = some i → ∃ n, decode cc pc = .ok (i, n) ∧ (am_len i ≠ 0 → n = am_len i)) ∧ d + 9 ≤ R.frames ∧ (d + 1) * 40 + 400 ≤ R.locals
set_option maxHeartbeats 4000000 in
set_option maxRecDepth 20000 in
/-- A RUN THAT COMES BACK -/
theorem am_exec_R (hm : am_M p l s m args meth c R cc D cl A tys ct ak Ts own nL K0 cal nm bt mL rt wsM fl kc kl gs ro ini fetch oi nw ret d)
    (hrun : ∀ y as h v h' nc ns, run y as h = some (.inl v, h', nc, ns) → ∀ (ad : Nat → Nat) (sz : Nat), Met l (nm y) (wsM y) (am_rm d nc ns) (am_Pre D cl ct tys ak K0 ad h sz as) (am_Post D cl ct tys X ad h.length (va_A (am_ws ad ct h) sz) (.inl v) h' nc) nc ns (va_A (am_ws ad ct h) sz))
    {ad0 : Nat → Nat} {n0 NC NS : Nat} (hNC : NC ≤ R.cells) (hNS : NS ≤ R.slots) {v : Option Value} {h' : List va_E} :
    ∀ (kk : Nat) (pc : Nat) (lv : am_L) (st : List Value) (h : List va_E) (nc ns : Nat), am_exec fetch (am_step fl kc kl gs ro ini nL) cal oi nw run thr ret xc xs kk pc lv st h = some (.inl v, h', nc, ns) →
    ∀ (ad : Nat → Nat) (H : Heap) (locs : List Loc) (cells slots : Nat) (ls : Array Slot), cells + nc = NC → slots + ns = NS → va_P D cl (am_ws ad ct h) H → va_D A (am_ws ad ct h) → va_S A s.heap H locs → lv_has ls nL (am_lv ad lv) → (∀ i, 1000 ≤ i → ad i = ak i) → (∀ i, (i < n0 ∨ 1000 ≤ i) → ad i = ad0 i) → n0 ≤ h.length → (cells = 0 → ad = ad0) →
    W p l e R s m args below meth c H locs cells slots (MQ below (am_Post D cl ct tys X ad0 n0 A (.inl v) h' NC) args s NC NS A) (F0 m pc ls (st.map (am_tv ad))) := by
  obtain ⟨hx, hb, hml, hts, hown, hlocks, hret, hK, h0, hK0, hA, hFL, hKGR, hKL, hTY, hin, hCT, hOI, hNW, hAR, hfe, hRf, hRl⟩ := hm
  intro kk
  induction kk with
  | zero => intro pc lv st h nc ns hex; cases hex
  | succ kk ih =>
    intro pc lv st h nc ns hex ad H locs cells slots ls hcn hsn hP hD hS hl hak hag hn0 hc0
    obtain ⟨hKC, hGS, hRO⟩ := hKGR ad hak
    rw [am_exec_s] at hex
    split at hex
    · exact absurd (am_if hex).2 (fun z => by cases z)
    · split at hex
      · cases hex
      · next i hi =>
        have hdec := hfe pc i hi
        split at hex
        · -- return
          obtain ⟨h1, h2⟩ := am_if hex
          cases h2
          rw [Bool.and_eq_true] at h1
          obtain ⟨n, hd, hn⟩ := hdec
          cases hn (by simp [am_len])
          have hst : st = [] := List.isEmpty_iff.mp h1.2
          have hrn : ret = none := Option.isNone_iff_eq_none.mp h1.1
          subst hst
          have e1 : cells = NC := by omega
          have e2 : slots = NS := by omega
          subst e1; subst e2
          exact W.vret hx hb (hret.trans hrn) (fun t ht hW => ⟨ad, hag, hc0, rfl, by rw [ht]; exact hP, va_K.moved hW.alike hK, hD, hS.F ht⟩) hS.2.2 hd hlocks
        · -- ireturn
          split at hex
          · next x =>
            split at hex
            · next ty =>
              obtain ⟨h1, h2⟩ := am_if hex
              cases h2
              obtain ⟨n, hd, hn⟩ := hdec
              cases hn (by simp [am_len])
              have e1 : cells = NC := by omega
              have e2 : slots = NS := by omega
              subst e1; subst e2
              exact W.zret hx hb hret (of_decide_eq_true h1) (fun t ht hW => ⟨ad, hag, hc0, rfl, by rw [ht]; exact hP, va_K.moved hW.alike hK, hD, hS.F ht⟩) hS.2.2 hd hlocks
            · cases hex
          · cases hex
        · -- new
          next k =>
          obtain ⟨q, hq, h2⟩ := Option.bind_eq_some_iff.mp hex
          obtain ⟨h3, h4⟩ := am_if h2
          obtain ⟨r, hr, h5⟩ := Option.bind_eq_some_iff.mp h4
          obtain ⟨r1, r2, r3, r4⟩ := r
          cases h5
          dsimp only at hcn hsn
          simp only [Bool.and_eq_true, decide_eq_true_eq] at h3
          obtain ⟨n, hd, hn⟩ := hdec
          cases hn (by simp [am_len])
          obtain ⟨C, T, ty, g1, g2, g3, g4, g5, g6, g7, g8⟩ := hNW k q hq
          refine am_new (nL := nL) hx hb hts g2 ty g3 hown g4 g5 g6 hK hP hD hS hA g1 g7 g8 (by omega) (by omega) hd hl h3.1 h3.2.1 h3.2.2 (fun ad' H1 ha hP1 hD1 hS1 hl1 => ?_)
          exact ih (pc + 3) lv (.ref h.length :: st) (h ++ [.inr q]) r3 r4 hr ad' H1 locs (cells + 1) (slots + q.2.length) ls (by omega) (by omega) hP1 hD1 hS1 hl1 (fun i hi => (ha i (Or.inr hi)).trans (hak i hi)) (fun i hi => (ha i (hi.imp (fun z => Nat.lt_of_lt_of_le z hn0) id)).trans (hag i hi)) (by simp; omega) (fun z => absurd z (by omega))
        · -- newarray
          next t =>
          obtain ⟨x, r0, rfl, h1⟩ := am_i1_eq hex
          obtain ⟨t0, ht0, h2⟩ := Option.bind_eq_some_iff.mp h1
          obtain ⟨h3, h4⟩ := am_if h2
          obtain ⟨r, hr, h5⟩ := Option.bind_eq_some_iff.mp h4
          obtain ⟨r1, r2, r3, r4⟩ := r
          cases h5
          dsimp only at hcn hsn
          simp only [Bool.and_eq_true, decide_eq_true_eq] at h3
          obtain ⟨n, hd, hn⟩ := hdec
          cases hn (by simp [am_len])
          have hol : am_oldL h.length lv r0 = true := by
            have := h3.2.2.2.1
            unfold am_oldL at this ⊢
            rw [Bool.and_eq_true] at this ⊢
            exact ⟨this.1, (by have := this.2; rw [List.all_cons, Bool.and_eq_true] at this; exact this.2)⟩
          refine am_newa (nL := nL) hx hb hts ht0 (hAR t t0 ht0) hTY hK hP hD hS hA h3.1 h3.2.1 (by omega) (by omega) hd hl h3.2.2.1 hol h3.2.2.2.2 (fun ad' H1 ha hP1 hD1 hS1 hl1 => ?_)
          exact ih (pc + 2) lv (.ref h.length :: r0) _ r3 r4 hr ad' H1 locs (cells + 1) (slots + x.toNatClampNeg) ls (by omega) (by omega) hP1 hD1 hS1 hl1 (fun i hi => (ha i (Or.inr hi)).trans (hak i hi)) (fun i hi => (ha i (hi.imp (fun z => Nat.lt_of_lt_of_le z hn0) id)).trans (hag i hi)) (by simp; omega) (fun z => absurd z (by omega))
        · -- the rest
          split at hex
          · -- Object.<init>
            next hoi =>
            split at hoi
            · next k =>
              obtain ⟨a, r, rfl, h1⟩ := am_r1_eq hex
              obtain ⟨h2, h3⟩ := am_if h1
              obtain ⟨n, hd, hn⟩ := hdec
              cases hn (by simp [am_len])
              obtain ⟨o1, o2, o3⟩ := hOI _ hoi
              refine W.objInit hx hb hown (hts _ o1) (hts _ o2) (hts _ o3) (g := F0 m pc ls ((Value.ref a :: r).map (am_tv ad))) rfl (hl.1.trans hml.symm) rfl hd (by omega) ?_ (ih (pc + 3) lv r h nc ns h3 ad H locs cells slots ls hcn hsn hP hD hS hl hak hag hn0 hc0)
              have h8 := of_decide_eq_true h2
              have := lv_room (m := m) (pc := pc) (ls := ls) (rest := (Value.ref a :: r).map (am_tv ad)) (st := r.map (am_tv ad)) (by rw [am_cats]; exact h8)
              omega
            · cases hoi
          · split at hex
            · -- a call
              next q hq =>
              obtain ⟨w, hw, h1⟩ := Option.bind_eq_some_iff.mp hex
              obtain ⟨h2, h3⟩ := am_if h1
              obtain ⟨r, hr, h4⟩ := Option.bind_eq_some_iff.mp h3
              obtain ⟨r1, r2, r3, r4⟩ := r
              simp only at h4
              split at h4
              · exact absurd (am_if h4).2 (fun z => by cases z)
              · next v1 =>
                obtain ⟨h5, h6⟩ := am_if h4
                obtain ⟨rr, hrr, h7⟩ := Option.bind_eq_some_iff.mp h6
                obtain ⟨s1, s2, s3, s4⟩ := rr
                cases h7
                dsimp only at hcn hsn
                simp only [Bool.and_eq_true, decide_eq_true_eq] at h2 h5
                have hd3 : decode cc pc = .ok (i, 3) := by
                  obtain ⟨n, hd, hn⟩ := hdec
                  have : am_len i = 3 := by
                    rcases (hCT i q hq).2.2.2 with ⟨-, _, _, _, _, rfl, -⟩ | ⟨-, _, rfl, -⟩ | ⟨-, _, rfl, -⟩ | ⟨-, _, _, rfl, -⟩ <;> rfl
                  rw [hd, hn (by rw [this]; decide), this]
                refine am_callR (nL := nL) (X := X) hx hb hml hts hown hK h0 hCT hq hw h2.1 (fun k0 => ?_) (hrun _ _ _ _ _ _ _ hr ad H.size) ⟨hRf, hRl⟩ (by omega) (by omega) hd3 hl.1 hP hD hS hA hak hK0 (fun ad' H1 locs1 ha hz hP1 hD1 hS1 => ?_)
                · have := h2.2
                  rw [k0] at this
                  simpa using this
                · have hlv : am_lv ad' lv = am_lv ad lv ∧ w.2.map (am_tv ad') = w.2.map (am_tv ad) := by
                    have h52 := h5.2
                    rw [Bool.or_eq_true] at h52
                    rcases h52 with z | z
                    · have z : r3 = 0 := by simpa using z
                      rw [hz z]
                      exact ⟨rfl, rfl⟩
                    · unfold am_oldL at z
                      rw [Bool.and_eq_true] at z
                      exact ⟨am_lv_old ha z.1, am_st_old ha z.2⟩
                  have k1 := ih (pc + 3) lv (v1.toList ++ w.2) r2 s3 s4 hrr ad' H1 locs1 (cells + r3) (slots + r4) ls (by omega) (by omega) hP1 hD1 hS1 (by rw [hlv.1]; exact hl) (fun i hi => (ha i (Or.inr hi)).trans (hak i hi)) (fun i hi => (ha i (hi.imp (fun z => Nat.lt_of_lt_of_le z hn0) id)).trans (hag i hi)) (Nat.le_trans hn0 h5.1) (fun z => by
                    have z1 : cells = 0 := by omega
                    have z2 : r3 = 0 := by omega
                    rw [hz z2, hc0 z1])
                  rw [List.map_append, hlv.2] at k1
                  exact k1
            · -- a step
              obtain ⟨q, hq, h1⟩ := Option.bind_eq_some_iff.mp hex
              obtain ⟨q1, q2, q3, q4⟩ := q
              refine am_step_ok hx hb hts hown hK hFL hKC hKL hGS hRO hTY hin hq hdec hP hD hS hl (fun H1 locs1 ls1 hP1 hD1 hS1 hl1 => ?_)
              exact ih q1 q2 q3 q4 nc ns h1 ad H1 locs1 cells slots ls1 hcn hsn hP1 hD1 hS1 hl1 hak hag (by rw [am_step_len hq]; exact hn0) hc0
end AM5
end
section
theorem am_args_lv (ad : Nat → Nat) : ∀ (as : List Value) (n : Nat), am_lv ad (lv_args n as) = lv_args n (as.map (am_tv ad)) := by
  intro as
  induction as with
  | nil => intro n; rfl
  | cons v r ih =>
    intro n
    simp only [lv_args, List.map_cons, am_tv_cat]
    rw [← ih]
    rfl
theorem am_sl_len (vs : List Value) : (lg_sl vs).length = (vs.map fun v => v.category).sum := by
  induction vs with
  | nil => rfl
  | cons v r ih =>
    have e : lg_sl (v :: r) = (if v.category = 2 then [Slot.val v, Slot.second] else [Slot.val v]) ++ lg_sl r := rfl
    rw [e, List.length_append, ih, List.map_cons, List.sum_cons]
    rcases lv_cat v with h | h <;> rw [h] <;> rfl
/-- the machine over all methods: d calls deep -/
def am_run (cls mL : Nat → Nat) (rt : Nat → Option FieldType) (ini : Nat → Bool) (ftc : Nat → Nat → Option Instr) (fl : Nat → Nat → Option (Nat × Nat × FieldType × Bool)) (kc : Nat → Nat → Option Value) (kl : Nat → Nat → Option Int64) (gs : Nat → Nat → Option Value) (ro : Nat → Option (Nat × (Nat → Int32))) (cal : Nat → Instr → Option (Nat × Nat × Nat × Nat)) (oi : Nat → Nat → Bool) (nw : Nat → Nat → Option (Nat × List Value)) (thr : Nat → Nat → Option Nat) (xc xs fuel : Nat) : Nat → Nat → List Value → List va_E → Option am_R
  | 0, _, _, _ => none
  | d + 1, y, as, h => if decide ((as.map fun v => v.category).sum ≤ mL y) = true then am_exec (ftc y) (am_step (fl (cls y)) (kc (cls y)) (kl (cls y)) (gs (cls y)) ro (ini y) (mL y)) (cal (cls y)) (oi (cls y)) (nw (cls y)) (am_run cls mL rt ini ftc fl kc kl gs ro cal oi nw thr xc xs fuel d) (thr y) (rt y) xc xs fuel 0 (lv_args 0 as) [] h else none
section AM6
variable {l : Launch} {D : va_G} {cl : List vw_C} {tys : List (ClassId × FieldType)} {ct ak : Nat → Nat} {K0 : (Nat → Prop) → State → Prop} {X : Nat → Nat → State → Prop}
variable {nm : Nat → MethodName} {bt : Nat → ByteArray} {wsM : Nat → List Jvm.Cond}
variable {cls mL : Nat → Nat} {rt : Nat → Option FieldType} {ini : Nat → Bool} {ftc : Nat → Nat → Option Instr} {fl : Nat → Nat → Option (Nat × Nat × FieldType × Bool)} {kc : Nat → Nat → Option Value} {kl : Nat → Nat → Option Int64} {gs : Nat → Nat → Option Value} {ro : Nat → Option (Nat × (Nat → Int32))} {cal : Nat → Instr → Option (Nat × Nat × Nat × Nat)} {oi : Nat → Nat → Bool} {nw : Nat → Nat → Option (Nat × List Value)} {thr : Nat → Nat → Option Nat} {xc xs fuel : Nat}
/-- what the tables of all methods stand on: ok y says that y is a method -/
def am_G (ok : Nat → Prop) (cl : List vw_C) (tys : List (ClassId × FieldType)) (ct ak : Nat → Nat) (K0 : (Nat → Prop) → State → Prop) (nm : Nat → MethodName) (bt : Nat → ByteArray) (wsM : Nat → List Jvm.Cond) (cls mL : Nat → Nat) (rt : Nat → Option FieldType) (ini : Nat → Bool) (ftc : Nat → Nat → Option Instr) (fl : Nat → Nat → Option (Nat × Nat × FieldType × Bool)) (kc : Nat → Nat → Option Value) (kl : Nat → Nat → Option Int64) (gs : Nat → Nat → Option Value) (ro : Nat → Option (Nat × (Nat → Int32))) (cal : Nat → Instr → Option (Nat × Nat × Nat × Nat)) (oi : Nat → Nat → Bool) (nw : Nat → Nat → Option (Nat × List Value)) : Prop :=
  am_K0 K0 ∧ am_TY tys ct ∧ (∀ y pc i, ftc y pc = some i → ok y) ∧ ∀ y, ok y → (∃ ws', wsM y = Jvm.Cond.code (nm y) (bt y) (mL y) (rt y) :: ws') ∧ plainName (nm y).cls = true ∧ (ini y = true → (nm y).name = "<init>") ∧ am_FL (fl (cls y)) (nm y).cls cl (wsM y) ∧ am_KL (kl (cls y)) (nm y).cls (wsM y) ∧ am_OI (oi (cls y)) (nm y).cls (wsM y) ∧ am_NW (nw (cls y)) (nm y).cls cl (wsM y) ∧ am_AR (wsM y) ∧ (∀ pc i, ftc y pc = some i → ∃ n, decode (bt y) pc = .ok (i, n) ∧ (am_len i ≠ 0 → n = am_len i)) ∧
    ∀ (A : Nat → Prop) (s : State) (args : Array Value), K0 A s → (∀ w ∈ wsM y, w.before args s = true) → am_CT (cal (cls y)) (nm y).cls cl (wsM y) s nm bt mL rt wsM ∧ ∀ ad : Nat → Nat, (∀ i, 1000 ≤ i → ad i = ak i) → am_KC (kc (cls y)) (nm y).cls ad (wsM y) s ∧ am_GS (gs (cls y)) (nm y).cls ad A (wsM y) s ∧ am_RO ro ad A s
theorem am_exec_pos {fetch : Nat → Option Instr} {stp : Instr → Nat → am_L → List Value → List va_E → Option am_F} {cal : Instr → Option (Nat × Nat × Nat × Nat)} {oi : Nat → Bool} {nw : Nat → Option (Nat × List Value)} {run : Nat → List Value → List va_E → Option am_R} {thr : Nat → Option Nat} {ret : Option FieldType} {xc xs kk pc : Nat} {lv : am_L} {st : List Value} {h : List va_E} {v : Option Value} {z : List va_E × Nat × Nat} (hex : am_exec fetch stp cal oi nw run thr ret xc xs kk pc lv st h = some (.inl v, z)) : ∃ i, fetch pc = some i := by
  cases kk with
  | zero => cases hex
  | succ kk =>
    rw [am_exec_s] at hex
    split at hex
    · exact absurd (am_if hex).2 (fun z => by cases z)
    · split at hex
      · cases hex
      · next i hi => exact ⟨i, hi⟩
set_option maxHeartbeats 1000000 in
/-- EVERY METHOD MEETS ITS RUN (one that comes back) -/
theorem am_run_R {ok : Nat → Prop} (hG : am_G ok cl tys ct ak K0 nm bt wsM cls mL rt ini ftc fl kc kl gs ro cal oi nw) : ∀ (d y : Nat) (as : List Value) (h : List va_E) (v : Option Value) (h' : List va_E) (nc ns : Nat), am_run cls mL rt ini ftc fl kc kl gs ro cal oi nw thr xc xs fuel d y as h = some (.inl v, h', nc, ns) → ∀ (ad : Nat → Nat) (sz : Nat), Met l (nm y) (wsM y) (am_rm d nc ns) (am_Pre D cl ct tys ak K0 ad h sz as) (am_Post D cl ct tys X ad h.length (va_A (am_ws ad ct h) sz) (.inl v) h' nc) nc ns (va_A (am_ws ad ct h) sz) := by
  obtain ⟨h0, hTY, hok, hall⟩ := hG
  intro d
  induction d with
  | zero => intro y as h v h' nc ns hr; cases hr
  | succ d ih =>
    intro y as h v h' nc ns hr ad sz
    obtain ⟨hw, hex⟩ := am_if hr
    have hw := of_decide_eq_true hw
    obtain ⟨i0, hi0⟩ := am_exec_pos hex
    obtain ⟨⟨ws', hws⟩, hpl, hini, hFL, hKL, hOI, hNW, hAR, hfe, hdyn⟩ := hall y (hok y 0 i0 hi0)
    refine Met.ofW (cc := bt y) (maxL := mL y) (ret := rt y) hpl hws ?_
    intro p e s m args below meth c s₁ B hml hv
    obtain ⟨rfl, hsz, hP, hK, hD0, hak, hK0⟩ := hv
    have hts := atoms_spec (ws := wsM y) B.pre
    subst hsz
    have hD := hD0.self (sz := s.heap.size)
    obtain ⟨hCT, hKGR⟩ := hdyn _ s _ hK0 hts
    have hl := lv_entry (as.map (am_tv ad)) (n := mL y) (by rw [am_sl_len, am_cats]; exact hw)
    rw [lg_entry_eq]
    generalize (lg_sl (as.map (am_tv ad)) ++ List.replicate (mL y - (lg_sl (as.map (am_tv ad))).length) Slot.unset).toArray = ls at hl ⊢
    rw [← am_args_lv] at hl
    have hm : am_M p l s m (as.map (am_tv ad)).toArray meth c (am_rm (d + 1) nc ns) (bt y) D cl (va_A (am_ws ad ct h) s.heap.size) tys ct ak (wsM y) (nm y).cls (mL y) K0 (cal (cls y)) nm bt mL rt wsM (fl (cls y)) (kc (cls y)) (kl (cls y)) (gs (cls y)) ro (ini y) (ftc y) (oi (cls y)) (nw (cls y)) (rt y) d :=
      ⟨B.exec, B.bytes, hml, hts, findClass_of_methodNamed B.named, B.notSynchronized, B.returns, hK, h0, hK0, fun q hq => Or.inr hq, hFL, hKGR, hKL, hTY, fun z => (name_of_methodNamed B.named B.method).1.trans (hini z), hCT, hOI, hNW, hAR, hfe, by show d + 9 ≤ d + 1 + 8; omega, Nat.le_refl _⟩
    exact am_exec_R (X := X) (thr := thr y) (xc := xc) (xs := xs) (run := am_run cls mL rt ini ftc fl kc kl gs ro cal oi nw thr xc xs fuel d) hm ih (ad0 := ad) (n0 := h.length) (NC := nc) (NS := ns) (Nat.le_refl _) (Nat.le_refl _) fuel 0 (lv_args 0 as) [] h nc ns hex ad s.heap [] 0 0 ls (by omega) (by omega) hP hD va_S.rf hl hak (fun _ _ => rfl) (Nat.le_refl _) (fun _ => rfl)
end AM6
end
section
/-! ===== methods that throw ===== -/
def am_FT (first : State) (o : Outcome) (t : State) (L : List Loc) (k n : Nat) : Prop := (∃ x, o = .threw x) ∧ first.WarmedH t.vm ∧ first.sameButNew ({ t with vm := first.vm } : State) L k n
/-- a contract of a method that throws -/
def am_MT (l : Launch) (y : MethodName) (ws : List Jvm.Cond) (rm : Room) (Pc : Array Value → State → Prop) (Qc : Array Value → State → Outcome → State → Prop) (mc ms : Nat) (free : Addr → Prop) : Prop :=
  MetFree l y (headSpec ws rm) Pc (fun _ _ _ _ _ => True) (fun a st o t => Qc a st o t ∧ ∃ L, am_FT st o t L mc ms ∧ ∀ q ∈ L, free q.base)
def am_MQT (below : List Frame) (Qc : Array Value → State → Outcome → State → Prop) (a : Array Value) (s : State) (mc ms : Nat) (free : Addr → Prop) : State → Prop := fun t =>
  ∃ o, t.status = .running ∧ Ended t below o ∧ Qc a s o t ∧ ∃ L, am_FT s o t L mc ms ∧ ∀ q ∈ L, free q.base
theorem am_MT.ofW {l : Launch} {y : MethodName} {ws ws' : List Jvm.Cond} {rm : Room} {Pc : Array Value → State → Prop} {Qc : Array Value → State → Outcome → State → Prop} {mc ms : Nat} {free : Addr → Prop} {cc : ByteArray} {maxL : Nat} {ret : Option FieldType}
    (hy : plainName y.cls = true) (hw : ws = Jvm.Cond.code y cc maxL ret :: ws')
    (body : ∀ p e s m args below meth c s₁, BodyLoose p l y (headSpec ws rm) cc maxL ret e s m args below meth c s₁ → c.maxLocals = maxL → Pc args s →
      W p l e (headSpec ws rm).room s m args below meth c s.heap [] 0 0 (am_MQT below Qc args s mc ms free) (entryFrame m args maxL)) : am_MT l y ws rm Pc Qc mc ms free := by
  refine MetFree.of_bodyS (code := cc) (maxLocals := maxL) (ret := ret) hy ?_ ?_
  · intro args s m h hn
    obtain ⟨meth, c, h1, h2, h3, h4, h5, h6, -, -⟩ := Cond.code_spec hn (atoms_spec (ws := ws) h _ (by rw [hw]; exact List.mem_cons_self))
    exact ⟨meth, c, h1, h2, h3, h4, h5, h6⟩
  · intro p e s m args below meth c s₁ B hml hP _
    have hh0 : s₁.heap = s.heap := by rw [B.state]; rfl
    obtain ⟨t, a1, o, b1, b2, b3⟩ := body p e s m args below meth c s₁ B hml hP s₁ hh0 (Stand.of_body B)
    exact ⟨t, o, a1, b1, b2, ⟨b3.1, b3.2⟩⟩
section AM7
variable {p : Program} {l : Launch} {e : Env} {R : Room} {s : State} {m : MethodId} {args : Array Value} {below : List Frame} {meth : Method} {c : Code} {T : State} {locs : List Loc} {cells slots : Nat}
/-- the call is on its way: the callee throws, the frame leaves -/
theorem am_backT {y : MethodName} {ws : List Jvm.Cond} {rm : Room} {Pc : Array Value → State → Prop} {Qc : Array Value → State → Outcome → State → Prop} {mc ms : Nat} {free : Addr → Prop} {bytes : ByteArray} {maxL : Nat} {ret : Option FieldType}
    (hM : am_MT l y ws rm Pc Qc mc ms free) (hbl : FrameBlind Pc) (hrc : rm.cells = mc) (hrs : rm.slots = ms) (hframes : rm.frames + 1 ≤ R.frames) (hlocals : 8 + (maxL + 11) + rm.locals ≤ R.locals)
    (hws : ∀ w ∈ ws, ∀ (a' : Array Value) (U : State), s.WarmedH U.vm → w.before a' U = true) (hcode : Jvm.Cond.code y bytes maxL ret ∈ ws) (hini : ∀ (a' : Array Value) (U : State), s.WarmedH U.vm → (Jvm.Cond.initialized y.cls).before a' U = true)
    (X : Stand p l e R s m args below meth c T locs cells slots) {g : JFrame} {ig : Instr} {len : Nat} {mk : MethodId} {a : Array Value} (hg : g.method = m) (hsize : g.locals.size = c.maxLocals) (hdg : decode c.code g.pc = .ok (ig, len)) (hW : 2 * g.monitorRoom + (g.stack.map fun v => v.category).sum ≤ 8) (hn : T.methodNamed? y = some mk) (hc : cells + mc ≤ R.cells) (hs : slots + ms ≤ R.slots) (hP : Pc a T) :
    ∃ (x : Addr) (st₀ t T' : State) (L : List Loc), st₀.heap = T.heap ∧ Stand p l e R s m args below meth c T' (locs ++ L) (cells + mc) (slots + ms) ∧ (∀ q ∈ L, free q.base) ∧ T'.heap = t.heap ∧ T'.vm = t.vm ∧ Qc a st₀ (.threw x) t ∧ Steps p.tables e below (doInvoke e (T.setTop g) [] mk a).1 ((T'.setTop g).pushFrame (.throwing x)) := by
  have h2 := hws _ hcode a T X.warmed
  obtain ⟨methY, cY, hmY, hcY, -, hlY, -, -, -, -⟩ := Cond.code_spec hn h2
  obtain ⟨kY, hkY, -⟩ := className_of_methodNamed hn
  have hinitY : kY.init = .initialized := Cond.initialized_spec (findClass_of_methodNamed hn) hkY (hini a T X.warmed)
  have h : At T g.method c below := by rw [hg]; exact X.here
  have happ : (headSpec ws rm).appliesLoose y e.platform (T.calling g mk a) = true :=
    Spec.appliesLoose_calling (g := g) h hdg hn hkY hinitY
      (X.room_calling (g := g) (R' := (headSpec ws rm).room) hsize hmY hcY hframes (by rw [hlY]; show _ + rm.locals ≤ _; omega) (by show cells + rm.cells ≤ _; omega) (by show slots + rm.slots ≤ _; omega)) (atoms_intro fun w hw => hws w hw _ _ X.warmed)
  obtain ⟨mid, hmid⟩ := h.above
  have hfr : (T.setTop g).frames = (.java g :: mid) ++ below := by rw [State.frames_setTop' g h.top, hmid]; rfl
  obtain ⟨o, s₂, hsteps, -, hend, hq, L, hft, hL⟩ := Steps.callFree hM p X.admits X.cas X.clock (acts := []) hfr happ (hbl a T g mk hP) trivial
  rw [State.frames_setTop' g h.top] at hend
  obtain ⟨⟨x, rfl⟩, hW₂, hsame⟩ := hft
  rw [X.tail] at hend
  obtain ⟨T', X', -, -, ht⟩ := X.outOfThrown hg (mk := mk) (a := a) hend hW₂ hsame
  refine ⟨x, T.calling g mk a, s₂, T', L, rfl, X', hL, by rw [ht]; rfl, by rw [ht]; rfl, hq, ?_⟩
  rw [← ht]
  exact hsteps
end AM7
end
section
section AM8
variable {p : Program} {l : Launch} {e : Env} {R : Room} {s : State} {m : MethodId} {args : Array Value} {below : List Frame} {meth : Method} {c : Code} {H : Heap} {locs : List Loc} {cells slots : Nat}
variable {cc : ByteArray} {D : va_G} {cl : List vw_C} {A : Nat → Prop} {tys : List (ClassId × FieldType)} {ad ct ak : Nat → Nat} {Ts : List Jvm.Cond} {own : String} {nL : Nat} {K0 : (Nat → Prop) → State → Prop} {X : Nat → Nat → State → Prop}
variable {cal : Instr → Option (Nat × Nat × Nat × Nat)} {nm : Nat → MethodName} {bt : Nat → ByteArray} {mL : Nat → Nat} {rt : Nat → Option FieldType} {wsM : Nat → List Jvm.Cond}
/-- what is asked of X: it looks at the cells and the tables alone -/
def am_XO (X : Nat → Nat → State → Prop) : Prop := ∀ (e a : Nat) (t u : State), t.heap = u.heap → t.vm = u.vm → X e a t → X e a u
theorem am_endT (hX : am_XO X) {h h' : List va_E} {ad0 : Nat → Nat} {n0 nc ns NC NS ex : Nat} {st₀ t T' : State} {x : Addr} {L : List Loc} {g : JFrame} {av : Array Value} (hlocks : meth.locks = false) (hnh : c.exceptionTable.isEmpty = true)
    (X' : Stand p l e R s m args below meth c T' (locs ++ L) (cells + nc) (slots + ns)) (hh : st₀.heap = H) (hL : ∀ q ∈ L, va_A (am_ws ad ct h) H.size q.base) (e1 : T'.heap = t.heap) (e2 : T'.vm = t.vm)
    (hq : am_Post D cl ct tys X ad h.length (va_A (am_ws ad ct h) H.size) (.inr ex) h' nc av st₀ (.threw x) t) (hD : va_D A (am_ws ad ct h)) (hS : va_S A s.heap H locs) (hA : ∀ q, s.heap.size ≤ q → A q) (hg : g.method = m) (hgl : g.locked = none) (hge : g.entered = [])
    (hcn : cells + nc = NC) (hsn : slots + ns = NS) (hag : ∀ i, (i < n0 ∨ 1000 ≤ i) → ad i = ad0 i) (hn0 : n0 ≤ h.length) (hc0 : cells = 0 → ad = ad0) {T0 : State} (hst : Steps p.tables e below T0 ((T'.setTop g).pushFrame (.throwing x))) :
    ∃ tf, Steps p.tables e below T0 tf ∧ am_MQT below (am_Post D cl ct tys X ad0 n0 A (.inr ex) h' NC) args s NC NS A tf := by
  have hf := am_free hD hS hA
  obtain ⟨ad', a1, a2, ⟨x1, ex1, a3⟩, a4, a5, a6, hz, hk⟩ := hq
  cases ex1
  rw [hh] at hz hk
  have hS1 : va_S A s.heap T'.heap (locs ++ L) := ⟨Nat.le_trans hS.1 (by rw [e1]; exact hz), fun q h1 h2 => by rw [e1, hk q (Nat.lt_of_lt_of_le h1 hS.1) (fun z => h2 (hf q z))]; exact hS.2.1 q h1 h2, fun q hq => by
      rcases List.mem_append.mp hq with h | h
      · exact hS.2.2 q h
      · exact hf _ (hL q h)⟩
  obtain ⟨w1, w2, w3, w4, w5⟩ := X'.leaveThrown x hg hgl hge (by
    intro z hz
    rw [Array.isEmpty_iff] at hnh
    rw [hnh] at hz
    cases hz) hlocks
  subst hcn; subst hsn
  refine ⟨_, hst.trans w1, .threw x, w2, w3, ⟨ad', fun i hi => (a1 i (hi.imp (fun z => Nat.lt_of_lt_of_le z hn0) id)).trans (hag i hi), fun z => ?_, ⟨x, rfl, hX ex x t _ e1.symm e2.symm a3⟩, ?_, ?_, a6.weaken (fun k q _ z => hf q.1 z), hS1.F rfl⟩, locs ++ L, ⟨⟨x, rfl⟩, w4, w5⟩, hS1.2.2⟩
  · have z1 : cells = 0 := by omega
    have z2 : nc = 0 := by omega
    rw [a2 z2, hc0 z1]
  · show va_P D cl (am_ws ad' ct h') T'.heap
    rw [e1]
    exact a4
  · refine va_K.moved (u := t) ?_ a5
    show t.vm.Alike T'.vm
    rw [e2]
    exact Vm.Alike.refl _
set_option maxHeartbeats 1000000 in
/-- a call whose method throws -/
theorem am_callT (hX : am_XO X) (hx : p.tables.exec = Jvm.exec) (hb : c.code = cc) (hml : c.maxLocals = nL) (hlocks : meth.locks = false) (hnh : c.exceptionTable.isEmpty = true) (hts : ∀ w ∈ Ts, w.before args s = true) (hown : s.vm.findClass own = some m.cls) (hK : va_K D cl tys s) (h0 : am_K0 K0) (hCT : am_CT cal own cl Ts s nm bt mL rt wsM)
    {i : Instr} {q : Nat × Nat × Nat × Nat} (hq : cal i = some q) (hq2 : q.1 < 2) {d nc ns NC NS ex n0 : Nat} {ad0 : Nat → Nat} {h h' : List va_E} {st : List Value} {w : List Value × List Value} (hw : am_pop (am_vir q.1) q.2.2.1 st = some w) (h8 : (w.2.map fun v => v.category).sum ≤ 8)
    (hrc : q.1 = 0 → am_rcv w.1 h q.2.2.2 = true)
    (hM : am_MT l (nm q.2.1) (wsM q.2.1) (am_rm d nc ns) (am_Pre D cl ct tys ak K0 ad h H.size w.1) (am_Post D cl ct tys X ad h.length (va_A (am_ws ad ct h) H.size) (.inr ex) h' nc) nc ns (va_A (am_ws ad ct h) H.size))
    (hR : d + 9 ≤ R.frames ∧ (d + 1) * 40 + 400 ≤ R.locals) (hc : cells + nc ≤ R.cells) (hs : slots + ns ≤ R.slots) {pc : Nat} {ls : Array Slot} (hd : decode cc pc = .ok (i, 3)) (hls : ls.size = nL)
    (hP : va_P D cl (am_ws ad ct h) H) (hD : va_D A (am_ws ad ct h)) (hS : va_S A s.heap H locs) (hA : ∀ q, s.heap.size ≤ q → A q) (hak : ∀ i, 1000 ≤ i → ad i = ak i) (hK0 : K0 A s)
    (hcn : cells + nc = NC) (hsn : slots + ns = NS) (hag : ∀ i, (i < n0 ∨ 1000 ≤ i) → ad i = ad0 i) (hn0 : n0 ≤ h.length) (hc0 : cells = 0 → ad = ad0) :
    W p l e R s m args below meth c H locs cells slots (am_MQT below (am_Post D cl ct tys X ad0 n0 A (.inr ex) h' NC) args s NC NS A) (F0 m pc ls (st.map (am_tv ad))) := by
  obtain ⟨⟨ws', hws⟩, hm20, hd3, hkind⟩ := hCT i q hq
  obtain ⟨hp1, hp2⟩ := am_pop_eq hw
  have hR2 : (am_rm d nc ns).frames + 1 ≤ R.frames ∧ 8 + (mL q.2.1 + 11) + (am_rm d nc ns).locals ≤ R.locals := by
    refine ⟨by show d + 8 + 1 ≤ _; omega, ?_⟩
    show 8 + (mL q.2.1 + 11) + (d * 40 + 400) ≤ _
    omega
  have hroom : ∀ (pc : Nat) (ls : Array Slot) (rest : List Value), 2 * (F0 m pc ls rest).monitorRoom + ((w.2.map (am_tv ad)).map fun v => v.category).sum ≤ 8 := fun pc ls rest => lv_room (by rw [am_cats]; exact h8)
  intro T hT X1
  rcases hkind with ⟨k0, index, C, T1, N, rfl, hcl, hC, hG⟩ | ⟨k1, index, rfl, hG⟩ | ⟨k2, -⟩ | ⟨k3, -⟩
  · obtain ⟨a, as, ew, el, est⟩ := hp1 (by rw [k0]; rfl)
    have hrc := hrc k0
    rw [ew] at hrc
    unfold am_rcv at hrc
    simp only at hrc
    split at hrc
    · next o ho =>
      have ho2 : o.1 = q.2.2.2 := by simpa using hrc
      have hav : (Value.ref (ad a) :: as.map (am_tv ad)).toArray = (w.1.map (am_tv ad)).toArray := by rw [ew]; rfl
      have hat := am_ws_at (ad := ad) (ct := ct) ho
      have e1 : am_te ad ct (.inr o) = .inr (q.2.2.2, o.2.map (am_tv ad)) := by rw [← ho2]; rfl
      rw [e1] at hat
      obtain ⟨cellB, hcell, hobj, hcls⟩ := va_recv hK hP hcl hat
      obtain ⟨⟨c1, c2, c3, c4, c5, c6, c7, c8, hy, hlen, hlink⟩, hinst, hsel⟩ := cwV (R := R) (rm := am_rm d nc ns) (mc := nc) (ms := ns) q.2.2.1 hts hG hws rfl rfl ⟨hC, hd3⟩ hR2
      obtain ⟨mk, methM, hnamed, hmethM, hstM, habM⟩ := Cond.instanceMethod_spec hinst
      obtain ⟨methM', cM, hmethM', -, -, -, -, -, -, hsigM⟩ := Cond.code_spec hnamed c7
      cases hmethM.symm.trans hmethM'
      obtain ⟨z1, z2, z3, q1, q2, q3, q4, kP, hkP, hkPi⟩ := Cond.selects_spec hsel
      cases hcls.symm.trans q1
      cases (State.methodFound?_of_named hnamed hy).symm.trans q2
      cases hnamed.symm.trans q3
      have hselP : selectMethod e.platform s.vm cellB.cls mk = .method mk := by rw [Launch.admits_selectMethod X1.admits]; exact q4
      obtain ⟨vm₁, X₁, hstep₁⟩ := X1.invokevirtual hx hown hlink hnamed hmethM hstM hkP hkPi hy (a := ad a) (cell := cellB) (by rw [hT]; exact hcell)
        (fun z h => by rw [h] at hobj; cases hobj) hselP hmethM habM hkP hkPi (g := F0 m pc ls (st.map (am_tv ad))) rfl (argsL := as.map (am_tv ad)) (rest := w.2.map (am_tv ad)) (by rw [List.length_map, el]; exact hlen _ hsigM) (by show st.map (am_tv ad) = _; rw [est, List.map_append, List.map_reverse]; rfl) (by rw [hb]; exact hd)
      obtain ⟨x, st₀, t, T', L, r1, X', r2, r3, r4, r5, r6⟩ := am_backT hM (am_blind h0) c1 c2 c3 c4 c5 c6 (fun a' U hW => word_at hW (Or.inl (by first | rfl | simp [Cond.onTables, Cond.keeps, Cond.steady])) c8) X₁ (g := { F0 m pc ls (st.map (am_tv ad)) with stack := w.2.map (am_tv ad) }) (mk := mk) (a := (Value.ref (ad a) :: as.map (am_tv ad)).toArray) rfl (hls.trans hml.symm) (by rw [hb]; exact hd) (hroom _ _ _) (X₁.named hnamed) hc hs (am_ahead h0 hK hP hD hS hA hak hK0 hav _ hT X₁.warmed)
      exact am_endT hX hlocks hnh X' (r1.trans hT) r2 r3 r4 r5 hD hS hA rfl rfl rfl hcn hsn hag hn0 hc0 (hstep₁ _ fun acts => by rw [doInvoke_state]; exact r6)
    · cases hrc
  · obtain ⟨el, est⟩ := hp2 (by rw [k1]; rfl)
    obtain ⟨⟨c1, c2, c3, c4, c5, c6, c7, c8, hy, hlen, hlink⟩, hstat⟩ := va_cwS (R := R) (rm := am_rm d nc ns) (mc := nc) (ms := ns) q.2.2.1 hts hG hws rfl rfl hd3 hR2
    obtain ⟨mk, hnamed⟩ := Cond.code_named c7
    obtain ⟨methM, cM, hmethM, -, -, -, -, -, -, hsigM⟩ := Cond.code_spec hnamed c7
    have hstatic : methM.isStatic = true := Cond.static_spec hnamed hmethM hstat
    obtain ⟨kP, hkP, -⟩ := className_of_methodNamed hnamed
    have hinitP : kP.init = .initialized := Cond.initialized_spec (findClass_of_methodNamed hnamed) hkP c8
    obtain ⟨vm₁, X₁, hstep₁⟩ := X1.invokestatic hx hown hlink hnamed hmethM hstatic hkP hinitP hy (g := F0 m pc ls (st.map (am_tv ad))) rfl (argsL := w.1.map (am_tv ad)) (rest := w.2.map (am_tv ad)) (by rw [List.length_map, el]; exact hlen _ hsigM) (by show st.map (am_tv ad) = _; rw [est, List.map_append, List.map_reverse]) (by rw [hb]; exact hd)
    obtain ⟨x, st₀, t, T', L, r1, X', r2, r3, r4, r5, r6⟩ := am_backT hM (am_blind h0) c1 c2 c3 c4 c5 c6 (fun a' U hW => word_at hW (Or.inl (by first | rfl | simp [Cond.onTables, Cond.keeps, Cond.steady])) c8) X₁ (g := { F0 m pc ls (st.map (am_tv ad)) with stack := w.2.map (am_tv ad) }) (mk := mk) (a := (w.1.map (am_tv ad)).toArray) rfl (hls.trans hml.symm) (by rw [hb]; exact hd) (hroom _ _ _) (X₁.named hnamed) hc hs (am_ahead h0 hK hP hD hS hA hak hK0 rfl _ hT X₁.warmed)
    exact am_endT hX hlocks hnh X' (r1.trans hT) r2 r3 r4 r5 hD hS hA rfl rfl rfl hcn hsn hag hn0 hc0 (hstep₁ _ fun acts => by rw [doInvoke_state]; exact r6)
  · omega
  · omega
end AM8
end
section
/-! ===== TABLES, printed by wip/gen/gen.py out of the Statement ===== -/
def am_T0 : u_T := fun k => match k with
  | 0 => ("ScriptFront", "tape", "LScriptFront$Tape;", true)
  | 1 => ("ScriptFront", "flaw", "LScriptFront$Flaw;", true)
  | 2 => ("ScriptFront", "draft", "LScriptFront$Draft;", true)
  | 3 => ("ScriptFront", "parser", "LScriptFront$Parser;", true)
  | 4 => ("ScriptFront", "judge", "LScriptFront$Judge;", true)
  | 5 => ("ScriptFront", "printer", "LScriptFront$Printer;", true)
  | 6 => ("ScriptFront", "tree", "LScriptFront$Tree;", false)
  | _ => ("ScriptFront", "spare", "LScriptFront$Tree;", false)
def am_y0 : Nat → FieldType := fun k => match k with
  | 0 => .object "ScriptFront$Tape"
  | 1 => .object "ScriptFront$Flaw"
  | 2 => .object "ScriptFront$Draft"
  | 3 => .object "ScriptFront$Parser"
  | 4 => .object "ScriptFront$Judge"
  | 5 => .object "ScriptFront$Printer"
  | 6 => .object "ScriptFront$Tree"
  | _ => .object "ScriptFront$Tree"
def am_T1 : u_T := fun k => match k with
  | 0 => ("ScriptFront$Tape", "chars", "[C", true)
  | 1 => ("ScriptFront$Tape", "typed", "I", false)
  | _ => ("ScriptFront$Tape", "length", "I", false)
def am_y1 : Nat → FieldType := fun k => match k with
  | 0 => .array (.char)
  | 1 => .int
  | _ => .int
def am_T2 : u_T := fun k => match k with
  | 0 => ("ScriptFront$Flaw", "number", "I", false)
  | 1 => ("ScriptFront$Flaw", "place", "I", false)
  | _ => ("ScriptFront$Flaw", "semicolons", "I", false)
def am_y2 : Nat → FieldType := fun k => match k with
  | 0 => .int
  | 1 => .int
  | _ => .int
def am_T3 : u_T := fun k => match k with
  | 0 => ("ScriptFront$Draft", "flaw", "LScriptFront$Flaw;", true)
  | 1 => ("ScriptFront$Draft", "kind", "[I", true)
  | 2 => ("ScriptFront$Draft", "place", "[I", true)
  | 3 => ("ScriptFront$Draft", "length", "[I", true)
  | 4 => ("ScriptFront$Draft", "sign", "[I", true)
  | 5 => ("ScriptFront$Draft", "first", "[I", true)
  | 6 => ("ScriptFront$Draft", "last", "[I", true)
  | 7 => ("ScriptFront$Draft", "next", "[I", true)
  | 8 => ("ScriptFront$Draft", "up", "[I", true)
  | 9 => ("ScriptFront$Draft", "order", "[I", true)
  | _ => ("ScriptFront$Draft", "count", "I", false)
def am_y3 : Nat → FieldType := fun k => match k with
  | 0 => .object "ScriptFront$Flaw"
  | 1 => .array (.int)
  | 2 => .array (.int)
  | 3 => .array (.int)
  | 4 => .array (.int)
  | 5 => .array (.int)
  | 6 => .array (.int)
  | 7 => .array (.int)
  | 8 => .array (.int)
  | 9 => .array (.int)
  | _ => .int
def am_T4 : u_T := fun k => match k with
  | 0 => ("ScriptFront$Parser", "scanner", "LScriptFront$Scanner;", true)
  | 1 => ("ScriptFront$Parser", "draft", "LScriptFront$Draft;", true)
  | 2 => ("ScriptFront$Parser", "flaw", "LScriptFront$Flaw;", true)
  | 3 => ("ScriptFront$Parser", "waiting", "[I", true)
  | 4 => ("ScriptFront$Parser", "waitingStrength", "[I", true)
  | 5 => ("ScriptFront$Parser", "waitingCount", "I", false)
  | 6 => ("ScriptFront$Parser", "bare", "Z", false)
  | _ => ("ScriptFront$Parser", "semicolons", "I", false)
def am_y4 : Nat → FieldType := fun k => match k with
  | 0 => .object "ScriptFront$Scanner"
  | 1 => .object "ScriptFront$Draft"
  | 2 => .object "ScriptFront$Flaw"
  | 3 => .array (.int)
  | 4 => .array (.int)
  | 5 => .int
  | 6 => .boolean
  | _ => .int
def am_T5 : u_T := fun k => match k with
  | 0 => ("ScriptFront$Scanner", "tape", "LScriptFront$Tape;", true)
  | 1 => ("ScriptFront$Scanner", "flaw", "LScriptFront$Flaw;", true)
  | 2 => ("ScriptFront$Scanner", "lineSeen", "Z", false)
  | 3 => ("ScriptFront$Scanner", "kind", "I", false)
  | 4 => ("ScriptFront$Scanner", "code", "I", false)
  | 5 => ("ScriptFront$Scanner", "start", "I", false)
  | 6 => ("ScriptFront$Scanner", "end", "I", false)
  | _ => ("ScriptFront$Scanner", "lineAhead", "Z", false)
def am_y5 : Nat → FieldType := fun k => match k with
  | 0 => .object "ScriptFront$Tape"
  | 1 => .object "ScriptFront$Flaw"
  | 2 => .boolean
  | 3 => .int
  | 4 => .int
  | 5 => .int
  | 6 => .int
  | _ => .boolean
def am_T6 : u_T := fun k => match k with
  | 0 => ("ScriptFront$Tree", "kind", "[I", true)
  | 1 => ("ScriptFront$Tree", "place", "[I", true)
  | 2 => ("ScriptFront$Tree", "length", "[I", true)
  | 3 => ("ScriptFront$Tree", "sign", "[I", true)
  | 4 => ("ScriptFront$Tree", "parent", "[I", true)
  | 5 => ("ScriptFront$Tree", "rank", "[I", true)
  | 6 => ("ScriptFront$Tree", "children", "[I", true)
  | 7 => ("ScriptFront$Tree", "strict", "[Z", true)
  | _ => ("ScriptFront$Tree", "size", "I", false)
def am_y6 : Nat → FieldType := fun k => match k with
  | 0 => .array (.int)
  | 1 => .array (.int)
  | 2 => .array (.int)
  | 3 => .array (.int)
  | 4 => .array (.int)
  | 5 => .array (.int)
  | 6 => .array (.int)
  | 7 => .array (.boolean)
  | _ => .int
def am_T7 : u_T := fun k => match k with
  | 0 => ("ScriptFront$Judge", "tape", "LScriptFront$Tape;", true)
  | 1 => ("ScriptFront$Judge", "flaw", "LScriptFront$Flaw;", true)
  | _ => ("ScriptFront$Judge", "tree", "LScriptFront$Tree;", false)
def am_y7 : Nat → FieldType := fun k => match k with
  | 0 => .object "ScriptFront$Tape"
  | 1 => .object "ScriptFront$Flaw"
  | _ => .object "ScriptFront$Tree"
def am_T8 : u_T := fun k => match k with
  | 0 => ("ScriptFront$Printer", "tape", "LScriptFront$Tape;", true)
  | 1 => ("ScriptFront$Printer", "chars", "[C", true)
  | 2 => ("ScriptFront$Printer", "brackets", "[Z", true)
  | 3 => ("ScriptFront$Printer", "heading", "[Z", true)
  | 4 => ("ScriptFront$Printer", "tree", "LScriptFront$Tree;", false)
  | 5 => ("ScriptFront$Printer", "loose", "Z", false)
  | _ => ("ScriptFront$Printer", "length", "I", false)
def am_y8 : Nat → FieldType := fun k => match k with
  | 0 => .object "ScriptFront$Tape"
  | 1 => .array (.char)
  | 2 => .array (.boolean)
  | 3 => .array (.boolean)
  | 4 => .object "ScriptFront$Tree"
  | 5 => .boolean
  | _ => .int
def am_T9 : u_T := fun k => match k with
  | 0 => ("ScriptFrontModel", "words", "[J", true)
  | 1 => ("ScriptFrontModel", "pairs", "[I", true)
  | 2 => ("ScriptFrontModel", "singles", "[I", true)
  | 3 => ("ScriptFrontModel", "thrown", "I", false)
  | 4 => ("ScriptFrontModel", "tape", "[B", true)
  | 5 => ("ScriptFrontModel", "text", "[B", true)
  | 6 => ("ScriptFrontModel", "taped", "I", false)
  | 7 => ("ScriptFrontModel", "size", "I", false)
  | 8 => ("ScriptFrontModel", "fault", "I", false)
  | 9 => ("ScriptFrontModel", "faultPlace", "I", false)
  | 10 => ("ScriptFrontModel", "put", "I", false)
  | 11 => ("ScriptFrontModel", "token", "I", false)
  | 12 => ("ScriptFrontModel", "from", "I", false)
  | 13 => ("ScriptFrontModel", "to", "I", false)
  | 14 => ("ScriptFrontModel", "at", "I", false)
  | 15 => ("ScriptFrontModel", "line", "Z", false)
  | 16 => ("ScriptFrontModel", "read", "Z", false)
  | 17 => ("ScriptFrontModel", "forOperand", "Z", false)
  | 18 => ("ScriptFrontModel", "nodes", "I", false)
  | 19 => ("ScriptFrontModel", "kind", "[I", true)
  | 20 => ("ScriptFrontModel", "place", "[I", true)
  | 21 => ("ScriptFrontModel", "length", "[I", true)
  | 22 => ("ScriptFrontModel", "first", "[I", true)
  | 23 => ("ScriptFrontModel", "next", "[I", true)
  | 24 => ("ScriptFrontModel", "parent", "[I", true)
  | 25 => ("ScriptFrontModel", "many", "[I", true)
  | 26 => ("ScriptFrontModel", "wrapped", "[Z", true)
  | 27 => ("ScriptFrontModel", "strict", "[Z", true)
  | 28 => ("ScriptFrontModel", "high", "I", false)
  | 29 => ("ScriptFrontModel", "due", "[I", true)
  | 30 => ("ScriptFrontModel", "as", "[I", true)
  | 31 => ("ScriptFrontModel", "bs", "[I", true)
  | 32 => ("ScriptFrontModel", "cs", "[I", true)
  | 33 => ("ScriptFrontModel", "ds", "[I", true)
  | 34 => ("ScriptFrontModel", "values", "I", false)
  | 35 => ("ScriptFrontModel", "value", "[I", true)
  | 36 => ("ScriptFrontModel", "signs", "I", false)
  | 37 => ("ScriptFrontModel", "sign", "[I", true)
  | 38 => ("ScriptFrontModel", "signPlace", "[I", true)
  | 39 => ("ScriptFrontModel", "signLength", "[I", true)
  | 40 => ("ScriptFrontModel", "depth", "I", false)
  | 41 => ("ScriptFrontModel", "left", "Z", false)
  | 42 => ("ScriptFrontModel", "there", "Z", false)
  | 43 => ("ScriptFrontModel", "count", "I", false)
  | 44 => ("ScriptFrontModel", "order", "[I", true)
  | 45 => ("ScriptFrontModel", "spot", "[I", true)
  | 46 => ("ScriptFrontModel", "tree", "[I", true)
  | 47 => ("ScriptFrontModel", "out", "[B", true)
  | 48 => ("ScriptFrontModel", "printed", "I", false)
  | 49 => ("ScriptFrontModel", "work", "I", false)
  | 50 => ("ScriptFrontModel", "todo", "[I", true)
  | 51 => ("ScriptFrontModel", "whom", "[I", true)
  | 52 => ("ScriptFrontModel", "how", "[I", true)
  | 53 => ("ScriptFrontModel", "lastEnd", "I", false)
  | _ => ("ScriptFrontModel", "lastToken", "I", false)
def am_y9 : Nat → FieldType := fun k => match k with
  | 0 => .array (.long)
  | 1 => .array (.int)
  | 2 => .array (.int)
  | 3 => .int
  | 4 => .array (.byte)
  | 5 => .array (.byte)
  | 6 => .int
  | 7 => .int
  | 8 => .int
  | 9 => .int
  | 10 => .int
  | 11 => .int
  | 12 => .int
  | 13 => .int
  | 14 => .int
  | 15 => .boolean
  | 16 => .boolean
  | 17 => .boolean
  | 18 => .int
  | 19 => .array (.int)
  | 20 => .array (.int)
  | 21 => .array (.int)
  | 22 => .array (.int)
  | 23 => .array (.int)
  | 24 => .array (.int)
  | 25 => .array (.int)
  | 26 => .array (.boolean)
  | 27 => .array (.boolean)
  | 28 => .int
  | 29 => .array (.int)
  | 30 => .array (.int)
  | 31 => .array (.int)
  | 32 => .array (.int)
  | 33 => .array (.int)
  | 34 => .int
  | 35 => .array (.int)
  | 36 => .int
  | 37 => .array (.int)
  | 38 => .array (.int)
  | 39 => .array (.int)
  | 40 => .int
  | 41 => .boolean
  | 42 => .boolean
  | 43 => .int
  | 44 => .array (.int)
  | 45 => .array (.int)
  | 46 => .array (.int)
  | 47 => .array (.byte)
  | 48 => .int
  | 49 => .int
  | 50 => .array (.int)
  | 51 => .array (.int)
  | 52 => .array (.int)
  | 53 => .int
  | _ => .int
def am_cl : List vw_C := [("ScriptFront", am_T0, 8), ("ScriptFront$Tape", am_T1, 3), ("ScriptFront$Flaw", am_T2, 3), ("ScriptFront$Draft", am_T3, 11), ("ScriptFront$Parser", am_T4, 8), ("ScriptFront$Scanner", am_T5, 8), ("ScriptFront$Tree", am_T6, 9), ("ScriptFront$Judge", am_T7, 3), ("ScriptFront$Printer", am_T8, 7), ("ScriptFrontModel", am_T9, 55)]
def am_cnL : List String := ["ScriptFront", "ScriptFront$Tape", "ScriptFront$Flaw", "ScriptFront$Draft", "ScriptFront$Parser", "ScriptFront$Scanner", "ScriptFront$Tree", "ScriptFront$Judge", "ScriptFront$Printer", "ScriptFrontModel", "ScriptFront$Token", "jdk/internal/util/Preconditions", "ScriptFrontLaw"]
def am_cn (c : Nat) : String := am_cnL.getD c ""
def am_f0 : List (Nat × Instr) := [(0, .aload_n 0), (1, .invokespecial 1), (4, .aload_n 0), (5, .new 7), (8, .dup), (9, .invokespecial 9), (12, .putfield 10), (15, .aload_n 0), (16, .new 16), (19, .dup), (20, .invokespecial 18), (23, .putfield 19), (26, .aload_n 0), (27, .new 23), (30, .dup), (31, .aload_n 0), (32, .getfield 19), (35, .invokespecial 25), (38, .putfield 28), (41, .aload_n 0), (42, .new 32), (45, .dup), (46, .new 34), (49, .dup), (50, .aload_n 0), (51, .getfield 10), (54, .aload_n 0), (55, .getfield 19), (58, .invokespecial 36), (61, .aload_n 0), (62, .getfield 28), (65, .aload_n 0), (66, .getfield 19), (69, .invokespecial 39), (72, .putfield 42), (75, .aload_n 0), (76, .new 46), (79, .dup), (80, .invokespecial 48), (83, .putfield 49), (86, .aload_n 0), (87, .new 46), (90, .dup), (91, .invokespecial 48), (94, .putfield 53), (97, .aload_n 0), (98, .new 56), (101, .dup), (102, .aload_n 0), (103, .getfield 10), (106, .aload_n 0), (107, .getfield 19), (110, .aload_n 0), (111, .getfield 53), (114, .invokespecial 58), (117, .putfield 61), (120, .aload_n 0), (121, .new 65), (124, .dup), (125, .aload_n 0), (126, .getfield 10), (129, .aload_n 0), (130, .getfield 49), (133, .invokespecial 67), (136, .putfield 70), (139, .return_)]
def am_f1 : List (Nat × Instr) := [(0, .aload_n 0), (1, .invokespecial 3), (4, .aload_n 0), (5, .sipush 480), (8, .newarray .char), (10, .putfield 9), (13, .return_)]
def am_f2 : List (Nat × Instr) := [(0, .aload_n 0), (1, .invokespecial 3), (4, .aload_n 0), (5, .iconst (-1)), (6, .putfield 9), (9, .return_)]
def am_f3 : List (Nat × Instr) := [(0, .aload_n 0), (1, .invokespecial 3), (4, .aload_n 0), (5, .sipush 512), (8, .newarray .int), (10, .putfield 9), (13, .aload_n 0), (14, .sipush 512), (17, .newarray .int), (19, .putfield 15), (22, .aload_n 0), (23, .sipush 512), (26, .newarray .int), (28, .putfield 18), (31, .aload_n 0), (32, .sipush 512), (35, .newarray .int), (37, .putfield 21), (40, .aload_n 0), (41, .sipush 512), (44, .newarray .int), (46, .putfield 24), (49, .aload_n 0), (50, .sipush 512), (53, .newarray .int), (55, .putfield 27), (58, .aload_n 0), (59, .sipush 512), (62, .newarray .int), (64, .putfield 30), (67, .aload_n 0), (68, .sipush 512), (71, .newarray .int), (73, .putfield 33), (76, .aload_n 0), (77, .sipush 512), (80, .newarray .int), (82, .putfield 36), (85, .aload_n 0), (86, .aload_n 1), (87, .putfield 39), (90, .return_)]
def am_f4 : List (Nat × Instr) := [(0, .aload_n 0), (1, .invokespecial 3), (4, .aload_n 0), (5, .aload_n 1), (6, .putfield 9), (9, .aload_n 0), (10, .aload_n 2), (11, .putfield 15), (14, .return_)]
def am_f5 : List (Nat × Instr) := [(0, .aload_n 0), (1, .invokespecial 3), (4, .aload_n 0), (5, .sipush 256), (8, .newarray .int), (10, .putfield 11), (13, .aload_n 0), (14, .sipush 256), (17, .newarray .int), (19, .putfield 15), (22, .aload_n 0), (23, .aload_n 1), (24, .putfield 18), (27, .aload_n 0), (28, .aload_n 2), (29, .putfield 22), (32, .aload_n 0), (33, .aload_n 3), (34, .putfield 26), (37, .return_)]
def am_f6 : List (Nat × Instr) := [(0, .aload_n 0), (1, .invokespecial 3), (4, .aload_n 0), (5, .sipush 512), (8, .newarray .int), (10, .putfield 9), (13, .aload_n 0), (14, .sipush 512), (17, .newarray .int), (19, .putfield 15), (22, .aload_n 0), (23, .sipush 512), (26, .newarray .int), (28, .putfield 18), (31, .aload_n 0), (32, .sipush 512), (35, .newarray .int), (37, .putfield 21), (40, .aload_n 0), (41, .sipush 512), (44, .newarray .int), (46, .putfield 24), (49, .aload_n 0), (50, .sipush 512), (53, .newarray .int), (55, .putfield 27), (58, .aload_n 0), (59, .sipush 512), (62, .newarray .int), (64, .putfield 30), (67, .aload_n 0), (68, .sipush 512), (71, .newarray .boolean), (73, .putfield 33), (76, .return_)]
def am_f7 : List (Nat × Instr) := [(0, .aload_n 0), (1, .invokespecial 3), (4, .aload_n 0), (5, .aload_n 1), (6, .putfield 9), (9, .aload_n 0), (10, .aload_n 2), (11, .putfield 15), (14, .aload_n 0), (15, .aload_n 3), (16, .putfield 19), (19, .return_)]
def am_f8 : List (Nat × Instr) := [(0, .aload_n 0), (1, .invokespecial 3), (4, .aload_n 0), (5, .sipush 1024), (8, .newarray .char), (10, .putfield 11), (13, .aload_n 0), (14, .sipush 512), (17, .newarray .boolean), (19, .putfield 15), (22, .aload_n 0), (23, .sipush 512), (26, .newarray .boolean), (28, .putfield 19), (31, .aload_n 0), (32, .aload_n 1), (33, .putfield 22), (36, .aload_n 0), (37, .aload_n 2), (38, .putfield 26), (41, .return_)]
def am_f9 : List (Nat × Instr) := [(0, .iload_n 3), (1, .iconst 1), (2, .if_icmp .lt 24), (5, .iload_n 3), (6, .bipush 8), (8, .if_icmp .gt 18), (11, .aload_n 0), (12, .getfield 10), (15, .getfield 74), (18, .iload_n 3), (19, .iadd), (20, .sipush 480), (23, .if_icmp .le 5), (26, .iconst 0), (27, .ireturn), (28, .iload_n 3), (29, .iconst 1), (30, .isub), (31, .istore 4), (33, .iload 4), (35, .ifCond .lt 29), (38, .lload_n 1), (39, .bipush 8), (41, .iload 4), (43, .imul), (44, .lushr), (45, .l2i), (46, .sipush 255), (49, .iand), (50, .invokestatic 78), (53, .ifCond .ne 5), (56, .iconst 0), (57, .ireturn), (58, .iinc 4 (-1)), (61, .goto (-28)), (64, .iload_n 3), (65, .iconst 1), (66, .isub), (67, .istore 4), (69, .iload 4), (71, .ifCond .lt 28), (74, .aload_n 0), (75, .getfield 10), (78, .lload_n 1), (79, .bipush 8), (81, .iload 4), (83, .imul), (84, .lushr), (85, .l2i), (86, .sipush 255), (89, .iand), (90, .invokevirtual 82), (93, .iinc 4 (-1)), (96, .goto (-27)), (99, .iconst 1), (100, .ireturn)]
def am_f10 : List (Nat × Instr) := [(0, .iload_n 0), (1, .bipush 32), (3, .if_icmp .lt 9), (6, .iload_n 0), (7, .bipush 126), (9, .if_icmp .le 16), (12, .iload_n 0), (13, .bipush 9), (15, .if_icmp .eq 10), (18, .iload_n 0), (19, .invokestatic 35), (22, .ifCond .eq 7), (25, .iconst 1), (26, .goto 4), (29, .iconst 0), (30, .ireturn)]
def am_f11 : List (Nat × Instr) := [(0, .iload_n 0), (1, .bipush 10), (3, .if_icmp .eq 9), (6, .iload_n 0), (7, .bipush 13), (9, .if_icmp .ne 7), (12, .iconst 1), (13, .goto 4), (16, .iconst 0), (17, .ireturn)]
def am_f12 : List (Nat × Instr) := [(0, .aload_n 0), (1, .getfield 15), (4, .ifCond .lt 34), (7, .aload_n 0), (8, .getfield 15), (11, .sipush 480), (14, .if_icmp .ge 24), (17, .aload_n 0), (18, .getfield 9), (21, .aload_n 0), (22, .getfield 15), (25, .iload_n 1), (26, .i2c), (27, .castore), (28, .aload_n 0), (29, .dup), (30, .getfield 15), (33, .iconst 1), (34, .iadd), (35, .putfield 15), (38, .return_)]
def am_f13 : List (Nat × Instr) := [(0, .iload_n 1), (1, .tableswitch 51 0 2 #[27, 35, 43]), (28, .aload_n 0), (29, .getfield 19), (32, .getfield 114), (35, .ireturn), (36, .aload_n 0), (37, .getfield 19), (40, .getfield 117), (43, .ireturn), (44, .aload_n 0), (45, .getfield 19), (48, .getfield 99), (51, .ireturn), (52, .iconst (-1)), (53, .ireturn)]
def am_f14 : List (Nat × Instr) := [(0, .iconst 0), (1, .istore_n 2), (2, .iconst 0), (3, .istore_n 3), (4, .iload_n 3), (5, .aload_n 0), (6, .getfield 49), (9, .getfield 111), (12, .if_icmp .ge 24), (15, .aload_n 0), (16, .getfield 49), (19, .iload_n 3), (20, .invokevirtual 127), (23, .iload_n 1), (24, .if_icmp .ne 6), (27, .iinc 2 1), (30, .iinc 3 1), (33, .goto (-29)), (36, .iload_n 2), (37, .ireturn)]
def am_f15 : List (Nat × Instr) := [(0, .aload_n 0), (1, .iload_n 1), (2, .invokevirtual 41), (5, .ifCond .eq 12), (8, .aload_n 0), (9, .getfield 9), (12, .iload_n 1), (13, .iaload), (14, .goto 4), (17, .iconst (-1)), (18, .ireturn)]
def am_f16 : List (Nat × Instr) := [(0, .iload_n 1), (1, .ifCond .lt 22), (4, .iload_n 1), (5, .aload_n 0), (6, .getfield 37), (9, .if_icmp .ge 14), (12, .iload_n 1), (13, .sipush 512), (16, .if_icmp .ge 7), (19, .iconst 1), (20, .goto 4), (23, .iconst 0), (24, .ireturn)]
def am_f17 : List (Nat × Instr) := [(0, .iload_n 1), (1, .iconst (-1)), (2, .if_icmp .ne 13), (5, .aload_n 0), (6, .getfield 70), (9, .getfield 148), (12, .goto 11), (15, .aload_n 0), (16, .getfield 70), (19, .iload_n 1), (20, .invokevirtual 151), (23, .ireturn)]
def am_f18 : List (Nat × Instr) := [(0, .iload_n 1), (1, .ifCond .lt 18), (4, .iload_n 1), (5, .aload_n 0), (6, .getfield 30), (9, .if_icmp .ge 10), (12, .iload_n 1), (13, .sipush 1024), (16, .if_icmp .lt 7), (19, .iconst (-1)), (20, .goto 9), (23, .aload_n 0), (24, .getfield 11), (27, .iload_n 1), (28, .caload), (29, .ireturn)]
def am_f19 : List (Nat × Instr) := [(0, .aload_n 0), (1, .getfield 49), (4, .getfield 111), (7, .ifCond .eq 16), (10, .aload_n 0), (11, .getfield 70), (14, .getfield 148), (17, .sipush 480), (20, .if_icmp .le 5), (23, .iconst 0), (24, .ireturn), (25, .aload_n 0), (26, .getfield 10), (29, .iconst 0), (30, .putfield 74), (33, .iconst 0), (34, .istore_n 1), (35, .iload_n 1), (36, .aload_n 0), (37, .getfield 70), (40, .getfield 148), (43, .if_icmp .ge 24), (46, .aload_n 0), (47, .getfield 10), (50, .aload_n 0), (51, .getfield 70), (54, .iload_n 1), (55, .invokevirtual 151), (58, .invokevirtual 82), (61, .iinc 1 1), (64, .goto (-29)), (67, .iconst 1), (68, .ireturn)]
def am_f20 : List (Nat × Instr) := [(0, .aload_n 0), (1, .getfield 10), (4, .invokevirtual 86), (7, .aload_n 0), (8, .getfield 19), (11, .invokevirtual 89), (14, .aload_n 0), (15, .getfield 42), (18, .invokevirtual 92), (21, .istore_n 1), (22, .aload_n 0), (23, .getfield 19), (26, .aload_n 0), (27, .getfield 42), (30, .getfield 96), (33, .putfield 99), (36, .aload_n 0), (37, .getfield 28), (40, .aload_n 0), (41, .getfield 53), (44, .iload_n 1), (45, .invokevirtual 100), (48, .aload_n 0), (49, .getfield 61), (52, .aload_n 0), (53, .getfield 53), (56, .invokevirtual 104), (59, .aload_n 0), (60, .getfield 49), (63, .astore_n 2), (64, .aload_n 0), (65, .aload_n 0), (66, .getfield 53), (69, .putfield 49), (72, .aload_n 0), (73, .aload_n 2), (74, .putfield 53), (77, .aload_n 0), (78, .getfield 70), (81, .aload_n 0), (82, .getfield 49), (85, .invokevirtual 108), (88, .aload_n 0), (89, .getfield 49), (92, .getfield 111), (95, .ireturn)]
def am_f21 : List (Nat × Instr) := [(0, .aload_n 0), (1, .aload_n 0), (2, .getfield 15), (5, .putfield 19), (8, .aload_n 0), (9, .iconst 0), (10, .putfield 15), (13, .return_)]
def am_f22 : List (Nat × Instr) := [(0, .aload_n 0), (1, .iconst 0), (2, .putfield 15), (5, .aload_n 0), (6, .iconst (-1)), (7, .putfield 9), (10, .aload_n 0), (11, .iconst 0), (12, .putfield 18), (15, .return_)]
def am_f23 : List (Nat × Instr) := [(0, .aload_n 0), (1, .iconst 0), (2, .putfield 30), (5, .aload_n 0), (6, .iconst 0), (7, .putfield 34), (10, .aload_n 0), (11, .getfield 22), (14, .invokevirtual 37), (17, .aload_n 0), (18, .getfield 18), (21, .invokevirtual 42), (24, .aload_n 0), (25, .getfield 22), (28, .iconst 0), (29, .iconst 0), (30, .iconst 0), (31, .iconst 0), (32, .invokevirtual 49), (35, .istore_n 1), (36, .iconst 0), (37, .istore_n 2), (38, .iload_n 2), (39, .sipush 480), (42, .if_icmp .gt 32), (45, .aload_n 0), (46, .getfield 18), (49, .getfield 53), (52, .ifCond .eq 22), (55, .aload_n 0), (56, .getfield 22), (59, .iload_n 1), (60, .aload_n 0), (61, .iconst 0), (62, .invokevirtual 56), (65, .invokevirtual 60), (68, .iinc 2 1), (71, .goto (-33)), (74, .iload_n 1), (75, .ireturn)]
def am_f24 : List (Nat × Instr) := [(0, .aload_n 0), (1, .iconst 0), (2, .putfield 43), (5, .return_)]
def am_f25 : List (Nat × Instr) := [(0, .aload_n 0), (1, .iconst 0), (2, .putfield 19), (5, .aload_n 0), (6, .invokevirtual 23), (9, .return_)]
def am_f26 : List (Nat × Instr) := [(0, .aload_n 0), (1, .aload_n 0), (2, .aload_n 0), (3, .getfield 19), (6, .invokevirtual 29), (9, .putfield 26), (12, .aload_n 0), (13, .aload_n 0), (14, .getfield 33), (17, .putfield 37), (20, .aload_n 0), (21, .iconst 0), (22, .putfield 40), (25, .aload_n 0), (26, .getfield 9), (29, .aload_n 0), (30, .getfield 26), (33, .invokevirtual 43), (36, .istore_n 1), (37, .iload_n 1), (38, .iconst (-1)), (39, .if_icmp .ne 19), (42, .aload_n 0), (43, .iconst 0), (44, .putfield 50), (47, .aload_n 0), (48, .aload_n 0), (49, .getfield 26), (52, .putfield 19), (55, .goto 80), (58, .iload_n 1), (59, .invokestatic 53), (62, .ifCond .ne 28), (65, .iload_n 1), (66, .bipush 46), (68, .if_icmp .ne 29), (71, .aload_n 0), (72, .getfield 9), (75, .aload_n 0), (76, .getfield 26), (79, .iconst 1), (80, .iadd), (81, .invokevirtual 43), (84, .invokestatic 53), (87, .ifCond .eq 10), (90, .aload_n 0), (91, .invokevirtual 57), (94, .goto 41), (97, .iload_n 1), (98, .invokestatic 60), (101, .ifCond .eq 10), (104, .aload_n 0), (105, .invokevirtual 63), (108, .goto 27), (111, .iload_n 1), (112, .bipush 39), (114, .if_icmp .eq 9), (117, .iload_n 1), (118, .bipush 34), (120, .if_icmp .ne 11), (123, .aload_n 0), (124, .iload_n 1), (125, .invokevirtual 66), (128, .goto 7), (131, .aload_n 0), (132, .invokevirtual 70), (135, .return_)]
def am_f27 : List (Nat × Instr) := [(0, .iload_n 1), (1, .istore_n 2), (2, .aload_n 0), (3, .iconst 0), (4, .putfield 33), (7, .iconst 0), (8, .istore_n 3), (9, .iload_n 3), (10, .sipush 480), (13, .if_icmp .gt 134), (16, .aload_n 0), (17, .getfield 9), (20, .iload_n 2), (21, .invokevirtual 43), (24, .istore 4), (26, .iload 4), (28, .invokestatic 76), (31, .ifCond .eq 14), (34, .aload_n 0), (35, .iconst 1), (36, .putfield 33), (39, .iinc 2 1), (42, .goto 99), (45, .iload 4), (47, .bipush 32), (49, .if_icmp .eq 10), (52, .iload 4), (54, .bipush 9), (56, .if_icmp .ne 9), (59, .iinc 2 1), (62, .goto 79), (65, .iload 4), (67, .bipush 47), (69, .if_icmp .ne 27), (72, .aload_n 0), (73, .getfield 9), (76, .iload_n 2), (77, .iconst 1), (78, .iadd), (79, .invokevirtual 43), (82, .bipush 47), (84, .if_icmp .ne 12), (87, .aload_n 0), (88, .iload_n 2), (89, .invokevirtual 79), (92, .istore_n 2), (93, .goto 48), (96, .iload 4), (98, .bipush 47), (100, .if_icmp .ne 39), (103, .aload_n 0), (104, .getfield 9), (107, .iload_n 2), (108, .iconst 1), (109, .iadd), (110, .invokevirtual 43), (113, .bipush 42), (115, .if_icmp .ne 24), (118, .aload_n 0), (119, .iload_n 2), (120, .invokevirtual 82), (123, .istore 5), (125, .iload 5), (127, .iconst (-1)), (128, .if_icmp .ne 5), (131, .iload_n 2), (132, .ireturn), (133, .iload 5), (135, .istore_n 2), (136, .goto 5), (139, .iload_n 2), (140, .ireturn), (141, .iinc 3 1), (144, .goto (-135)), (147, .iload_n 2), (148, .ireturn)]
def am_f28 : List (Nat × Instr) := [(0, .iload_n 1), (1, .ifCond .lt 18), (4, .iload_n 1), (5, .aload_n 0), (6, .getfield 19), (9, .if_icmp .ge 10), (12, .iload_n 1), (13, .sipush 480), (16, .if_icmp .lt 7), (19, .iconst (-1)), (20, .goto 9), (23, .aload_n 0), (24, .getfield 9), (27, .iload_n 1), (28, .caload), (29, .ireturn)]
def am_f29 : List (Nat × Instr) := [(0, .iload_n 1), (1, .istore_n 2), (2, .iload_n 2), (3, .aload_n 0), (4, .getfield 9), (7, .getfield 85), (10, .if_icmp .ge 25), (13, .aload_n 0), (14, .getfield 9), (17, .iload_n 2), (18, .invokevirtual 43), (21, .invokestatic 76), (24, .ifCond .eq 5), (27, .iload_n 2), (28, .ireturn), (29, .iinc 2 1), (32, .goto (-30)), (35, .aload_n 0), (36, .getfield 9), (39, .getfield 85), (42, .ireturn)]
def am_f30 : List (Nat × Instr) := [(0, .iconst 0), (1, .istore_n 2), (2, .iload_n 1), (3, .iconst 2), (4, .iadd), (5, .istore_n 3), (6, .iload_n 3), (7, .aload_n 0), (8, .getfield 9), (11, .getfield 85), (14, .if_icmp .ge 83), (17, .aload_n 0), (18, .getfield 9), (21, .iload_n 3), (22, .invokevirtual 43), (25, .istore 4), (27, .iload 4), (29, .bipush 42), (31, .if_icmp .ne 42), (34, .aload_n 0), (35, .getfield 9), (38, .iload_n 3), (39, .iconst 1), (40, .iadd), (41, .invokevirtual 43), (44, .bipush 47), (46, .if_icmp .ne 27), (49, .aload_n 0), (50, .aload_n 0), (51, .getfield 33), (54, .ifCond .ne 7), (57, .iload_n 2), (58, .ifCond .eq 7), (61, .iconst 1), (62, .goto 4), (65, .iconst 0), (66, .putfield 33), (69, .iload_n 3), (70, .iconst 2), (71, .iadd), (72, .ireturn), (73, .iload_n 2), (74, .ifCond .ne 11), (77, .iload 4), (79, .invokestatic 76), (82, .ifCond .eq 7), (85, .iconst 1), (86, .goto 4), (89, .iconst 0), (90, .istore_n 2), (91, .iinc 3 1), (94, .goto (-88)), (97, .iconst (-1)), (98, .ireturn)]
def am_f31 : List (Nat × Instr) := [(0, .iload_n 0), (1, .bipush 48), (3, .if_icmp .lt 13), (6, .iload_n 0), (7, .bipush 57), (9, .if_icmp .gt 7), (12, .iconst 1), (13, .goto 4), (16, .iconst 0), (17, .ireturn)]
def am_f32 : List (Nat × Instr) := [(0, .aload_n 0), (1, .getfield 9), (4, .aload_n 0), (5, .getfield 26), (8, .invokevirtual 43), (11, .bipush 48), (13, .if_icmp .ne 7), (16, .iconst 1), (17, .goto 4), (20, .iconst 0), (21, .istore_n 1), (22, .aload_n 0), (23, .getfield 9), (26, .aload_n 0), (27, .getfield 26), (30, .iconst 1), (31, .iadd), (32, .invokevirtual 43), (35, .istore_n 2), (36, .aload_n 0), (37, .iload_n 1), (38, .ifCond .eq 14), (41, .iload_n 2), (42, .invokestatic 53), (45, .ifCond .eq 7), (48, .iconst 1), (49, .goto 4), (52, .iconst 0), (53, .invokevirtual 103), (56, .iload_n 1), (57, .ifCond .eq 55), (60, .iload_n 2), (61, .bipush 120), (63, .if_icmp .eq 9), (66, .iload_n 2), (67, .bipush 88), (69, .if_icmp .ne 43), (72, .aload_n 0), (73, .aload_n 0), (74, .aload_n 0), (75, .getfield 26), (78, .iconst 2), (79, .iadd), (80, .iconst 1), (81, .invokevirtual 107), (84, .putfield 19), (87, .aload_n 0), (88, .aload_n 0), (89, .getfield 19), (92, .aload_n 0), (93, .getfield 26), (96, .iconst 2), (97, .iadd), (98, .if_icmp .ne 7), (101, .iconst 1), (102, .goto 4), (105, .iconst 0), (106, .invokevirtual 103), (109, .goto 88), (112, .aload_n 0), (113, .aload_n 0), (114, .aload_n 0), (115, .getfield 26), (118, .iconst 0), (119, .invokevirtual 107), (122, .putfield 19), (125, .aload_n 0), (126, .getfield 9), (129, .aload_n 0), (130, .getfield 19), (133, .invokevirtual 43), (136, .bipush 46), (138, .if_icmp .ne 18), (141, .aload_n 0), (142, .aload_n 0), (143, .aload_n 0), (144, .getfield 19), (147, .iconst 1), (148, .iadd), (149, .iconst 0), (150, .invokevirtual 107), (153, .putfield 19), (156, .aload_n 0), (157, .aload_n 0), (158, .getfield 19), (161, .invokevirtual 111), (164, .istore_n 3), (165, .iload_n 3), (166, .iconst (-1)), (167, .if_icmp .eq 30), (170, .aload_n 0), (171, .aload_n 0), (172, .iload_n 3), (173, .iconst 0), (174, .invokevirtual 107), (177, .putfield 19), (180, .aload_n 0), (181, .aload_n 0), (182, .getfield 19), (185, .iload_n 3), (186, .if_icmp .ne 7), (189, .iconst 1), (190, .goto 4), (193, .iconst 0), (194, .invokevirtual 103), (197, .aload_n 0), (198, .aload_n 0), (199, .getfield 9), (202, .aload_n 0), (203, .getfield 19), (206, .invokevirtual 43), (209, .invokestatic 60), (212, .invokevirtual 103), (215, .aload_n 0), (216, .iconst 3), (217, .putfield 50), (220, .return_)]
def am_f33 : List (Nat × Instr) := [(0, .iload_n 1), (1, .ifCond .eq 15), (4, .aload_n 0), (5, .getfield 15), (8, .iconst 1), (9, .aload_n 0), (10, .getfield 26), (13, .invokevirtual 116), (16, .return_)]
def am_f34 : List (Nat × Instr) := [(0, .aload_n 0), (1, .iload_n 1), (2, .putfield 15), (5, .aload_n 0), (6, .iload_n 2), (7, .putfield 9), (10, .new 21), (13, .dup), (14, .ldc 23), (16, .invokespecial 25), (19, .athrow)]
def am_f35 : List (Nat × Instr) := [(0, .iload_n 1), (1, .istore_n 3), (2, .iconst 0), (3, .istore 4), (5, .iload 4), (7, .sipush 480), (10, .if_icmp .ge 77), (13, .aload_n 0), (14, .getfield 9), (17, .iload_n 3), (18, .invokevirtual 43), (21, .istore 5), (23, .iload 5), (25, .bipush 97), (27, .if_icmp .lt 10), (30, .iload 5), (32, .bipush 102), (34, .if_icmp .le 17), (37, .iload 5), (39, .bipush 65), (41, .if_icmp .lt 14), (44, .iload 5), (46, .bipush 70), (48, .if_icmp .gt 7), (51, .iconst 1), (52, .goto 4), (55, .iconst 0), (56, .istore 6), (58, .iload 5), (60, .invokestatic 53), (63, .ifCond .ne 15), (66, .iload_n 2), (67, .ifCond .eq 20), (70, .iload 6), (72, .ifCond .ne 6), (75, .goto 12), (78, .iinc 3 1), (81, .iinc 4 1), (84, .goto (-79)), (87, .iload_n 3), (88, .ireturn)]
def am_f36 : List (Nat × Instr) := [(0, .aload_n 0), (1, .getfield 9), (4, .iload_n 1), (5, .invokevirtual 43), (8, .istore_n 2), (9, .iload_n 2), (10, .bipush 101), (12, .if_icmp .eq 11), (15, .iload_n 2), (16, .bipush 69), (18, .if_icmp .eq 5), (21, .iconst (-1)), (22, .ireturn), (23, .aload_n 0), (24, .getfield 9), (27, .iload_n 1), (28, .iconst 1), (29, .iadd), (30, .invokevirtual 43), (33, .istore_n 3), (34, .iload_n 3), (35, .bipush 43), (37, .if_icmp .eq 9), (40, .iload_n 3), (41, .bipush 45), (43, .if_icmp .ne 9), (46, .iload_n 1), (47, .iconst 2), (48, .iadd), (49, .goto 6), (52, .iload_n 1), (53, .iconst 1), (54, .iadd), (55, .ireturn)]
def am_f37 : List (Nat × Instr) := [(0, .iload_n 0), (1, .bipush 97), (3, .if_icmp .lt 9), (6, .iload_n 0), (7, .bipush 122), (9, .if_icmp .le 15), (12, .iload_n 0), (13, .bipush 65), (15, .if_icmp .lt 13), (18, .iload_n 0), (19, .bipush 90), (21, .if_icmp .gt 7), (24, .iconst 1), (25, .goto 4), (28, .iconst 0), (29, .istore_n 1), (30, .iload_n 1), (31, .ifCond .ne 27), (34, .iload_n 0), (35, .bipush 48), (37, .if_icmp .lt 9), (40, .iload_n 0), (41, .bipush 57), (43, .if_icmp .le 15), (46, .iload_n 0), (47, .bipush 36), (49, .if_icmp .eq 9), (52, .iload_n 0), (53, .bipush 95), (55, .if_icmp .ne 7), (58, .iconst 1), (59, .goto 4), (62, .iconst 0), (63, .ireturn)]
def am_f38 : List (Nat × Instr) := [(0, .aload_n 0), (1, .aload_n 0), (2, .getfield 26), (5, .putfield 19), (8, .iconst 0), (9, .istore_n 1), (10, .iload_n 1), (11, .sipush 480), (14, .if_icmp .ge 36), (17, .aload_n 0), (18, .getfield 9), (21, .aload_n 0), (22, .getfield 19), (25, .invokevirtual 43), (28, .invokestatic 60), (31, .ifCond .eq 19), (34, .aload_n 0), (35, .dup), (36, .getfield 19), (39, .iconst 1), (40, .iadd), (41, .putfield 19), (44, .iinc 1 1), (47, .goto (-37)), (50, .aload_n 0), (51, .aload_n 0), (52, .invokevirtual 88), (55, .putfield 40), (58, .aload_n 0), (59, .aload_n 0), (60, .getfield 40), (63, .ifCond .ne 7), (66, .iconst 1), (67, .goto 4), (70, .iconst 2), (71, .putfield 50), (74, .return_)]
def am_f39 : List (Nat × Instr) := [(0, .aload_n 0), (1, .invokevirtual 92), (4, .iconst 2), (5, .if_icmp .lt 12), (8, .aload_n 0), (9, .invokevirtual 92), (12, .bipush 10), (14, .if_icmp .le 5), (17, .iconst 0), (18, .ireturn), (19, .iconst 1), (20, .istore_n 1), (21, .iconst 0), (22, .istore_n 2), (23, .iconst 0), (24, .istore_n 3), (25, .iload_n 3), (26, .ldc 94), (28, .invokevirtual 96), (31, .if_icmp .ge 73), (34, .ldc 94), (36, .iload_n 3), (37, .invokevirtual 99), (40, .istore 4), (42, .iload 4), (44, .bipush 32), (46, .if_icmp .eq 37), (49, .iload_n 2), (50, .iconst (-1)), (51, .if_icmp .eq 27), (54, .aload_n 0), (55, .getfield 9), (58, .aload_n 0), (59, .getfield 26), (62, .iload_n 2), (63, .iadd), (64, .invokevirtual 43), (67, .iload 4), (69, .if_icmp .ne 9), (72, .iload_n 2), (73, .iconst 1), (74, .iadd), (75, .goto 4), (78, .iconst (-1)), (79, .istore_n 2), (80, .goto 18), (83, .iload_n 2), (84, .aload_n 0), (85, .invokevirtual 92), (88, .if_icmp .ne 5), (91, .iload_n 1), (92, .ireturn), (93, .iinc 1 1), (96, .iconst 0), (97, .istore_n 2), (98, .iinc 3 1), (101, .goto (-76)), (104, .iconst 0), (105, .ireturn)]
def am_f40 : List (Nat × Instr) := [(0, .aload_n 0), (1, .getfield 19), (4, .aload_n 0), (5, .getfield 26), (8, .isub), (9, .ireturn)]
def am_f41 : List (Nat × Instr) := [(0, .iload_n 0), (1, .ifCond .lt 8), (4, .iload_n 0), (5, .iload_n 1), (6, .if_icmp .lt 10), (9, .aload_n 2), (10, .iload_n 0), (11, .iload_n 1), (12, .invokestatic 95), (15, .athrow), (16, .iload_n 0), (17, .ireturn)]
def am_f42 : List (Nat × Instr) := [(0, .aload_n 0), (1, .getfield 26), (4, .iconst 1), (5, .iadd), (6, .istore_n 2), (7, .iconst 0), (8, .istore_n 3), (9, .iload_n 3), (10, .sipush 480), (13, .if_icmp .ge 127), (16, .aload_n 0), (17, .getfield 9), (20, .iload_n 2), (21, .invokevirtual 43), (24, .iload_n 1), (25, .if_icmp .eq 115), (28, .aload_n 0), (29, .getfield 9), (32, .iload_n 2), (33, .invokevirtual 43), (36, .istore 4), (38, .aload_n 0), (39, .iload 4), (41, .iconst (-1)), (42, .if_icmp .eq 11), (45, .iload 4), (47, .invokestatic 76), (50, .ifCond .eq 7), (53, .iconst 1), (54, .goto 4), (57, .iconst 0), (58, .invokevirtual 103), (61, .iload 4), (63, .bipush 92), (65, .if_icmp .ne 66), (68, .iinc 2 1), (71, .aload_n 0), (72, .aload_n 0), (73, .getfield 9), (76, .iload_n 2), (77, .invokevirtual 43), (80, .iconst (-1)), (81, .if_icmp .ne 7), (84, .iconst 1), (85, .goto 4), (88, .iconst 0), (89, .invokevirtual 103), (92, .iload_n 2), (93, .aload_n 0), (94, .getfield 9), (97, .iload_n 2), (98, .invokevirtual 43), (101, .bipush 13), (103, .if_icmp .ne 22), (106, .aload_n 0), (107, .getfield 9), (110, .iload_n 2), (111, .iconst 1), (112, .iadd), (113, .invokevirtual 43), (116, .bipush 10), (118, .if_icmp .ne 7), (121, .iconst 2), (122, .goto 4), (125, .iconst 1), (126, .iadd), (127, .istore_n 2), (128, .goto 6), (131, .iinc 2 1), (134, .iinc 3 1), (137, .goto (-128)), (140, .aload_n 0), (141, .iload_n 2), (142, .iconst 1), (143, .iadd), (144, .putfield 19), (147, .aload_n 0), (148, .iconst 4), (149, .putfield 50), (152, .return_)]
def am_f43 : List (Nat × Instr) := [(0, .aload_n 0), (1, .getfield 9), (4, .aload_n 0), (5, .getfield 26), (8, .invokevirtual 43), (11, .istore_n 1), (12, .iload_n 1), (13, .bipush 47), (15, .if_icmp .ne 25), (18, .aload_n 0), (19, .getfield 9), (22, .aload_n 0), (23, .getfield 26), (26, .iconst 1), (27, .iadd), (28, .invokevirtual 43), (31, .bipush 42), (33, .if_icmp .ne 7), (36, .iconst 1), (37, .goto 4), (40, .iconst 0), (41, .istore_n 2), (42, .aload_n 0), (43, .iload_n 2), (44, .ifCond .ne 10), (47, .iload_n 1), (48, .invokestatic 123), (51, .ifCond .ne 7), (54, .iconst 1), (55, .goto 4), (58, .iconst 0), (59, .invokevirtual 103), (62, .aload_n 0), (63, .aload_n 0), (64, .getfield 26), (67, .iconst 1), (68, .iadd), (69, .putfield 19), (72, .iconst 0), (73, .istore_n 3), (74, .iload_n 3), (75, .iconst 3), (76, .if_icmp .ge 73), (79, .aload_n 0), (80, .getfield 9), (83, .aload_n 0), (84, .getfield 19), (87, .invokevirtual 43), (90, .iconst (-1)), (91, .if_icmp .eq 58), (94, .iload_n 1), (95, .bipush 8), (97, .ishl), (98, .aload_n 0), (99, .getfield 9), (102, .aload_n 0), (103, .getfield 19), (106, .invokevirtual 43), (109, .ior), (110, .invokestatic 123), (113, .ifCond .eq 36), (116, .iload_n 1), (117, .bipush 8), (119, .ishl), (120, .aload_n 0), (121, .getfield 9), (124, .aload_n 0), (125, .getfield 19), (128, .invokevirtual 43), (131, .ior), (132, .istore_n 1), (133, .aload_n 0), (134, .dup), (135, .getfield 19), (138, .iconst 1), (139, .iadd), (140, .putfield 19), (143, .iinc 3 1), (146, .goto (-72)), (149, .aload_n 0), (150, .iload_n 1), (151, .putfield 40), (154, .aload_n 0), (155, .bipush 6), (157, .putfield 50), (160, .return_)]
def am_f44 : List (Nat × Instr) := [(0, .iconst 0), (1, .istore_n 1), (2, .iload_n 1), (3, .getstatic 7), (6, .arraylength), (7, .if_icmp .ge 20), (10, .getstatic 7), (13, .iload_n 1), (14, .iaload), (15, .iload_n 0), (16, .if_icmp .ne 5), (19, .iconst 1), (20, .ireturn), (21, .iinc 1 1), (24, .goto (-22)), (27, .iconst 0), (28, .ireturn)]
def am_f45 : List (Nat × Instr) := [(0, .aload_n 0), (1, .getfield 43), (4, .ifCond .lt 13), (7, .aload_n 0), (8, .getfield 43), (11, .sipush 512), (14, .if_icmp .lt 14), (17, .aload_n 0), (18, .getfield 39), (21, .iconst 3), (22, .iload_n 2), (23, .invokevirtual 49), (26, .iconst 0), (27, .ireturn), (28, .aload_n 0), (29, .getfield 43), (32, .istore 5), (34, .aload_n 0), (35, .getfield 9), (38, .iload 5), (40, .iload_n 1), (41, .iastore), (42, .aload_n 0), (43, .getfield 15), (46, .iload 5), (48, .iload_n 2), (49, .iastore), (50, .aload_n 0), (51, .getfield 18), (54, .iload 5), (56, .iload_n 3), (57, .iastore), (58, .aload_n 0), (59, .getfield 21), (62, .iload 5), (64, .iload 4), (66, .iastore), (67, .aload_n 0), (68, .getfield 24), (71, .iload 5), (73, .iconst (-1)), (74, .iastore), (75, .aload_n 0), (76, .getfield 27), (79, .iload 5), (81, .iconst (-1)), (82, .iastore), (83, .aload_n 0), (84, .getfield 30), (87, .iload 5), (89, .iconst (-1)), (90, .iastore), (91, .aload_n 0), (92, .getfield 33), (95, .iload 5), (97, .iconst (-1)), (98, .iastore), (99, .aload_n 0), (100, .dup), (101, .getfield 43), (104, .iconst 1), (105, .iadd), (106, .putfield 43), (109, .iload 5), (111, .ireturn)]
def am_f46 : List (Nat × Instr) := [(0, .aload_n 0), (1, .getfield 18), (4, .getfield 78), (7, .bipush 12), (9, .if_icmp .eq 9), (12, .aload_n 0), (13, .iload_n 1), (14, .invokevirtual 94), (17, .ireturn), (18, .aload_n 0), (19, .iload_n 1), (20, .invokevirtual 97), (23, .aload_n 0), (24, .bipush 20), (26, .iload_n 1), (27, .iconst 1), (28, .iadd), (29, .invokevirtual 100), (32, .ireturn)]
def am_f47 : List (Nat × Instr) := [(0, .aload_n 0), (1, .iload_n 1), (2, .invokevirtual 97), (5, .aload_n 0), (6, .iload_n 1), (7, .iconst 1), (8, .iadd), (9, .invokevirtual 104), (12, .istore_n 2), (13, .aload_n 0), (14, .getfield 22), (17, .iload_n 2), (18, .invokevirtual 107), (21, .invokestatic 110), (24, .ifCond .eq 7), (27, .aload_n 0), (28, .invokevirtual 114), (31, .iload_n 2), (32, .ireturn)]
def am_f48 : List (Nat × Instr) := [(0, .aload_n 0), (1, .getfield 18), (4, .invokevirtual 72), (7, .aload_n 0), (8, .getfield 18), (11, .getfield 53), (14, .ifCond .ne 7), (17, .aload_n 0), (18, .invokevirtual 75), (21, .iload_n 1), (22, .bipush 20), (24, .if_icmp .lt 18), (27, .aload_n 0), (28, .getfield 26), (31, .iconst 3), (32, .aload_n 0), (33, .getfield 18), (36, .getfield 66), (39, .invokevirtual 69), (42, .return_)]
def am_f49 : List (Nat × Instr) := [(0, .aload_n 0), (1, .getfield 40), (4, .bipush 47), (6, .if_icmp .eq 13), (9, .aload_n 0), (10, .getfield 40), (13, .sipush 12093), (16, .if_icmp .ne 7), (19, .aload_n 0), (20, .invokevirtual 73), (23, .return_)]
def am_f50 : List (Nat × Instr) := [(0, .aload_n 0), (1, .getfield 26), (4, .iconst 1), (5, .iadd), (6, .istore_n 1), (7, .iconst 0), (8, .istore_n 2), (9, .iconst 0), (10, .istore_n 3), (11, .iload_n 3), (12, .sipush 480), (15, .if_icmp .ge 114), (18, .iload_n 2), (19, .ifCond .ne 16), (22, .aload_n 0), (23, .getfield 9), (26, .iload_n 1), (27, .invokevirtual 43), (30, .bipush 47), (32, .if_icmp .eq 97), (35, .aload_n 0), (36, .getfield 9), (39, .iload_n 1), (40, .invokevirtual 43), (43, .istore 4), (45, .iload 4), (47, .bipush 92), (49, .if_icmp .ne 9), (52, .iinc 1 1), (55, .goto 30), (58, .iload 4), (60, .bipush 91), (62, .if_icmp .eq 10), (65, .iload 4), (67, .bipush 93), (69, .if_icmp .ne 16), (72, .iload 4), (74, .bipush 91), (76, .if_icmp .ne 7), (79, .iconst 1), (80, .goto 4), (83, .iconst 0), (84, .istore_n 2), (85, .aload_n 0), (86, .aload_n 0), (87, .getfield 9), (90, .iload_n 1), (91, .invokevirtual 43), (94, .iconst (-1)), (95, .if_icmp .eq 17), (98, .aload_n 0), (99, .getfield 9), (102, .iload_n 1), (103, .invokevirtual 43), (106, .invokestatic 76), (109, .ifCond .eq 7), (112, .iconst 1), (113, .goto 4), (116, .iconst 0), (117, .invokevirtual 103), (120, .iinc 1 1), (123, .iinc 3 1), (126, .goto (-115)), (129, .aload_n 0), (130, .aload_n 0), (131, .iload_n 1), (132, .iconst 1), (133, .iadd), (134, .invokevirtual 120), (137, .putfield 19), (140, .aload_n 0), (141, .aload_n 0), (142, .getfield 9), (145, .aload_n 0), (146, .getfield 19), (149, .invokevirtual 43), (152, .invokestatic 60), (155, .invokevirtual 103), (158, .aload_n 0), (159, .iconst 5), (160, .putfield 50), (163, .aload_n 0), (164, .iconst 0), (165, .putfield 40), (168, .return_)]
def am_f51 : List (Nat × Instr) := [(0, .iconst 0), (1, .istore_n 2), (2, .iconst 0), (3, .istore_n 3), (4, .iconst 0), (5, .istore 4), (7, .iload_n 1), (8, .istore 5), (10, .iload 5), (12, .aload_n 0), (13, .getfield 9), (16, .getfield 85), (19, .if_icmp .gt 73), (22, .aload_n 0), (23, .getfield 9), (26, .iload 5), (28, .invokevirtual 43), (31, .istore 6), (33, .iload 6), (35, .bipush 103), (37, .if_icmp .ne 12), (40, .iload_n 2), (41, .ifCond .ne 8), (44, .iconst 1), (45, .istore_n 2), (46, .goto 40), (49, .iload 6), (51, .bipush 105), (53, .if_icmp .ne 12), (56, .iload_n 3), (57, .ifCond .ne 8), (60, .iconst 1), (61, .istore_n 3), (62, .goto 24), (65, .iload 6), (67, .bipush 109), (69, .if_icmp .ne 14), (72, .iload 4), (74, .ifCond .ne 9), (77, .iconst 1), (78, .istore 4), (80, .goto 6), (83, .iload 5), (85, .ireturn), (86, .iinc 5 1), (89, .goto (-79)), (92, .aload_n 0), (93, .getfield 9), (96, .getfield 85), (99, .ireturn)]
def am_f52 : List (Nat × Instr) := [(0, .aload_n 0), (1, .getfield 26), (4, .iconst 2), (5, .aload_n 0), (6, .getfield 18), (9, .getfield 66), (12, .invokevirtual 69), (15, .return_)]
def am_f53 : List (Nat × Instr) := [(0, .aload_n 0), (1, .getfield 18), (4, .getfield 78), (7, .lookupswitch 208 #[(1, 171), (4, 164), (7, 146), (11, 158), (12, 202), (13, 140), (18, 178), (19, 184), (21, 190), (23, 196), (25, 133), (27, 152), (59, 127), (123, 121)]), (128, .aload_n 0), (129, .iload_n 1), (130, .invokevirtual 121), (133, .ireturn), (134, .aload_n 0), (135, .iconst 4), (136, .invokevirtual 124), (139, .ireturn), (140, .aload_n 0), (141, .iload_n 1), (142, .iconst 0), (143, .invokevirtual 127), (146, .ireturn), (147, .aload_n 0), (148, .iload_n 1), (149, .invokevirtual 131), (152, .ireturn), (153, .aload_n 0), (154, .iload_n 1), (155, .invokevirtual 134), (158, .ireturn), (159, .aload_n 0), (160, .iload_n 1), (161, .invokevirtual 137), (164, .ireturn), (165, .aload_n 0), (166, .iload_n 1), (167, .invokevirtual 140), (170, .ireturn), (171, .aload_n 0), (172, .bipush 11), (174, .invokevirtual 143), (177, .ireturn), (178, .aload_n 0), (179, .bipush 12), (181, .invokevirtual 143), (184, .ireturn), (185, .aload_n 0), (186, .iload_n 1), (187, .invokevirtual 146), (190, .ireturn), (191, .aload_n 0), (192, .iload_n 1), (193, .invokevirtual 149), (196, .ireturn), (197, .aload_n 0), (198, .iload_n 1), (199, .invokevirtual 152), (202, .ireturn), (203, .aload_n 0), (204, .iload_n 1), (205, .invokevirtual 155), (208, .ireturn), (209, .aload_n 0), (210, .invokevirtual 75), (213, .iconst (-1)), (214, .ireturn), (215, .aload_n 0), (216, .iload_n 1), (217, .invokevirtual 158), (220, .ireturn)]
def am_f54 : List (Nat × Instr) := [(0, .aload_n 0), (1, .bipush 123), (3, .invokevirtual 81), (6, .aload_n 0), (7, .iconst 1), (8, .invokevirtual 124), (11, .istore_n 2), (12, .iconst 0), (13, .istore_n 3), (14, .iload_n 3), (15, .sipush 480), (18, .if_icmp .gt 29), (21, .aload_n 0), (22, .invokevirtual 177), (25, .ifCond .eq 22), (28, .aload_n 0), (29, .getfield 22), (32, .iload_n 2), (33, .aload_n 0), (34, .iload_n 1), (35, .invokevirtual 94), (38, .invokevirtual 60), (41, .iinc 3 1), (44, .goto (-30)), (47, .aload_n 0), (48, .bipush 125), (50, .invokevirtual 168), (53, .iload_n 2), (54, .ireturn)]
def am_f55 : List (Nat × Instr) := [(0, .aload_n 0), (1, .getfield 18), (4, .getfield 78), (7, .iload_n 1), (8, .if_icmp .eq 7), (11, .aload_n 0), (12, .invokevirtual 75), (15, .return_)]
def am_f56 : List (Nat × Instr) := [(0, .aload_n 0), (1, .getfield 22), (4, .iload_n 1), (5, .aload_n 0), (6, .getfield 18), (9, .getfield 66), (12, .iconst 0), (13, .iconst 0), (14, .invokevirtual 49), (17, .istore_n 2), (18, .aload_n 0), (19, .getfield 18), (22, .invokevirtual 85), (25, .iload_n 2), (26, .ireturn)]
def am_f57 : List (Nat × Instr) := [(0, .aload_n 0), (1, .getfield 18), (4, .getfield 78), (7, .bipush 125), (9, .if_icmp .eq 17), (12, .aload_n 0), (13, .getfield 18), (16, .getfield 53), (19, .ifCond .eq 7), (22, .iconst 1), (23, .goto 4), (26, .iconst 0), (27, .ireturn)]
def am_f58 : List (Nat × Instr) := [(0, .aload_n 0), (1, .iload_n 1), (2, .invokevirtual 53), (5, .ifCond .eq 11), (8, .aload_n 0), (9, .iload_n 2), (10, .invokevirtual 53), (13, .ifCond .ne 4), (16, .return_), (17, .aload_n 0), (18, .getfield 27), (21, .iload_n 1), (22, .iaload), (23, .istore_n 3), (24, .aload_n 0), (25, .iload_n 3), (26, .invokevirtual 53), (29, .ifCond .eq 13), (32, .aload_n 0), (33, .getfield 30), (36, .iload_n 3), (37, .iload_n 2), (38, .iastore), (39, .goto 10), (42, .aload_n 0), (43, .getfield 24), (46, .iload_n 1), (47, .iload_n 2), (48, .iastore), (49, .aload_n 0), (50, .getfield 27), (53, .iload_n 1), (54, .iload_n 2), (55, .iastore), (56, .aload_n 0), (57, .getfield 33), (60, .iload_n 2), (61, .iload_n 1), (62, .iastore), (63, .return_)]
def am_f59 : List (Nat × Instr) := [(0, .iload_n 1), (1, .ifCond .lt 22), (4, .iload_n 1), (5, .aload_n 0), (6, .getfield 43), (9, .if_icmp .ge 14), (12, .iload_n 1), (13, .sipush 512), (16, .if_icmp .ge 7), (19, .iconst 1), (20, .goto 4), (23, .iconst 0), (24, .ireturn)]
def am_f60 : List (Nat × Instr) := [(0, .aload_n 0), (1, .iload_n 1), (2, .invokevirtual 81), (5, .aload_n 0), (6, .getfield 18), (9, .invokevirtual 85), (12, .return_)]
def am_f61 : List (Nat × Instr) := [(0, .aload_n 0), (1, .iconst 2), (2, .invokevirtual 124), (5, .istore_n 3), (6, .aload_n 0), (7, .getfield 22), (10, .iload_n 3), (11, .aload_n 0), (12, .iload_n 1), (13, .iload_n 2), (14, .invokevirtual 180), (17, .invokevirtual 60), (20, .iconst 0), (21, .istore 4), (23, .iload 4), (25, .sipush 480), (28, .if_icmp .gt 42), (31, .aload_n 0), (32, .getfield 18), (35, .getfield 78), (38, .bipush 44), (40, .if_icmp .ne 30), (43, .aload_n 0), (44, .getfield 18), (47, .invokevirtual 85), (50, .aload_n 0), (51, .getfield 22), (54, .iload_n 3), (55, .aload_n 0), (56, .iload_n 1), (57, .iload_n 2), (58, .invokevirtual 180), (61, .invokevirtual 60), (64, .iinc 4 1), (67, .goto (-44)), (70, .iload_n 3), (71, .ireturn)]
def am_f62 : List (Nat × Instr) := [(0, .aload_n 0), (1, .invokevirtual 183), (4, .aload_n 0), (5, .iconst 3), (6, .invokevirtual 165), (9, .istore_n 3), (10, .aload_n 0), (11, .getfield 18), (14, .getfield 78), (17, .bipush 61), (19, .if_icmp .ne 24), (22, .aload_n 0), (23, .getfield 18), (26, .invokevirtual 85), (29, .aload_n 0), (30, .getfield 22), (33, .iload_n 3), (34, .aload_n 0), (35, .iload_n 1), (36, .iload_n 2), (37, .invokevirtual 186), (40, .invokevirtual 60), (43, .iload_n 3), (44, .ireturn)]
def am_f63 : List (Nat × Instr) := [(0, .aload_n 0), (1, .getfield 18), (4, .getfield 53), (7, .iconst 1), (8, .if_icmp .eq 7), (11, .aload_n 0), (12, .invokevirtual 75), (15, .return_)]
def am_f64 : List (Nat × Instr) := [(0, .aload_n 0), (1, .getfield 22), (4, .iload_n 1), (5, .aload_n 0), (6, .getfield 18), (9, .getfield 66), (12, .aload_n 0), (13, .getfield 18), (16, .invokevirtual 88), (19, .aload_n 0), (20, .getfield 18), (23, .getfield 78), (26, .invokevirtual 49), (29, .istore_n 2), (30, .aload_n 0), (31, .getfield 18), (34, .invokevirtual 85), (37, .iload_n 2), (38, .ireturn)]
def am_f65 : List (Nat × Instr) := [(0, .aload_n 0), (1, .iload_n 1), (2, .invokevirtual 97), (5, .aload_n 0), (6, .iload_n 1), (7, .iconst 1), (8, .iadd), (9, .iload_n 2), (10, .invokevirtual 217), (13, .istore_n 3), (14, .aload_n 0), (15, .getfield 18), (18, .getfield 78), (21, .invokestatic 220), (24, .ifCond .ne 5), (27, .iload_n 3), (28, .ireturn), (29, .aload_n 0), (30, .getfield 202), (33, .ifCond .ne 7), (36, .aload_n 0), (37, .invokevirtual 75), (40, .aload_n 0), (41, .bipush 48), (43, .invokevirtual 165), (46, .istore 4), (48, .aload_n 0), (49, .getfield 22), (52, .iload 4), (54, .iload_n 3), (55, .invokevirtual 60), (58, .aload_n 0), (59, .getfield 22), (62, .iload 4), (64, .aload_n 0), (65, .iload_n 1), (66, .iconst 1), (67, .iadd), (68, .iload_n 2), (69, .invokevirtual 186), (72, .invokevirtual 60), (75, .aload_n 0), (76, .iconst 0), (77, .putfield 202), (80, .iload 4), (82, .ireturn)]
def am_f66 : List (Nat × Instr) := [(0, .aload_n 0), (1, .iload_n 1), (2, .iload_n 2), (3, .invokevirtual 223), (6, .istore_n 3), (7, .aload_n 0), (8, .getfield 18), (11, .getfield 78), (14, .bipush 63), (16, .if_icmp .eq 5), (19, .iload_n 3), (20, .ireturn), (21, .aload_n 0), (22, .bipush 47), (24, .invokevirtual 171), (27, .istore 4), (29, .aload_n 0), (30, .getfield 22), (33, .iload 4), (35, .iload_n 3), (36, .invokevirtual 60), (39, .aload_n 0), (40, .getfield 18), (43, .invokevirtual 85), (46, .aload_n 0), (47, .getfield 22), (50, .iload 4), (52, .aload_n 0), (53, .iload_n 1), (54, .iload_n 2), (55, .invokevirtual 186), (58, .invokevirtual 60), (61, .aload_n 0), (62, .bipush 58), (64, .invokevirtual 168), (67, .aload_n 0), (68, .getfield 22), (71, .iload 4), (73, .aload_n 0), (74, .iload_n 1), (75, .iload_n 2), (76, .invokevirtual 186), (79, .invokevirtual 60), (82, .aload_n 0), (83, .iconst 0), (84, .putfield 202), (87, .iload 4), (89, .ireturn)]
def am_f67 : List (Nat × Instr) := [(0, .aload_n 0), (1, .getfield 34), (4, .istore_n 3), (5, .aload_n 0), (6, .iload_n 1), (7, .invokevirtual 226), (10, .istore 4), (12, .iconst 0), (13, .istore 5), (15, .iload 5), (17, .sipush 480), (20, .if_icmp .gt 99), (23, .iload_n 2), (24, .ifCond .eq 19), (27, .aload_n 0), (28, .getfield 18), (31, .getfield 78), (34, .bipush 14), (36, .if_icmp .ne 7), (39, .iconst 0), (40, .goto 13), (43, .aload_n 0), (44, .getfield 18), (47, .getfield 78), (50, .invokestatic 229), (53, .istore 6), (55, .aload_n 0), (56, .iload 4), (58, .iload 6), (60, .iload_n 3), (61, .invokevirtual 232), (64, .istore 4), (66, .iload 6), (68, .ifCond .ne 6), (71, .goto 48), (74, .aload_n 0), (75, .bipush 46), (77, .invokevirtual 165), (80, .istore 7), (82, .aload_n 0), (83, .getfield 22), (86, .iload 7), (88, .iload 4), (90, .invokevirtual 60), (93, .aload_n 0), (94, .iload 7), (96, .iload 6), (98, .invokevirtual 235), (101, .aload_n 0), (102, .iload_n 1), (103, .invokevirtual 226), (106, .istore 4), (108, .aload_n 0), (109, .iconst 0), (110, .putfield 202), (113, .iinc 5 1), (116, .goto (-101)), (119, .iload 4), (121, .ireturn)]
def am_f68 : List (Nat × Instr) := [(0, .aload_n 0), (1, .getfield 18), (4, .invokevirtual 72), (7, .aload_n 0), (8, .getfield 18), (11, .getfield 78), (14, .invokestatic 238), (17, .ifCond .eq 37), (20, .aload_n 0), (21, .bipush 45), (23, .invokevirtual 165), (26, .istore_n 2), (27, .aload_n 0), (28, .iload_n 1), (29, .invokevirtual 97), (32, .aload_n 0), (33, .getfield 22), (36, .iload_n 2), (37, .aload_n 0), (38, .iload_n 1), (39, .iconst 1), (40, .iadd), (41, .invokevirtual 226), (44, .invokevirtual 60), (47, .aload_n 0), (48, .iconst 0), (49, .putfield 202), (52, .iload_n 2), (53, .ireturn), (54, .aload_n 0), (55, .iload_n 1), (56, .invokevirtual 241), (59, .istore_n 2), (60, .aload_n 0), (61, .getfield 18), (64, .getfield 78), (67, .sipush 11051), (70, .if_icmp .eq 16), (73, .aload_n 0), (74, .getfield 18), (77, .getfield 78), (80, .sipush 11565), (83, .if_icmp .ne 7), (86, .iconst 1), (87, .goto 4), (90, .iconst 0), (91, .istore_n 3), (92, .iload_n 3), (93, .ifCond .eq 13), (96, .aload_n 0), (97, .getfield 18), (100, .getfield 117), (103, .ifCond .eq 5), (106, .iload_n 2), (107, .ireturn), (108, .aload_n 0), (109, .bipush 44), (111, .invokevirtual 165), (114, .istore 4), (116, .aload_n 0), (117, .getfield 22), (120, .iload 4), (122, .iload_n 2), (123, .invokevirtual 60), (126, .aload_n 0), (127, .iconst 0), (128, .putfield 202), (131, .iload 4), (133, .ireturn)]
def am_f69 : List (Nat × Instr) := [(0, .iload_n 0), (1, .lookupswitch 85 #[(6, 83), (24, 83), (26, 83), (33, 83), (43, 83), (45, 83), (126, 83), (11051, 83), (11565, 83)]), (84, .iconst 1), (85, .ireturn), (86, .iconst 0), (87, .ireturn)]
def am_f70 : List (Nat × Instr) := [(0, .aload_n 0), (1, .iload_n 1), (2, .invokevirtual 244), (5, .istore_n 2), (6, .iconst 0), (7, .istore_n 3), (8, .iload_n 3), (9, .sipush 480), (12, .if_icmp .gt 62), (15, .aload_n 0), (16, .getfield 18), (19, .getfield 78), (22, .bipush 40), (24, .if_icmp .ne 13), (27, .aload_n 0), (28, .iload_n 2), (29, .iload_n 1), (30, .invokevirtual 247), (33, .istore_n 2), (34, .goto 34), (37, .aload_n 0), (38, .getfield 18), (41, .getfield 78), (44, .bipush 46), (46, .if_icmp .eq 15), (49, .aload_n 0), (50, .getfield 18), (53, .getfield 78), (56, .bipush 91), (58, .if_icmp .ne 16), (61, .aload_n 0), (62, .iload_n 2), (63, .iload_n 1), (64, .invokevirtual 250), (67, .istore_n 2), (68, .iinc 3 1), (71, .goto (-63)), (74, .aload_n 0), (75, .iconst 1), (76, .putfield 202), (79, .iload_n 2), (80, .ireturn)]
def am_f71 : List (Nat × Instr) := [(0, .aload_n 0), (1, .getfield 18), (4, .getfield 78), (7, .bipush 16), (9, .if_icmp .ne 11), (12, .aload_n 0), (13, .iload_n 1), (14, .invokevirtual 253), (17, .goto 8), (20, .aload_n 0), (21, .iload_n 1), (22, .invokevirtual 256), (25, .ireturn)]
def am_f72 : List (Nat × Instr) := [(0, .aload_n 0), (1, .bipush 42), (3, .invokevirtual 124), (6, .istore_n 2), (7, .aload_n 0), (8, .iload_n 1), (9, .invokevirtual 97), (12, .aload_n 0), (13, .getfield 22), (16, .iload_n 2), (17, .aload_n 0), (18, .iload_n 1), (19, .iconst 1), (20, .iadd), (21, .invokevirtual 259), (24, .invokevirtual 60), (27, .aload_n 0), (28, .getfield 18), (31, .getfield 78), (34, .bipush 40), (36, .if_icmp .ne 9), (39, .aload_n 0), (40, .iload_n 2), (41, .iload_n 1), (42, .invokevirtual 262), (45, .iload_n 2), (46, .ireturn)]
def am_f73 : List (Nat × Instr) := [(0, .aload_n 0), (1, .iload_n 1), (2, .invokevirtual 244), (5, .istore_n 2), (6, .iconst 0), (7, .istore_n 3), (8, .iload_n 3), (9, .sipush 480), (12, .if_icmp .gt 40), (15, .aload_n 0), (16, .getfield 18), (19, .getfield 78), (22, .bipush 46), (24, .if_icmp .eq 15), (27, .aload_n 0), (28, .getfield 18), (31, .getfield 78), (34, .bipush 91), (36, .if_icmp .ne 16), (39, .aload_n 0), (40, .iload_n 2), (41, .iload_n 1), (42, .invokevirtual 250), (45, .istore_n 2), (46, .iinc 3 1), (49, .goto (-41)), (52, .iload_n 2), (53, .ireturn)]
def am_f74 : List (Nat × Instr) := [(0, .aload_n 0), (1, .getfield 18), (4, .getfield 78), (7, .bipush 46), (9, .if_icmp .ne 54), (12, .aload_n 0), (13, .getfield 18), (16, .invokevirtual 85), (19, .aload_n 0), (20, .getfield 18), (23, .getfield 53), (26, .iconst 1), (27, .if_icmp .eq 18), (30, .aload_n 0), (31, .getfield 18), (34, .getfield 53), (37, .iconst 2), (38, .if_icmp .eq 7), (41, .aload_n 0), (42, .invokevirtual 75), (45, .aload_n 0), (46, .bipush 41), (48, .invokevirtual 165), (51, .istore_n 3), (52, .aload_n 0), (53, .getfield 22), (56, .iload_n 3), (57, .iload_n 1), (58, .invokevirtual 60), (61, .iload_n 3), (62, .ireturn), (63, .aload_n 0), (64, .bipush 40), (66, .invokevirtual 171), (69, .istore_n 3), (70, .aload_n 0), (71, .getfield 22), (74, .iload_n 3), (75, .iload_n 1), (76, .invokevirtual 60), (79, .aload_n 0), (80, .bipush 91), (82, .invokevirtual 168), (85, .aload_n 0), (86, .getfield 22), (89, .iload_n 3), (90, .aload_n 0), (91, .iload_n 2), (92, .iconst 0), (93, .invokevirtual 174), (96, .invokevirtual 60), (99, .aload_n 0), (100, .bipush 93), (102, .invokevirtual 168), (105, .iload_n 3), (106, .ireturn)]
def am_f75 : List (Nat × Instr) := [(0, .aload_n 0), (1, .getfield 22), (4, .iload_n 1), (5, .aload_n 0), (6, .getfield 18), (9, .getfield 66), (12, .iconst 0), (13, .iconst 0), (14, .invokevirtual 49), (17, .ireturn)]
def am_f76 : List (Nat × Instr) := [(0, .aload_n 0), (1, .iload_n 1), (2, .iload_n 2), (3, .invokevirtual 186), (6, .istore_n 3), (7, .aload_n 0), (8, .getfield 18), (11, .getfield 78), (14, .bipush 44), (16, .if_icmp .eq 5), (19, .iload_n 3), (20, .ireturn), (21, .aload_n 0), (22, .bipush 49), (24, .invokevirtual 171), (27, .istore 4), (29, .aload_n 0), (30, .getfield 22), (33, .iload 4), (35, .iload_n 3), (36, .invokevirtual 60), (39, .iconst 0), (40, .istore 5), (42, .iload 5), (44, .sipush 480), (47, .if_icmp .gt 43), (50, .aload_n 0), (51, .getfield 18), (54, .getfield 78), (57, .bipush 44), (59, .if_icmp .ne 31), (62, .aload_n 0), (63, .getfield 18), (66, .invokevirtual 85), (69, .aload_n 0), (70, .getfield 22), (73, .iload 4), (75, .aload_n 0), (76, .iload_n 1), (77, .iload_n 2), (78, .invokevirtual 186), (81, .invokevirtual 60), (84, .iinc 5 1), (87, .goto (-45)), (90, .aload_n 0), (91, .iconst 0), (92, .putfield 202), (95, .iload 4), (97, .ireturn)]
def am_f77 : List (Nat × Instr) := [(0, .aload_n 0), (1, .bipush 40), (3, .invokevirtual 168), (6, .iconst 0), (7, .istore_n 3), (8, .iload_n 3), (9, .sipush 480), (12, .if_icmp .gt 45), (15, .aload_n 0), (16, .getfield 18), (19, .getfield 78), (22, .bipush 41), (24, .if_icmp .eq 33), (27, .iload_n 3), (28, .ifCond .le 9), (31, .aload_n 0), (32, .bipush 44), (34, .invokevirtual 168), (37, .aload_n 0), (38, .getfield 22), (41, .iload_n 1), (42, .aload_n 0), (43, .iload_n 2), (44, .iconst 0), (45, .invokevirtual 186), (48, .invokevirtual 60), (51, .iinc 3 1), (54, .goto (-46)), (57, .aload_n 0), (58, .bipush 41), (60, .invokevirtual 168), (63, .return_)]
def am_f78 : List (Nat × Instr) := [(0, .aload_n 0), (1, .getfield 18), (4, .getfield 53), (7, .tableswitch 61 1 5 #[33, 61, 40, 47, 54]), (40, .aload_n 0), (41, .bipush 31), (43, .invokevirtual 165), (46, .ireturn), (47, .aload_n 0), (48, .bipush 33), (50, .invokevirtual 165), (53, .ireturn), (54, .aload_n 0), (55, .bipush 34), (57, .invokevirtual 165), (60, .ireturn), (61, .aload_n 0), (62, .bipush 35), (64, .invokevirtual 165), (67, .ireturn), (68, .aload_n 0), (69, .iload_n 1), (70, .invokevirtual 265), (73, .ireturn)]
def am_f79 : List (Nat × Instr) := [(0, .aload_n 0), (1, .getfield 18), (4, .getfield 78), (7, .lookupswitch 129 #[(9, 80), (12, 87), (17, 80), (20, 73), (22, 80), (40, 107), (91, 95), (123, 101)]), (80, .aload_n 0), (81, .bipush 30), (83, .invokevirtual 124), (86, .ireturn), (87, .aload_n 0), (88, .bipush 32), (90, .invokevirtual 165), (93, .ireturn), (94, .aload_n 0), (95, .bipush 39), (97, .iload_n 1), (98, .invokevirtual 100), (101, .ireturn), (102, .aload_n 0), (103, .iload_n 1), (104, .invokevirtual 268), (107, .ireturn), (108, .aload_n 0), (109, .iload_n 1), (110, .invokevirtual 271), (113, .ireturn), (114, .aload_n 0), (115, .getfield 18), (118, .invokevirtual 85), (121, .aload_n 0), (122, .iload_n 1), (123, .iconst 0), (124, .invokevirtual 174), (127, .istore_n 2), (128, .aload_n 0), (129, .bipush 41), (131, .invokevirtual 168), (134, .iload_n 2), (135, .ireturn), (136, .aload_n 0), (137, .invokevirtual 75), (140, .iconst (-1)), (141, .ireturn)]
def am_f80 : List (Nat × Instr) := [(0, .aload_n 0), (1, .getfield 18), (4, .getfield 66), (7, .istore_n 3), (8, .aload_n 0), (9, .getfield 18), (12, .invokevirtual 85), (15, .iload_n 1), (16, .bipush 20), (18, .if_icmp .ne 7), (21, .aload_n 0), (22, .invokevirtual 183), (25, .aload_n 0), (26, .getfield 18), (29, .getfield 53), (32, .iconst 1), (33, .if_icmp .ne 11), (36, .aload_n 0), (37, .iload_n 1), (38, .invokevirtual 165), (41, .goto 14), (44, .aload_n 0), (45, .getfield 22), (48, .iload_n 1), (49, .iload_n 3), (50, .iconst 0), (51, .iconst 0), (52, .invokevirtual 49), (55, .istore 4), (57, .aload_n 0), (58, .bipush 40), (60, .invokevirtual 168), (63, .iconst 0), (64, .istore 5), (66, .iload 5), (68, .sipush 480), (71, .if_icmp .gt 51), (74, .aload_n 0), (75, .getfield 18), (78, .getfield 78), (81, .bipush 41), (83, .if_icmp .eq 39), (86, .iload 5), (88, .ifCond .le 9), (91, .aload_n 0), (92, .bipush 44), (94, .invokevirtual 168), (97, .aload_n 0), (98, .invokevirtual 183), (101, .aload_n 0), (102, .getfield 22), (105, .iload 4), (107, .aload_n 0), (108, .bipush 22), (110, .invokevirtual 165), (113, .invokevirtual 60), (116, .iinc 5 1), (119, .goto (-53)), (122, .aload_n 0), (123, .bipush 41), (125, .invokevirtual 168), (128, .aload_n 0), (129, .getfield 22), (132, .iload 4), (134, .aload_n 0), (135, .iload_n 2), (136, .invokevirtual 214), (139, .invokevirtual 60), (142, .iload 4), (144, .ireturn)]
def am_f81 : List (Nat × Instr) := [(0, .aload_n 0), (1, .bipush 123), (3, .invokevirtual 81), (6, .aload_n 0), (7, .iload_n 1), (8, .invokevirtual 97), (11, .aload_n 0), (12, .bipush 23), (14, .invokevirtual 124), (17, .istore_n 2), (18, .iconst 0), (19, .istore_n 3), (20, .iload_n 3), (21, .sipush 480), (24, .if_icmp .gt 31), (27, .aload_n 0), (28, .invokevirtual 177), (31, .ifCond .eq 24), (34, .aload_n 0), (35, .getfield 22), (38, .iload_n 2), (39, .aload_n 0), (40, .iload_n 1), (41, .iconst 1), (42, .iadd), (43, .invokevirtual 56), (46, .invokevirtual 60), (49, .iinc 3 1), (52, .goto (-32)), (55, .aload_n 0), (56, .bipush 125), (58, .invokevirtual 168), (61, .iload_n 2), (62, .ireturn)]
def am_f82 : List (Nat × Instr) := [(0, .aload_n 0), (1, .bipush 36), (3, .invokevirtual 124), (6, .istore_n 2), (7, .iconst 0), (8, .istore_n 3), (9, .iload_n 3), (10, .sipush 480), (13, .if_icmp .gt 80), (16, .aload_n 0), (17, .getfield 18), (20, .getfield 78), (23, .bipush 93), (25, .if_icmp .eq 68), (28, .aload_n 0), (29, .getfield 18), (32, .getfield 78), (35, .bipush 44), (37, .if_icmp .ne 18), (40, .aload_n 0), (41, .getfield 22), (44, .iload_n 2), (45, .aload_n 0), (46, .invokevirtual 192), (49, .invokevirtual 60), (52, .goto 17), (55, .aload_n 0), (56, .getfield 22), (59, .iload_n 2), (60, .aload_n 0), (61, .iload_n 1), (62, .iconst 0), (63, .invokevirtual 186), (66, .invokevirtual 60), (69, .aload_n 0), (70, .getfield 18), (73, .getfield 78), (76, .bipush 93), (78, .if_icmp .eq 9), (81, .aload_n 0), (82, .bipush 44), (84, .invokevirtual 168), (87, .iinc 3 1), (90, .goto (-81)), (93, .aload_n 0), (94, .bipush 93), (96, .invokevirtual 168), (99, .iload_n 2), (100, .ireturn)]
def am_f83 : List (Nat × Instr) := [(0, .aload_n 0), (1, .getfield 22), (4, .bipush 21), (6, .iconst 0), (7, .iconst 0), (8, .iconst 0), (9, .invokevirtual 49), (12, .ireturn)]
def am_f84 : List (Nat × Instr) := [(0, .aload_n 0), (1, .bipush 37), (3, .invokevirtual 124), (6, .istore_n 2), (7, .iconst 0), (8, .istore_n 3), (9, .iload_n 3), (10, .sipush 480), (13, .if_icmp .gt 52), (16, .aload_n 0), (17, .getfield 18), (20, .getfield 78), (23, .bipush 125), (25, .if_icmp .eq 40), (28, .aload_n 0), (29, .getfield 22), (32, .iload_n 2), (33, .aload_n 0), (34, .iload_n 1), (35, .invokevirtual 274), (38, .invokevirtual 60), (41, .aload_n 0), (42, .getfield 18), (45, .getfield 78), (48, .bipush 125), (50, .if_icmp .eq 9), (53, .aload_n 0), (54, .bipush 44), (56, .invokevirtual 168), (59, .iinc 3 1), (62, .goto (-53)), (65, .aload_n 0), (66, .bipush 125), (68, .invokevirtual 168), (71, .iload_n 2), (72, .ireturn)]
def am_f85 : List (Nat × Instr) := [(0, .aload_n 0), (1, .getfield 18), (4, .getfield 53), (7, .iconst 1), (8, .if_icmp .eq 14), (11, .aload_n 0), (12, .getfield 18), (15, .getfield 53), (18, .iconst 2), (19, .if_icmp .ne 7), (22, .iconst 1), (23, .goto 4), (26, .iconst 0), (27, .istore_n 2), (28, .iload_n 2), (29, .ifCond .ne 29), (32, .aload_n 0), (33, .getfield 18), (36, .getfield 53), (39, .iconst 4), (40, .if_icmp .eq 18), (43, .aload_n 0), (44, .getfield 18), (47, .getfield 53), (50, .iconst 3), (51, .if_icmp .eq 7), (54, .aload_n 0), (55, .invokevirtual 75), (58, .aload_n 0), (59, .bipush 38), (61, .invokevirtual 165), (64, .istore_n 3), (65, .aload_n 0), (66, .bipush 58), (68, .invokevirtual 168), (71, .aload_n 0), (72, .getfield 22), (75, .iload_n 3), (76, .aload_n 0), (77, .iload_n 1), (78, .iconst 0), (79, .invokevirtual 186), (82, .invokevirtual 60), (85, .iload_n 3), (86, .ireturn)]
def am_f86 : List (Nat × Instr) := [(0, .aload_n 0), (1, .bipush 43), (3, .invokevirtual 171), (6, .istore_n 3), (7, .aload_n 0), (8, .getfield 22), (11, .iload_n 3), (12, .iload_n 1), (13, .invokevirtual 60), (16, .aload_n 0), (17, .iload_n 3), (18, .iload_n 2), (19, .invokevirtual 262), (22, .iload_n 3), (23, .ireturn)]
def am_f87 : List (Nat × Instr) := [(0, .iload_n 0), (1, .lookupswitch 220 #[(14, 204), (15, 204), (37, 195), (38, 210), (42, 195), (43, 198), (45, 198), (47, 195), (60, 204), (62, 204), (94, 212), (124, 214), (8509, 207), (9766, 216), (15420, 201), (15421, 204), (15677, 207), (15933, 204), (15934, 201), (31868, 218), (2178365, 207), (4013373, 207), (4079166, 201)]), (196, .bipush 10), (198, .ireturn), (199, .bipush 9), (201, .ireturn), (202, .bipush 8), (204, .ireturn), (205, .bipush 7), (207, .ireturn), (208, .bipush 6), (210, .ireturn), (211, .iconst 5), (212, .ireturn), (213, .iconst 4), (214, .ireturn), (215, .iconst 3), (216, .ireturn), (217, .iconst 2), (218, .ireturn), (219, .iconst 1), (220, .ireturn), (221, .iconst 0), (222, .ireturn)]
def am_f88 : List (Nat × Instr) := [(0, .iload_n 1), (1, .istore 4), (3, .aload_n 0), (4, .getfield 34), (7, .iconst 1), (8, .isub), (9, .istore 5), (11, .iload 5), (13, .iload_n 3), (14, .if_icmp .lt 67), (17, .iload 5), (19, .ifCond .lt 62), (22, .iload 5), (24, .sipush 256), (27, .if_icmp .ge 54), (30, .aload_n 0), (31, .getfield 15), (34, .iload 5), (36, .iaload), (37, .iload_n 2), (38, .if_icmp .ge 6), (41, .goto 40), (44, .aload_n 0), (45, .getfield 22), (48, .aload_n 0), (49, .getfield 11), (52, .iload 5), (54, .iaload), (55, .iload 4), (57, .invokevirtual 60), (60, .aload_n 0), (61, .getfield 11), (64, .iload 5), (66, .iaload), (67, .istore 4), (69, .aload_n 0), (70, .iload 5), (72, .putfield 34), (75, .iinc 5 (-1)), (78, .goto (-67)), (81, .iload 4), (83, .ireturn)]
def am_f89 : List (Nat × Instr) := [(0, .aload_n 0), (1, .getfield 34), (4, .ifCond .lt 13), (7, .aload_n 0), (8, .getfield 34), (11, .sipush 256), (14, .if_icmp .lt 19), (17, .aload_n 0), (18, .getfield 26), (21, .iconst 3), (22, .aload_n 0), (23, .getfield 18), (26, .getfield 66), (29, .invokevirtual 69), (32, .return_), (33, .aload_n 0), (34, .getfield 11), (37, .aload_n 0), (38, .getfield 34), (41, .iload_n 1), (42, .iastore), (43, .aload_n 0), (44, .getfield 15), (47, .aload_n 0), (48, .getfield 34), (51, .iload_n 2), (52, .iastore), (53, .aload_n 0), (54, .dup), (55, .getfield 34), (58, .iconst 1), (59, .iadd), (60, .putfield 34), (63, .return_)]
def am_f90 : List (Nat × Instr) := [(0, .iload_n 0), (1, .sipush 255), (4, .iand), (5, .bipush 61), (7, .if_icmp .eq 5), (10, .iconst 0), (11, .ireturn), (12, .iload_n 0), (13, .bipush 8), (15, .ishr), (16, .lookupswitch 110 #[(0, 108), (37, 108), (38, 108), (42, 108), (43, 108), (45, 108), (47, 108), (94, 108), (124, 108), (15420, 108), (15934, 108), (4079166, 108)]), (124, .iconst 1), (125, .ireturn), (126, .iconst 0), (127, .ireturn)]
def am_f91 : List (Nat × Instr) := [(0, .aload_n 0), (1, .bipush 6), (3, .invokevirtual 124), (6, .istore_n 2), (7, .aload_n 0), (8, .iload_n 2), (9, .iload_n 1), (10, .invokevirtual 189), (13, .aload_n 0), (14, .getfield 22), (17, .iload_n 2), (18, .aload_n 0), (19, .iload_n 1), (20, .invokevirtual 94), (23, .invokevirtual 60), (26, .aload_n 0), (27, .getfield 18), (30, .getfield 78), (33, .bipush 8), (35, .if_icmp .ne 23), (38, .aload_n 0), (39, .getfield 18), (42, .invokevirtual 85), (45, .aload_n 0), (46, .getfield 22), (49, .iload_n 2), (50, .aload_n 0), (51, .iload_n 1), (52, .invokevirtual 94), (55, .invokevirtual 60), (58, .iload_n 2), (59, .ireturn)]
def am_f92 : List (Nat × Instr) := [(0, .aload_n 0), (1, .bipush 40), (3, .invokevirtual 168), (6, .aload_n 0), (7, .getfield 22), (10, .iload_n 1), (11, .aload_n 0), (12, .iload_n 2), (13, .iconst 0), (14, .invokevirtual 174), (17, .invokevirtual 60), (20, .aload_n 0), (21, .bipush 41), (23, .invokevirtual 168), (26, .return_)]
def am_f93 : List (Nat × Instr) := [(0, .aload_n 0), (1, .bipush 7), (3, .invokevirtual 124), (6, .istore_n 2), (7, .aload_n 0), (8, .getfield 22), (11, .iload_n 2), (12, .aload_n 0), (13, .iload_n 1), (14, .invokevirtual 94), (17, .invokevirtual 60), (20, .aload_n 0), (21, .bipush 27), (23, .invokevirtual 168), (26, .aload_n 0), (27, .iload_n 2), (28, .iload_n 1), (29, .invokevirtual 189), (32, .iload_n 2), (33, .ireturn)]
def am_f94 : List (Nat × Instr) := [(0, .aload_n 0), (1, .bipush 8), (3, .invokevirtual 124), (6, .istore_n 2), (7, .aload_n 0), (8, .iload_n 2), (9, .iload_n 1), (10, .invokevirtual 189), (13, .aload_n 0), (14, .getfield 22), (17, .iload_n 2), (18, .aload_n 0), (19, .iload_n 1), (20, .invokevirtual 94), (23, .invokevirtual 60), (26, .iload_n 2), (27, .ireturn)]
def am_f95 : List (Nat × Instr) := [(0, .aload_n 0), (1, .getfield 18), (4, .getfield 66), (7, .istore_n 2), (8, .aload_n 0), (9, .getfield 18), (12, .invokevirtual 85), (15, .aload_n 0), (16, .bipush 40), (18, .invokevirtual 168), (21, .aload_n 0), (22, .getfield 18), (25, .getfield 78), (28, .bipush 59), (30, .if_icmp .ne 14), (33, .aload_n 0), (34, .iload_n 2), (35, .aload_n 0), (36, .invokevirtual 192), (39, .iload_n 1), (40, .invokevirtual 195), (43, .ireturn), (44, .aload_n 0), (45, .getfield 18), (48, .getfield 78), (51, .bipush 25), (53, .if_icmp .ne 7), (56, .iconst 1), (57, .goto 4), (60, .iconst 0), (61, .istore_n 3), (62, .iload_n 3), (63, .ifCond .eq 12), (66, .aload_n 0), (67, .iload_n 1), (68, .iconst 1), (69, .invokevirtual 127), (72, .goto 9), (75, .aload_n 0), (76, .iload_n 1), (77, .iconst 1), (78, .invokevirtual 174), (81, .istore 4), (83, .aload_n 0), (84, .getfield 18), (87, .getfield 78), (90, .bipush 14), (92, .if_icmp .eq 12), (95, .aload_n 0), (96, .iload_n 2), (97, .iload 4), (99, .iload_n 1), (100, .invokevirtual 195), (103, .ireturn), (104, .iload_n 3), (105, .ifCond .eq 18), (108, .aload_n 0), (109, .getfield 22), (112, .iload 4), (114, .invokevirtual 199), (117, .ifCond .ne 17), (120, .goto 10), (123, .aload_n 0), (124, .getfield 202), (127, .ifCond .ne 7), (130, .aload_n 0), (131, .invokevirtual 75), (134, .aload_n 0), (135, .iload_n 2), (136, .iload 4), (138, .iload_n 1), (139, .invokevirtual 205), (142, .ireturn)]
def am_f96 : List (Nat × Instr) := [(0, .aload_n 0), (1, .getfield 22), (4, .bipush 9), (6, .iload_n 1), (7, .iconst 0), (8, .iconst 0), (9, .invokevirtual 49), (12, .istore 4), (14, .aload_n 0), (15, .getfield 22), (18, .iload 4), (20, .iload_n 2), (21, .invokevirtual 60), (24, .aload_n 0), (25, .bipush 59), (27, .invokevirtual 168), (30, .aload_n 0), (31, .getfield 22), (34, .iload 4), (36, .aload_n 0), (37, .getfield 18), (40, .getfield 78), (43, .bipush 59), (45, .if_icmp .ne 10), (48, .aload_n 0), (49, .invokevirtual 192), (52, .goto 9), (55, .aload_n 0), (56, .iload_n 3), (57, .iconst 0), (58, .invokevirtual 174), (61, .invokevirtual 60), (64, .aload_n 0), (65, .bipush 59), (67, .invokevirtual 168), (70, .aload_n 0), (71, .getfield 22), (74, .iload 4), (76, .aload_n 0), (77, .getfield 18), (80, .getfield 78), (83, .bipush 41), (85, .if_icmp .ne 10), (88, .aload_n 0), (89, .invokevirtual 192), (92, .goto 9), (95, .aload_n 0), (96, .iload_n 3), (97, .iconst 0), (98, .invokevirtual 174), (101, .invokevirtual 60), (104, .aload_n 0), (105, .bipush 41), (107, .invokevirtual 168), (110, .aload_n 0), (111, .getfield 22), (114, .iload 4), (116, .aload_n 0), (117, .iload_n 3), (118, .invokevirtual 94), (121, .invokevirtual 60), (124, .iload 4), (126, .ireturn)]
def am_f97 : List (Nat × Instr) := [(0, .aload_n 0), (1, .iload_n 1), (2, .invokevirtual 53), (5, .ifCond .eq 35), (8, .aload_n 0), (9, .aload_n 0), (10, .getfield 24), (13, .iload_n 1), (14, .iaload), (15, .invokevirtual 53), (18, .ifCond .eq 22), (21, .aload_n 0), (22, .getfield 24), (25, .iload_n 1), (26, .iaload), (27, .aload_n 0), (28, .getfield 27), (31, .iload_n 1), (32, .iaload), (33, .if_icmp .ne 7), (36, .iconst 1), (37, .goto 4), (40, .iconst 0), (41, .ireturn)]
def am_f98 : List (Nat × Instr) := [(0, .aload_n 0), (1, .getfield 22), (4, .bipush 10), (6, .iload_n 1), (7, .iconst 0), (8, .iconst 0), (9, .invokevirtual 49), (12, .istore 4), (14, .aload_n 0), (15, .getfield 22), (18, .iload 4), (20, .iload_n 2), (21, .invokevirtual 60), (24, .aload_n 0), (25, .getfield 18), (28, .invokevirtual 85), (31, .aload_n 0), (32, .getfield 22), (35, .iload 4), (37, .aload_n 0), (38, .iload_n 3), (39, .iconst 0), (40, .invokevirtual 174), (43, .invokevirtual 60), (46, .aload_n 0), (47, .bipush 41), (49, .invokevirtual 168), (52, .aload_n 0), (53, .getfield 22), (56, .iload 4), (58, .aload_n 0), (59, .iload_n 3), (60, .invokevirtual 94), (63, .invokevirtual 60), (66, .iload 4), (68, .ireturn)]
def am_f99 : List (Nat × Instr) := [(0, .aload_n 0), (1, .getfield 18), (4, .getfield 66), (7, .istore_n 2), (8, .aload_n 0), (9, .getfield 18), (12, .invokevirtual 85), (15, .aload_n 0), (16, .getfield 18), (19, .getfield 53), (22, .iconst 1), (23, .if_icmp .ne 13), (26, .aload_n 0), (27, .getfield 18), (30, .getfield 117), (33, .ifCond .eq 15), (36, .aload_n 0), (37, .getfield 22), (40, .iload_n 1), (41, .iload_n 2), (42, .iconst 0), (43, .iconst 0), (44, .invokevirtual 49), (47, .ireturn), (48, .aload_n 0), (49, .getfield 22), (52, .iload_n 1), (53, .aload_n 0), (54, .getfield 18), (57, .getfield 66), (60, .aload_n 0), (61, .getfield 18), (64, .invokevirtual 88), (67, .iconst 0), (68, .invokevirtual 49), (71, .istore_n 3), (72, .aload_n 0), (73, .getfield 18), (76, .invokevirtual 85), (79, .iload_n 3), (80, .ireturn)]
def am_f100 : List (Nat × Instr) := [(0, .aload_n 0), (1, .bipush 13), (3, .invokevirtual 124), (6, .istore_n 2), (7, .aload_n 0), (8, .getfield 18), (11, .getfield 117), (14, .ifCond .ne 36), (17, .aload_n 0), (18, .getfield 18), (21, .getfield 78), (24, .bipush 59), (26, .if_icmp .eq 24), (29, .aload_n 0), (30, .invokevirtual 177), (33, .ifCond .eq 17), (36, .aload_n 0), (37, .getfield 22), (40, .iload_n 2), (41, .aload_n 0), (42, .iload_n 1), (43, .iconst 0), (44, .invokevirtual 174), (47, .invokevirtual 60), (50, .iload_n 2), (51, .ireturn)]
def am_f101 : List (Nat × Instr) := [(0, .aload_n 0), (1, .bipush 14), (3, .invokevirtual 124), (6, .istore_n 2), (7, .aload_n 0), (8, .iload_n 2), (9, .iload_n 1), (10, .invokevirtual 189), (13, .aload_n 0), (14, .bipush 123), (16, .invokevirtual 168), (19, .iconst 0), (20, .istore_n 3), (21, .iload_n 3), (22, .sipush 480), (25, .if_icmp .gt 29), (28, .aload_n 0), (29, .invokevirtual 177), (32, .ifCond .eq 22), (35, .aload_n 0), (36, .getfield 22), (39, .iload_n 2), (40, .aload_n 0), (41, .iload_n 1), (42, .invokevirtual 208), (45, .invokevirtual 60), (48, .iinc 3 1), (51, .goto (-30)), (54, .aload_n 0), (55, .bipush 125), (57, .invokevirtual 168), (60, .iload_n 2), (61, .ireturn)]
def am_f102 : List (Nat × Instr) := [(0, .aload_n 0), (1, .bipush 15), (3, .invokevirtual 171), (6, .istore_n 2), (7, .aload_n 0), (8, .getfield 18), (11, .getfield 78), (14, .iconst 5), (15, .if_icmp .ne 25), (18, .aload_n 0), (19, .getfield 18), (22, .invokevirtual 85), (25, .aload_n 0), (26, .getfield 22), (29, .iload_n 2), (30, .aload_n 0), (31, .invokevirtual 192), (34, .invokevirtual 60), (37, .goto 22), (40, .aload_n 0), (41, .iconst 2), (42, .invokevirtual 168), (45, .aload_n 0), (46, .getfield 22), (49, .iload_n 2), (50, .aload_n 0), (51, .iload_n 1), (52, .iconst 0), (53, .invokevirtual 174), (56, .invokevirtual 60), (59, .aload_n 0), (60, .bipush 58), (62, .invokevirtual 168), (65, .iconst 0), (66, .istore_n 3), (67, .iload_n 3), (68, .sipush 480), (71, .if_icmp .gt 54), (74, .aload_n 0), (75, .invokevirtual 177), (78, .ifCond .eq 47), (81, .aload_n 0), (82, .getfield 18), (85, .getfield 78), (88, .iconst 2), (89, .if_icmp .eq 36), (92, .aload_n 0), (93, .getfield 18), (96, .getfield 78), (99, .iconst 5), (100, .if_icmp .ne 6), (103, .goto 22), (106, .aload_n 0), (107, .getfield 22), (110, .iload_n 2), (111, .aload_n 0), (112, .iload_n 1), (113, .invokevirtual 94), (116, .invokevirtual 60), (119, .iinc 3 1), (122, .goto (-55)), (125, .iload_n 2), (126, .ireturn)]
def am_f103 : List (Nat × Instr) := [(0, .aload_n 0), (1, .bipush 17), (3, .invokevirtual 124), (6, .istore_n 2), (7, .aload_n 0), (8, .iload_n 1), (9, .invokevirtual 97), (12, .aload_n 0), (13, .getfield 18), (16, .getfield 117), (19, .ifCond .eq 7), (22, .aload_n 0), (23, .invokevirtual 75), (26, .aload_n 0), (27, .getfield 22), (30, .iload_n 2), (31, .aload_n 0), (32, .iload_n 1), (33, .iconst 0), (34, .invokevirtual 174), (37, .invokevirtual 60), (40, .iload_n 2), (41, .ireturn)]
def am_f104 : List (Nat × Instr) := [(0, .aload_n 0), (1, .bipush 18), (3, .invokevirtual 124), (6, .istore_n 2), (7, .aload_n 0), (8, .getfield 22), (11, .iload_n 2), (12, .aload_n 0), (13, .iload_n 1), (14, .invokevirtual 121), (17, .invokevirtual 60), (20, .aload_n 0), (21, .getfield 18), (24, .getfield 78), (27, .iconst 3), (28, .if_icmp .ne 7), (31, .iconst 1), (32, .goto 4), (35, .iconst 0), (36, .istore_n 3), (37, .aload_n 0), (38, .getfield 22), (41, .iload_n 2), (42, .iload_n 3), (43, .ifCond .eq 11), (46, .aload_n 0), (47, .iload_n 1), (48, .invokevirtual 211), (51, .goto 7), (54, .aload_n 0), (55, .invokevirtual 192), (58, .invokevirtual 60), (61, .aload_n 0), (62, .getfield 18), (65, .getfield 78), (68, .bipush 10), (70, .if_icmp .ne 26), (73, .aload_n 0), (74, .getfield 18), (77, .invokevirtual 85), (80, .aload_n 0), (81, .getfield 22), (84, .iload_n 2), (85, .aload_n 0), (86, .iload_n 1), (87, .invokevirtual 121), (90, .invokevirtual 60), (93, .goto 26), (96, .iload_n 3), (97, .ifCond .eq 18), (100, .aload_n 0), (101, .getfield 22), (104, .iload_n 2), (105, .aload_n 0), (106, .invokevirtual 192), (109, .invokevirtual 60), (112, .goto 7), (115, .aload_n 0), (116, .invokevirtual 75), (119, .iload_n 2), (120, .ireturn)]
def am_f105 : List (Nat × Instr) := [(0, .aload_n 0), (1, .getfield 18), (4, .invokevirtual 85), (7, .aload_n 0), (8, .bipush 40), (10, .invokevirtual 168), (13, .aload_n 0), (14, .invokevirtual 183), (17, .aload_n 0), (18, .bipush 19), (20, .invokevirtual 165), (23, .istore_n 2), (24, .aload_n 0), (25, .bipush 41), (27, .invokevirtual 168), (30, .aload_n 0), (31, .getfield 22), (34, .iload_n 2), (35, .aload_n 0), (36, .iload_n 1), (37, .invokevirtual 121), (40, .invokevirtual 60), (43, .iload_n 2), (44, .ireturn)]
def am_f106 : List (Nat × Instr) := [(0, .aload_n 0), (1, .getfield 18), (4, .getfield 53), (7, .iconst 1), (8, .if_icmp .ne 41), (11, .aload_n 0), (12, .getfield 18), (15, .invokevirtual 161), (18, .ifCond .eq 31), (21, .aload_n 0), (22, .bipush 16), (24, .invokevirtual 165), (27, .istore_n 2), (28, .aload_n 0), (29, .bipush 58), (31, .invokevirtual 168), (34, .aload_n 0), (35, .getfield 22), (38, .iload_n 2), (39, .aload_n 0), (40, .iload_n 1), (41, .invokevirtual 94), (44, .invokevirtual 60), (47, .iload_n 2), (48, .ireturn), (49, .aload_n 0), (50, .iconst 5), (51, .invokevirtual 171), (54, .istore_n 2), (55, .aload_n 0), (56, .getfield 22), (59, .iload_n 2), (60, .aload_n 0), (61, .iload_n 1), (62, .iconst 0), (63, .invokevirtual 174), (66, .invokevirtual 60), (69, .iload_n 2), (70, .ireturn)]
def am_f107 : List (Nat × Instr) := [(0, .aload_n 0), (1, .getfield 9), (4, .aload_n 0), (5, .aload_n 0), (6, .getfield 19), (9, .invokevirtual 29), (12, .invokevirtual 43), (15, .bipush 58), (17, .if_icmp .ne 7), (20, .iconst 1), (21, .goto 4), (24, .iconst 0), (25, .ireturn)]
def am_f108 : List (Nat × Instr) := [(0, .aload_n 0), (1, .iload_n 1), (2, .invokevirtual 53), (5, .ifCond .eq 12), (8, .aload_n 0), (9, .getfield 9), (12, .iload_n 1), (13, .iaload), (14, .goto 4), (17, .iconst (-1)), (18, .ireturn)]
def am_f109 : List (Nat × Instr) := [(0, .iload_n 0), (1, .tableswitch 81 2 17 #[79, 81, 81, 79, 81, 79, 81, 81, 81, 79, 79, 79, 81, 81, 81, 79]), (80, .iconst 1), (81, .ireturn), (82, .iconst 0), (83, .ireturn)]
def am_f110 : List (Nat × Instr) := [(0, .aload_n 0), (1, .getfield 18), (4, .getfield 78), (7, .bipush 59), (9, .if_icmp .ne 13), (12, .aload_n 0), (13, .getfield 18), (16, .invokevirtual 85), (19, .goto 52), (22, .aload_n 0), (23, .getfield 18), (26, .getfield 117), (29, .ifCond .ne 25), (32, .aload_n 0), (33, .getfield 18), (36, .getfield 78), (39, .bipush 125), (41, .if_icmp .eq 13), (44, .aload_n 0), (45, .getfield 18), (48, .getfield 53), (51, .ifCond .ne 16), (54, .aload_n 0), (55, .dup), (56, .getfield 30), (59, .iconst 1), (60, .iadd), (61, .putfield 30), (64, .goto 7), (67, .aload_n 0), (68, .invokevirtual 75), (71, .return_)]
def am_f111 : List (Nat × Instr) := [(0, .aload_n 1), (1, .invokevirtual 57), (4, .iload_n 2), (5, .istore_n 3), (6, .iconst 0), (7, .istore 4), (9, .iload 4), (11, .sipush 512), (14, .if_icmp .ge 111), (17, .aload_n 0), (18, .iload_n 3), (19, .invokevirtual 53), (22, .ifCond .eq 103), (25, .aload_n 0), (26, .aload_n 0), (27, .getfield 33), (30, .iload_n 3), (31, .iaload), (32, .invokevirtual 53), (35, .ifCond .eq 17), (38, .aload_n 0), (39, .getfield 36), (42, .aload_n 0), (43, .getfield 33), (46, .iload_n 3), (47, .iaload), (48, .iaload), (49, .goto 4), (52, .iconst (-1)), (53, .istore 5), (55, .aload_n 0), (56, .getfield 36), (59, .iload_n 3), (60, .aload_n 1), (61, .aload_n 0), (62, .getfield 9), (65, .iload_n 3), (66, .iaload), (67, .aload_n 0), (68, .getfield 15), (71, .iload_n 3), (72, .iaload), (73, .aload_n 0), (74, .getfield 18), (77, .iload_n 3), (78, .iaload), (79, .aload_n 0), (80, .getfield 21), (83, .iload_n 3), (84, .iaload), (85, .iload 5), (87, .invokevirtual 62), (90, .iastore), (91, .aload_n 0), (92, .aload_n 0), (93, .getfield 24), (96, .iload_n 3), (97, .iaload), (98, .invokevirtual 53), (101, .ifCond .eq 12), (104, .aload_n 0), (105, .getfield 24), (108, .iload_n 3), (109, .iaload), (110, .goto 8), (113, .aload_n 0), (114, .iload_n 3), (115, .invokevirtual 66), (118, .istore_n 3), (119, .iinc 4 1), (122, .goto (-113)), (125, .return_)]
def am_f112 : List (Nat × Instr) := [(0, .aload_n 0), (1, .iconst 0), (2, .putfield 37), (5, .return_)]
def am_f113 : List (Nat × Instr) := [(0, .aload_n 0), (1, .getfield 37), (4, .ifCond .lt 13), (7, .aload_n 0), (8, .getfield 37), (11, .sipush 512), (14, .if_icmp .lt 5), (17, .iconst (-1)), (18, .ireturn), (19, .aload_n 0), (20, .getfield 37), (23, .istore 6), (25, .aload_n 0), (26, .getfield 9), (29, .iload 6), (31, .iload_n 1), (32, .iastore), (33, .aload_n 0), (34, .getfield 15), (37, .iload 6), (39, .iload_n 2), (40, .iastore), (41, .aload_n 0), (42, .getfield 18), (45, .iload 6), (47, .iload_n 3), (48, .iastore), (49, .aload_n 0), (50, .getfield 21), (53, .iload 6), (55, .iload 4), (57, .iastore), (58, .aload_n 0), (59, .getfield 24), (62, .iload 6), (64, .iload 5), (66, .iastore), (67, .aload_n 0), (68, .getfield 27), (71, .iload 6), (73, .iconst 0), (74, .iastore), (75, .aload_n 0), (76, .getfield 30), (79, .iload 6), (81, .iconst 0), (82, .iastore), (83, .aload_n 0), (84, .getfield 33), (87, .iload 6), (89, .iconst 0), (90, .bastore), (91, .aload_n 0), (92, .iload 5), (94, .invokevirtual 41), (97, .ifCond .eq 28), (100, .aload_n 0), (101, .getfield 27), (104, .iload 6), (106, .aload_n 0), (107, .getfield 30), (110, .iload 5), (112, .iaload), (113, .iastore), (114, .aload_n 0), (115, .getfield 30), (118, .iload 5), (120, .dup2), (121, .iaload), (122, .iconst 1), (123, .iadd), (124, .iastore), (125, .aload_n 0), (126, .dup), (127, .getfield 37), (130, .iconst 1), (131, .iadd), (132, .putfield 37), (135, .iload 6), (137, .ireturn)]
def am_f114 : List (Nat × Instr) := [(0, .iload_n 1), (1, .istore_n 2), (2, .iconst 0), (3, .istore_n 3), (4, .iload_n 3), (5, .sipush 512), (8, .if_icmp .ge 37), (11, .aload_n 0), (12, .iload_n 2), (13, .invokevirtual 53), (16, .ifCond .eq 29), (19, .aload_n 0), (20, .aload_n 0), (21, .getfield 30), (24, .iload_n 2), (25, .iaload), (26, .invokevirtual 53), (29, .ifCond .ne 16), (32, .aload_n 0), (33, .getfield 33), (36, .iload_n 2), (37, .iaload), (38, .istore_n 2), (39, .iinc 3 1), (42, .goto (-38)), (45, .aload_n 0), (46, .iload_n 2), (47, .invokevirtual 53), (50, .ifCond .eq 12), (53, .aload_n 0), (54, .getfield 30), (57, .iload_n 2), (58, .iaload), (59, .goto 4), (62, .iconst (-1)), (63, .ireturn)]
def am_f115 : List (Nat × Instr) := [(0, .aload_n 0), (1, .aload_n 1), (2, .putfield 19), (5, .iconst 0), (6, .istore_n 2), (7, .iload_n 2), (8, .aload_n 0), (9, .getfield 19), (12, .getfield 23), (15, .if_icmp .ge 22), (18, .aload_n 0), (19, .getfield 19), (22, .iload_n 2), (23, .aload_n 0), (24, .iload_n 2), (25, .invokevirtual 29), (28, .invokevirtual 33), (31, .iinc 2 1), (34, .goto (-27)), (37, .iconst 0), (38, .istore_n 2), (39, .iload_n 2), (40, .aload_n 0), (41, .getfield 19), (44, .getfield 23), (47, .if_icmp .ge 43), (50, .aload_n 0), (51, .aload_n 0), (52, .iload_n 2), (53, .invokevirtual 37), (56, .iconst 4), (57, .iload_n 2), (58, .invokevirtual 42), (61, .aload_n 0), (62, .aload_n 0), (63, .iload_n 2), (64, .invokevirtual 46), (67, .iconst 5), (68, .iload_n 2), (69, .invokevirtual 42), (72, .aload_n 0), (73, .aload_n 0), (74, .iload_n 2), (75, .invokevirtual 49), (78, .bipush 6), (80, .iload_n 2), (81, .invokevirtual 42), (84, .iinc 2 1), (87, .goto (-48)), (90, .return_)]
def am_f116 : List (Nat × Instr) := [(0, .aload_n 0), (1, .getfield 19), (4, .iload_n 1), (5, .invokevirtual 60), (8, .istore_n 2), (9, .aload_n 0), (10, .getfield 19), (13, .iload_n 1), (14, .invokevirtual 63), (17, .lookupswitch 75 #[(0, 35), (22, 41), (23, 41)]), (52, .aload_n 0), (53, .iload_n 1), (54, .invokevirtual 66), (57, .ireturn), (58, .aload_n 0), (59, .getfield 19), (62, .iload_n 2), (63, .invokevirtual 69), (66, .ifCond .ne 20), (69, .aload_n 0), (70, .iload_n 2), (71, .aload_n 0), (72, .getfield 19), (75, .iload_n 2), (76, .invokevirtual 72), (79, .iadd), (80, .invokevirtual 66), (83, .ifCond .eq 7), (86, .iconst 1), (87, .goto 4), (90, .iconst 0), (91, .ireturn), (92, .aload_n 0), (93, .getfield 19), (96, .iload_n 2), (97, .invokevirtual 69), (100, .ireturn)]
def am_f117 : List (Nat × Instr) := [(0, .aload_n 0), (1, .iload_n 1), (2, .invokevirtual 41), (5, .ifCond .eq 12), (8, .aload_n 0), (9, .getfield 24), (12, .iload_n 1), (13, .iaload), (14, .goto 4), (17, .iconst (-1)), (18, .ireturn)]
def am_f118 : List (Nat × Instr) := [(0, .iload_n 1), (1, .iconst 1), (2, .iadd), (3, .istore_n 2), (4, .iload_n 2), (5, .aload_n 0), (6, .getfield 19), (9, .getfield 23), (12, .if_icmp .ge 70), (15, .aload_n 0), (16, .iload_n 2), (17, .invokevirtual 75), (20, .ifCond .eq 62), (23, .aload_n 0), (24, .getfield 19), (27, .iload_n 2), (28, .invokevirtual 60), (31, .iload_n 1), (32, .if_icmp .ne 50), (35, .aload_n 0), (36, .getfield 19), (39, .iload_n 2), (40, .invokevirtual 52), (43, .istore_n 3), (44, .aload_n 0), (45, .getfield 19), (48, .iload_n 2), (49, .iconst 1), (50, .iadd), (51, .invokevirtual 78), (54, .bipush 12), (56, .if_icmp .ne 20), (59, .aload_n 0), (60, .getfield 9), (63, .iload_n 3), (64, .iconst 1), (65, .iadd), (66, .ldc 81), (68, .invokevirtual 83), (71, .ifCond .eq 5), (74, .iconst 1), (75, .ireturn), (76, .iinc 2 2), (79, .goto (-75)), (82, .iconst 0), (83, .ireturn)]
def am_f119 : List (Nat × Instr) := [(0, .aload_n 0), (1, .getfield 19), (4, .iload_n 1), (5, .invokevirtual 63), (8, .iconst 5), (9, .if_icmp .ne 43), (12, .aload_n 0), (13, .getfield 19), (16, .iload_n 1), (17, .iconst 1), (18, .iadd), (19, .invokevirtual 63), (22, .bipush 34), (24, .if_icmp .ne 28), (27, .aload_n 0), (28, .getfield 19), (31, .iload_n 1), (32, .invokevirtual 52), (35, .aload_n 0), (36, .getfield 19), (39, .iload_n 1), (40, .iconst 1), (41, .iadd), (42, .invokevirtual 52), (45, .if_icmp .ne 7), (48, .iconst 1), (49, .goto 4), (52, .iconst 0), (53, .ireturn)]
def am_f120 : List (Nat × Instr) := [(0, .aload_n 0), (1, .iload_n 1), (2, .invokevirtual 41), (5, .ifCond .eq 12), (8, .aload_n 0), (9, .getfield 15), (12, .iload_n 1), (13, .iaload), (14, .goto 4), (17, .iconst (-1)), (18, .ireturn)]
def am_f121 : List (Nat × Instr) := [(0, .aload_n 0), (1, .iload_n 1), (2, .invokevirtual 41), (5, .ifCond .eq 12), (8, .aload_n 0), (9, .getfield 18), (12, .iload_n 1), (13, .iaload), (14, .goto 4), (17, .iconst 0), (18, .ireturn)]
def am_f122 : List (Nat × Instr) := [(0, .iconst 0), (1, .istore_n 3), (2, .iload_n 3), (3, .aload_n 2), (4, .invokevirtual 22), (7, .if_icmp .ge 26), (10, .aload_n 0), (11, .iload_n 1), (12, .iload_n 3), (13, .iadd), (14, .invokevirtual 27), (17, .aload_n 2), (18, .iload_n 3), (19, .invokevirtual 31), (22, .if_icmp .eq 5), (25, .iconst 0), (26, .ireturn), (27, .iinc 3 1), (30, .goto (-28)), (33, .iconst 1), (34, .ireturn)]
def am_f123 : List (Nat × Instr) := [(0, .aload_n 0), (1, .iload_n 1), (2, .invokevirtual 41), (5, .ifCond .eq 16), (8, .aload_n 0), (9, .getfield 33), (12, .iload_n 1), (13, .baload), (14, .ifCond .eq 7), (17, .iconst 1), (18, .goto 4), (21, .iconst 0), (22, .ireturn)]
def am_f124 : List (Nat × Instr) := [(0, .aload_n 0), (1, .iload_n 1), (2, .invokevirtual 41), (5, .ifCond .eq 12), (8, .aload_n 0), (9, .getfield 30), (12, .iload_n 1), (13, .iaload), (14, .goto 4), (17, .iconst 0), (18, .ireturn)]
def am_f125 : List (Nat × Instr) := [(0, .aload_n 0), (1, .iload_n 1), (2, .invokevirtual 41), (5, .ifCond .eq 10), (8, .aload_n 0), (9, .getfield 33), (12, .iload_n 1), (13, .iload_n 2), (14, .bastore), (15, .return_)]
def am_f126 : List (Nat × Instr) := [(0, .aload_n 0), (1, .getfield 19), (4, .iload_n 1), (5, .iconst 1), (6, .iadd), (7, .invokevirtual 63), (10, .istore_n 2), (11, .aload_n 0), (12, .iload_n 1), (13, .invokevirtual 96), (16, .ifCond .eq 25), (19, .iload_n 2), (20, .bipush 31), (22, .if_icmp .eq 19), (25, .iload_n 2), (26, .bipush 40), (28, .if_icmp .eq 13), (31, .iload_n 2), (32, .bipush 41), (34, .if_icmp .eq 7), (37, .iconst 1), (38, .goto 4), (41, .iconst 0), (42, .ireturn)]
def am_f127 : List (Nat × Instr) := [(0, .aload_n 0), (1, .getfield 19), (4, .iload_n 1), (5, .invokevirtual 63), (8, .lookupswitch 100 #[(10, 80), (44, 44), (45, 46), (48, 44)]), (52, .iconst 1), (53, .ireturn), (54, .aload_n 0), (55, .getfield 19), (58, .iload_n 1), (59, .invokevirtual 91), (62, .sipush 11051), (65, .if_icmp .eq 17), (68, .aload_n 0), (69, .getfield 19), (72, .iload_n 1), (73, .invokevirtual 91), (76, .sipush 11565), (79, .if_icmp .ne 7), (82, .iconst 1), (83, .goto 4), (86, .iconst 0), (87, .ireturn), (88, .aload_n 0), (89, .getfield 19), (92, .iload_n 1), (93, .iconst 1), (94, .iadd), (95, .invokevirtual 63), (98, .iconst 2), (99, .if_icmp .eq 7), (102, .iconst 1), (103, .goto 4), (106, .iconst 0), (107, .ireturn), (108, .iconst 0), (109, .ireturn)]
def am_f128 : List (Nat × Instr) := [(0, .aload_n 0), (1, .iload_n 1), (2, .invokevirtual 41), (5, .ifCond .eq 12), (8, .aload_n 0), (9, .getfield 21), (12, .iload_n 1), (13, .iaload), (14, .goto 4), (17, .iconst 0), (18, .ireturn)]
def am_f129 : List (Nat × Instr) := [(0, .iload_n 1), (1, .ifCond .eq 19), (4, .aload_n 0), (5, .getfield 15), (8, .iload_n 2), (9, .aload_n 0), (10, .getfield 19), (13, .iload_n 3), (14, .invokevirtual 52), (17, .invokevirtual 56), (20, .return_)]
def am_f130 : List (Nat × Instr) := [(0, .aload_n 0), (1, .getfield 19), (4, .iload_n 1), (5, .invokevirtual 63), (8, .lookupswitch 170 #[(3, 87), (19, 87), (20, 60), (22, 112), (38, 145), (39, 60)]), (68, .aload_n 0), (69, .getfield 19), (72, .iload_n 1), (73, .iconst 1), (74, .iadd), (75, .invokevirtual 69), (78, .ifCond .eq 15), (81, .aload_n 0), (82, .iload_n 1), (83, .invokevirtual 99), (86, .ifCond .eq 7), (89, .iconst 1), (90, .goto 4), (93, .iconst 0), (94, .ireturn), (95, .aload_n 0), (96, .getfield 19), (99, .iload_n 1), (100, .invokevirtual 69), (103, .ifCond .eq 15), (106, .aload_n 0), (107, .iload_n 1), (108, .invokevirtual 99), (111, .ifCond .eq 7), (114, .iconst 1), (115, .goto 4), (118, .iconst 0), (119, .ireturn), (120, .aload_n 0), (121, .getfield 19), (124, .iload_n 1), (125, .invokevirtual 69), (128, .ifCond .eq 23), (131, .aload_n 0), (132, .iload_n 1), (133, .invokevirtual 99), (136, .ifCond .ne 11), (139, .aload_n 0), (140, .iload_n 1), (141, .invokevirtual 102), (144, .ifCond .eq 7), (147, .iconst 1), (148, .goto 4), (151, .iconst 0), (152, .ireturn), (153, .aload_n 0), (154, .getfield 19), (157, .iload_n 1), (158, .invokevirtual 69), (161, .ifCond .eq 15), (164, .aload_n 0), (165, .iload_n 1), (166, .invokevirtual 102), (169, .ifCond .eq 7), (172, .iconst 1), (173, .goto 4), (176, .iconst 0), (177, .ireturn), (178, .aload_n 0), (179, .getfield 19), (182, .iload_n 1), (183, .invokevirtual 69), (186, .ifCond .eq 23), (189, .aload_n 0), (190, .iload_n 1), (191, .invokevirtual 105), (194, .ifCond .ne 11), (197, .aload_n 0), (198, .iload_n 1), (199, .invokevirtual 108), (202, .ifCond .eq 7), (205, .iconst 1), (206, .goto 4), (209, .iconst 0), (210, .ireturn)]
def am_f131 : List (Nat × Instr) := [(0, .aload_n 0), (1, .getfield 19), (4, .iload_n 1), (5, .invokevirtual 78), (8, .istore_n 2), (9, .aload_n 0), (10, .getfield 19), (13, .iload_n 1), (14, .invokevirtual 52), (17, .istore_n 3), (18, .iload_n 2), (19, .iconst 4), (20, .if_icmp .ne 16), (23, .aload_n 0), (24, .getfield 9), (27, .iload_n 3), (28, .ldc 111), (30, .invokevirtual 83), (33, .ifCond .ne 22), (36, .iload_n 2), (37, .bipush 9), (39, .if_icmp .ne 20), (42, .aload_n 0), (43, .getfield 9), (46, .iload_n 3), (47, .ldc 113), (49, .invokevirtual 83), (52, .ifCond .eq 7), (55, .iconst 1), (56, .goto 4), (59, .iconst 0), (60, .ireturn)]
def am_f132 : List (Nat × Instr) := [(0, .aload_n 0), (1, .getfield 19), (4, .iload_n 1), (5, .invokevirtual 60), (8, .istore_n 2), (9, .iload_n 2), (10, .iconst 1), (11, .iadd), (12, .istore_n 3), (13, .iload_n 3), (14, .iload_n 1), (15, .if_icmp .ge 63), (18, .aload_n 0), (19, .getfield 19), (22, .iload_n 3), (23, .invokevirtual 60), (26, .iload_n 2), (27, .if_icmp .ne 26), (30, .aload_n 0), (31, .getfield 19), (34, .iload_n 3), (35, .invokevirtual 63), (38, .aload_n 0), (39, .getfield 19), (42, .iload_n 1), (43, .invokevirtual 63), (46, .if_icmp .ne 7), (49, .iconst 1), (50, .goto 4), (53, .iconst 0), (54, .istore 4), (56, .iload 4), (58, .ifCond .eq 14), (61, .aload_n 0), (62, .iload_n 3), (63, .iload_n 1), (64, .invokevirtual 115), (67, .ifCond .eq 5), (70, .iconst 1), (71, .ireturn), (72, .iinc 3 1), (75, .goto (-62)), (78, .iconst 0), (79, .ireturn)]
def am_f133 : List (Nat × Instr) := [(0, .aload_n 0), (1, .getfield 19), (4, .iload_n 1), (5, .invokevirtual 78), (8, .istore_n 3), (9, .iload_n 3), (10, .aload_n 0), (11, .getfield 19), (14, .iload_n 2), (15, .invokevirtual 78), (18, .if_icmp .eq 5), (21, .iconst 0), (22, .ireturn), (23, .iconst 0), (24, .istore 4), (26, .iload 4), (28, .iload_n 3), (29, .if_icmp .ge 50), (32, .aload_n 0), (33, .getfield 9), (36, .aload_n 0), (37, .getfield 19), (40, .iload_n 1), (41, .invokevirtual 52), (44, .iload 4), (46, .iadd), (47, .invokevirtual 119), (50, .aload_n 0), (51, .getfield 9), (54, .aload_n 0), (55, .getfield 19), (58, .iload_n 2), (59, .invokevirtual 52), (62, .iload 4), (64, .iadd), (65, .invokevirtual 119), (68, .if_icmp .eq 5), (71, .iconst 0), (72, .ireturn), (73, .iinc 4 1), (76, .goto (-50)), (79, .iconst 1), (80, .ireturn)]
def am_f134 : List (Nat × Instr) := [(0, .aload_n 0), (1, .iload_n 1), (2, .invokevirtual 96), (5, .ifCond .eq 32), (8, .aload_n 0), (9, .getfield 19), (12, .iload_n 1), (13, .iconst 1), (14, .iadd), (15, .invokevirtual 63), (18, .bipush 31), (20, .if_icmp .ne 17), (23, .aload_n 0), (24, .iload_n 1), (25, .iconst 1), (26, .iadd), (27, .invokevirtual 99), (30, .ifCond .eq 7), (33, .iconst 1), (34, .goto 4), (37, .iconst 0), (38, .ireturn)]
def am_f135 : List (Nat × Instr) := [(0, .aload_n 0), (1, .getfield 19), (4, .iload_n 1), (5, .invokevirtual 63), (8, .bipush 45), (10, .if_icmp .ne 35), (13, .aload_n 0), (14, .getfield 19), (17, .iload_n 1), (18, .invokevirtual 91), (21, .bipush 6), (23, .if_icmp .ne 22), (26, .aload_n 0), (27, .getfield 19), (30, .iload_n 1), (31, .iconst 1), (32, .iadd), (33, .invokevirtual 63), (36, .bipush 31), (38, .if_icmp .ne 7), (41, .iconst 1), (42, .goto 4), (45, .iconst 0), (46, .ireturn)]
def am_f136 : List (Nat × Instr) := [(0, .aload_n 0), (1, .getfield 19), (4, .iload_n 1), (5, .invokevirtual 63), (8, .tableswitch 164 11 16 #[118, 75, 46, 164, 40, 60]), (48, .aload_n 0), (49, .iload_n 1), (50, .invokevirtual 122), (53, .ireturn), (54, .aload_n 0), (55, .iload_n 1), (56, .invokevirtual 125), (59, .ifCond .ne 7), (62, .iconst 1), (63, .goto 4), (66, .iconst 0), (67, .ireturn), (68, .aload_n 0), (69, .iload_n 1), (70, .invokevirtual 128), (73, .iconst (-1)), (74, .if_icmp .eq 7), (77, .iconst 1), (78, .goto 4), (81, .iconst 0), (82, .ireturn), (83, .aload_n 0), (84, .getfield 19), (87, .iload_n 1), (88, .invokevirtual 78), (91, .ifCond .ne 20), (94, .aload_n 0), (95, .iload_n 1), (96, .iconst 1), (97, .invokevirtual 131), (100, .ifCond .ne 7), (103, .iconst 1), (104, .goto 21), (107, .iconst 0), (108, .goto 17), (111, .aload_n 0), (112, .iload_n 1), (113, .invokevirtual 128), (116, .iconst (-1)), (117, .if_icmp .ne 7), (120, .iconst 1), (121, .goto 4), (124, .iconst 0), (125, .ireturn), (126, .aload_n 0), (127, .getfield 19), (130, .iload_n 1), (131, .invokevirtual 78), (134, .ifCond .ne 20), (137, .aload_n 0), (138, .iload_n 1), (139, .iconst 0), (140, .invokevirtual 131), (143, .ifCond .ne 7), (146, .iconst 1), (147, .goto 24), (150, .iconst 0), (151, .goto 20), (154, .aload_n 0), (155, .aload_n 0), (156, .iload_n 1), (157, .invokevirtual 128), (160, .invokevirtual 135), (163, .ifCond .ne 7), (166, .iconst 1), (167, .goto 4), (170, .iconst 0), (171, .ireturn), (172, .iconst 0), (173, .ireturn)]
def am_f137 : List (Nat × Instr) := [(0, .aload_n 0), (1, .getfield 19), (4, .iload_n 1), (5, .invokevirtual 60), (8, .istore_n 2), (9, .iload_n 2), (10, .iconst 1), (11, .iadd), (12, .istore_n 3), (13, .iload_n 3), (14, .iload_n 1), (15, .if_icmp .ge 78), (18, .aload_n 0), (19, .getfield 19), (22, .iload_n 1), (23, .iconst 1), (24, .iadd), (25, .invokevirtual 63), (28, .bipush 21), (30, .if_icmp .ne 63), (33, .aload_n 0), (34, .getfield 19), (37, .iload_n 3), (38, .invokevirtual 60), (41, .iload_n 2), (42, .if_icmp .ne 20), (45, .aload_n 0), (46, .getfield 19), (49, .iload_n 3), (50, .invokevirtual 63), (53, .bipush 15), (55, .if_icmp .ne 7), (58, .iconst 1), (59, .goto 4), (62, .iconst 0), (63, .istore 4), (65, .iload 4), (67, .ifCond .eq 20), (70, .aload_n 0), (71, .getfield 19), (74, .iload_n 3), (75, .iconst 1), (76, .iadd), (77, .invokevirtual 63), (80, .bipush 21), (82, .if_icmp .ne 5), (85, .iconst 1), (86, .ireturn), (87, .iinc 3 1), (90, .goto (-77)), (93, .iconst 0), (94, .ireturn)]
def am_f138 : List (Nat × Instr) := [(0, .aload_n 0), (1, .getfield 19), (4, .iload_n 1), (5, .invokevirtual 60), (8, .istore_n 2), (9, .iconst 0), (10, .istore_n 3), (11, .iload_n 3), (12, .sipush 512), (15, .if_icmp .ge 38), (18, .iload_n 2), (19, .iconst (-1)), (20, .if_icmp .eq 33), (23, .aload_n 0), (24, .getfield 19), (27, .iload_n 2), (28, .invokevirtual 63), (31, .bipush 23), (33, .if_icmp .ne 5), (36, .iconst 1), (37, .ireturn), (38, .aload_n 0), (39, .getfield 19), (42, .iload_n 2), (43, .invokevirtual 60), (46, .istore_n 2), (47, .iinc 3 1), (50, .goto (-39)), (53, .iconst 0), (54, .ireturn)]
def am_f139 : List (Nat × Instr) := [(0, .aload_n 0), (1, .getfield 19), (4, .iload_n 1), (5, .invokevirtual 60), (8, .istore_n 2), (9, .iconst 0), (10, .istore_n 3), (11, .iload_n 3), (12, .sipush 512), (15, .if_icmp .ge 60), (18, .iload_n 2), (19, .iconst (-1)), (20, .if_icmp .eq 55), (23, .aload_n 0), (24, .getfield 19), (27, .iload_n 2), (28, .invokevirtual 63), (31, .bipush 23), (33, .if_icmp .eq 42), (36, .aload_n 0), (37, .getfield 19), (40, .iload_n 2), (41, .invokevirtual 63), (44, .bipush 16), (46, .if_icmp .ne 14), (49, .aload_n 0), (50, .iload_n 2), (51, .iload_n 1), (52, .invokevirtual 115), (55, .ifCond .eq 5), (58, .iload_n 2), (59, .ireturn), (60, .aload_n 0), (61, .getfield 19), (64, .iload_n 2), (65, .invokevirtual 60), (68, .istore_n 2), (69, .iinc 3 1), (72, .goto (-61)), (75, .iconst (-1)), (76, .ireturn)]
def am_f140 : List (Nat × Instr) := [(0, .aload_n 0), (1, .getfield 19), (4, .iload_n 1), (5, .invokevirtual 60), (8, .istore_n 3), (9, .iconst 0), (10, .istore 4), (12, .iload 4), (14, .sipush 512), (17, .if_icmp .ge 69), (20, .iload_n 3), (21, .iconst (-1)), (22, .if_icmp .eq 64), (25, .aload_n 0), (26, .getfield 19), (29, .iload_n 3), (30, .invokevirtual 63), (33, .bipush 23), (35, .if_icmp .eq 51), (38, .aload_n 0), (39, .getfield 19), (42, .iload_n 3), (43, .invokevirtual 63), (46, .invokestatic 138), (49, .ifCond .ne 20), (52, .iload_n 2), (53, .ifCond .eq 18), (56, .aload_n 0), (57, .getfield 19), (60, .iload_n 3), (61, .invokevirtual 63), (64, .bipush 14), (66, .if_icmp .ne 5), (69, .iconst 1), (70, .ireturn), (71, .aload_n 0), (72, .getfield 19), (75, .iload_n 3), (76, .invokevirtual 60), (79, .istore_n 3), (80, .iinc 4 1), (83, .goto (-71)), (86, .iconst 0), (87, .ireturn)]
def am_f141 : List (Nat × Instr) := [(0, .iload_n 0), (1, .bipush 7), (3, .if_icmp .lt 13), (6, .iload_n 0), (7, .bipush 10), (9, .if_icmp .gt 7), (12, .iconst 1), (13, .goto 4), (16, .iconst 0), (17, .ireturn)]
def am_f142 : List (Nat × Instr) := [(0, .iload_n 1), (1, .istore_n 2), (2, .iconst 0), (3, .istore_n 3), (4, .iload_n 3), (5, .sipush 512), (8, .if_icmp .ge 25), (11, .aload_n 0), (12, .getfield 19), (15, .iload_n 2), (16, .invokevirtual 63), (19, .bipush 16), (21, .if_icmp .ne 12), (24, .iinc 2 1), (27, .iinc 3 1), (30, .goto (-26)), (33, .iload_n 1), (34, .iconst (-1)), (35, .if_icmp .eq 21), (38, .aload_n 0), (39, .getfield 19), (42, .iload_n 2), (43, .invokevirtual 63), (46, .invokestatic 138), (49, .ifCond .eq 7), (52, .iconst 1), (53, .goto 4), (56, .iconst 0), (57, .ireturn)]
def am_f143 : List (Nat × Instr) := [(0, .aload_n 0), (1, .aload_n 1), (2, .putfield 26), (5, .aload_n 0), (6, .iconst 0), (7, .putfield 30), (10, .aload_n 0), (11, .iconst 0), (12, .putfield 34), (15, .iconst 0), (16, .istore_n 2), (17, .iload_n 2), (18, .aload_n 0), (19, .getfield 26), (22, .getfield 38), (25, .if_icmp .ge 54), (28, .iload_n 2), (29, .sipush 512), (32, .if_icmp .ge 47), (35, .aload_n 0), (36, .getfield 19), (39, .iload_n 2), (40, .aload_n 0), (41, .iload_n 2), (42, .invokevirtual 43), (45, .bastore), (46, .aload_n 0), (47, .getfield 15), (50, .iload_n 2), (51, .aload_n 0), (52, .iload_n 2), (53, .invokevirtual 47), (56, .ifCond .ne 11), (59, .aload_n 0), (60, .iload_n 2), (61, .invokevirtual 50), (64, .ifCond .eq 7), (67, .iconst 1), (68, .goto 4), (71, .iconst 0), (72, .bastore), (73, .iinc 2 1), (76, .goto (-59)), (79, .iconst 0), (80, .istore_n 2), (81, .iload_n 2), (82, .aload_n 0), (83, .getfield 26), (86, .getfield 38), (89, .if_icmp .ge 81), (92, .iload_n 2), (93, .sipush 512), (96, .if_icmp .ge 74), (99, .aload_n 0), (100, .getfield 26), (103, .iload_n 2), (104, .invokevirtual 53), (107, .iconst 5), (108, .if_icmp .ne 56), (111, .iload_n 2), (112, .iconst 1), (113, .iadd), (114, .sipush 512), (117, .if_icmp .ge 47), (120, .aload_n 0), (121, .getfield 15), (124, .iload_n 2), (125, .iconst 1), (126, .iadd), (127, .aload_n 0), (128, .getfield 15), (131, .iload_n 2), (132, .iconst 1), (133, .iadd), (134, .baload), (135, .ifCond .ne 23), (138, .aload_n 0), (139, .iload_n 2), (140, .iconst 1), (141, .iadd), (142, .invokevirtual 59), (145, .ifCond .ne 13), (148, .aload_n 0), (149, .iload_n 2), (150, .iconst 1), (151, .iadd), (152, .invokevirtual 62), (155, .ifCond .eq 7), (158, .iconst 1), (159, .goto 4), (162, .iconst 0), (163, .bastore), (164, .iinc 2 1), (167, .goto (-86)), (170, .iconst 0), (171, .istore_n 2), (172, .iload_n 2), (173, .aload_n 0), (174, .getfield 26), (177, .getfield 38), (180, .if_icmp .ge 34), (183, .aload_n 0), (184, .aload_n 0), (185, .getfield 26), (188, .iload_n 2), (189, .invokevirtual 65), (192, .iload_n 2), (193, .iconst 1), (194, .isub), (195, .invokevirtual 68), (198, .aload_n 0), (199, .iload_n 2), (200, .invokevirtual 72), (203, .aload_n 0), (204, .iload_n 2), (205, .invokevirtual 76), (208, .iinc 2 1), (211, .goto (-39)), (214, .aload_n 0), (215, .iconst (-1)), (216, .aload_n 0), (217, .getfield 26), (220, .getfield 38), (223, .iconst 1), (224, .isub), (225, .invokevirtual 68), (228, .return_)]
def am_f144 : List (Nat × Instr) := [(0, .aload_n 0), (1, .getfield 26), (4, .iload_n 1), (5, .invokevirtual 65), (8, .istore_n 2), (9, .aload_n 0), (10, .getfield 26), (13, .iload_n 2), (14, .invokevirtual 53), (17, .istore_n 3), (18, .aload_n 0), (19, .getfield 26), (22, .iload_n 1), (23, .invokevirtual 79), (26, .ifCond .ne 7), (29, .iconst 1), (30, .goto 4), (33, .iconst 0), (34, .istore 4), (36, .iload_n 3), (37, .bipush 9), (39, .if_icmp .eq 9), (42, .iload_n 3), (43, .bipush 10), (45, .if_icmp .ne 6), (48, .iload 4), (50, .ireturn), (51, .iload_n 2), (52, .ifCond .lt 28), (55, .iload_n 2), (56, .sipush 512), (59, .if_icmp .ge 21), (62, .aload_n 0), (63, .getfield 19), (66, .iload_n 2), (67, .baload), (68, .ifCond .eq 12), (71, .aload_n 0), (72, .getfield 15), (75, .iload_n 2), (76, .baload), (77, .ifCond .eq 5), (80, .iconst 0), (81, .ireturn), (82, .iload_n 3), (83, .tableswitch 50 36 43 #[45, 45, 50, 45, 47, 50, 47, 47]), (128, .iconst 0), (129, .ireturn), (130, .iload 4), (132, .ireturn), (133, .iconst 1), (134, .ireturn)]
def am_f145 : List (Nat × Instr) := [(0, .aload_n 0), (1, .iload_n 1), (2, .invokevirtual 41), (5, .ifCond .eq 12), (8, .aload_n 0), (9, .getfield 27), (12, .iload_n 1), (13, .iaload), (14, .goto 4), (17, .iconst 0), (18, .ireturn)]
def am_f146 : List (Nat × Instr) := [(0, .aload_n 0), (1, .getfield 26), (4, .iload_n 1), (5, .invokevirtual 65), (8, .istore_n 2), (9, .aload_n 0), (10, .getfield 26), (13, .iload_n 1), (14, .invokevirtual 79), (17, .ifCond .ne 7), (20, .iconst 1), (21, .goto 4), (24, .iconst 0), (25, .istore_n 3), (26, .aload_n 0), (27, .iload_n 1), (28, .invokevirtual 90), (31, .istore 4), (33, .aload_n 0), (34, .getfield 26), (37, .iload_n 2), (38, .invokevirtual 53), (41, .tableswitch 340 3 49 #[203, 340, 340, 340, 340, 340, 340, 340, 340, 340, 340, 340, 340, 340, 340, 340, 340, 340, 340, 340, 340, 340, 340, 340, 340, 340, 340, 340, 340, 340, 340, 340, 340, 203, 340, 203, 340, 228, 215, 245, 245, 215, 266, 282, 320, 245, 203]), (244, .iload 4), (246, .iconst 1), (247, .if_icmp .ge 7), (250, .iconst 1), (251, .goto 4), (254, .iconst 0), (255, .ireturn), (256, .iload 4), (258, .bipush 15), (260, .if_icmp .ge 7), (263, .iconst 1), (264, .goto 4), (267, .iconst 0), (268, .ireturn), (269, .iload_n 3), (270, .ifCond .eq 14), (273, .iload 4), (275, .bipush 15), (277, .if_icmp .ge 7), (280, .iconst 1), (281, .goto 4), (284, .iconst 0), (285, .ireturn), (286, .iload 4), (288, .iload_n 3), (289, .ifCond .eq 8), (292, .bipush 15), (294, .goto 4), (297, .iconst 1), (298, .if_icmp .ge 7), (301, .iconst 1), (302, .goto 4), (305, .iconst 0), (306, .ireturn), (307, .iload 4), (309, .aload_n 0), (310, .iload_n 2), (311, .invokevirtual 90), (314, .if_icmp .ge 7), (317, .iconst 1), (318, .goto 4), (321, .iconst 0), (322, .ireturn), (323, .iload_n 3), (324, .ifCond .eq 21), (327, .iload 4), (329, .aload_n 0), (330, .iload_n 2), (331, .invokevirtual 90), (334, .if_icmp .ge 7), (337, .iconst 1), (338, .goto 22), (341, .iconst 0), (342, .goto 18), (345, .iload 4), (347, .aload_n 0), (348, .iload_n 2), (349, .invokevirtual 90), (352, .if_icmp .gt 7), (355, .iconst 1), (356, .goto 4), (359, .iconst 0), (360, .ireturn), (361, .iload 4), (363, .iload_n 3), (364, .ifCond .eq 7), (367, .iconst 3), (368, .goto 4), (371, .iconst 1), (372, .if_icmp .ge 7), (375, .iconst 1), (376, .goto 4), (379, .iconst 0), (380, .ireturn), (381, .iconst 0), (382, .ireturn)]
def am_f147 : List (Nat × Instr) := [(0, .aload_n 0), (1, .getfield 26), (4, .iload_n 1), (5, .invokevirtual 53), (8, .tableswitch 66 44 49 #[63, 60, 46, 44, 42, 40]), (48, .iconst 0), (49, .ireturn), (50, .iconst 1), (51, .ireturn), (52, .iconst 2), (53, .ireturn), (54, .iconst 2), (55, .aload_n 0), (56, .getfield 26), (59, .iload_n 1), (60, .invokevirtual 82), (63, .invokestatic 85), (66, .iadd), (67, .ireturn), (68, .bipush 13), (70, .ireturn), (71, .bipush 14), (73, .ireturn), (74, .bipush 15), (76, .ireturn)]
def am_f148 : List (Nat × Instr) := [(0, .aload_n 0), (1, .getfield 26), (4, .aload_n 0), (5, .getfield 26), (8, .iload_n 1), (9, .invokevirtual 65), (12, .invokevirtual 53), (15, .istore_n 2), (16, .iload_n 2), (17, .bipush 41), (19, .if_icmp .ne 18), (22, .aload_n 0), (23, .getfield 26), (26, .iload_n 1), (27, .invokevirtual 53), (30, .bipush 33), (32, .if_icmp .ne 5), (35, .iconst 1), (36, .ireturn), (37, .iload_n 2), (38, .bipush 42), (40, .if_icmp .ne 24), (43, .aload_n 0), (44, .getfield 26), (47, .iload_n 1), (48, .invokevirtual 79), (51, .ifCond .ne 13), (54, .aload_n 0), (55, .iload_n 1), (56, .invokevirtual 93), (59, .ifCond .eq 5), (62, .iconst 1), (63, .ireturn), (64, .iload_n 1), (65, .ifCond .lt 49), (68, .iload_n 1), (69, .sipush 512), (72, .if_icmp .ge 42), (75, .aload_n 0), (76, .getfield 19), (79, .iload_n 1), (80, .baload), (81, .ifCond .eq 33), (84, .aload_n 0), (85, .getfield 26), (88, .iload_n 1), (89, .invokevirtual 82), (92, .bipush 14), (94, .if_icmp .ne 20), (97, .aload_n 0), (98, .getfield 26), (101, .iload_n 1), (102, .invokevirtual 53), (105, .bipush 46), (107, .if_icmp .ne 7), (110, .iconst 1), (111, .goto 4), (114, .iconst 0), (115, .ireturn)]
def am_f149 : List (Nat × Instr) := [(0, .iload_n 1), (1, .istore_n 2), (2, .iload_n 2), (3, .aload_n 0), (4, .getfield 26), (7, .getfield 38), (10, .if_icmp .ge 42), (13, .aload_n 0), (14, .getfield 26), (17, .iload_n 2), (18, .invokevirtual 53), (21, .istore_n 3), (22, .iload_n 3), (23, .bipush 40), (25, .if_icmp .eq 21), (28, .iload_n 3), (29, .bipush 41), (31, .if_icmp .eq 15), (34, .iload_n 3), (35, .bipush 43), (37, .if_icmp .ne 7), (40, .iconst 1), (41, .goto 4), (44, .iconst 0), (45, .ireturn), (46, .iinc 2 1), (49, .goto (-47)), (52, .iconst 0), (53, .ireturn)]
def am_f150 : List (Nat × Instr) := [(0, .iload_n 1), (1, .istore_n 2), (2, .iload_n 2), (3, .aload_n 0), (4, .getfield 26), (7, .getfield 38), (10, .if_icmp .ge 99), (13, .aload_n 0), (14, .iload_n 2), (15, .invokevirtual 96), (18, .ifCond .ne 91), (21, .aload_n 0), (22, .getfield 26), (25, .iload_n 2), (26, .invokevirtual 53), (29, .tableswitch 72 37 49 #[67, 72, 67, 69, 69, 72, 69, 69, 72, 69, 69, 69, 69]), (96, .iconst 1), (97, .ireturn), (98, .goto 5), (101, .iconst 0), (102, .ireturn), (103, .iinc 2 1), (106, .goto (-104)), (109, .iconst 0), (110, .ireturn)]
def am_f151 : List (Nat × Instr) := [(0, .iload_n 1), (1, .ifCond .lt 23), (4, .iload_n 1), (5, .sipush 512), (8, .if_icmp .ge 16), (11, .aload_n 0), (12, .getfield 15), (15, .iload_n 1), (16, .baload), (17, .ifCond .eq 7), (20, .iconst 1), (21, .goto 4), (24, .iconst 0), (25, .ireturn)]
def am_f152 : List (Nat × Instr) := [(0, .aload_n 0), (1, .getfield 26), (4, .iload_n 1), (5, .invokevirtual 53), (8, .bipush 34), (10, .if_icmp .ne 33), (13, .aload_n 0), (14, .getfield 26), (17, .iload_n 1), (18, .invokevirtual 99), (21, .aload_n 0), (22, .getfield 26), (25, .aload_n 0), (26, .getfield 26), (29, .iload_n 1), (30, .invokevirtual 65), (33, .invokevirtual 99), (36, .if_icmp .eq 7), (39, .iconst 1), (40, .goto 4), (43, .iconst 0), (44, .ireturn)]
def am_f153 : List (Nat × Instr) := [(0, .iload_n 2), (1, .istore_n 3), (2, .iconst 0), (3, .istore 4), (5, .iload 4), (7, .sipush 512), (10, .if_icmp .ge 50), (13, .iload_n 3), (14, .iload_n 1), (15, .if_icmp .le 45), (18, .aload_n 0), (19, .getfield 26), (22, .iload_n 3), (23, .invokevirtual 53), (26, .bipush 30), (28, .if_icmp .lt 12), (31, .aload_n 0), (32, .iload_n 3), (33, .iload_n 2), (34, .invokevirtual 102), (37, .goto 8), (40, .aload_n 0), (41, .iload_n 3), (42, .invokevirtual 105), (45, .aload_n 0), (46, .getfield 26), (49, .iload_n 3), (50, .invokevirtual 65), (53, .istore_n 3), (54, .iinc 4 1), (57, .goto (-52)), (60, .return_)]
def am_f154 : List (Nat × Instr) := [(0, .aload_n 0), (1, .getfield 26), (4, .iload_n 1), (5, .invokevirtual 192), (8, .istore_n 3), (9, .aload_n 0), (10, .getfield 26), (13, .iload_n 1), (14, .invokevirtual 53), (17, .tableswitch 161 36 44 #[51, 96, 161, 161, 105, 114, 128, 128, 153]), (68, .aload_n 0), (69, .aload_n 0), (70, .getfield 26), (73, .iload_n 2), (74, .invokevirtual 53), (77, .bipush 21), (79, .if_icmp .ne 19), (82, .aload_n 0), (83, .getfield 26), (86, .iload_n 2), (87, .invokevirtual 65), (90, .iload_n 1), (91, .if_icmp .ne 7), (94, .iconst 1), (95, .goto 4), (98, .iconst 0), (99, .ldc 108), (101, .invokevirtual 110), (104, .aload_n 0), (105, .ldc 195), (107, .invokevirtual 116), (110, .goto 68), (113, .aload_n 0), (114, .ldc 197), (116, .invokevirtual 116), (119, .goto 59), (122, .aload_n 0), (123, .ldc 195), (125, .invokevirtual 116), (128, .goto 50), (131, .aload_n 0), (132, .ldc 199), (134, .invokevirtual 116), (137, .aload_n 0), (138, .iload_n 1), (139, .invokevirtual 130), (142, .goto 36), (145, .aload_n 0), (146, .iload_n 3), (147, .iconst 1), (148, .if_icmp .ne 7), (151, .iconst 1), (152, .goto 4), (155, .iconst 0), (156, .ldc 128), (158, .invokevirtual 110), (161, .aload_n 0), (162, .ldc 124), (164, .invokevirtual 116), (167, .goto 11), (170, .aload_n 0), (171, .iload_n 1), (172, .invokevirtual 130), (175, .goto 3), (178, .aload_n 0), (179, .aload_n 0), (180, .iload_n 1), (181, .invokevirtual 96), (184, .ldc 124), (186, .invokevirtual 110), (189, .return_)]
def am_f155 : List (Nat × Instr) := [(0, .iload_n 1), (1, .ifCond .eq 8), (4, .aload_n 0), (5, .aload_n 2), (6, .invokevirtual 116), (9, .return_)]
def am_f156 : List (Nat × Instr) := [(0, .aload_n 1), (1, .invokevirtual 204), (4, .ifCond .eq 4), (7, .return_), (8, .aload_n 0), (9, .aload_n 1), (10, .iconst 0), (11, .invokevirtual 210), (14, .invokevirtual 214), (17, .iconst 0), (18, .istore_n 2), (19, .iload_n 2), (20, .aload_n 1), (21, .invokevirtual 217), (24, .if_icmp .ge 18), (27, .aload_n 0), (28, .aload_n 1), (29, .iload_n 2), (30, .invokevirtual 210), (33, .invokevirtual 220), (36, .iinc 2 1), (39, .goto (-20)), (42, .return_)]
def am_f157 : List (Nat × Instr) := [(0, .aload_n 0), (1, .aload_n 0), (2, .getfield 30), (5, .iconst 1), (6, .isub), (7, .invokevirtual 231), (10, .istore_n 2), (11, .iload_n 1), (12, .invokestatic 232), (15, .ifCond .eq 25), (18, .aload_n 0), (19, .getfield 34), (22, .ifCond .ne 10), (25, .iload_n 2), (26, .invokestatic 232), (29, .ifCond .eq 7), (32, .iconst 1), (33, .goto 35), (36, .iconst 0), (37, .goto 31), (40, .iload_n 1), (41, .iload_n 2), (42, .if_icmp .ne 25), (45, .iload_n 1), (46, .bipush 43), (48, .if_icmp .eq 15), (51, .iload_n 1), (52, .bipush 45), (54, .if_icmp .eq 9), (57, .iload_n 1), (58, .bipush 47), (60, .if_icmp .ne 7), (63, .iconst 1), (64, .goto 4), (67, .iconst 0), (68, .istore_n 3), (69, .iload_n 3), (70, .ifCond .eq 9), (73, .aload_n 0), (74, .bipush 32), (76, .invokevirtual 220), (79, .aload_n 0), (80, .iconst 0), (81, .putfield 34), (84, .return_)]
def am_f158 : List (Nat × Instr) := [(0, .aload_n 0), (1, .getfield 30), (4, .ifCond .lt 34), (7, .aload_n 0), (8, .getfield 30), (11, .sipush 1024), (14, .if_icmp .ge 24), (17, .aload_n 0), (18, .getfield 11), (21, .aload_n 0), (22, .getfield 30), (25, .iload_n 1), (26, .i2c), (27, .castore), (28, .aload_n 0), (29, .dup), (30, .getfield 30), (33, .iconst 1), (34, .iadd), (35, .putfield 30), (38, .return_)]
def am_f159 : List (Nat × Instr) := [(0, .aload_n 0), (1, .getfield 26), (4, .iload_n 1), (5, .invokevirtual 223), (8, .istore_n 2), (9, .aload_n 0), (10, .getfield 26), (13, .iload_n 1), (14, .invokevirtual 99), (17, .istore_n 3), (18, .iload_n 2), (19, .ifCond .le 15), (22, .aload_n 0), (23, .aload_n 0), (24, .getfield 22), (27, .iload_n 3), (28, .invokevirtual 226), (31, .invokevirtual 214), (34, .iconst 0), (35, .istore 4), (37, .iload 4), (39, .iload_n 2), (40, .if_icmp .ge 24), (43, .aload_n 0), (44, .aload_n 0), (45, .getfield 22), (48, .iload_n 3), (49, .iload 4), (51, .iadd), (52, .invokevirtual 226), (55, .invokevirtual 220), (58, .iinc 4 1), (61, .goto (-24)), (64, .return_)]
def am_f160 : List (Nat × Instr) := [(0, .aload_n 0), (1, .getfield 26), (4, .iload_n 1), (5, .invokevirtual 192), (8, .istore_n 2), (9, .aload_n 0), (10, .getfield 26), (13, .iload_n 1), (14, .invokevirtual 53), (17, .tableswitch 222 1 23 #[107, 176, 222, 213, 213, 222, 198, 222, 222, 222, 213, 213, 213, 116, 157, 222, 213, 222, 222, 222, 222, 222, 107]), (124, .aload_n 0), (125, .ldc 197), (127, .invokevirtual 116), (130, .goto 109), (133, .aload_n 0), (134, .iload_n 2), (135, .iconst 1), (136, .if_icmp .ne 7), (139, .iconst 1), (140, .goto 4), (143, .iconst 0), (144, .ldc 124), (146, .invokevirtual 110), (149, .aload_n 0), (150, .iload_n 2), (151, .iconst 1), (152, .if_icmp .ne 7), (155, .iconst 1), (156, .goto 4), (159, .iconst 0), (160, .ldc 146), (162, .invokevirtual 110), (165, .aload_n 0), (166, .ldc 197), (168, .invokevirtual 116), (171, .goto 68), (174, .aload_n 0), (175, .iload_n 2), (176, .iconst 1), (177, .if_icmp .ne 7), (180, .iconst 1), (181, .goto 4), (184, .iconst 0), (185, .ldc 120), (187, .invokevirtual 110), (190, .goto 49), (193, .aload_n 0), (194, .aload_n 0), (195, .iload_n 1), (196, .invokevirtual 201), (199, .ifCond .ne 7), (202, .iconst 1), (203, .goto 4), (206, .iconst 0), (207, .ldc 142), (209, .invokevirtual 110), (212, .goto 27), (215, .aload_n 0), (216, .ldc 124), (218, .invokevirtual 116), (221, .aload_n 0), (222, .ldc 142), (224, .invokevirtual 116), (227, .goto 12), (230, .aload_n 0), (231, .ldc 142), (233, .invokevirtual 116), (236, .goto 3), (239, .return_)]
def am_f161 : List (Nat × Instr) := [(0, .aload_n 0), (1, .getfield 26), (4, .aload_n 0), (5, .getfield 26), (8, .iload_n 1), (9, .invokevirtual 65), (12, .invokevirtual 53), (15, .istore_n 2), (16, .iload_n 2), (17, .bipush 9), (19, .if_icmp .eq 9), (22, .iload_n 2), (23, .bipush 10), (25, .if_icmp .ne 18), (28, .aload_n 0), (29, .getfield 26), (32, .iload_n 1), (33, .invokevirtual 79), (36, .ifCond .ne 7), (39, .iconst 1), (40, .goto 4), (43, .iconst 0), (44, .ireturn)]
def am_f162 : List (Nat × Instr) := [(0, .aload_n 0), (1, .getfield 26), (4, .iload_n 1), (5, .invokevirtual 65), (8, .istore_n 2), (9, .aload_n 0), (10, .getfield 26), (13, .iload_n 1), (14, .invokevirtual 79), (17, .istore_n 3), (18, .aload_n 0), (19, .getfield 26), (22, .iload_n 2), (23, .invokevirtual 53), (26, .tableswitch 411 2 49 #[206, 224, 411, 411, 411, 411, 411, 411, 411, 411, 411, 411, 411, 233, 411, 411, 252, 411, 283, 411, 411, 411, 411, 411, 411, 411, 411, 411, 411, 411, 411, 411, 411, 411, 206, 206, 411, 283, 323, 411, 342, 342, 411, 411, 370, 383, 370, 206]), (232, .aload_n 0), (233, .iload_n 3), (234, .ifCond .le 7), (237, .iconst 1), (238, .goto 4), (241, .iconst 0), (242, .ldc 108), (244, .invokevirtual 110), (247, .goto 203), (250, .aload_n 0), (251, .ldc 114), (253, .invokevirtual 116), (256, .goto 194), (259, .aload_n 0), (260, .iload_n 3), (261, .iconst 1), (262, .if_icmp .ne 7), (265, .iconst 1), (266, .goto 4), (269, .iconst 0), (270, .ldc 120), (272, .invokevirtual 110), (275, .goto 175), (278, .aload_n 0), (279, .iload_n 3), (280, .iconst 2), (281, .if_icmp .ne 19), (284, .aload_n 0), (285, .getfield 26), (288, .iload_n 1), (289, .invokevirtual 53), (292, .iconst 1), (293, .if_icmp .ne 7), (296, .iconst 1), (297, .goto 4), (300, .iconst 0), (301, .ldc 122), (303, .invokevirtual 110), (306, .goto 144), (309, .aload_n 0), (310, .getfield 26), (313, .iload_n 1), (314, .invokevirtual 53), (317, .bipush 23), (319, .if_icmp .ne 12), (322, .aload_n 0), (323, .ldc 124), (325, .invokevirtual 116), (328, .goto 122), (331, .aload_n 0), (332, .iload_n 3), (333, .ifCond .le 7), (336, .iconst 1), (337, .goto 4), (340, .iconst 0), (341, .ldc 108), (343, .invokevirtual 110), (346, .goto 104), (349, .aload_n 0), (350, .iload_n 3), (351, .iconst 1), (352, .if_icmp .ne 7), (355, .iconst 1), (356, .goto 4), (359, .iconst 0), (360, .ldc 126), (362, .invokevirtual 110), (365, .goto 85), (368, .aload_n 0), (369, .iload_n 3), (370, .ifCond .le 7), (373, .iconst 1), (374, .goto 4), (377, .iconst 0), (378, .iload_n 3), (379, .iconst 1), (380, .if_icmp .ne 8), (383, .ldc 128), (385, .goto 5), (388, .ldc 108), (390, .invokevirtual 110), (393, .goto 57), (396, .iload_n 3), (397, .iconst 1), (398, .if_icmp .ne 52), (401, .aload_n 0), (402, .iload_n 2), (403, .invokevirtual 130), (406, .goto 44), (409, .aload_n 0), (410, .iload_n 3), (411, .ifCond .le 7), (414, .iconst 1), (415, .goto 4), (418, .iconst 0), (419, .iload_n 3), (420, .iconst 1), (421, .if_icmp .ne 8), (424, .ldc 133), (426, .goto 5), (429, .ldc 120), (431, .invokevirtual 110), (434, .goto 16), (437, .aload_n 0), (438, .aload_n 0), (439, .getfield 26), (442, .iload_n 2), (443, .invokevirtual 53), (446, .iload_n 3), (447, .invokevirtual 135), (450, .return_)]
def am_f163 : List (Nat × Instr) := [(0, .iload_n 1), (1, .tableswitch 224 6 14 #[51, 79, 114, 133, 161, 224, 224, 224, 189]), (52, .aload_n 0), (53, .iload_n 2), (54, .ifCond .le 7), (57, .iconst 1), (58, .goto 4), (61, .iconst 0), (62, .iload_n 2), (63, .iconst 1), (64, .if_icmp .ne 8), (67, .ldc 124), (69, .goto 5), (72, .ldc 138), (74, .invokevirtual 110), (77, .goto 148), (80, .aload_n 0), (81, .iload_n 2), (82, .iconst 1), (83, .if_icmp .ne 7), (86, .iconst 1), (87, .goto 4), (90, .iconst 0), (91, .ldc 140), (93, .invokevirtual 110), (96, .aload_n 0), (97, .iload_n 2), (98, .iconst 1), (99, .if_icmp .ne 7), (102, .iconst 1), (103, .goto 4), (106, .iconst 0), (107, .ldc 128), (109, .invokevirtual 110), (112, .goto 113), (115, .aload_n 0), (116, .iload_n 2), (117, .iconst 1), (118, .if_icmp .ne 7), (121, .iconst 1), (122, .goto 4), (125, .iconst 0), (126, .ldc 124), (128, .invokevirtual 110), (131, .goto 94), (134, .aload_n 0), (135, .iload_n 2), (136, .ifCond .le 7), (139, .iconst 1), (140, .goto 4), (143, .iconst 0), (144, .iload_n 2), (145, .iconst 3), (146, .if_icmp .ne 8), (149, .ldc 124), (151, .goto 5), (154, .ldc 142), (156, .invokevirtual 110), (159, .goto 66), (162, .aload_n 0), (163, .iload_n 2), (164, .ifCond .le 7), (167, .iconst 1), (168, .goto 4), (171, .iconst 0), (172, .iload_n 2), (173, .iconst 1), (174, .if_icmp .ne 8), (177, .ldc 144), (179, .goto 5), (182, .ldc 124), (184, .invokevirtual 110), (187, .goto 38), (190, .aload_n 0), (191, .iload_n 2), (192, .iconst 1), (193, .if_icmp .ne 7), (196, .iconst 1), (197, .goto 4), (200, .iconst 0), (201, .ldc 124), (203, .invokevirtual 110), (206, .aload_n 0), (207, .iload_n 2), (208, .iconst 1), (209, .if_icmp .ne 7), (212, .iconst 1), (213, .goto 4), (216, .iconst 0), (217, .ldc 146), (219, .invokevirtual 110), (222, .goto 3), (225, .return_)]
def am_f164 : List (Nat × Instr) := [(0, .aload_n 0), (1, .aload_n 0), (2, .iload_n 1), (3, .invokevirtual 96), (6, .ldc 128), (8, .invokevirtual 110), (11, .aload_n 0), (12, .getfield 26), (15, .iload_n 1), (16, .invokevirtual 53), (19, .istore_n 2), (20, .iload_n 2), (21, .bipush 30), (23, .if_icmp .lt 12), (26, .aload_n 0), (27, .iload_n 1), (28, .iload_n 2), (29, .invokevirtual 148), (32, .goto 9), (35, .aload_n 0), (36, .iload_n 1), (37, .iload_n 2), (38, .invokevirtual 151), (41, .return_)]
def am_f165 : List (Nat × Instr) := [(0, .iload_n 2), (1, .tableswitch 174 30 45 #[79, 88, 88, 88, 88, 88, 117, 126, 135, 149, 174, 174, 157, 174, 174, 166]), (80, .aload_n 0), (81, .ldc 154), (83, .invokevirtual 116), (86, .goto 89), (89, .aload_n 0), (90, .iload_n 1), (91, .invokevirtual 130), (94, .aload_n 0), (95, .iload_n 2), (96, .bipush 33), (98, .if_icmp .eq 9), (101, .iload_n 2), (102, .bipush 35), (104, .if_icmp .ne 7), (107, .iconst 1), (108, .goto 4), (111, .iconst 0), (112, .putfield 34), (115, .goto 60), (118, .aload_n 0), (119, .ldc 126), (121, .invokevirtual 116), (124, .goto 51), (127, .aload_n 0), (128, .ldc 146), (130, .invokevirtual 116), (133, .goto 42), (136, .aload_n 0), (137, .iload_n 1), (138, .invokevirtual 130), (141, .aload_n 0), (142, .ldc 120), (144, .invokevirtual 116), (147, .goto 28), (150, .aload_n 0), (151, .iload_n 1), (152, .invokevirtual 156), (155, .goto 20), (158, .aload_n 0), (159, .ldc 159), (161, .invokevirtual 116), (164, .goto 11), (167, .aload_n 0), (168, .iload_n 1), (169, .invokevirtual 130), (172, .goto 3), (175, .return_)]
def am_f166 : List (Nat × Instr) := [(0, .aload_n 0), (1, .ldc 161), (3, .invokevirtual 116), (6, .aload_n 0), (7, .iload_n 1), (8, .invokevirtual 130), (11, .aload_n 0), (12, .ldc 128), (14, .invokevirtual 116), (17, .return_)]
def am_f167 : List (Nat × Instr) := [(0, .iload_n 2), (1, .tableswitch 239 1 23 #[107, 116, 125, 239, 239, 239, 239, 239, 239, 239, 133, 147, 161, 239, 170, 199, 213, 222, 239, 231, 239, 125, 107]), (108, .aload_n 0), (109, .ldc 146), (111, .invokevirtual 116), (114, .goto 132), (117, .aload_n 0), (118, .ldc 163), (120, .invokevirtual 116), (123, .goto 123), (126, .aload_n 0), (127, .iload_n 1), (128, .invokevirtual 130), (131, .goto 115), (134, .aload_n 0), (135, .ldc 165), (137, .invokevirtual 116), (140, .aload_n 0), (141, .iload_n 1), (142, .invokevirtual 130), (145, .goto 101), (148, .aload_n 0), (149, .ldc 167), (151, .invokevirtual 116), (154, .aload_n 0), (155, .iload_n 1), (156, .invokevirtual 130), (159, .goto 87), (162, .aload_n 0), (163, .ldc 169), (165, .invokevirtual 116), (168, .goto 78), (171, .aload_n 0), (172, .aload_n 0), (173, .getfield 26), (176, .iload_n 1), (177, .iconst 1), (178, .iadd), (179, .invokevirtual 53), (182, .bipush 21), (184, .if_icmp .ne 8), (187, .ldc 171), (189, .goto 5), (192, .ldc 173), (194, .invokevirtual 116), (197, .goto 49), (200, .aload_n 0), (201, .iload_n 1), (202, .invokevirtual 130), (205, .aload_n 0), (206, .ldc 120), (208, .invokevirtual 116), (211, .goto 35), (214, .aload_n 0), (215, .ldc 175), (217, .invokevirtual 116), (220, .goto 26), (223, .aload_n 0), (224, .ldc 177), (226, .invokevirtual 116), (229, .goto 17), (232, .aload_n 0), (233, .iload_n 1), (234, .invokevirtual 156), (237, .goto 9), (240, .aload_n 0), (241, .iload_n 1), (242, .iload_n 2), (243, .invokevirtual 179), (246, .return_)]
def am_f168 : List (Nat × Instr) := [(0, .iload_n 2), (1, .tableswitch 166 6 19 #[71, 86, 95, 110, 110, 166, 166, 166, 125, 166, 166, 166, 166, 140]), (72, .aload_n 0), (73, .ldc 182), (75, .invokevirtual 116), (78, .aload_n 0), (79, .ldc 128), (81, .invokevirtual 116), (84, .goto 83), (87, .aload_n 0), (88, .ldc 184), (90, .invokevirtual 116), (93, .goto 74), (96, .aload_n 0), (97, .ldc 140), (99, .invokevirtual 116), (102, .aload_n 0), (103, .ldc 128), (105, .invokevirtual 116), (108, .goto 59), (111, .aload_n 0), (112, .ldc 186), (114, .invokevirtual 116), (117, .aload_n 0), (118, .ldc 128), (120, .invokevirtual 116), (123, .goto 44), (126, .aload_n 0), (127, .ldc 188), (129, .invokevirtual 116), (132, .aload_n 0), (133, .ldc 128), (135, .invokevirtual 116), (138, .goto 29), (141, .aload_n 0), (142, .ldc 190), (144, .invokevirtual 116), (147, .aload_n 0), (148, .ldc 128), (150, .invokevirtual 116), (153, .aload_n 0), (154, .iload_n 1), (155, .invokevirtual 130), (158, .aload_n 0), (159, .ldc 124), (161, .invokevirtual 116), (164, .goto 3), (167, .return_)]
def am_f169 : List (Nat × Instr) := [(0, .iload_n 1), (1, .ifCond .lt 14), (4, .iload_n 1), (5, .aload_n 0), (6, .getfield 49), (9, .getfield 111), (12, .if_icmp .lt 13), (15, .new 120), (18, .dup), (19, .ldc 122), (21, .invokespecial 124), (24, .athrow), (25, .iload_n 2), (26, .tableswitch 100 0 5 #[38, 47, 56, 65, 74, 83]), (64, .aload_n 0), (65, .getfield 49), (68, .iload_n 1), (69, .invokevirtual 127), (72, .ireturn), (73, .aload_n 0), (74, .getfield 49), (77, .iload_n 1), (78, .invokevirtual 131), (81, .ireturn), (82, .aload_n 0), (83, .getfield 49), (86, .iload_n 1), (87, .invokevirtual 134), (90, .ireturn), (91, .aload_n 0), (92, .getfield 49), (95, .iload_n 1), (96, .invokevirtual 137), (99, .ireturn), (100, .aload_n 0), (101, .getfield 49), (104, .iload_n 1), (105, .invokevirtual 140), (108, .ireturn), (109, .aload_n 0), (110, .getfield 49), (113, .iload_n 1), (114, .invokevirtual 143), (117, .ifCond .eq 7), (120, .iconst 1), (121, .goto 4), (124, .iconst 0), (125, .ireturn), (126, .new 120), (129, .dup), (130, .ldc 146), (132, .invokespecial 124), (135, .athrow)]
def am_f170 : List (Nat × Instr) := [(0, .aload_n 0), (1, .invokespecial 1), (4, .aload_n 0), (5, .bipush 27), (7, .newarray .long), (9, .dup), (10, .iconst 0), (11, .ldc2_w 7), (14, .lastore), (15, .dup), (16, .iconst 1), (17, .ldc2_w 9), (20, .lastore), (21, .dup), (22, .iconst 2), (23, .ldc2_w 11), (26, .lastore), (27, .dup), (28, .iconst 3), (29, .ldc2_w 13), (32, .lastore), (33, .dup), (34, .iconst 4), (35, .ldc2_w 15), (38, .lastore), (39, .dup), (40, .iconst 5), (41, .ldc2_w 17), (44, .lastore), (45, .dup), (46, .bipush 6), (48, .ldc2_w 19), (51, .lastore), (52, .dup), (53, .bipush 7), (55, .ldc2_w 21), (58, .lastore), (59, .dup), (60, .bipush 8), (62, .ldc2_w 23), (65, .lastore), (66, .dup), (67, .bipush 9), (69, .ldc2_w 25), (72, .lastore), (73, .dup), (74, .bipush 10), (76, .ldc2_w 27), (79, .lastore), (80, .dup), (81, .bipush 11), (83, .ldc2_w 29), (86, .lastore), (87, .dup), (88, .bipush 12), (90, .ldc2_w 31), (93, .lastore), (94, .dup), (95, .bipush 13), (97, .ldc2_w 33), (100, .lastore), (101, .dup), (102, .bipush 14), (104, .ldc2_w 35), (107, .lastore), (108, .dup), (109, .bipush 15), (111, .ldc2_w 37), (114, .lastore), (115, .dup), (116, .bipush 16), (118, .ldc2_w 39), (121, .lastore), (122, .dup), (123, .bipush 17), (125, .ldc2_w 41), (128, .lastore), (129, .dup), (130, .bipush 18), (132, .ldc2_w 43), (135, .lastore), (136, .dup), (137, .bipush 19), (139, .ldc2_w 45), (142, .lastore), (143, .dup), (144, .bipush 20), (146, .ldc2_w 47), (149, .lastore), (150, .dup), (151, .bipush 21), (153, .ldc2_w 49), (156, .lastore), (157, .dup), (158, .bipush 22), (160, .ldc2_w 51), (163, .lastore), (164, .dup), (165, .bipush 23), (167, .ldc2_w 53), (170, .lastore), (171, .dup), (172, .bipush 24), (174, .ldc2_w 55), (177, .lastore), (178, .dup), (179, .bipush 25), (181, .ldc2_w 57), (184, .lastore), (185, .dup), (186, .bipush 26), (188, .ldc2_w 59), (191, .lastore), (192, .putfield 61), (195, .aload_n 0), (196, .bipush 24), (198, .newarray .int), (200, .dup), (201, .iconst 0), (202, .sipush 15421), (205, .iastore), (206, .dup), (207, .iconst 1), (208, .sipush 15933), (211, .iastore), (212, .dup), (213, .iconst 2), (214, .sipush 15677), (217, .iastore), (218, .dup), (219, .iconst 3), (220, .sipush 8509), (223, .iastore), (224, .dup), (225, .iconst 4), (226, .sipush 11051), (229, .iastore), (230, .dup), (231, .iconst 5), (232, .sipush 11565), (235, .iastore), (236, .dup), (237, .bipush 6), (239, .sipush 15420), (242, .iastore), (243, .dup), (244, .bipush 7), (246, .sipush 15934), (249, .iastore), (250, .dup), (251, .bipush 8), (253, .sipush 9766), (256, .iastore), (257, .dup), (258, .bipush 9), (260, .sipush 31868), (263, .iastore), (264, .dup), (265, .bipush 10), (267, .sipush 11069), (270, .iastore), (271, .dup), (272, .bipush 11), (274, .sipush 11581), (277, .iastore), (278, .dup), (279, .bipush 12), (281, .sipush 10813), (284, .iastore), (285, .dup), (286, .bipush 13), (288, .sipush 9533), (291, .iastore), (292, .dup), (293, .bipush 14), (295, .sipush 9789), (298, .iastore), (299, .dup), (300, .bipush 15), (302, .sipush 31805), (305, .iastore), (306, .dup), (307, .bipush 16), (309, .sipush 24125), (312, .iastore), (313, .dup), (314, .bipush 17), (316, .sipush 12093), (319, .iastore), (320, .dup), (321, .bipush 18), (323, .ldc 67), (325, .iastore), (326, .dup), (327, .bipush 19), (329, .ldc 68), (331, .iastore), (332, .dup), (333, .bipush 20), (335, .ldc 69), (337, .iastore), (338, .dup), (339, .bipush 21), (341, .ldc 70), (343, .iastore), (344, .dup), (345, .bipush 22), (347, .ldc 71), (349, .iastore), (350, .dup), (351, .bipush 23), (353, .ldc 72), (355, .iastore), (356, .putfield 73), (359, .aload_n 0), (360, .bipush 24), (362, .newarray .int), (364, .dup), (365, .iconst 0), (366, .bipush 123), (368, .iastore), (369, .dup), (370, .iconst 1), (371, .bipush 125), (373, .iastore), (374, .dup), (375, .iconst 2), (376, .bipush 40), (378, .iastore), (379, .dup), (380, .iconst 3), (381, .bipush 41), (383, .iastore), (384, .dup), (385, .iconst 4), (386, .bipush 91), (388, .iastore), (389, .dup), (390, .iconst 5), (391, .bipush 93), (393, .iastore), (394, .dup), (395, .bipush 6), (397, .bipush 46), (399, .iastore), (400, .dup), (401, .bipush 7), (403, .bipush 59), (405, .iastore), (406, .dup), (407, .bipush 8), (409, .bipush 44), (411, .iastore), (412, .dup), (413, .bipush 9), (415, .bipush 60), (417, .iastore), (418, .dup), (419, .bipush 10), (421, .bipush 62), (423, .iastore), (424, .dup), (425, .bipush 11), (427, .bipush 43), (429, .iastore), (430, .dup), (431, .bipush 12), (433, .bipush 45), (435, .iastore), (436, .dup), (437, .bipush 13), (439, .bipush 42), (441, .iastore), (442, .dup), (443, .bipush 14), (445, .bipush 37), (447, .iastore), (448, .dup), (449, .bipush 15), (451, .bipush 38), (453, .iastore), (454, .dup), (455, .bipush 16), (457, .bipush 124), (459, .iastore), (460, .dup), (461, .bipush 17), (463, .bipush 94), (465, .iastore), (466, .dup), (467, .bipush 18), (469, .bipush 33), (471, .iastore), (472, .dup), (473, .bipush 19), (475, .bipush 126), (477, .iastore), (478, .dup), (479, .bipush 20), (481, .bipush 63), (483, .iastore), (484, .dup), (485, .bipush 21), (487, .bipush 58), (489, .iastore), (490, .dup), (491, .bipush 22), (493, .bipush 61), (495, .iastore), (496, .dup), (497, .bipush 23), (499, .bipush 47), (501, .iastore), (502, .putfield 77), (505, .aload_n 0), (506, .sipush 480), (509, .newarray .byte), (511, .putfield 80), (514, .aload_n 0), (515, .sipush 480), (518, .newarray .byte), (520, .putfield 84), (523, .aload_n 0), (524, .iconst (-1)), (525, .putfield 87), (528, .aload_n 0), (529, .sipush 500), (532, .newarray .int), (534, .putfield 91), (537, .aload_n 0), (538, .sipush 500), (541, .newarray .int), (543, .putfield 94), (546, .aload_n 0), (547, .sipush 500), (550, .newarray .int), (552, .putfield 97), (555, .aload_n 0), (556, .sipush 500), (559, .newarray .int), (561, .putfield 100), (564, .aload_n 0), (565, .sipush 500), (568, .newarray .int), (570, .putfield 103), (573, .aload_n 0), (574, .sipush 500), (577, .newarray .int), (579, .putfield 106), (582, .aload_n 0), (583, .sipush 500), (586, .newarray .int), (588, .putfield 109), (591, .aload_n 0), (592, .sipush 500), (595, .newarray .boolean), (597, .putfield 112), (600, .aload_n 0), (601, .sipush 500), (604, .newarray .boolean), (606, .putfield 116), (609, .aload_n 0), (610, .sipush 900), (613, .newarray .int), (615, .putfield 119), (618, .aload_n 0), (619, .sipush 900), (622, .newarray .int), (624, .putfield 122), (627, .aload_n 0), (628, .sipush 900), (631, .newarray .int), (633, .putfield 125), (636, .aload_n 0), (637, .sipush 900), (640, .newarray .int), (642, .putfield 128), (645, .aload_n 0), (646, .sipush 900), (649, .newarray .int), (651, .putfield 131), (654, .aload_n 0), (655, .sipush 500), (658, .newarray .int), (660, .putfield 134), (663, .aload_n 0), (664, .sipush 300), (667, .newarray .int), (669, .putfield 137), (672, .aload_n 0), (673, .sipush 300), (676, .newarray .int), (678, .putfield 140), (681, .aload_n 0), (682, .sipush 300), (685, .newarray .int), (687, .putfield 143), (690, .aload_n 0), (691, .sipush 500), (694, .newarray .int), (696, .putfield 146), (699, .aload_n 0), (700, .sipush 500), (703, .newarray .int), (705, .putfield 149), (708, .aload_n 0), (709, .sipush 3000), (712, .newarray .int), (714, .putfield 152), (717, .aload_n 0), (718, .sipush 1500), (721, .newarray .byte), (723, .putfield 155), (726, .aload_n 0), (727, .sipush 1000), (730, .newarray .int), (732, .putfield 158), (735, .aload_n 0), (736, .sipush 1000), (739, .newarray .int), (741, .putfield 161), (744, .aload_n 0), (745, .sipush 1000), (748, .newarray .int), (750, .putfield 164), (753, .return_)]
def am_f171 : List (Nat × Instr) := [(0, .aload_n 0), (1, .getfield 167), (4, .ireturn)]
def am_f172 : List (Nat × Instr) := [(0, .aload_n 0), (1, .iconst 0), (2, .putfield 167), (5, .iload_n 3), (6, .iconst 1), (7, .if_icmp .lt 21), (10, .iload_n 3), (11, .bipush 8), (13, .if_icmp .gt 15), (16, .aload_n 0), (17, .getfield 170), (20, .iload_n 3), (21, .iadd), (22, .sipush 480), (25, .if_icmp .le 5), (28, .iconst 0), (29, .ireturn), (30, .iload_n 3), (31, .iconst 1), (32, .isub), (33, .istore 4), (35, .iload 4), (37, .ifCond .lt 47), (40, .lload_n 1), (41, .bipush 8), (43, .iload 4), (45, .imul), (46, .lshr), (47, .ldc2_w 173), (50, .land), (51, .l2i), (52, .istore 5), (54, .iload 5), (56, .invokestatic 175), (59, .ifCond .ne 19), (62, .iload 5), (64, .bipush 32), (66, .if_icmp .lt 10), (69, .iload 5), (71, .bipush 126), (73, .if_icmp .le 5), (76, .iconst 0), (77, .ireturn), (78, .iinc 4 (-1)), (81, .goto (-46)), (84, .iload_n 3), (85, .iconst 1), (86, .isub), (87, .istore 4), (89, .iload 4), (91, .ifCond .lt 41), (94, .aload_n 0), (95, .getfield 80), (98, .aload_n 0), (99, .getfield 170), (102, .lload_n 1), (103, .bipush 8), (105, .iload 4), (107, .imul), (108, .lshr), (109, .ldc2_w 173), (112, .land), (113, .l2i), (114, .i2b), (115, .bastore), (116, .aload_n 0), (117, .dup), (118, .getfield 170), (121, .iconst 1), (122, .iadd), (123, .putfield 170), (126, .iinc 4 (-1)), (129, .goto (-40)), (132, .iconst 1), (133, .ireturn)]
def am_f173 : List (Nat × Instr) := [(0, .iload_n 0), (1, .bipush 9), (3, .if_icmp .eq 21), (6, .iload_n 0), (7, .bipush 10), (9, .if_icmp .eq 15), (12, .iload_n 0), (13, .bipush 13), (15, .if_icmp .eq 9), (18, .iload_n 0), (19, .bipush 32), (21, .if_icmp .ne 7), (24, .iconst 1), (25, .goto 4), (28, .iconst 0), (29, .ireturn)]
def am_f174 : List (Nat × Instr) := [(0, .aload_n 0), (1, .aload_n 0), (2, .getfield 170), (5, .putfield 179), (8, .aload_n 0), (9, .iconst 0), (10, .putfield 170), (13, .iconst 0), (14, .istore_n 1), (15, .iload_n 1), (16, .aload_n 0), (17, .getfield 179), (20, .if_icmp .ge 21), (23, .aload_n 0), (24, .getfield 84), (27, .iload_n 1), (28, .aload_n 0), (29, .getfield 80), (32, .iload_n 1), (33, .baload), (34, .bastore), (35, .iinc 1 1), (38, .goto (-23)), (41, .aload_n 0), (42, .invokevirtual 610), (45, .istore_n 1), (46, .iconst 0), (47, .istore_n 2), (48, .aload_n 0), (49, .getfield 188), (52, .ifCond .le 11), (55, .aload_n 0), (56, .iconst 0), (57, .putfield 328), (60, .goto 19), (63, .aload_n 0), (64, .iload_n 1), (65, .invokevirtual 614), (68, .istore_n 2), (69, .aload_n 0), (70, .iload_n 2), (71, .invokevirtual 617), (74, .aload_n 0), (75, .iload_n 2), (76, .invokevirtual 620), (79, .aload_n 0), (80, .aload_n 0), (81, .getfield 188), (84, .ifCond .le 7), (87, .iconst 1), (88, .goto 4), (91, .iconst 0), (92, .putfield 167), (95, .aload_n 0), (96, .getfield 188), (99, .ifCond .le 5), (102, .iconst 0), (103, .ireturn), (104, .iconst 0), (105, .istore_n 3), (106, .iload_n 3), (107, .iload_n 2), (108, .if_icmp .ge 144), (111, .aload_n 0), (112, .getfield 146), (115, .iload_n 3), (116, .iaload), (117, .istore 4), (119, .aload_n 0), (120, .getfield 152), (123, .bipush 6), (125, .iload_n 3), (126, .imul), (127, .aload_n 0), (128, .getfield 91), (131, .iload 4), (133, .iaload), (134, .iastore), (135, .aload_n 0), (136, .getfield 152), (139, .bipush 6), (141, .iload_n 3), (142, .imul), (143, .iconst 1), (144, .iadd), (145, .aload_n 0), (146, .getfield 94), (149, .iload 4), (151, .iaload), (152, .iastore), (153, .aload_n 0), (154, .getfield 152), (157, .bipush 6), (159, .iload_n 3), (160, .imul), (161, .iconst 2), (162, .iadd), (163, .aload_n 0), (164, .getfield 97), (167, .iload 4), (169, .iaload), (170, .iastore), (171, .aload_n 0), (172, .getfield 152), (175, .bipush 6), (177, .iload_n 3), (178, .imul), (179, .iconst 3), (180, .iadd), (181, .aload_n 0), (182, .getfield 109), (185, .iload 4), (187, .iaload), (188, .iastore), (189, .aload_n 0), (190, .getfield 152), (193, .bipush 6), (195, .iload_n 3), (196, .imul), (197, .iconst 4), (198, .iadd), (199, .iload_n 3), (200, .ifCond .ne 7), (203, .iconst (-1)), (204, .goto 15), (207, .aload_n 0), (208, .getfield 149), (211, .aload_n 0), (212, .getfield 106), (215, .iload 4), (217, .iaload), (218, .iaload), (219, .iastore), (220, .aload_n 0), (221, .getfield 152), (224, .bipush 6), (226, .iload_n 3), (227, .imul), (228, .iconst 5), (229, .iadd), (230, .aload_n 0), (231, .getfield 116), (234, .iload 4), (236, .baload), (237, .ifCond .eq 7), (240, .iconst 1), (241, .goto 4), (244, .iconst 0), (245, .iastore), (246, .iinc 3 1), (249, .goto (-143)), (252, .aload_n 0), (253, .iload_n 2), (254, .putfield 623), (257, .aload_n 0), (258, .iload_n 1), (259, .invokevirtual 626), (262, .aload_n 0), (263, .iconst 1), (264, .putfield 629), (267, .iload_n 2), (268, .ireturn)]
def am_f175 : List (Nat × Instr) := [(0, .aload_n 0), (1, .iconst 0), (2, .putfield 202), (5, .aload_n 0), (6, .iconst 0), (7, .putfield 233), (10, .aload_n 0), (11, .iconst 0), (12, .putfield 188), (15, .aload_n 0), (16, .iconst (-1)), (17, .putfield 87), (20, .aload_n 0), (21, .iconst 0), (22, .putfield 328), (25, .aload_n 0), (26, .iconst 0), (27, .putfield 267), (30, .aload_n 0), (31, .iconst 0), (32, .putfield 283), (35, .aload_n 0), (36, .iconst 0), (37, .putfield 270), (40, .aload_n 0), (41, .iconst 0), (42, .putfield 340), (45, .aload_n 0), (46, .iconst 0), (47, .putfield 294), (50, .aload_n 0), (51, .iconst 0), (52, .putfield 273), (55, .aload_n 0), (56, .iconst 3), (57, .iconst 0), (58, .iconst 0), (59, .iconst 0), (60, .iconst 0), (61, .invokevirtual 286), (64, .aload_n 0), (65, .iconst 1), (66, .iconst 0), (67, .invokevirtual 297), (70, .aload_n 0), (71, .getfield 283), (74, .ifCond .le 17), (77, .aload_n 0), (78, .getfield 188), (81, .ifCond .ne 10), (84, .aload_n 0), (85, .invokevirtual 607), (88, .goto (-18)), (91, .aload_n 0), (92, .getfield 267), (95, .iconst 1), (96, .isub), (97, .ireturn)]
def am_f176 : List (Nat × Instr) := [(0, .aload_n 0), (1, .getfield 119), (4, .aload_n 0), (5, .getfield 283), (8, .iload_n 1), (9, .iastore), (10, .aload_n 0), (11, .getfield 122), (14, .aload_n 0), (15, .getfield 283), (18, .iload_n 2), (19, .iastore), (20, .aload_n 0), (21, .getfield 125), (24, .aload_n 0), (25, .getfield 283), (28, .iload_n 3), (29, .iastore), (30, .aload_n 0), (31, .getfield 128), (34, .aload_n 0), (35, .getfield 283), (38, .iload 4), (40, .iastore), (41, .aload_n 0), (42, .getfield 131), (45, .aload_n 0), (46, .getfield 283), (49, .iload 5), (51, .iastore), (52, .aload_n 0), (53, .dup), (54, .getfield 283), (57, .iconst 1), (58, .iadd), (59, .putfield 283), (62, .return_)]
def am_f177 : List (Nat × Instr) := [(0, .aload_n 0), (1, .iload_n 1), (2, .iload_n 2), (3, .iconst 0), (4, .iconst 0), (5, .iconst 0), (6, .invokevirtual 286), (9, .return_)]
def am_f178 : List (Nat × Instr) := [(0, .aload_n 0), (1, .dup), (2, .getfield 283), (5, .iconst 1), (6, .isub), (7, .putfield 283), (10, .aload_n 0), (11, .getfield 122), (14, .aload_n 0), (15, .getfield 283), (18, .iaload), (19, .istore_n 1), (20, .aload_n 0), (21, .getfield 125), (24, .aload_n 0), (25, .getfield 283), (28, .iaload), (29, .istore_n 2), (30, .aload_n 0), (31, .getfield 128), (34, .aload_n 0), (35, .getfield 283), (38, .iaload), (39, .istore_n 3), (40, .aload_n 0), (41, .getfield 131), (44, .aload_n 0), (45, .getfield 283), (48, .iaload), (49, .istore 4), (51, .aload_n 0), (52, .getfield 119), (55, .aload_n 0), (56, .getfield 283), (59, .iaload), (60, .tableswitch 398 1 41 #[180, 188, 205, 217, 230, 238, 398, 398, 398, 398, 398, 398, 398, 398, 398, 398, 398, 398, 398, 398, 398, 398, 398, 398, 367, 384, 391, 398, 343, 351, 359, 245, 252, 261, 273, 286, 294, 301, 308, 324, 317]), (240, .aload_n 0), (241, .iload_n 1), (242, .invokevirtual 355), (245, .goto 229), (248, .aload_n 0), (249, .iload_n 1), (250, .iconst 1), (251, .if_icmp .ne 7), (254, .iconst 1), (255, .goto 4), (258, .iconst 0), (259, .invokevirtual 358), (262, .goto 212), (265, .aload_n 0), (266, .iload_n 1), (267, .iload_n 2), (268, .iload_n 3), (269, .iload 4), (271, .invokevirtual 276), (274, .goto 200), (277, .aload_n 0), (278, .dup), (279, .getfield 294), (282, .iconst 1), (283, .isub), (284, .putfield 294), (287, .goto 187), (290, .aload_n 0), (291, .iload_n 1), (292, .invokevirtual 352), (295, .goto 179), (298, .aload_n 0), (299, .invokevirtual 361), (302, .goto 172), (305, .aload_n 0), (306, .invokevirtual 364), (309, .goto 165), (312, .aload_n 0), (313, .iload_n 1), (314, .iload_n 2), (315, .invokevirtual 367), (318, .goto 156), (321, .aload_n 0), (322, .iload_n 1), (323, .iload_n 2), (324, .iload_n 3), (325, .iload 4), (327, .invokevirtual 370), (330, .goto 144), (333, .aload_n 0), (334, .iload_n 1), (335, .iload_n 2), (336, .aload_n 0), (337, .getfield 273), (340, .invokevirtual 373), (343, .goto 131), (346, .aload_n 0), (347, .iload_n 1), (348, .invokevirtual 377), (351, .goto 123), (354, .aload_n 0), (355, .invokevirtual 380), (358, .goto 116), (361, .aload_n 0), (362, .invokevirtual 383), (365, .goto 109), (368, .aload_n 0), (369, .iload_n 1), (370, .iload_n 2), (371, .invokevirtual 386), (374, .goto 100), (377, .aload_n 0), (378, .invokevirtual 389), (381, .goto 93), (384, .aload_n 0), (385, .iload_n 1), (386, .iload_n 2), (387, .iload_n 3), (388, .iconst 1), (389, .if_icmp .ne 7), (392, .iconst 1), (393, .goto 4), (396, .iconst 0), (397, .invokevirtual 392), (400, .goto 74), (403, .aload_n 0), (404, .iload_n 1), (405, .invokevirtual 395), (408, .goto 66), (411, .aload_n 0), (412, .iload_n 1), (413, .invokevirtual 398), (416, .goto 58), (419, .aload_n 0), (420, .iload_n 1), (421, .invokevirtual 401), (424, .goto 50), (427, .aload_n 0), (428, .iload_n 1), (429, .iconst 1), (430, .if_icmp .ne 7), (433, .iconst 1), (434, .goto 4), (437, .iconst 0), (438, .invokevirtual 404), (441, .goto 33), (444, .aload_n 0), (445, .invokevirtual 407), (448, .goto 26), (451, .aload_n 0), (452, .invokevirtual 410), (455, .goto 19), (458, .aload_n 0), (459, .aload_n 0), (460, .getfield 119), (463, .aload_n 0), (464, .getfield 283), (467, .iaload), (468, .iload_n 1), (469, .iload_n 2), (470, .iload_n 3), (471, .invokevirtual 413), (474, .return_)]
def am_f179 : List (Nat × Instr) := [(0, .aload_n 0), (1, .iconst 1), (2, .invokevirtual 290), (5, .iload_n 1), (6, .ifCond .ne 18), (9, .aload_n 0), (10, .getfield 242), (13, .ifCond .ne 7), (16, .iconst 1), (17, .goto 63), (20, .iconst 0), (21, .goto 59), (24, .iload_n 1), (25, .iconst 2), (26, .if_icmp .ne 40), (29, .aload_n 0), (30, .getfield 242), (33, .sipush 1001), (36, .if_icmp .eq 22), (39, .aload_n 0), (40, .getfield 242), (43, .sipush 1004), (46, .if_icmp .eq 12), (49, .aload_n 0), (50, .getfield 242), (53, .bipush 125), (55, .if_icmp .ne 7), (58, .iconst 1), (59, .goto 21), (62, .iconst 0), (63, .goto 17), (66, .aload_n 0), (67, .getfield 242), (70, .bipush 125), (72, .if_icmp .ne 7), (75, .iconst 1), (76, .goto 4), (79, .iconst 0), (80, .istore_n 2), (81, .aload_n 0), (82, .getfield 188), (85, .ifCond .le 4), (88, .return_), (89, .iload_n 2), (90, .ifCond .ne 31), (93, .aload_n 0), (94, .iconst 1), (95, .iload_n 1), (96, .invokevirtual 297), (99, .aload_n 0), (100, .iconst 2), (101, .iload_n 1), (102, .ifCond .eq 8), (105, .iload_n 1), (106, .iconst 3), (107, .if_icmp .ne 7), (110, .iconst 1), (111, .goto 4), (114, .iconst 0), (115, .invokevirtual 297), (118, .goto 17), (121, .iload_n 1), (122, .iconst 1), (123, .if_icmp .eq 8), (126, .iload_n 1), (127, .iconst 3), (128, .if_icmp .ne 7), (131, .aload_n 0), (132, .invokevirtual 280), (135, .return_)]
def am_f180 : List (Nat × Instr) := [(0, .aload_n 0), (1, .getfield 233), (4, .ifCond .eq 24), (7, .aload_n 0), (8, .getfield 236), (11, .iload_n 1), (12, .if_icmp .eq 23), (15, .aload_n 0), (16, .aload_n 0), (17, .getfield 205), (20, .invokevirtual 191), (23, .bipush 47), (25, .if_icmp .ne 10), (28, .aload_n 0), (29, .getfield 188), (32, .ifCond .le 4), (35, .return_), (36, .aload_n 0), (37, .iconst 1), (38, .putfield 233), (41, .aload_n 0), (42, .iload_n 1), (43, .putfield 236), (46, .aload_n 0), (47, .invokevirtual 239), (50, .aload_n 0), (51, .getfield 188), (54, .ifCond .le 4), (57, .return_), (58, .aload_n 0), (59, .aload_n 0), (60, .getfield 205), (63, .invokevirtual 191), (66, .istore_n 2), (67, .aload_n 0), (68, .getfield 205), (71, .istore_n 3), (72, .aload_n 0), (73, .getfield 205), (76, .aload_n 0), (77, .getfield 179), (80, .if_icmp .lt 11), (83, .aload_n 0), (84, .iconst 0), (85, .putfield 242), (88, .goto 181), (91, .iload_n 2), (92, .invokestatic 185), (95, .ifCond .eq 36), (98, .aload_n 0), (99, .iload_n 3), (100, .invokevirtual 191), (103, .invokestatic 218), (106, .ifCond .eq 9), (109, .iinc 3 1), (112, .goto (-14)), (115, .aload_n 0), (116, .aload_n 0), (117, .aload_n 0), (118, .getfield 205), (121, .iload_n 3), (122, .invokevirtual 245), (125, .putfield 242), (128, .goto 141), (131, .iload_n 2), (132, .invokestatic 182), (135, .ifCond .ne 25), (138, .iload_n 2), (139, .bipush 46), (141, .if_icmp .ne 36), (144, .aload_n 0), (145, .aload_n 0), (146, .getfield 205), (149, .iconst 1), (150, .iadd), (151, .invokevirtual 191), (154, .invokestatic 182), (157, .ifCond .eq 20), (160, .aload_n 0), (161, .iconst 2), (162, .putfield 242), (165, .aload_n 0), (166, .aload_n 0), (167, .getfield 205), (170, .invokevirtual 249), (173, .istore_n 3), (174, .goto 95), (177, .iload_n 2), (178, .bipush 39), (180, .if_icmp .eq 9), (183, .iload_n 2), (184, .bipush 34), (186, .if_icmp .ne 20), (189, .aload_n 0), (190, .iconst 3), (191, .putfield 242), (194, .aload_n 0), (195, .aload_n 0), (196, .getfield 205), (199, .invokevirtual 252), (202, .istore_n 3), (203, .goto 66), (206, .iload_n 2), (207, .bipush 47), (209, .if_icmp .ne 24), (212, .iload_n 1), (213, .ifCond .eq 20), (216, .aload_n 0), (217, .iconst 4), (218, .putfield 242), (221, .aload_n 0), (222, .aload_n 0), (223, .getfield 205), (226, .invokevirtual 255), (229, .istore_n 3), (230, .goto 39), (233, .aload_n 0), (234, .aload_n 0), (235, .aload_n 0), (236, .getfield 205), (239, .invokevirtual 258), (242, .putfield 242), (245, .aload_n 0), (246, .getfield 242), (249, .ifCond .ne 7), (252, .iconst (-1)), (253, .goto 15), (256, .aload_n 0), (257, .getfield 205), (260, .aload_n 0), (261, .getfield 242), (264, .invokestatic 261), (267, .iadd), (268, .istore_n 3), (269, .aload_n 0), (270, .iload_n 3), (271, .putfield 264), (274, .iload_n 3), (275, .iconst (-1)), (276, .if_icmp .ne 12), (279, .aload_n 0), (280, .iconst 1), (281, .aload_n 0), (282, .getfield 205), (285, .invokevirtual 211), (288, .return_)]
def am_f181 : List (Nat × Instr) := [(0, .iload_n 1), (1, .aload_n 0), (2, .getfield 179), (5, .if_icmp .ge 12), (8, .aload_n 0), (9, .getfield 84), (12, .iload_n 1), (13, .baload), (14, .goto 4), (17, .iconst 0), (18, .ireturn)]
def am_f182 : List (Nat × Instr) := [(0, .aload_n 0), (1, .iconst 0), (2, .putfield 198), (5, .aload_n 0), (6, .aload_n 0), (7, .getfield 202), (10, .putfield 205), (13, .iconst 1), (14, .istore_n 1), (15, .iload_n 1), (16, .ifCond .eq 166), (19, .aload_n 0), (20, .getfield 188), (23, .ifCond .ne 159), (26, .iconst 0), (27, .istore_n 1), (28, .aload_n 0), (29, .getfield 205), (32, .aload_n 0), (33, .getfield 179), (36, .if_icmp .ge 64), (39, .aload_n 0), (40, .getfield 84), (43, .aload_n 0), (44, .getfield 205), (47, .baload), (48, .invokestatic 175), (51, .ifCond .eq 49), (54, .aload_n 0), (55, .aload_n 0), (56, .getfield 198), (59, .ifCond .ne 18), (62, .aload_n 0), (63, .getfield 84), (66, .aload_n 0), (67, .getfield 205), (70, .baload), (71, .invokestatic 195), (74, .ifCond .eq 7), (77, .iconst 1), (78, .goto 4), (81, .iconst 0), (82, .putfield 198), (85, .aload_n 0), (86, .dup), (87, .getfield 205), (90, .iconst 1), (91, .iadd), (92, .putfield 205), (95, .iconst 1), (96, .istore_n 1), (97, .goto (-82)), (100, .aload_n 0), (101, .aload_n 0), (102, .getfield 205), (105, .invokevirtual 191), (108, .bipush 47), (110, .if_icmp .ne (-95)), (113, .aload_n 0), (114, .aload_n 0), (115, .getfield 205), (118, .iconst 1), (119, .iadd), (120, .invokevirtual 191), (123, .bipush 47), (125, .if_icmp .eq 18), (128, .aload_n 0), (129, .aload_n 0), (130, .getfield 205), (133, .iconst 1), (134, .iadd), (135, .invokevirtual 191), (138, .bipush 42), (140, .if_icmp .ne (-125)), (143, .aload_n 0), (144, .aload_n 0), (145, .getfield 205), (148, .invokevirtual 208), (151, .istore_n 2), (152, .iload_n 2), (153, .aload_n 0), (154, .getfield 179), (157, .if_icmp .le 15), (160, .aload_n 0), (161, .iconst 1), (162, .aload_n 0), (163, .getfield 205), (166, .invokevirtual 211), (169, .goto 10), (172, .aload_n 0), (173, .iload_n 2), (174, .putfield 205), (177, .iconst 1), (178, .istore_n 1), (179, .goto (-164)), (182, .return_)]
def am_f183 : List (Nat × Instr) := [(0, .iload_n 0), (1, .bipush 10), (3, .if_icmp .eq 9), (6, .iload_n 0), (7, .bipush 13), (9, .if_icmp .ne 7), (12, .iconst 1), (13, .goto 4), (16, .iconst 0), (17, .ireturn)]
def am_f184 : List (Nat × Instr) := [(0, .iload_n 1), (1, .iconst 2), (2, .iadd), (3, .istore_n 2), (4, .aload_n 0), (5, .iload_n 1), (6, .iconst 1), (7, .iadd), (8, .invokevirtual 191), (11, .bipush 47), (13, .if_icmp .ne 31), (16, .iload_n 2), (17, .aload_n 0), (18, .getfield 179), (21, .if_icmp .ge 21), (24, .aload_n 0), (25, .getfield 84), (28, .iload_n 2), (29, .baload), (30, .invokestatic 195), (33, .ifCond .ne 9), (36, .iinc 2 1), (39, .goto (-23)), (42, .iload_n 2), (43, .ireturn), (44, .iload_n 2), (45, .aload_n 0), (46, .getfield 179), (49, .if_icmp .ge 60), (52, .aload_n 0), (53, .getfield 84), (56, .iload_n 2), (57, .baload), (58, .bipush 42), (60, .if_icmp .ne 15), (63, .aload_n 0), (64, .iload_n 2), (65, .iconst 1), (66, .iadd), (67, .invokevirtual 191), (70, .bipush 47), (72, .if_icmp .eq 37), (75, .aload_n 0), (76, .aload_n 0), (77, .getfield 198), (80, .ifCond .ne 15), (83, .aload_n 0), (84, .getfield 84), (87, .iload_n 2), (88, .baload), (89, .invokestatic 195), (92, .ifCond .eq 7), (95, .iconst 1), (96, .goto 4), (99, .iconst 0), (100, .putfield 198), (103, .iinc 2 1), (106, .goto (-62)), (109, .iload_n 2), (110, .aload_n 0), (111, .getfield 179), (114, .if_icmp .ge 9), (117, .iload_n 2), (118, .iconst 2), (119, .iadd), (120, .goto 9), (123, .aload_n 0), (124, .getfield 179), (127, .iconst 1), (128, .iadd), (129, .ireturn)]
def am_f185 : List (Nat × Instr) := [(0, .aload_n 0), (1, .getfield 188), (4, .ifCond .ne 13), (7, .aload_n 0), (8, .iload_n 1), (9, .putfield 188), (12, .aload_n 0), (13, .iload_n 2), (14, .putfield 87), (17, .return_)]
def am_f186 : List (Nat × Instr) := [(0, .iload_n 0), (1, .bipush 97), (3, .if_icmp .lt 9), (6, .iload_n 0), (7, .bipush 122), (9, .if_icmp .le 27), (12, .iload_n 0), (13, .bipush 65), (15, .if_icmp .lt 9), (18, .iload_n 0), (19, .bipush 90), (21, .if_icmp .le 15), (24, .iload_n 0), (25, .bipush 36), (27, .if_icmp .eq 9), (30, .iload_n 0), (31, .bipush 95), (33, .if_icmp .ne 7), (36, .iconst 1), (37, .goto 4), (40, .iconst 0), (41, .ireturn)]
def am_f187 : List (Nat × Instr) := [(0, .iload_n 0), (1, .invokestatic 185), (4, .ifCond .ne 10), (7, .iload_n 0), (8, .invokestatic 182), (11, .ifCond .eq 7), (14, .iconst 1), (15, .goto 4), (18, .iconst 0), (19, .ireturn)]
def am_f188 : List (Nat × Instr) := [(0, .iload_n 0), (1, .bipush 48), (3, .if_icmp .lt 13), (6, .iload_n 0), (7, .bipush 57), (9, .if_icmp .gt 7), (12, .iconst 1), (13, .goto 4), (16, .iconst 0), (17, .ireturn)]
def am_f189 : List (Nat × Instr) := [(0, .iload_n 2), (1, .iload_n 1), (2, .isub), (3, .bipush 10), (5, .if_icmp .le 5), (8, .iconst 1), (9, .ireturn), (10, .lconst 0), (11, .lstore_n 3), (12, .iload_n 1), (13, .istore 5), (15, .iload 5), (17, .iload_n 2), (18, .if_icmp .ge 54), (21, .aload_n 0), (22, .getfield 84), (25, .iload 5), (27, .baload), (28, .bipush 97), (30, .if_icmp .lt 15), (33, .aload_n 0), (34, .getfield 84), (37, .iload 5), (39, .baload), (40, .bipush 122), (42, .if_icmp .le 5), (45, .iconst 1), (46, .ireturn), (47, .ldc2_w 227), (50, .lload_n 3), (51, .lmul), (52, .aload_n 0), (53, .getfield 84), (56, .iload 5), (58, .baload), (59, .i2l), (60, .ladd), (61, .ldc2_w 229), (64, .lsub), (65, .lstore_n 3), (66, .iinc 5 1), (69, .goto (-54)), (72, .iconst 0), (73, .istore 5), (75, .iload 5), (77, .bipush 27), (79, .if_icmp .ge 28), (82, .aload_n 0), (83, .getfield 61), (86, .iload 5), (88, .laload), (89, .lload_n 3), (90, .lcmp), (91, .ifCond .ne 10), (94, .sipush 1000), (97, .iload 5), (99, .iadd), (100, .ireturn), (101, .iinc 5 1), (104, .goto (-29)), (107, .iconst 1), (108, .ireturn)]
def am_f190 : List (Nat × Instr) := [(0, .aload_n 0), (1, .iload_n 1), (2, .invokevirtual 191), (5, .bipush 48), (7, .if_icmp .ne 72), (10, .aload_n 0), (11, .iload_n 1), (12, .iconst 1), (13, .iadd), (14, .invokevirtual 191), (17, .bipush 120), (19, .if_icmp .eq 15), (22, .aload_n 0), (23, .iload_n 1), (24, .iconst 1), (25, .iadd), (26, .invokevirtual 191), (29, .bipush 88), (31, .if_icmp .ne 48), (34, .iload_n 1), (35, .iconst 2), (36, .iadd), (37, .istore_n 2), (38, .aload_n 0), (39, .iload_n 2), (40, .invokevirtual 191), (43, .invokestatic 215), (46, .ifCond .eq 9), (49, .iinc 2 1), (52, .goto (-14)), (55, .iload_n 2), (56, .iload_n 1), (57, .iconst 2), (58, .iadd), (59, .if_icmp .eq 14), (62, .aload_n 0), (63, .iload_n 2), (64, .invokevirtual 191), (67, .invokestatic 218), (70, .ifCond .eq 7), (73, .iconst (-1)), (74, .goto 4), (77, .iload_n 2), (78, .ireturn), (79, .aload_n 0), (80, .iload_n 1), (81, .invokevirtual 221), (84, .istore_n 2), (85, .aload_n 0), (86, .iload_n 1), (87, .invokevirtual 191), (90, .bipush 48), (92, .if_icmp .ne 12), (95, .iload_n 2), (96, .iload_n 1), (97, .iconst 1), (98, .iadd), (99, .if_icmp .le 5), (102, .iconst (-1)), (103, .ireturn), (104, .aload_n 0), (105, .iload_n 2), (106, .invokevirtual 191), (109, .bipush 46), (111, .if_icmp .ne 11), (114, .aload_n 0), (115, .iload_n 2), (116, .iconst 1), (117, .iadd), (118, .invokevirtual 221), (121, .istore_n 2), (122, .aload_n 0), (123, .iload_n 2), (124, .invokevirtual 191), (127, .bipush 101), (129, .if_icmp .eq 13), (132, .aload_n 0), (133, .iload_n 2), (134, .invokevirtual 191), (137, .bipush 69), (139, .if_icmp .ne 58), (142, .aload_n 0), (143, .iload_n 2), (144, .iconst 1), (145, .iadd), (146, .invokevirtual 191), (149, .bipush 43), (151, .if_icmp .eq 15), (154, .aload_n 0), (155, .iload_n 2), (156, .iconst 1), (157, .iadd), (158, .invokevirtual 191), (161, .bipush 45), (163, .if_icmp .ne 9), (166, .iload_n 2), (167, .iconst 2), (168, .iadd), (169, .goto 6), (172, .iload_n 2), (173, .iconst 1), (174, .iadd), (175, .istore_n 3), (176, .aload_n 0), (177, .iload_n 3), (178, .invokevirtual 191), (181, .invokestatic 182), (184, .ifCond .eq 11), (187, .aload_n 0), (188, .iload_n 3), (189, .invokevirtual 221), (192, .goto 4), (195, .iload_n 2), (196, .istore_n 2), (197, .aload_n 0), (198, .iload_n 2), (199, .invokevirtual 191), (202, .invokestatic 218), (205, .ifCond .eq 7), (208, .iconst (-1)), (209, .goto 4), (212, .iload_n 2), (213, .ireturn)]
def am_f191 : List (Nat × Instr) := [(0, .iload_n 0), (1, .invokestatic 182), (4, .ifCond .ne 27), (7, .iload_n 0), (8, .bipush 97), (10, .if_icmp .lt 9), (13, .iload_n 0), (14, .bipush 102), (16, .if_icmp .le 15), (19, .iload_n 0), (20, .bipush 65), (22, .if_icmp .lt 13), (25, .iload_n 0), (26, .bipush 70), (28, .if_icmp .gt 7), (31, .iconst 1), (32, .goto 4), (35, .iconst 0), (36, .ireturn)]
def am_f192 : List (Nat × Instr) := [(0, .iload_n 1), (1, .istore_n 2), (2, .aload_n 0), (3, .iload_n 2), (4, .invokevirtual 191), (7, .invokestatic 182), (10, .ifCond .eq 9), (13, .iinc 2 1), (16, .goto (-14)), (19, .iload_n 2), (20, .ireturn)]
def am_f193 : List (Nat × Instr) := [(0, .iload_n 1), (1, .iconst 1), (2, .iadd), (3, .istore_n 2), (4, .iload_n 2), (5, .aload_n 0), (6, .getfield 179), (9, .if_icmp .ge 97), (12, .aload_n 0), (13, .getfield 84), (16, .iload_n 2), (17, .baload), (18, .aload_n 0), (19, .getfield 84), (22, .iload_n 1), (23, .baload), (24, .if_icmp .eq 82), (27, .aload_n 0), (28, .getfield 84), (31, .iload_n 2), (32, .baload), (33, .bipush 92), (35, .if_icmp .ne 51), (38, .iload_n 2), (39, .iconst 1), (40, .iadd), (41, .aload_n 0), (42, .getfield 179), (45, .if_icmp .lt 5), (48, .iconst (-1)), (49, .ireturn), (50, .iload_n 2), (51, .aload_n 0), (52, .getfield 84), (55, .iload_n 2), (56, .iconst 1), (57, .iadd), (58, .baload), (59, .bipush 13), (61, .if_icmp .ne 19), (64, .aload_n 0), (65, .iload_n 2), (66, .iconst 2), (67, .iadd), (68, .invokevirtual 191), (71, .bipush 10), (73, .if_icmp .ne 7), (76, .iconst 3), (77, .goto 4), (80, .iconst 2), (81, .iadd), (82, .istore_n 2), (83, .goto (-79)), (86, .aload_n 0), (87, .getfield 84), (90, .iload_n 2), (91, .baload), (92, .invokestatic 195), (95, .ifCond .eq 5), (98, .iconst (-1)), (99, .ireturn), (100, .iinc 2 1), (103, .goto (-99)), (106, .iload_n 2), (107, .aload_n 0), (108, .getfield 179), (111, .if_icmp .ge 9), (114, .iload_n 2), (115, .iconst 1), (116, .iadd), (117, .goto 4), (120, .iconst (-1)), (121, .ireturn)]
def am_f194 : List (Nat × Instr) := [(0, .iload_n 1), (1, .iconst 1), (2, .iadd), (3, .istore_n 2), (4, .iconst 0), (5, .istore_n 3), (6, .iload_n 2), (7, .aload_n 0), (8, .getfield 179), (11, .if_icmp .ge 106), (14, .aload_n 0), (15, .getfield 84), (18, .iload_n 2), (19, .baload), (20, .bipush 47), (22, .if_icmp .ne 7), (25, .iload_n 3), (26, .ifCond .eq 91), (29, .aload_n 0), (30, .getfield 84), (33, .iload_n 2), (34, .baload), (35, .invokestatic 195), (38, .ifCond .eq 5), (41, .iconst (-1)), (42, .ireturn), (43, .aload_n 0), (44, .getfield 84), (47, .iload_n 2), (48, .baload), (49, .bipush 92), (51, .if_icmp .ne 28), (54, .iinc 2 1), (57, .iload_n 2), (58, .aload_n 0), (59, .getfield 179), (62, .if_icmp .ge 15), (65, .aload_n 0), (66, .getfield 84), (69, .iload_n 2), (70, .baload), (71, .invokestatic 195), (74, .ifCond .eq 37), (77, .iconst (-1)), (78, .ireturn), (79, .aload_n 0), (80, .getfield 84), (83, .iload_n 2), (84, .baload), (85, .bipush 91), (87, .if_icmp .eq 18), (90, .iload_n 3), (91, .ifCond .eq 18), (94, .aload_n 0), (95, .getfield 84), (98, .iload_n 2), (99, .baload), (100, .bipush 93), (102, .if_icmp .eq 7), (105, .iconst 1), (106, .goto 4), (109, .iconst 0), (110, .istore_n 3), (111, .iinc 2 1), (114, .goto (-108)), (117, .iload_n 2), (118, .aload_n 0), (119, .getfield 179), (122, .if_icmp .ge 13), (125, .aload_n 0), (126, .iload_n 2), (127, .iconst 1), (128, .iadd), (129, .invokevirtual 224), (132, .goto 4), (135, .iconst (-1)), (136, .ireturn)]
def am_f195 : List (Nat × Instr) := [(0, .iload_n 1), (1, .istore_n 2), (2, .iconst 0), (3, .istore_n 3), (4, .aload_n 0), (5, .iload_n 2), (6, .invokevirtual 191), (9, .bipush 103), (11, .if_icmp .eq 23), (14, .aload_n 0), (15, .iload_n 2), (16, .invokevirtual 191), (19, .bipush 105), (21, .if_icmp .eq 13), (24, .aload_n 0), (25, .iload_n 2), (26, .invokevirtual 191), (29, .bipush 109), (31, .if_icmp .ne 54), (34, .aload_n 0), (35, .iload_n 2), (36, .invokevirtual 191), (39, .bipush 103), (41, .if_icmp .ne 7), (44, .iconst 1), (45, .goto 18), (48, .aload_n 0), (49, .iload_n 2), (50, .invokevirtual 191), (53, .bipush 105), (55, .if_icmp .ne 7), (58, .iconst 2), (59, .goto 4), (62, .iconst 4), (63, .istore 4), (65, .iload_n 3), (66, .iload 4), (68, .iand), (69, .ifCond .le 5), (72, .iconst (-1)), (73, .ireturn), (74, .iload_n 3), (75, .iload 4), (77, .ior), (78, .istore_n 3), (79, .iinc 2 1), (82, .goto (-78)), (85, .aload_n 0), (86, .iload_n 2), (87, .invokevirtual 191), (90, .invokestatic 218), (93, .ifCond .eq 7), (96, .iconst (-1)), (97, .goto 4), (100, .iload_n 2), (101, .ireturn)]
def am_f196 : List (Nat × Instr) := [(0, .iconst 0), (1, .istore_n 2), (2, .iconst 0), (3, .istore_n 3), (4, .iconst 0), (5, .istore 4), (7, .iload 4), (9, .iconst 4), (10, .if_icmp .ge 89), (13, .iload_n 1), (14, .iload 4), (16, .iadd), (17, .aload_n 0), (18, .getfield 179), (21, .if_icmp .ge 78), (24, .iload_n 2), (25, .bipush 8), (27, .ishl), (28, .aload_n 0), (29, .getfield 84), (32, .iload_n 1), (33, .iload 4), (35, .iadd), (36, .baload), (37, .ior), (38, .istore_n 2), (39, .iconst 0), (40, .istore 5), (42, .iload 5), (44, .bipush 24), (46, .if_icmp .ge 47), (49, .iload 4), (51, .ifCond .ne 14), (54, .aload_n 0), (55, .getfield 77), (58, .iload 5), (60, .iaload), (61, .iload_n 2), (62, .if_icmp .eq 19), (65, .iload 4), (67, .ifCond .le 18), (70, .aload_n 0), (71, .getfield 73), (74, .iload 5), (76, .iaload), (77, .iload_n 2), (78, .if_icmp .ne 7), (81, .iload_n 2), (82, .goto 4), (85, .iload_n 3), (86, .istore_n 3), (87, .iinc 5 1), (90, .goto (-48)), (93, .iinc 4 1), (96, .goto (-89)), (99, .iload_n 3), (100, .ireturn)]
def am_f197 : List (Nat × Instr) := [(0, .iload_n 0), (1, .ldc 231), (3, .if_icmp .le 7), (6, .iconst 4), (7, .goto 25), (10, .iload_n 0), (11, .ldc 232), (13, .if_icmp .le 7), (16, .iconst 3), (17, .goto 15), (20, .iload_n 0), (21, .sipush 255), (24, .if_icmp .le 7), (27, .iconst 2), (28, .goto 4), (31, .iconst 1), (32, .ireturn)]
def am_f198 : List (Nat × Instr) := [(0, .aload_n 0), (1, .aload_n 0), (2, .getfield 264), (5, .putfield 202), (8, .aload_n 0), (9, .iconst 0), (10, .putfield 233), (13, .return_)]
def am_f199 : List (Nat × Instr) := [(0, .aload_n 0), (1, .invokevirtual 300), (4, .ifCond .ne 4), (7, .return_), (8, .aload_n 0), (9, .iconst 4), (10, .iconst 0), (11, .invokevirtual 297), (14, .aload_n 0), (15, .getfield 205), (18, .istore_n 2), (19, .aload_n 0), (20, .getfield 270), (23, .istore_n 3), (24, .aload_n 0), (25, .getfield 242), (28, .bipush 123), (30, .if_icmp .ne 13), (33, .aload_n 0), (34, .bipush 38), (36, .iconst 0), (37, .invokevirtual 297), (40, .goto 175), (43, .aload_n 0), (44, .getfield 242), (47, .bipush 59), (49, .if_icmp .ne 12), (52, .aload_n 0), (53, .iconst 4), (54, .iconst 0), (55, .invokevirtual 304), (58, .goto 157), (61, .aload_n 0), (62, .getfield 242), (65, .iconst 1), (66, .if_icmp .ne 11), (69, .aload_n 0), (70, .invokevirtual 307), (73, .ifCond .eq 4), (76, .return_), (77, .aload_n 0), (78, .getfield 242), (81, .sipush 1011), (84, .if_icmp .ne 23), (87, .iload_n 1), (88, .ifCond .eq 12), (91, .aload_n 0), (92, .bipush 20), (94, .invokevirtual 310), (97, .goto 118), (100, .aload_n 0), (101, .invokevirtual 314), (104, .goto 111), (107, .aload_n 0), (108, .getfield 242), (111, .sipush 1024), (114, .if_icmp .eq 43), (117, .aload_n 0), (118, .getfield 242), (121, .sipush 1020), (124, .if_icmp .eq 33), (127, .aload_n 0), (128, .getfield 242), (131, .sipush 1017), (134, .if_icmp .eq 23), (137, .aload_n 0), (138, .getfield 242), (141, .sipush 1000), (144, .if_icmp .eq 13), (147, .aload_n 0), (148, .getfield 242), (151, .sipush 1003), (154, .if_icmp .ne 12), (157, .aload_n 0), (158, .iload_n 2), (159, .iload_n 3), (160, .invokevirtual 317), (163, .goto 52), (166, .aload_n 0), (167, .getfield 242), (170, .sipush 1000), (173, .if_icmp .lt 19), (176, .aload_n 0), (177, .invokevirtual 319), (180, .ifCond .eq 12), (183, .aload_n 0), (184, .iload_n 2), (185, .iload_n 3), (186, .invokevirtual 322), (189, .goto 26), (192, .aload_n 0), (193, .iconst 3), (194, .iconst 5), (195, .iload_n 2), (196, .iconst 0), (197, .iload_n 3), (198, .invokevirtual 286), (201, .aload_n 0), (202, .bipush 6), (204, .iconst 0), (205, .invokevirtual 297), (208, .aload_n 0), (209, .bipush 7), (211, .iconst 0), (212, .invokevirtual 297), (215, .return_)]
def am_f200 : List (Nat × Instr) := [(0, .aload_n 0), (1, .iconst 1), (2, .invokevirtual 290), (5, .aload_n 0), (6, .getfield 188), (9, .ifCond .ne 28), (12, .aload_n 0), (13, .getfield 294), (16, .bipush 20), (18, .if_icmp .ne 19), (21, .aload_n 0), (22, .getfield 242), (25, .ifCond .eq 12), (28, .aload_n 0), (29, .iconst 3), (30, .aload_n 0), (31, .getfield 205), (34, .invokevirtual 211), (37, .aload_n 0), (38, .dup), (39, .getfield 294), (42, .iconst 1), (43, .iadd), (44, .putfield 294), (47, .aload_n 0), (48, .getfield 188), (51, .ifCond .ne 7), (54, .iconst 1), (55, .goto 4), (58, .iconst 0), (59, .ireturn)]
def am_f201 : List (Nat × Instr) := [(0, .aload_n 0), (1, .iload_n 1), (2, .aload_n 0), (3, .getfield 205), (6, .iload_n 2), (7, .aload_n 0), (8, .getfield 270), (11, .invokevirtual 276), (14, .aload_n 0), (15, .invokevirtual 280), (18, .return_)]
def am_f202 : List (Nat × Instr) := [(0, .aload_n 0), (1, .getfield 267), (4, .istore 5), (6, .aload_n 0), (7, .dup), (8, .getfield 267), (11, .iconst 1), (12, .iadd), (13, .putfield 267), (16, .aload_n 0), (17, .getfield 91), (20, .iload 5), (22, .iload_n 1), (23, .iastore), (24, .aload_n 0), (25, .getfield 94), (28, .iload 5), (30, .iload_n 2), (31, .iastore), (32, .aload_n 0), (33, .getfield 97), (36, .iload 5), (38, .iload_n 3), (39, .iastore), (40, .aload_n 0), (41, .getfield 100), (44, .iload 5), (46, .iload 4), (48, .aload_n 0), (49, .getfield 270), (52, .if_icmp .ge 13), (55, .aload_n 0), (56, .getfield 134), (59, .iload 4), (61, .iaload), (62, .goto 4), (65, .iconst (-1)), (66, .iastore), (67, .aload_n 0), (68, .getfield 103), (71, .iload 5), (73, .iconst (-1)), (74, .iastore), (75, .aload_n 0), (76, .getfield 109), (79, .iload 5), (81, .aload_n 0), (82, .getfield 270), (85, .iload 4), (87, .isub), (88, .iastore), (89, .aload_n 0), (90, .getfield 112), (93, .iload 5), (95, .iconst 0), (96, .bastore), (97, .iload 4), (99, .istore 6), (101, .iload 6), (103, .aload_n 0), (104, .getfield 270), (107, .if_icmp .ge 59), (110, .aload_n 0), (111, .getfield 106), (114, .aload_n 0), (115, .getfield 134), (118, .iload 6), (120, .iaload), (121, .iload 5), (123, .iastore), (124, .aload_n 0), (125, .getfield 103), (128, .aload_n 0), (129, .getfield 134), (132, .iload 6), (134, .iaload), (135, .iload 6), (137, .iconst 1), (138, .iadd), (139, .aload_n 0), (140, .getfield 270), (143, .if_icmp .ge 15), (146, .aload_n 0), (147, .getfield 134), (150, .iload 6), (152, .iconst 1), (153, .iadd), (154, .iaload), (155, .goto 4), (158, .iconst (-1)), (159, .iastore), (160, .iinc 6 1), (163, .goto (-62)), (166, .aload_n 0), (167, .iload 4), (169, .putfield 270), (172, .aload_n 0), (173, .getfield 134), (176, .aload_n 0), (177, .getfield 270), (180, .iload 5), (182, .iastore), (183, .aload_n 0), (184, .dup), (185, .getfield 270), (188, .iconst 1), (189, .iadd), (190, .putfield 270), (193, .aload_n 0), (194, .aload_n 0), (195, .getfield 273), (198, .ifCond .eq 19), (201, .iload_n 1), (202, .bipush 44), (204, .if_icmp .lt 9), (207, .iload_n 1), (208, .bipush 49), (210, .if_icmp .le 7), (213, .iconst 1), (214, .goto 4), (217, .iconst 0), (218, .putfield 273), (221, .return_)]
def am_f203 : List (Nat × Instr) := [(0, .aload_n 0), (1, .getfield 205), (4, .istore_n 1), (5, .aload_n 0), (6, .getfield 264), (9, .aload_n 0), (10, .getfield 205), (13, .isub), (14, .istore_n 2), (15, .aload_n 0), (16, .getfield 202), (19, .istore_n 3), (20, .aload_n 0), (21, .invokevirtual 280), (24, .aload_n 0), (25, .iconst 0), (26, .invokevirtual 290), (29, .aload_n 0), (30, .getfield 242), (33, .bipush 58), (35, .if_icmp .ne 35), (38, .aload_n 0), (39, .getfield 188), (42, .ifCond .ne 28), (45, .aload_n 0), (46, .invokevirtual 280), (49, .aload_n 0), (50, .iconst 3), (51, .bipush 16), (53, .iload_n 1), (54, .iload_n 2), (55, .aload_n 0), (56, .getfield 270), (59, .invokevirtual 286), (62, .aload_n 0), (63, .iconst 2), (64, .iconst 0), (65, .invokevirtual 297), (68, .iconst 1), (69, .ireturn), (70, .aload_n 0), (71, .iload_n 3), (72, .putfield 202), (75, .aload_n 0), (76, .iconst 0), (77, .putfield 233), (80, .aload_n 0), (81, .getfield 188), (84, .ifCond .ne 8), (87, .aload_n 0), (88, .iconst 1), (89, .invokevirtual 290), (92, .aload_n 0), (93, .getfield 188), (96, .ifCond .le 7), (99, .iconst 1), (100, .goto 4), (103, .iconst 0), (104, .ireturn)]
def am_f204 : List (Nat × Instr) := [(0, .aload_n 0), (1, .getfield 205), (4, .istore_n 2), (5, .iconst 0), (6, .istore_n 3), (7, .aload_n 0), (8, .invokevirtual 280), (11, .aload_n 0), (12, .iconst 0), (13, .invokevirtual 290), (16, .aload_n 0), (17, .getfield 242), (20, .iconst 1), (21, .if_icmp .ne 25), (24, .aload_n 0), (25, .getfield 205), (28, .istore_n 2), (29, .aload_n 0), (30, .getfield 264), (33, .aload_n 0), (34, .getfield 205), (37, .isub), (38, .istore_n 3), (39, .aload_n 0), (40, .invokevirtual 280), (43, .goto 13), (46, .iload_n 1), (47, .bipush 20), (49, .if_icmp .ne 7), (52, .aload_n 0), (53, .invokevirtual 314), (56, .aload_n 0), (57, .iconst 3), (58, .iload_n 1), (59, .iload_n 2), (60, .iload_n 3), (61, .aload_n 0), (62, .getfield 270), (65, .invokevirtual 286), (68, .aload_n 0), (69, .bipush 27), (71, .iconst 0), (72, .invokevirtual 297), (75, .aload_n 0), (76, .bipush 25), (78, .iconst 1), (79, .invokevirtual 297), (82, .aload_n 0), (83, .iconst 5), (84, .bipush 40), (86, .invokevirtual 297), (89, .return_)]
def am_f205 : List (Nat × Instr) := [(0, .aload_n 0), (1, .iconst 2), (2, .aload_n 0), (3, .getfield 205), (6, .invokevirtual 211), (9, .return_)]
def am_f206 : List (Nat × Instr) := [(0, .aload_n 0), (1, .getfield 242), (4, .istore_n 3), (5, .aload_n 0), (6, .invokevirtual 280), (9, .iload_n 3), (10, .sipush 1024), (13, .if_icmp .ne 29), (16, .aload_n 0), (17, .iconst 3), (18, .iconst 2), (19, .iload_n 1), (20, .iconst 0), (21, .iload_n 2), (22, .invokevirtual 286), (25, .aload_n 0), (26, .bipush 6), (28, .iconst 0), (29, .invokevirtual 297), (32, .aload_n 0), (33, .bipush 29), (35, .iconst 0), (36, .invokevirtual 297), (39, .goto 201), (42, .iload_n 3), (43, .sipush 1020), (46, .if_icmp .ne 46), (49, .aload_n 0), (50, .iconst 0), (51, .invokevirtual 290), (54, .aload_n 0), (55, .getfield 198), (58, .ifCond .eq 7), (61, .aload_n 0), (62, .invokevirtual 314), (65, .aload_n 0), (66, .iconst 3), (67, .bipush 17), (69, .iload_n 1), (70, .iconst 0), (71, .iload_n 2), (72, .invokevirtual 286), (75, .aload_n 0), (76, .bipush 6), (78, .iconst 0), (79, .invokevirtual 297), (82, .aload_n 0), (83, .bipush 7), (85, .iconst 0), (86, .invokevirtual 297), (89, .goto 151), (92, .iload_n 3), (93, .sipush 1017), (96, .if_icmp .ne 67), (99, .aload_n 0), (100, .iconst 0), (101, .invokevirtual 290), (104, .aload_n 0), (105, .iconst 3), (106, .bipush 13), (108, .iload_n 1), (109, .iconst 0), (110, .iload_n 2), (111, .invokevirtual 286), (114, .aload_n 0), (115, .bipush 6), (117, .iconst 0), (118, .invokevirtual 297), (121, .aload_n 0), (122, .getfield 198), (125, .ifCond .ne 115), (128, .aload_n 0), (129, .getfield 242), (132, .bipush 59), (134, .if_icmp .eq 106), (137, .aload_n 0), (138, .getfield 242), (141, .bipush 125), (143, .if_icmp .eq 97), (146, .aload_n 0), (147, .getfield 242), (150, .ifCond .eq 90), (153, .aload_n 0), (154, .bipush 7), (156, .iconst 0), (157, .invokevirtual 297), (160, .goto 80), (163, .aload_n 0), (164, .iconst 0), (165, .invokevirtual 290), (168, .iload_n 3), (169, .sipush 1000), (172, .if_icmp .ne 8), (175, .bipush 12), (177, .goto 5), (180, .bipush 11), (182, .istore 4), (184, .aload_n 0), (185, .bipush 6), (187, .iconst 0), (188, .invokevirtual 297), (191, .aload_n 0), (192, .getfield 242), (195, .iconst 1), (196, .if_icmp .ne 35), (199, .aload_n 0), (200, .getfield 198), (203, .ifCond .ne 28), (206, .aload_n 0), (207, .getfield 188), (210, .ifCond .ne 21), (213, .aload_n 0), (214, .iload 4), (216, .aload_n 0), (217, .getfield 264), (220, .aload_n 0), (221, .getfield 205), (224, .isub), (225, .invokevirtual 304), (228, .goto 12), (231, .aload_n 0), (232, .iload 4), (234, .iload_n 1), (235, .iconst 0), (236, .iload_n 2), (237, .invokevirtual 276), (240, .return_)]
def am_f207 : List (Nat × Instr) := [(0, .aload_n 0), (1, .getfield 242), (4, .sipush 1012), (7, .if_icmp .eq 53), (10, .aload_n 0), (11, .getfield 242), (14, .sipush 1006), (17, .if_icmp .eq 43), (20, .aload_n 0), (21, .getfield 242), (24, .sipush 1026), (27, .if_icmp .eq 33), (30, .aload_n 0), (31, .getfield 242), (34, .sipush 1010), (37, .if_icmp .eq 23), (40, .aload_n 0), (41, .getfield 242), (44, .sipush 1018), (47, .if_icmp .eq 13), (50, .aload_n 0), (51, .getfield 242), (54, .sipush 1022), (57, .if_icmp .ne 7), (60, .iconst 1), (61, .goto 4), (64, .iconst 0), (65, .ireturn)]
def am_f208 : List (Nat × Instr) := [(0, .aload_n 0), (1, .getfield 242), (4, .istore_n 3), (5, .aload_n 0), (6, .invokevirtual 280), (9, .iload_n 3), (10, .sipush 1012), (13, .if_icmp .ne 33), (16, .aload_n 0), (17, .iconst 3), (18, .bipush 6), (20, .iload_n 1), (21, .iconst 0), (22, .iload_n 2), (23, .invokevirtual 286), (26, .aload_n 0), (27, .bipush 32), (29, .iconst 0), (30, .invokevirtual 297), (33, .aload_n 0), (34, .iconst 2), (35, .iconst 0), (36, .invokevirtual 297), (39, .aload_n 0), (40, .invokevirtual 325), (43, .goto 160), (46, .iload_n 3), (47, .sipush 1006), (50, .if_icmp .ne 41), (53, .aload_n 0), (54, .iconst 3), (55, .bipush 7), (57, .iload_n 1), (58, .iconst 0), (59, .iload_n 2), (60, .invokevirtual 286), (63, .aload_n 0), (64, .bipush 6), (66, .iconst 0), (67, .invokevirtual 297), (70, .aload_n 0), (71, .invokevirtual 325), (74, .aload_n 0), (75, .iconst 5), (76, .sipush 1026), (79, .invokevirtual 297), (82, .aload_n 0), (83, .iconst 2), (84, .iconst 0), (85, .invokevirtual 297), (88, .goto 115), (91, .iload_n 3), (92, .sipush 1026), (95, .if_icmp .ne 26), (98, .aload_n 0), (99, .iconst 3), (100, .bipush 8), (102, .iload_n 1), (103, .iconst 0), (104, .iload_n 2), (105, .invokevirtual 286), (108, .aload_n 0), (109, .iconst 2), (110, .iconst 0), (111, .invokevirtual 297), (114, .aload_n 0), (115, .invokevirtual 325), (118, .goto 85), (121, .iload_n 3), (122, .sipush 1010), (125, .if_icmp .ne 23), (128, .aload_n 0), (129, .bipush 33), (131, .iload_n 1), (132, .iload_n 2), (133, .iconst 0), (134, .iconst 0), (135, .invokevirtual 286), (138, .aload_n 0), (139, .iconst 5), (140, .bipush 40), (142, .invokevirtual 297), (145, .goto 58), (148, .iload_n 3), (149, .sipush 1018), (152, .if_icmp .ne 34), (155, .aload_n 0), (156, .iconst 3), (157, .bipush 14), (159, .iload_n 1), (160, .iconst 0), (161, .iload_n 2), (162, .invokevirtual 286), (165, .aload_n 0), (166, .bipush 37), (168, .iconst 0), (169, .invokevirtual 297), (172, .aload_n 0), (173, .iconst 5), (174, .bipush 123), (176, .invokevirtual 297), (179, .aload_n 0), (180, .invokevirtual 325), (183, .goto 20), (186, .aload_n 0), (187, .bipush 39), (189, .iload_n 1), (190, .iload_n 2), (191, .iconst 0), (192, .iconst 0), (193, .invokevirtual 286), (196, .aload_n 0), (197, .bipush 38), (199, .iconst 0), (200, .invokevirtual 297), (203, .return_)]
def am_f209 : List (Nat × Instr) := [(0, .aload_n 0), (1, .iconst 5), (2, .bipush 41), (4, .invokevirtual 297), (7, .aload_n 0), (8, .bipush 7), (10, .iconst 0), (11, .invokevirtual 297), (14, .aload_n 0), (15, .iconst 5), (16, .bipush 40), (18, .invokevirtual 297), (21, .return_)]
def am_f210 : List (Nat × Instr) := [(0, .aload_n 0), (1, .iconst 0), (2, .invokevirtual 290), (5, .aload_n 0), (6, .getfield 242), (9, .iload_n 1), (10, .if_icmp .ne 10), (13, .aload_n 0), (14, .invokevirtual 280), (17, .goto 7), (20, .aload_n 0), (21, .invokevirtual 314), (24, .return_)]
def am_f211 : List (Nat × Instr) := [(0, .aload_n 0), (1, .iconst 0), (2, .invokevirtual 290), (5, .aload_n 0), (6, .getfield 242), (9, .bipush 59), (11, .if_icmp .ne 10), (14, .aload_n 0), (15, .invokevirtual 280), (18, .goto 43), (21, .aload_n 0), (22, .getfield 198), (25, .ifCond .ne 19), (28, .aload_n 0), (29, .getfield 242), (32, .bipush 125), (34, .if_icmp .eq 10), (37, .aload_n 0), (38, .getfield 242), (41, .ifCond .ne 16), (44, .aload_n 0), (45, .dup), (46, .getfield 328), (49, .iconst 1), (50, .iadd), (51, .putfield 328), (54, .goto 7), (57, .aload_n 0), (58, .invokevirtual 314), (61, .return_)]
def am_f212 : List (Nat × Instr) := [(0, .aload_n 0), (1, .iconst 0), (2, .invokevirtual 290), (5, .aload_n 0), (6, .getfield 242), (9, .sipush 1007), (12, .if_icmp .ne 20), (15, .aload_n 0), (16, .getfield 188), (19, .ifCond .ne 13), (22, .aload_n 0), (23, .invokevirtual 280), (26, .aload_n 0), (27, .iconst 2), (28, .iconst 0), (29, .invokevirtual 297), (32, .return_)]
def am_f213 : List (Nat × Instr) := [(0, .aload_n 0), (1, .iconst 1), (2, .invokevirtual 290), (5, .aload_n 0), (6, .getfield 242), (9, .bipush 59), (11, .if_icmp .ne 16), (14, .aload_n 0), (15, .invokevirtual 331), (18, .aload_n 0), (19, .iload_n 1), (20, .iload_n 2), (21, .invokevirtual 334), (24, .goto 60), (27, .aload_n 0), (28, .getfield 242), (31, .sipush 1024), (34, .if_icmp .ne 33), (37, .aload_n 0), (38, .bipush 34), (40, .iload_n 1), (41, .iload_n 2), (42, .aload_n 0), (43, .getfield 205), (46, .aload_n 0), (47, .getfield 270), (50, .invokevirtual 286), (53, .aload_n 0), (54, .bipush 29), (56, .iconst 1), (57, .invokevirtual 297), (60, .aload_n 0), (61, .invokevirtual 280), (64, .goto 20), (67, .aload_n 0), (68, .bipush 35), (70, .iload_n 1), (71, .iload_n 2), (72, .iconst 0), (73, .iconst 0), (74, .invokevirtual 286), (77, .aload_n 0), (78, .bipush 7), (80, .iconst 1), (81, .invokevirtual 297), (84, .return_)]
def am_f214 : List (Nat × Instr) := [(0, .aload_n 0), (1, .bipush 21), (3, .iconst 0), (4, .iconst 0), (5, .aload_n 0), (6, .getfield 270), (9, .invokevirtual 276), (12, .return_)]
def am_f215 : List (Nat × Instr) := [(0, .aload_n 0), (1, .iconst 3), (2, .bipush 9), (4, .iload_n 1), (5, .iconst 0), (6, .iload_n 2), (7, .invokevirtual 286), (10, .aload_n 0), (11, .iconst 2), (12, .iconst 0), (13, .invokevirtual 297), (16, .aload_n 0), (17, .iconst 5), (18, .bipush 41), (20, .invokevirtual 297), (23, .aload_n 0), (24, .bipush 36), (26, .bipush 41), (28, .invokevirtual 297), (31, .aload_n 0), (32, .iconst 5), (33, .bipush 59), (35, .invokevirtual 297), (38, .aload_n 0), (39, .bipush 36), (41, .bipush 59), (43, .invokevirtual 297), (46, .aload_n 0), (47, .iconst 5), (48, .bipush 59), (50, .invokevirtual 297), (53, .return_)]
def am_f216 : List (Nat × Instr) := [(0, .aload_n 0), (1, .getfield 270), (4, .iload 4), (6, .isub), (7, .iconst 1), (8, .if_icmp .ne 7), (11, .iconst 1), (12, .goto 4), (15, .iconst 0), (16, .istore 5), (18, .aload_n 0), (19, .iconst 2), (20, .iload_n 3), (21, .iconst 0), (22, .iload 4), (24, .invokevirtual 276), (27, .aload_n 0), (28, .iload_n 1), (29, .iload_n 2), (30, .iload 5), (32, .invokevirtual 373), (35, .return_)]
def am_f217 : List (Nat × Instr) := [(0, .aload_n 0), (1, .iconst 0), (2, .invokevirtual 290), (5, .aload_n 0), (6, .getfield 242), (9, .sipush 1013), (12, .if_icmp .ne 16), (15, .iload_n 3), (16, .ifCond .eq 12), (19, .aload_n 0), (20, .iload_n 1), (21, .iload_n 2), (22, .invokevirtual 337), (25, .goto 26), (28, .aload_n 0), (29, .getfield 242), (32, .sipush 1013), (35, .if_icmp .ne 10), (38, .aload_n 0), (39, .invokevirtual 314), (42, .goto 9), (45, .aload_n 0), (46, .iload_n 1), (47, .iload_n 2), (48, .invokevirtual 334), (51, .return_)]
def am_f218 : List (Nat × Instr) := [(0, .aload_n 0), (1, .invokevirtual 280), (4, .aload_n 0), (5, .iconst 3), (6, .bipush 10), (8, .iload_n 1), (9, .iconst 0), (10, .iload_n 2), (11, .invokevirtual 286), (14, .aload_n 0), (15, .iconst 2), (16, .iconst 0), (17, .invokevirtual 297), (20, .aload_n 0), (21, .iconst 5), (22, .bipush 41), (24, .invokevirtual 297), (27, .aload_n 0), (28, .bipush 7), (30, .iconst 0), (31, .invokevirtual 297), (34, .return_)]
def am_f219 : List (Nat × Instr) := [(0, .aload_n 0), (1, .iconst 1), (2, .invokevirtual 290), (5, .aload_n 0), (6, .getfield 242), (9, .iload_n 1), (10, .if_icmp .ne 10), (13, .aload_n 0), (14, .invokevirtual 331), (17, .goto 10), (20, .aload_n 0), (21, .bipush 7), (23, .iconst 0), (24, .invokevirtual 297), (27, .return_)]
def am_f220 : List (Nat × Instr) := [(0, .aload_n 0), (1, .iconst 0), (2, .invokevirtual 290), (5, .aload_n 0), (6, .getfield 205), (9, .istore_n 1), (10, .aload_n 0), (11, .getfield 270), (14, .istore_n 2), (15, .aload_n 0), (16, .getfield 242), (19, .istore_n 3), (20, .iload_n 3), (21, .bipush 125), (23, .if_icmp .eq 22), (26, .iload_n 3), (27, .sipush 1001), (30, .if_icmp .eq 15), (33, .iload_n 3), (34, .sipush 1004), (37, .if_icmp .eq 8), (40, .aload_n 0), (41, .invokevirtual 314), (44, .return_), (45, .aload_n 0), (46, .invokevirtual 280), (49, .iload_n 3), (50, .bipush 125), (52, .if_icmp .ne 4), (55, .return_), (56, .aload_n 0), (57, .bipush 37), (59, .iconst 0), (60, .invokevirtual 297), (63, .aload_n 0), (64, .iconst 3), (65, .bipush 15), (67, .iload_n 1), (68, .iconst 0), (69, .iload_n 2), (70, .invokevirtual 286), (73, .aload_n 0), (74, .iconst 1), (75, .iconst 2), (76, .invokevirtual 297), (79, .aload_n 0), (80, .iconst 5), (81, .bipush 58), (83, .invokevirtual 297), (86, .iload_n 3), (87, .sipush 1001), (90, .if_icmp .ne 13), (93, .aload_n 0), (94, .bipush 7), (96, .iconst 0), (97, .invokevirtual 297), (100, .goto 7), (103, .aload_n 0), (104, .invokevirtual 331), (107, .return_)]
def am_f221 : List (Nat × Instr) := [(0, .aload_n 0), (1, .iconst 0), (2, .invokevirtual 290), (5, .aload_n 0), (6, .getfield 242), (9, .bipush 123), (11, .if_icmp .eq 8), (14, .aload_n 0), (15, .invokevirtual 314), (18, .return_), (19, .aload_n 0), (20, .iconst 3), (21, .iconst 1), (22, .aload_n 0), (23, .getfield 205), (26, .iconst 0), (27, .aload_n 0), (28, .getfield 270), (31, .invokevirtual 286), (34, .aload_n 0), (35, .iconst 1), (36, .iconst 1), (37, .invokevirtual 297), (40, .aload_n 0), (41, .invokevirtual 280), (44, .return_)]
def am_f222 : List (Nat × Instr) := [(0, .aload_n 0), (1, .iconst 0), (2, .invokevirtual 290), (5, .aload_n 0), (6, .getfield 242), (9, .sipush 1002), (12, .if_icmp .ne 7), (15, .iconst 1), (16, .goto 4), (19, .iconst 0), (20, .istore_n 3), (21, .aload_n 0), (22, .bipush 40), (24, .iload_n 1), (25, .iload_n 2), (26, .iload_n 3), (27, .ifCond .eq 7), (30, .iconst 1), (31, .goto 4), (34, .iconst 0), (35, .iconst 0), (36, .invokevirtual 286), (39, .iload_n 3), (40, .ifCond .eq 24), (43, .aload_n 0), (44, .invokevirtual 280), (47, .aload_n 0), (48, .bipush 41), (50, .iconst 0), (51, .invokevirtual 297), (54, .aload_n 0), (55, .iconst 5), (56, .bipush 40), (58, .invokevirtual 297), (61, .goto 7), (64, .aload_n 0), (65, .invokevirtual 331), (68, .return_)]
def am_f223 : List (Nat × Instr) := [(0, .aload_n 0), (1, .iconst 0), (2, .invokevirtual 290), (5, .aload_n 0), (6, .getfield 242), (9, .iconst 1), (10, .if_icmp .eq 8), (13, .aload_n 0), (14, .invokevirtual 314), (17, .return_), (18, .aload_n 0), (19, .iconst 3), (20, .bipush 19), (22, .aload_n 0), (23, .getfield 205), (26, .aload_n 0), (27, .getfield 264), (30, .aload_n 0), (31, .getfield 205), (34, .isub), (35, .aload_n 0), (36, .getfield 270), (39, .invokevirtual 286), (42, .aload_n 0), (43, .bipush 38), (45, .iconst 0), (46, .invokevirtual 297), (49, .aload_n 0), (50, .iconst 5), (51, .bipush 41), (53, .invokevirtual 297), (56, .aload_n 0), (57, .invokevirtual 280), (60, .return_)]
def am_f224 : List (Nat × Instr) := [(0, .aload_n 0), (1, .iconst 0), (2, .invokevirtual 290), (5, .aload_n 0), (6, .getfield 242), (9, .sipush 1009), (12, .if_icmp .ne 27), (15, .aload_n 0), (16, .invokevirtual 280), (19, .aload_n 0), (20, .iconst 3), (21, .bipush 18), (23, .iload_n 1), (24, .iconst 0), (25, .iload_n 2), (26, .invokevirtual 286), (29, .aload_n 0), (30, .bipush 38), (32, .iconst 0), (33, .invokevirtual 297), (36, .goto 27), (39, .iload_n 3), (40, .ifCond .eq 19), (43, .aload_n 0), (44, .invokevirtual 331), (47, .aload_n 0), (48, .bipush 18), (50, .iload_n 1), (51, .iconst 0), (52, .iload_n 2), (53, .invokevirtual 276), (56, .goto 7), (59, .aload_n 0), (60, .invokevirtual 314), (63, .return_)]
def am_f225 : List (Nat × Instr) := [(0, .aload_n 0), (1, .iconst 0), (2, .invokevirtual 290), (5, .aload_n 0), (6, .getfield 242), (9, .iconst 1), (10, .if_icmp .eq 8), (13, .aload_n 0), (14, .invokevirtual 314), (17, .return_), (18, .aload_n 0), (19, .bipush 31), (21, .iload_n 1), (22, .invokevirtual 297), (25, .aload_n 0), (26, .iconst 3), (27, .iconst 3), (28, .aload_n 0), (29, .getfield 205), (32, .aload_n 0), (33, .getfield 264), (36, .aload_n 0), (37, .getfield 205), (40, .isub), (41, .aload_n 0), (42, .getfield 270), (45, .invokevirtual 286), (48, .aload_n 0), (49, .bipush 30), (51, .iload_n 1), (52, .invokevirtual 297), (55, .aload_n 0), (56, .invokevirtual 280), (59, .return_)]
def am_f226 : List (Nat × Instr) := [(0, .aload_n 0), (1, .iconst 0), (2, .invokevirtual 290), (5, .aload_n 0), (6, .getfield 242), (9, .bipush 61), (11, .if_icmp .ne 14), (14, .aload_n 0), (15, .invokevirtual 280), (18, .aload_n 0), (19, .bipush 9), (21, .iload_n 1), (22, .invokevirtual 297), (25, .return_)]
def am_f227 : List (Nat × Instr) := [(0, .aload_n 0), (1, .iconst 0), (2, .invokevirtual 290), (5, .aload_n 0), (6, .getfield 242), (9, .bipush 44), (11, .if_icmp .ne 14), (14, .aload_n 0), (15, .invokevirtual 280), (18, .aload_n 0), (19, .bipush 29), (21, .iload_n 1), (22, .invokevirtual 297), (25, .return_)]
def am_f228 : List (Nat × Instr) := [(0, .aload_n 0), (1, .iconst 0), (2, .invokevirtual 290), (5, .aload_n 0), (6, .getfield 242), (9, .bipush 41), (11, .if_icmp .ne 14), (14, .iload_n 1), (15, .ifCond .eq 10), (18, .aload_n 0), (19, .invokevirtual 280), (22, .goto 47), (25, .aload_n 0), (26, .getfield 242), (29, .iconst 1), (30, .if_icmp .ne 35), (33, .aload_n 0), (34, .getfield 188), (37, .ifCond .ne 28), (40, .aload_n 0), (41, .bipush 26), (43, .iconst 0), (44, .invokevirtual 297), (47, .aload_n 0), (48, .bipush 22), (50, .aload_n 0), (51, .getfield 264), (54, .aload_n 0), (55, .getfield 205), (58, .isub), (59, .invokevirtual 304), (62, .goto 7), (65, .aload_n 0), (66, .invokevirtual 314), (69, .return_)]
def am_f229 : List (Nat × Instr) := [(0, .aload_n 0), (1, .iconst 0), (2, .invokevirtual 290), (5, .aload_n 0), (6, .getfield 242), (9, .bipush 44), (11, .if_icmp .ne 17), (14, .aload_n 0), (15, .invokevirtual 280), (18, .aload_n 0), (19, .bipush 25), (21, .iconst 0), (22, .invokevirtual 297), (25, .goto 23), (28, .aload_n 0), (29, .getfield 242), (32, .bipush 41), (34, .if_icmp .ne 10), (37, .aload_n 0), (38, .invokevirtual 280), (41, .goto 7), (44, .aload_n 0), (45, .invokevirtual 314), (48, .return_)]
def am_f230 : List (Nat × Instr) := [(0, .aload_n 0), (1, .iconst 0), (2, .invokevirtual 290), (5, .aload_n 0), (6, .getfield 242), (9, .bipush 123), (11, .if_icmp .eq 8), (14, .aload_n 0), (15, .invokevirtual 314), (18, .return_), (19, .aload_n 0), (20, .invokevirtual 300), (23, .ifCond .ne 4), (26, .return_), (27, .aload_n 0), (28, .iconst 4), (29, .iconst 0), (30, .invokevirtual 297), (33, .aload_n 0), (34, .iconst 3), (35, .bipush 23), (37, .aload_n 0), (38, .getfield 205), (41, .iconst 0), (42, .aload_n 0), (43, .getfield 270), (46, .invokevirtual 286), (49, .aload_n 0), (50, .iconst 1), (51, .iconst 3), (52, .invokevirtual 297), (55, .aload_n 0), (56, .invokevirtual 280), (59, .return_)]
def am_f231 : List (Nat × Instr) := [(0, .iload_n 1), (1, .tableswitch 267 7 24 #[87, 110, 121, 129, 137, 146, 163, 170, 178, 185, 193, 202, 213, 224, 231, 240, 249, 258]), (88, .aload_n 0), (89, .bipush 8), (91, .iconst (-1)), (92, .aload_n 0), (93, .getfield 270), (96, .iload_n 2), (97, .iconst 0), (98, .invokevirtual 286), (101, .aload_n 0), (102, .bipush 9), (104, .iload_n 2), (105, .invokevirtual 297), (108, .goto 164), (111, .aload_n 0), (112, .iload_n 2), (113, .iload_n 3), (114, .iload 4), (116, .invokevirtual 416), (119, .goto 153), (122, .aload_n 0), (123, .iload_n 2), (124, .invokevirtual 420), (127, .goto 145), (130, .aload_n 0), (131, .iload_n 2), (132, .invokevirtual 423), (135, .goto 137), (138, .aload_n 0), (139, .iload_n 2), (140, .iload_n 3), (141, .invokevirtual 426), (144, .goto 128), (147, .aload_n 0), (148, .iload_n 2), (149, .iconst 1), (150, .if_icmp .ne 7), (153, .iconst 1), (154, .goto 4), (157, .iconst 0), (158, .invokevirtual 429), (161, .goto 111), (164, .aload_n 0), (165, .invokevirtual 432), (168, .goto 104), (171, .aload_n 0), (172, .iconst 1), (173, .invokevirtual 435), (176, .goto 96), (179, .aload_n 0), (180, .invokevirtual 438), (183, .goto 89), (186, .aload_n 0), (187, .iload_n 2), (188, .invokevirtual 441), (191, .goto 81), (194, .aload_n 0), (195, .iload_n 2), (196, .iload_n 3), (197, .invokevirtual 444), (200, .goto 72), (203, .aload_n 0), (204, .iload_n 2), (205, .iload_n 3), (206, .iload 4), (208, .invokevirtual 447), (211, .goto 61), (214, .aload_n 0), (215, .iload_n 2), (216, .iload_n 3), (217, .iload 4), (219, .invokevirtual 450), (222, .goto 50), (225, .aload_n 0), (226, .invokevirtual 453), (229, .goto 43), (232, .aload_n 0), (233, .iload_n 2), (234, .iload_n 3), (235, .invokevirtual 456), (238, .goto 34), (241, .aload_n 0), (242, .iload_n 2), (243, .iload_n 3), (244, .invokevirtual 459), (247, .goto 25), (250, .aload_n 0), (251, .iload_n 2), (252, .iload_n 3), (253, .invokevirtual 462), (256, .goto 16), (259, .aload_n 0), (260, .iload_n 2), (261, .iload_n 3), (262, .invokevirtual 465), (265, .goto 7), (268, .aload_n 0), (269, .invokevirtual 468), (272, .return_)]
def am_f232 : List (Nat × Instr) := [(0, .aload_n 0), (1, .iconst 0), (2, .invokevirtual 290), (5, .aload_n 0), (6, .getfield 242), (9, .bipush 44), (11, .if_icmp .ne 39), (14, .aload_n 0), (15, .bipush 8), (17, .iload_n 1), (18, .iconst (-1)), (19, .if_icmp .ne 10), (22, .aload_n 0), (23, .getfield 205), (26, .goto 4), (29, .iload_n 1), (30, .iload_n 2), (31, .iload_n 3), (32, .iconst 0), (33, .invokevirtual 286), (36, .aload_n 0), (37, .bipush 9), (39, .iload_n 3), (40, .invokevirtual 297), (43, .aload_n 0), (44, .invokevirtual 280), (47, .goto 17), (50, .iload_n 1), (51, .iconst (-1)), (52, .if_icmp .eq 12), (55, .aload_n 0), (56, .bipush 49), (58, .iload_n 1), (59, .iconst 0), (60, .iload_n 2), (61, .invokevirtual 276), (64, .return_)]
def am_f233 : List (Nat × Instr) := [(0, .aload_n 0), (1, .invokevirtual 300), (4, .ifCond .eq 36), (7, .aload_n 0), (8, .iconst 4), (9, .iconst 0), (10, .invokevirtual 297), (13, .aload_n 0), (14, .bipush 10), (16, .iload_n 1), (17, .invokevirtual 297), (20, .aload_n 0), (21, .bipush 11), (23, .aload_n 0), (24, .getfield 340), (27, .iload_n 1), (28, .iconst 0), (29, .iconst 0), (30, .invokevirtual 286), (33, .aload_n 0), (34, .bipush 12), (36, .iconst 0), (37, .invokevirtual 297), (40, .return_)]
def am_f234 : List (Nat × Instr) := [(0, .aload_n 0), (1, .iconst 0), (2, .invokevirtual 290), (5, .aload_n 0), (6, .getfield 242), (9, .bipush 63), (11, .if_icmp .ne 49), (14, .aload_n 0), (15, .iconst 3), (16, .bipush 47), (18, .aload_n 0), (19, .getfield 205), (22, .iconst 0), (23, .aload_n 0), (24, .getfield 270), (27, .iconst 1), (28, .isub), (29, .invokevirtual 286), (32, .aload_n 0), (33, .bipush 9), (35, .iload_n 1), (36, .invokevirtual 297), (39, .aload_n 0), (40, .iconst 5), (41, .bipush 58), (43, .invokevirtual 297), (46, .aload_n 0), (47, .bipush 9), (49, .iload_n 1), (50, .invokevirtual 297), (53, .aload_n 0), (54, .invokevirtual 280), (57, .goto 62), (60, .aload_n 0), (61, .getfield 242), (64, .invokestatic 349), (67, .ifCond .eq 52), (70, .aload_n 0), (71, .getfield 273), (74, .ifCond .ne 8), (77, .aload_n 0), (78, .invokevirtual 314), (81, .return_), (82, .aload_n 0), (83, .iconst 3), (84, .bipush 48), (86, .aload_n 0), (87, .getfield 205), (90, .aload_n 0), (91, .getfield 264), (94, .aload_n 0), (95, .getfield 205), (98, .isub), (99, .aload_n 0), (100, .getfield 270), (103, .iconst 1), (104, .isub), (105, .invokevirtual 286), (108, .aload_n 0), (109, .bipush 9), (111, .iload_n 1), (112, .invokevirtual 297), (115, .aload_n 0), (116, .invokevirtual 280), (119, .return_)]
def am_f235 : List (Nat × Instr) := [(0, .iload_n 0), (1, .bipush 61), (3, .if_icmp .eq 77), (6, .iload_n 0), (7, .sipush 11069), (10, .if_icmp .eq 70), (13, .iload_n 0), (14, .sipush 11581), (17, .if_icmp .eq 63), (20, .iload_n 0), (21, .sipush 10813), (24, .if_icmp .eq 56), (27, .iload_n 0), (28, .sipush 9533), (31, .if_icmp .eq 49), (34, .iload_n 0), (35, .ldc 70), (37, .if_icmp .eq 43), (40, .iload_n 0), (41, .ldc 71), (43, .if_icmp .eq 37), (46, .iload_n 0), (47, .ldc 72), (49, .if_icmp .eq 31), (52, .iload_n 0), (53, .sipush 9789), (56, .if_icmp .eq 24), (59, .iload_n 0), (60, .sipush 31805), (63, .if_icmp .eq 17), (66, .iload_n 0), (67, .sipush 24125), (70, .if_icmp .eq 10), (73, .iload_n 0), (74, .sipush 12093), (77, .if_icmp .ne 7), (80, .iconst 1), (81, .goto 4), (84, .iconst 0), (85, .ireturn)]
def am_f236 : List (Nat × Instr) := [(0, .aload_n 0), (1, .iconst 0), (2, .invokevirtual 290), (5, .aload_n 0), (6, .getfield 242), (9, .sipush 1013), (12, .if_icmp .ne 12), (15, .iload_n 2), (16, .iconst 1), (17, .if_icmp .ne 7), (20, .iconst 0), (21, .goto 10), (24, .aload_n 0), (25, .getfield 242), (28, .invokestatic 343), (31, .istore_n 3), (32, .aload_n 0), (33, .getfield 340), (36, .iload_n 1), (37, .if_icmp .le 28), (40, .aload_n 0), (41, .getfield 137), (44, .aload_n 0), (45, .getfield 340), (48, .iconst 1), (49, .isub), (50, .iaload), (51, .invokestatic 343), (54, .iload_n 3), (55, .if_icmp .lt 10), (58, .aload_n 0), (59, .invokevirtual 346), (62, .goto (-30)), (65, .iload_n 3), (66, .ifCond .le 78), (69, .aload_n 0), (70, .getfield 137), (73, .aload_n 0), (74, .getfield 340), (77, .aload_n 0), (78, .getfield 242), (81, .iastore), (82, .aload_n 0), (83, .getfield 140), (86, .aload_n 0), (87, .getfield 340), (90, .aload_n 0), (91, .getfield 205), (94, .iastore), (95, .aload_n 0), (96, .getfield 143), (99, .aload_n 0), (100, .getfield 340), (103, .aload_n 0), (104, .getfield 264), (107, .aload_n 0), (108, .getfield 205), (111, .isub), (112, .iastore), (113, .aload_n 0), (114, .dup), (115, .getfield 340), (118, .iconst 1), (119, .iadd), (120, .putfield 340), (123, .aload_n 0), (124, .invokevirtual 280), (127, .aload_n 0), (128, .bipush 11), (130, .iload_n 1), (131, .iload_n 2), (132, .iconst 0), (133, .iconst 0), (134, .invokevirtual 286), (137, .aload_n 0), (138, .bipush 12), (140, .iconst 0), (141, .invokevirtual 297), (144, .return_)]
def am_f237 : List (Nat × Instr) := [(0, .iload_n 0), (1, .lookupswitch 220 #[(37, 217), (38, 203), (42, 217), (43, 214), (45, 214), (47, 217), (60, 208), (62, 208), (94, 201), (124, 199), (1013, 208), (1014, 208), (8509, 205), (9766, 197), (15420, 211), (15421, 208), (15677, 205), (15933, 208), (15934, 211), (31868, 195), (2178365, 205), (4013373, 205), (4079166, 211)]), (196, .iconst 1), (197, .ireturn), (198, .iconst 2), (199, .ireturn), (200, .iconst 3), (201, .ireturn), (202, .iconst 4), (203, .ireturn), (204, .iconst 5), (205, .ireturn), (206, .bipush 6), (208, .ireturn), (209, .bipush 7), (211, .ireturn), (212, .bipush 8), (214, .ireturn), (215, .bipush 9), (217, .ireturn), (218, .bipush 10), (220, .ireturn), (221, .iconst 0), (222, .ireturn)]
def am_f238 : List (Nat × Instr) := [(0, .aload_n 0), (1, .dup), (2, .getfield 340), (5, .iconst 1), (6, .isub), (7, .putfield 340), (10, .aload_n 0), (11, .bipush 46), (13, .aload_n 0), (14, .getfield 140), (17, .aload_n 0), (18, .getfield 340), (21, .iaload), (22, .aload_n 0), (23, .getfield 143), (26, .aload_n 0), (27, .getfield 340), (30, .iaload), (31, .aload_n 0), (32, .getfield 270), (35, .iconst 2), (36, .isub), (37, .invokevirtual 276), (40, .return_)]
def am_f239 : List (Nat × Instr) := [(0, .iload_n 1), (1, .ifCond .eq 11), (4, .aload_n 0), (5, .invokevirtual 300), (8, .ifCond .ne 4), (11, .return_), (12, .aload_n 0), (13, .iconst 1), (14, .invokevirtual 290), (17, .aload_n 0), (18, .getfield 242), (21, .sipush 1005), (24, .if_icmp .eq 79), (27, .aload_n 0), (28, .getfield 242), (31, .sipush 1025), (34, .if_icmp .eq 69), (37, .aload_n 0), (38, .getfield 242), (41, .sipush 1023), (44, .if_icmp .eq 59), (47, .aload_n 0), (48, .getfield 242), (51, .sipush 11051), (54, .if_icmp .eq 49), (57, .aload_n 0), (58, .getfield 242), (61, .sipush 11565), (64, .if_icmp .eq 39), (67, .aload_n 0), (68, .getfield 242), (71, .bipush 43), (73, .if_icmp .eq 30), (76, .aload_n 0), (77, .getfield 242), (80, .bipush 45), (82, .if_icmp .eq 21), (85, .aload_n 0), (86, .getfield 242), (89, .bipush 126), (91, .if_icmp .eq 12), (94, .aload_n 0), (95, .getfield 242), (98, .bipush 33), (100, .if_icmp .ne 7), (103, .iconst 1), (104, .goto 4), (107, .iconst 0), (108, .istore_n 2), (109, .iload_n 2), (110, .ifCond .eq 47), (113, .aload_n 0), (114, .iconst 3), (115, .bipush 45), (117, .aload_n 0), (118, .getfield 205), (121, .aload_n 0), (122, .getfield 264), (125, .aload_n 0), (126, .getfield 205), (129, .isub), (130, .aload_n 0), (131, .getfield 270), (134, .invokevirtual 286), (137, .aload_n 0), (138, .iconst 4), (139, .iconst 0), (140, .invokevirtual 297), (143, .aload_n 0), (144, .bipush 12), (146, .iconst 1), (147, .invokevirtual 297), (150, .aload_n 0), (151, .invokevirtual 280), (154, .goto 17), (157, .aload_n 0), (158, .bipush 13), (160, .iconst 0), (161, .invokevirtual 297), (164, .aload_n 0), (165, .bipush 14), (167, .iconst 0), (168, .invokevirtual 297), (171, .return_)]
def am_f240 : List (Nat × Instr) := [(0, .aload_n 0), (1, .iconst 0), (2, .invokevirtual 290), (5, .aload_n 0), (6, .iconst 1), (7, .putfield 273), (10, .aload_n 0), (11, .getfield 198), (14, .ifCond .ne 52), (17, .aload_n 0), (18, .getfield 242), (21, .sipush 11051), (24, .if_icmp .eq 13), (27, .aload_n 0), (28, .getfield 242), (31, .sipush 11565), (34, .if_icmp .ne 32), (37, .aload_n 0), (38, .bipush 44), (40, .aload_n 0), (41, .getfield 205), (44, .aload_n 0), (45, .getfield 264), (48, .aload_n 0), (49, .getfield 205), (52, .isub), (53, .aload_n 0), (54, .getfield 270), (57, .iconst 1), (58, .isub), (59, .invokevirtual 276), (62, .aload_n 0), (63, .invokevirtual 280), (66, .return_)]
def am_f241 : List (Nat × Instr) := [(0, .aload_n 0), (1, .iconst 1), (2, .invokevirtual 290), (5, .aload_n 0), (6, .bipush 16), (8, .iload_n 1), (9, .invokevirtual 297), (12, .aload_n 0), (13, .getfield 242), (16, .sipush 1015), (19, .if_icmp .ne 39), (22, .aload_n 0), (23, .bipush 17), (25, .aload_n 0), (26, .getfield 205), (29, .aload_n 0), (30, .getfield 270), (33, .iconst 0), (34, .iconst 0), (35, .invokevirtual 286), (38, .aload_n 0), (39, .iconst 4), (40, .iconst 0), (41, .invokevirtual 297), (44, .aload_n 0), (45, .bipush 15), (47, .iconst 0), (48, .invokevirtual 297), (51, .aload_n 0), (52, .invokevirtual 280), (55, .goto 10), (58, .aload_n 0), (59, .bipush 20), (61, .iconst 0), (62, .invokevirtual 297), (65, .return_)]
def am_f242 : List (Nat × Instr) := [(0, .aload_n 0), (1, .invokevirtual 300), (4, .ifCond .eq 8), (7, .aload_n 0), (8, .iconst 0), (9, .invokevirtual 435), (12, .return_)]
def am_f243 : List (Nat × Instr) := [(0, .aload_n 0), (1, .iconst 0), (2, .invokevirtual 290), (5, .aload_n 0), (6, .getfield 205), (9, .istore_n 2), (10, .aload_n 0), (11, .getfield 242), (14, .bipush 46), (16, .if_icmp .ne 84), (19, .aload_n 0), (20, .invokevirtual 280), (23, .aload_n 0), (24, .iconst 0), (25, .invokevirtual 290), (28, .aload_n 0), (29, .getfield 242), (32, .iconst 1), (33, .if_icmp .eq 13), (36, .aload_n 0), (37, .getfield 242), (40, .sipush 1000), (43, .if_icmp .lt 13), (46, .aload_n 0), (47, .getfield 242), (50, .sipush 1026), (53, .if_icmp .le 8), (56, .aload_n 0), (57, .invokevirtual 314), (60, .return_), (61, .aload_n 0), (62, .bipush 41), (64, .aload_n 0), (65, .getfield 205), (68, .aload_n 0), (69, .getfield 264), (72, .aload_n 0), (73, .getfield 205), (76, .isub), (77, .aload_n 0), (78, .getfield 270), (81, .iconst 1), (82, .isub), (83, .invokevirtual 276), (86, .aload_n 0), (87, .invokevirtual 280), (90, .aload_n 0), (91, .bipush 16), (93, .iload_n 1), (94, .invokevirtual 297), (97, .goto 96), (100, .aload_n 0), (101, .getfield 242), (104, .bipush 91), (106, .if_icmp .ne 46), (109, .aload_n 0), (110, .invokevirtual 280), (113, .aload_n 0), (114, .bipush 16), (116, .iload_n 1), (117, .invokevirtual 297), (120, .aload_n 0), (121, .iconst 3), (122, .bipush 40), (124, .iload_n 2), (125, .iconst 0), (126, .aload_n 0), (127, .getfield 270), (130, .iconst 1), (131, .isub), (132, .invokevirtual 286), (135, .aload_n 0), (136, .iconst 5), (137, .bipush 93), (139, .invokevirtual 297), (142, .aload_n 0), (143, .bipush 7), (145, .iconst 0), (146, .invokevirtual 297), (149, .goto 44), (152, .aload_n 0), (153, .getfield 242), (156, .bipush 40), (158, .if_icmp .ne 35), (161, .iload_n 1), (162, .iconst 1), (163, .if_icmp .ne 30), (166, .aload_n 0), (167, .invokevirtual 280), (170, .aload_n 0), (171, .bipush 16), (173, .iload_n 1), (174, .invokevirtual 297), (177, .aload_n 0), (178, .bipush 18), (180, .bipush 43), (182, .iload_n 2), (183, .aload_n 0), (184, .getfield 270), (187, .iconst 1), (188, .isub), (189, .iconst 0), (190, .invokevirtual 286), (193, .return_)]
def am_f244 : List (Nat × Instr) := [(0, .aload_n 0), (1, .iconst 0), (2, .invokevirtual 290), (5, .aload_n 0), (6, .getfield 242), (9, .bipush 40), (11, .if_icmp .ne 21), (14, .aload_n 0), (15, .invokevirtual 280), (18, .aload_n 0), (19, .bipush 18), (21, .bipush 42), (23, .iload_n 1), (24, .iload_n 2), (25, .iconst 0), (26, .invokevirtual 286), (29, .goto 12), (32, .aload_n 0), (33, .bipush 42), (35, .iload_n 1), (36, .iconst 0), (37, .iload_n 2), (38, .invokevirtual 276), (41, .return_)]
def am_f245 : List (Nat × Instr) := [(0, .aload_n 0), (1, .iconst 1), (2, .invokevirtual 290), (5, .aload_n 0), (6, .getfield 242), (9, .bipush 41), (11, .if_icmp .ne 18), (14, .aload_n 0), (15, .invokevirtual 280), (18, .aload_n 0), (19, .iload_n 1), (20, .iload_n 2), (21, .iconst 0), (22, .iload_n 3), (23, .invokevirtual 276), (26, .goto 20), (29, .aload_n 0), (30, .bipush 19), (32, .iload_n 1), (33, .iload_n 2), (34, .iload_n 3), (35, .iconst 0), (36, .invokevirtual 286), (39, .aload_n 0), (40, .bipush 9), (42, .iconst 0), (43, .invokevirtual 297), (46, .return_)]
def am_f246 : List (Nat × Instr) := [(0, .aload_n 0), (1, .iconst 0), (2, .invokevirtual 290), (5, .aload_n 0), (6, .getfield 242), (9, .bipush 44), (11, .if_icmp .ne 27), (14, .aload_n 0), (15, .invokevirtual 280), (18, .aload_n 0), (19, .bipush 19), (21, .iload_n 1), (22, .iload_n 2), (23, .iload_n 3), (24, .iconst 0), (25, .invokevirtual 286), (28, .aload_n 0), (29, .bipush 9), (31, .iconst 0), (32, .invokevirtual 297), (35, .goto 31), (38, .aload_n 0), (39, .getfield 242), (42, .bipush 41), (44, .if_icmp .ne 18), (47, .aload_n 0), (48, .invokevirtual 280), (51, .aload_n 0), (52, .iload_n 1), (53, .iload_n 2), (54, .iconst 0), (55, .iload_n 3), (56, .invokevirtual 276), (59, .goto 7), (62, .aload_n 0), (63, .invokevirtual 314), (66, .return_)]
def am_f247 : List (Nat × Instr) := [(0, .aload_n 0), (1, .iconst 1), (2, .invokevirtual 290), (5, .aload_n 0), (6, .getfield 205), (9, .istore_n 1), (10, .aload_n 0), (11, .getfield 264), (14, .aload_n 0), (15, .getfield 205), (18, .isub), (19, .istore_n 2), (20, .aload_n 0), (21, .getfield 270), (24, .istore_n 3), (25, .aload_n 0), (26, .getfield 242), (29, .lookupswitch 231 #[(1, 117), (2, 137), (3, 147), (4, 157), (40, 210), (91, 167), (123, 184), (1008, 127), (1011, 201), (1016, 127), (1019, 107), (1021, 127)]), (136, .aload_n 0), (137, .bipush 30), (139, .iconst 0), (140, .invokevirtual 304), (143, .goto 121), (146, .aload_n 0), (147, .bipush 31), (149, .iload_n 2), (150, .invokevirtual 304), (153, .goto 111), (156, .aload_n 0), (157, .bipush 32), (159, .iload_n 2), (160, .invokevirtual 304), (163, .goto 101), (166, .aload_n 0), (167, .bipush 33), (169, .iload_n 2), (170, .invokevirtual 304), (173, .goto 91), (176, .aload_n 0), (177, .bipush 34), (179, .iload_n 2), (180, .invokevirtual 304), (183, .goto 81), (186, .aload_n 0), (187, .bipush 35), (189, .iload_n 2), (190, .invokevirtual 304), (193, .goto 71), (196, .aload_n 0), (197, .invokevirtual 280), (200, .aload_n 0), (201, .bipush 21), (203, .iload_n 1), (204, .iload_n 3), (205, .iconst 0), (206, .iconst 0), (207, .invokevirtual 286), (210, .goto 54), (213, .aload_n 0), (214, .invokevirtual 280), (217, .aload_n 0), (218, .bipush 23), (220, .iload_n 1), (221, .iload_n 3), (222, .iconst 0), (223, .iconst 0), (224, .invokevirtual 286), (227, .goto 37), (230, .aload_n 0), (231, .bipush 39), (233, .invokevirtual 310), (236, .goto 28), (239, .aload_n 0), (240, .invokevirtual 280), (243, .aload_n 0), (244, .bipush 28), (246, .iconst 0), (247, .invokevirtual 297), (250, .aload_n 0), (251, .bipush 7), (253, .iconst 0), (254, .invokevirtual 297), (257, .goto 7), (260, .aload_n 0), (261, .invokevirtual 314), (264, .return_)]
def am_f248 : List (Nat × Instr) := [(0, .aload_n 0), (1, .iconst 1), (2, .invokevirtual 290), (5, .aload_n 0), (6, .getfield 242), (9, .bipush 93), (11, .if_icmp .ne 19), (14, .aload_n 0), (15, .invokevirtual 280), (18, .aload_n 0), (19, .bipush 36), (21, .iload_n 1), (22, .iconst 0), (23, .iload_n 2), (24, .invokevirtual 276), (27, .goto 50), (30, .aload_n 0), (31, .getfield 242), (34, .bipush 44), (36, .if_icmp .ne 24), (39, .aload_n 0), (40, .invokevirtual 280), (43, .aload_n 0), (44, .invokevirtual 331), (47, .aload_n 0), (48, .bipush 21), (50, .iload_n 1), (51, .iload_n 2), (52, .iconst 0), (53, .iconst 0), (54, .invokevirtual 286), (57, .goto 20), (60, .aload_n 0), (61, .bipush 22), (63, .iload_n 1), (64, .iload_n 2), (65, .iconst 0), (66, .iconst 0), (67, .invokevirtual 286), (70, .aload_n 0), (71, .bipush 9), (73, .iconst 0), (74, .invokevirtual 297), (77, .return_)]
def am_f249 : List (Nat × Instr) := [(0, .aload_n 0), (1, .iconst 0), (2, .invokevirtual 290), (5, .aload_n 0), (6, .getfield 242), (9, .bipush 44), (11, .if_icmp .ne 20), (14, .aload_n 0), (15, .invokevirtual 280), (18, .aload_n 0), (19, .bipush 21), (21, .iload_n 1), (22, .iload_n 2), (23, .iconst 0), (24, .iconst 0), (25, .invokevirtual 286), (28, .goto 32), (31, .aload_n 0), (32, .getfield 242), (35, .bipush 93), (37, .if_icmp .ne 19), (40, .aload_n 0), (41, .invokevirtual 280), (44, .aload_n 0), (45, .bipush 36), (47, .iload_n 1), (48, .iconst 0), (49, .iload_n 2), (50, .invokevirtual 276), (53, .goto 7), (56, .aload_n 0), (57, .invokevirtual 314), (60, .return_)]
def am_f250 : List (Nat × Instr) := [(0, .aload_n 0), (1, .iconst 0), (2, .invokevirtual 290), (5, .aload_n 0), (6, .getfield 242), (9, .bipush 125), (11, .if_icmp .ne 19), (14, .aload_n 0), (15, .invokevirtual 280), (18, .aload_n 0), (19, .bipush 37), (21, .iload_n 1), (22, .iconst 0), (23, .iload_n 2), (24, .invokevirtual 276), (27, .goto 106), (30, .aload_n 0), (31, .getfield 242), (34, .iconst 1), (35, .if_icmp .eq 39), (38, .aload_n 0), (39, .getfield 242), (42, .iconst 3), (43, .if_icmp .eq 31), (46, .aload_n 0), (47, .getfield 242), (50, .iconst 2), (51, .if_icmp .eq 23), (54, .aload_n 0), (55, .getfield 242), (58, .sipush 1000), (61, .if_icmp .lt 68), (64, .aload_n 0), (65, .getfield 242), (68, .sipush 1026), (71, .if_icmp .gt 58), (74, .aload_n 0), (75, .bipush 24), (77, .iload_n 1), (78, .iload_n 2), (79, .iconst 0), (80, .iconst 0), (81, .invokevirtual 286), (84, .aload_n 0), (85, .iconst 3), (86, .bipush 38), (88, .aload_n 0), (89, .getfield 205), (92, .aload_n 0), (93, .getfield 264), (96, .aload_n 0), (97, .getfield 205), (100, .isub), (101, .aload_n 0), (102, .getfield 270), (105, .invokevirtual 286), (108, .aload_n 0), (109, .bipush 9), (111, .iconst 0), (112, .invokevirtual 297), (115, .aload_n 0), (116, .iconst 5), (117, .bipush 58), (119, .invokevirtual 297), (122, .aload_n 0), (123, .invokevirtual 280), (126, .goto 7), (129, .aload_n 0), (130, .invokevirtual 314), (133, .return_)]
def am_f251 : List (Nat × Instr) := [(0, .aload_n 0), (1, .iconst 0), (2, .invokevirtual 290), (5, .aload_n 0), (6, .getfield 242), (9, .bipush 44), (11, .if_icmp .ne 20), (14, .aload_n 0), (15, .invokevirtual 280), (18, .aload_n 0), (19, .bipush 23), (21, .iload_n 1), (22, .iload_n 2), (23, .iconst 0), (24, .iconst 0), (25, .invokevirtual 286), (28, .goto 32), (31, .aload_n 0), (32, .getfield 242), (35, .bipush 125), (37, .if_icmp .ne 19), (40, .aload_n 0), (41, .invokevirtual 280), (44, .aload_n 0), (45, .bipush 37), (47, .iload_n 1), (48, .iconst 0), (49, .iload_n 2), (50, .invokevirtual 276), (53, .goto 7), (56, .aload_n 0), (57, .invokevirtual 314), (60, .return_)]
def am_f252 : List (Nat × Instr) := [(0, .aload_n 0), (1, .bipush 41), (3, .invokevirtual 352), (6, .aload_n 0), (7, .getfield 134), (10, .aload_n 0), (11, .getfield 270), (14, .iconst 1), (15, .isub), (16, .iaload), (17, .istore_n 1), (18, .aload_n 0), (19, .getfield 112), (22, .iload_n 1), (23, .aload_n 0), (24, .getfield 112), (27, .iload_n 1), (28, .baload), (29, .ifCond .ne 14), (32, .aload_n 0), (33, .getfield 91), (36, .iload_n 1), (37, .iaload), (38, .bipush 34), (40, .if_icmp .ne 7), (43, .iconst 1), (44, .goto 4), (47, .iconst 0), (48, .bastore), (49, .return_)]
def am_f253 : List (Nat × Instr) := [(0, .iconst 0), (1, .istore_n 2), (2, .iload_n 1), (3, .istore_n 3), (4, .aload_n 0), (5, .getfield 106), (8, .iload_n 1), (9, .iconst (-1)), (10, .iastore), (11, .aload_n 0), (12, .getfield 103), (15, .iload_n 1), (16, .iconst (-1)), (17, .iastore), (18, .iload_n 3), (19, .iconst (-1)), (20, .if_icmp .eq 84), (23, .aload_n 0), (24, .getfield 146), (27, .iload_n 2), (28, .iload_n 3), (29, .iastore), (30, .aload_n 0), (31, .getfield 149), (34, .iload_n 3), (35, .iload_n 2), (36, .iastore), (37, .iinc 2 1), (40, .aload_n 0), (41, .getfield 100), (44, .iload_n 3), (45, .iaload), (46, .iconst (-1)), (47, .if_icmp .eq 13), (50, .aload_n 0), (51, .getfield 100), (54, .iload_n 3), (55, .iaload), (56, .istore_n 3), (57, .goto (-39)), (60, .iload_n 3), (61, .iconst (-1)), (62, .if_icmp .eq 23), (65, .aload_n 0), (66, .getfield 103), (69, .iload_n 3), (70, .iaload), (71, .iconst (-1)), (72, .if_icmp .ne 13), (75, .aload_n 0), (76, .getfield 106), (79, .iload_n 3), (80, .iaload), (81, .istore_n 3), (82, .goto (-22)), (85, .iload_n 3), (86, .iconst (-1)), (87, .if_icmp .ne 7), (90, .iconst (-1)), (91, .goto 9), (94, .aload_n 0), (95, .getfield 103), (98, .iload_n 3), (99, .iaload), (100, .istore_n 3), (101, .goto (-83)), (104, .iload_n 2), (105, .ireturn)]
def am_f254 : List (Nat × Instr) := [(0, .aload_n 0), (1, .getfield 116), (4, .aload_n 0), (5, .getfield 146), (8, .iconst 0), (9, .iaload), (10, .aload_n 0), (11, .aload_n 0), (12, .getfield 146), (15, .iconst 0), (16, .iaload), (17, .invokevirtual 480), (20, .bastore), (21, .iconst 1), (22, .istore_n 2), (23, .iload_n 2), (24, .iload_n 1), (25, .if_icmp .ge 88), (28, .aload_n 0), (29, .getfield 146), (32, .iload_n 2), (33, .iaload), (34, .istore_n 3), (35, .aload_n 0), (36, .getfield 116), (39, .iload_n 3), (40, .aload_n 0), (41, .getfield 116), (44, .aload_n 0), (45, .getfield 106), (48, .iload_n 3), (49, .iaload), (50, .baload), (51, .ifCond .ne 50), (54, .aload_n 0), (55, .getfield 91), (58, .iload_n 3), (59, .iaload), (60, .bipush 23), (62, .if_icmp .ne 11), (65, .aload_n 0), (66, .iload_n 3), (67, .invokevirtual 480), (70, .ifCond .ne 31), (73, .aload_n 0), (74, .getfield 91), (77, .iload_n 3), (78, .iaload), (79, .bipush 22), (81, .if_icmp .ne 24), (84, .aload_n 0), (85, .aload_n 0), (86, .aload_n 0), (87, .getfield 106), (90, .iload_n 3), (91, .iaload), (92, .invokevirtual 483), (95, .invokevirtual 480), (98, .ifCond .eq 7), (101, .iconst 1), (102, .goto 4), (105, .iconst 0), (106, .bastore), (107, .iinc 2 1), (110, .goto (-87)), (113, .return_)]
def am_f255 : List (Nat × Instr) := [(0, .iconst 0), (1, .istore_n 2), (2, .aload_n 0), (3, .getfield 100), (6, .iload_n 1), (7, .iaload), (8, .istore_n 3), (9, .iload_n 3), (10, .iconst (-1)), (11, .if_icmp .eq 44), (14, .aload_n 0), (15, .iload_n 3), (16, .invokevirtual 474), (19, .ifCond .eq 36), (22, .iload_n 2), (23, .ifCond .ne 16), (26, .aload_n 0), (27, .aload_n 0), (28, .getfield 100), (31, .iload_n 3), (32, .iaload), (33, .invokevirtual 477), (36, .ifCond .eq 7), (39, .iconst 1), (40, .goto 4), (43, .iconst 0), (44, .istore_n 2), (45, .aload_n 0), (46, .getfield 103), (49, .iload_n 3), (50, .iaload), (51, .istore_n 3), (52, .goto (-43)), (55, .iload_n 2), (56, .ireturn)]
def am_f256 : List (Nat × Instr) := [(0, .aload_n 0), (1, .getfield 91), (4, .iload_n 1), (5, .iaload), (6, .iconst 5), (7, .if_icmp .ne 37), (10, .aload_n 0), (11, .getfield 91), (14, .aload_n 0), (15, .getfield 100), (18, .iload_n 1), (19, .iaload), (20, .iaload), (21, .bipush 34), (23, .if_icmp .ne 21), (26, .aload_n 0), (27, .getfield 112), (30, .aload_n 0), (31, .getfield 100), (34, .iload_n 1), (35, .iaload), (36, .baload), (37, .ifCond .ne 7), (40, .iconst 1), (41, .goto 4), (44, .iconst 0), (45, .ireturn)]
def am_f257 : List (Nat × Instr) := [(0, .aload_n 0), (1, .getfield 94), (4, .iload_n 1), (5, .iaload), (6, .istore_n 2), (7, .aload_n 0), (8, .getfield 97), (11, .iload_n 1), (12, .iaload), (13, .bipush 12), (15, .if_icmp .ne 142), (18, .aload_n 0), (19, .getfield 84), (22, .iload_n 2), (23, .iconst 1), (24, .iadd), (25, .baload), (26, .bipush 117), (28, .if_icmp .ne 129), (31, .aload_n 0), (32, .getfield 84), (35, .iload_n 2), (36, .iconst 2), (37, .iadd), (38, .baload), (39, .bipush 115), (41, .if_icmp .ne 116), (44, .aload_n 0), (45, .getfield 84), (48, .iload_n 2), (49, .iconst 3), (50, .iadd), (51, .baload), (52, .bipush 101), (54, .if_icmp .ne 103), (57, .aload_n 0), (58, .getfield 84), (61, .iload_n 2), (62, .iconst 4), (63, .iadd), (64, .baload), (65, .bipush 32), (67, .if_icmp .ne 90), (70, .aload_n 0), (71, .getfield 84), (74, .iload_n 2), (75, .iconst 5), (76, .iadd), (77, .baload), (78, .bipush 115), (80, .if_icmp .ne 77), (83, .aload_n 0), (84, .getfield 84), (87, .iload_n 2), (88, .bipush 6), (90, .iadd), (91, .baload), (92, .bipush 116), (94, .if_icmp .ne 63), (97, .aload_n 0), (98, .getfield 84), (101, .iload_n 2), (102, .bipush 7), (104, .iadd), (105, .baload), (106, .bipush 114), (108, .if_icmp .ne 49), (111, .aload_n 0), (112, .getfield 84), (115, .iload_n 2), (116, .bipush 8), (118, .iadd), (119, .baload), (120, .bipush 105), (122, .if_icmp .ne 35), (125, .aload_n 0), (126, .getfield 84), (129, .iload_n 2), (130, .bipush 9), (132, .iadd), (133, .baload), (134, .bipush 99), (136, .if_icmp .ne 21), (139, .aload_n 0), (140, .getfield 84), (143, .iload_n 2), (144, .bipush 10), (146, .iadd), (147, .baload), (148, .bipush 116), (150, .if_icmp .ne 7), (153, .iconst 1), (154, .goto 4), (157, .iconst 0), (158, .ireturn)]
def am_f258 : List (Nat × Instr) := [(0, .aload_n 0), (1, .iload_n 1), (2, .aload_n 0), (3, .getfield 109), (6, .iload_n 1), (7, .iaload), (8, .iconst 1), (9, .isub), (10, .invokevirtual 471), (13, .ireturn)]
def am_f259 : List (Nat × Instr) := [(0, .aload_n 0), (1, .getfield 100), (4, .iload_n 1), (5, .iaload), (6, .istore_n 3), (7, .iconst 0), (8, .istore 4), (10, .iload 4), (12, .iload_n 2), (13, .if_icmp .ge 21), (16, .iload_n 3), (17, .iconst (-1)), (18, .if_icmp .eq 16), (21, .aload_n 0), (22, .getfield 103), (25, .iload_n 3), (26, .iaload), (27, .istore_n 3), (28, .iinc 4 1), (31, .goto (-21)), (34, .iload_n 3), (35, .ireturn)]
def am_f260 : List (Nat × Instr) := [(0, .iconst 0), (1, .istore_n 2), (2, .iload_n 2), (3, .iload_n 1), (4, .if_icmp .ge 119), (7, .aload_n 0), (8, .getfield 188), (11, .ifCond .ne 112), (14, .aload_n 0), (15, .getfield 146), (18, .iload_n 2), (19, .iaload), (20, .istore_n 3), (21, .aload_n 0), (22, .iload_n 3), (23, .invokevirtual 494), (26, .ifCond .eq 17), (29, .aload_n 0), (30, .getfield 91), (33, .aload_n 0), (34, .getfield 100), (37, .iload_n 3), (38, .iaload), (39, .iaload), (40, .goto 5), (43, .bipush 31), (45, .istore 4), (47, .iload 4), (49, .bipush 31), (51, .if_icmp .eq 21), (54, .iload 4), (56, .bipush 40), (58, .if_icmp .eq 14), (61, .iload 4), (63, .bipush 41), (65, .if_icmp .eq 7), (68, .iconst 4), (69, .goto 29), (72, .aload_n 0), (73, .iload_n 3), (74, .invokevirtual 512), (77, .ifCond .eq 7), (80, .iconst 5), (81, .goto 17), (84, .aload_n 0), (85, .iload_n 3), (86, .invokevirtual 515), (89, .ifCond .eq 8), (92, .bipush 6), (94, .goto 4), (97, .iconst 0), (98, .istore 5), (100, .iload 5), (102, .ifCond .le 15), (105, .aload_n 0), (106, .iload 5), (108, .aload_n 0), (109, .getfield 94), (112, .iload_n 3), (113, .iaload), (114, .invokevirtual 211), (117, .iinc 2 1), (120, .goto (-118)), (123, .return_)]
def am_f261 : List (Nat × Instr) := [(0, .aload_n 0), (1, .getfield 91), (4, .iload_n 1), (5, .iaload), (6, .istore_n 2), (7, .iload_n 2), (8, .bipush 44), (10, .if_icmp .eq 78), (13, .iload_n 2), (14, .bipush 48), (16, .if_icmp .eq 72), (19, .iload_n 2), (20, .bipush 45), (22, .if_icmp .ne 45), (25, .aload_n 0), (26, .getfield 84), (29, .aload_n 0), (30, .getfield 94), (33, .iload_n 1), (34, .iaload), (35, .baload), (36, .bipush 43), (38, .if_icmp .eq 19), (41, .aload_n 0), (42, .getfield 84), (45, .aload_n 0), (46, .getfield 94), (49, .iload_n 1), (50, .iaload), (51, .baload), (52, .bipush 45), (54, .if_icmp .ne 13), (57, .aload_n 0), (58, .getfield 97), (61, .iload_n 1), (62, .iaload), (63, .iconst 2), (64, .if_icmp .eq 24), (67, .iload_n 2), (68, .bipush 10), (70, .if_icmp .ne 22), (73, .aload_n 0), (74, .getfield 91), (77, .aload_n 0), (78, .getfield 100), (81, .iload_n 1), (82, .iaload), (83, .iaload), (84, .iconst 2), (85, .if_icmp .eq 7), (88, .iconst 1), (89, .goto 4), (92, .iconst 0), (93, .ireturn)]
def am_f262 : List (Nat × Instr) := [(0, .aload_n 0), (1, .getfield 91), (4, .iload_n 1), (5, .iaload), (6, .istore_n 2), (7, .iload_n 2), (8, .bipush 20), (10, .if_icmp .eq 9), (13, .iload_n 2), (14, .bipush 39), (16, .if_icmp .ne 7), (19, .iconst 1), (20, .goto 4), (23, .iconst 0), (24, .istore_n 3), (25, .iload_n 3), (26, .ifCond .eq 16), (29, .aload_n 0), (30, .getfield 116), (33, .aload_n 0), (34, .iload_n 1), (35, .invokevirtual 483), (38, .baload), (39, .goto 9), (42, .aload_n 0), (43, .getfield 116), (46, .iload_n 1), (47, .baload), (48, .istore 4), (50, .iload 4), (52, .ifCond .ne 5), (55, .iconst 0), (56, .ireturn), (57, .iload_n 2), (58, .iconst 3), (59, .if_icmp .eq 28), (62, .iload_n 2), (63, .bipush 22), (65, .if_icmp .eq 22), (68, .iload_n 2), (69, .bipush 19), (71, .if_icmp .eq 16), (74, .iload_n 3), (75, .ifCond .eq 16), (78, .aload_n 0), (79, .getfield 97), (82, .iload_n 1), (83, .iaload), (84, .ifCond .le 7), (87, .iconst 1), (88, .goto 4), (91, .iconst 0), (92, .istore 5), (94, .aload_n 0), (95, .iload_n 1), (96, .invokevirtual 494), (99, .ifCond .eq 32), (102, .aload_n 0), (103, .getfield 91), (106, .aload_n 0), (107, .getfield 100), (110, .iload_n 1), (111, .iaload), (112, .iaload), (113, .bipush 31), (115, .if_icmp .ne 16), (118, .aload_n 0), (119, .aload_n 0), (120, .getfield 100), (123, .iload_n 1), (124, .iaload), (125, .invokevirtual 497), (128, .ifCond .ne 60), (131, .iload 5), (133, .ifCond .eq 11), (136, .aload_n 0), (137, .iload_n 1), (138, .invokevirtual 497), (141, .ifCond .ne 47), (144, .aload_n 0), (145, .iload_n 1), (146, .invokevirtual 500), (149, .ifCond .eq 19), (152, .aload_n 0), (153, .getfield 91), (156, .aload_n 0), (157, .getfield 100), (160, .iload_n 1), (161, .iaload), (162, .iaload), (163, .bipush 31), (165, .if_icmp .eq 23), (168, .iload_n 2), (169, .bipush 22), (171, .if_icmp .eq 9), (174, .iload_n 2), (175, .bipush 38), (177, .if_icmp .ne 15), (180, .aload_n 0), (181, .iload_n 1), (182, .invokevirtual 503), (185, .ifCond .eq 7), (188, .iconst 1), (189, .goto 4), (192, .iconst 0), (193, .ireturn)]
def am_f263 : List (Nat × Instr) := [(0, .lconst 0), (1, .lstore_n 2), (2, .iconst 0), (3, .istore 4), (5, .iload 4), (7, .aload_n 0), (8, .getfield 97), (11, .iload_n 1), (12, .iaload), (13, .if_icmp .ge 42), (16, .iload 4), (18, .bipush 10), (20, .if_icmp .ge 35), (23, .ldc2_w 227), (26, .lload_n 2), (27, .lmul), (28, .aload_n 0), (29, .getfield 84), (32, .aload_n 0), (33, .getfield 94), (36, .iload_n 1), (37, .iaload), (38, .iload 4), (40, .iadd), (41, .baload), (42, .i2l), (43, .ladd), (44, .ldc2_w 229), (47, .lsub), (48, .lstore_n 2), (49, .iinc 4 1), (52, .goto (-47)), (55, .iconst 1), (56, .istore 4), (58, .iconst 0), (59, .istore 5), (61, .iload 5), (63, .aload_n 0), (64, .getfield 97), (67, .iload_n 1), (68, .iaload), (69, .if_icmp .ge 59), (72, .iload 4), (74, .ifCond .eq 45), (77, .aload_n 0), (78, .getfield 84), (81, .aload_n 0), (82, .getfield 94), (85, .iload_n 1), (86, .iaload), (87, .iload 5), (89, .iadd), (90, .baload), (91, .bipush 97), (93, .if_icmp .lt 26), (96, .aload_n 0), (97, .getfield 84), (100, .aload_n 0), (101, .getfield 94), (104, .iload_n 1), (105, .iaload), (106, .iload 5), (108, .iadd), (109, .baload), (110, .bipush 122), (112, .if_icmp .gt 7), (115, .iconst 1), (116, .goto 4), (119, .iconst 0), (120, .istore 4), (122, .iinc 5 1), (125, .goto (-64)), (128, .iload 4), (130, .ifCond .eq 44), (133, .aload_n 0), (134, .getfield 97), (137, .iload_n 1), (138, .iaload), (139, .iconst 4), (140, .if_icmp .ne 11), (143, .lload_n 2), (144, .ldc2_w 486), (147, .lcmp), (148, .ifCond .eq 22), (151, .aload_n 0), (152, .getfield 97), (155, .iload_n 1), (156, .iaload), (157, .bipush 9), (159, .if_icmp .ne 15), (162, .lload_n 2), (163, .ldc2_w 488), (166, .lcmp), (167, .ifCond .ne 7), (170, .iconst 1), (171, .goto 4), (174, .iconst 0), (175, .ireturn)]
def am_f264 : List (Nat × Instr) := [(0, .aload_n 0), (1, .getfield 91), (4, .iload_n 1), (5, .iaload), (6, .bipush 45), (8, .if_icmp .ne 23), (11, .aload_n 0), (12, .getfield 84), (15, .aload_n 0), (16, .getfield 94), (19, .iload_n 1), (20, .iaload), (21, .baload), (22, .bipush 100), (24, .if_icmp .ne 7), (27, .iconst 1), (28, .goto 4), (31, .iconst 0), (32, .ireturn)]
def am_f265 : List (Nat × Instr) := [(0, .iconst 0), (1, .istore_n 2), (2, .aload_n 0), (3, .getfield 100), (6, .aload_n 0), (7, .getfield 106), (10, .iload_n 1), (11, .iaload), (12, .iaload), (13, .istore_n 3), (14, .iload_n 3), (15, .iload_n 1), (16, .if_icmp .eq 47), (19, .iload_n 2), (20, .ifCond .ne 27), (23, .aload_n 0), (24, .getfield 91), (27, .iload_n 3), (28, .iaload), (29, .aload_n 0), (30, .getfield 91), (33, .iload_n 1), (34, .iaload), (35, .if_icmp .ne 16), (38, .aload_n 0), (39, .iload_n 3), (40, .iload_n 1), (41, .invokevirtual 490), (44, .ifCond .eq 7), (47, .iconst 1), (48, .goto 4), (51, .iconst 0), (52, .istore_n 2), (53, .aload_n 0), (54, .getfield 103), (57, .iload_n 3), (58, .iaload), (59, .istore_n 3), (60, .goto (-46)), (63, .iload_n 2), (64, .ireturn)]
def am_f266 : List (Nat × Instr) := [(0, .aload_n 0), (1, .getfield 97), (4, .iload_n 1), (5, .iaload), (6, .aload_n 0), (7, .getfield 97), (10, .iload_n 2), (11, .iaload), (12, .if_icmp .ne 7), (15, .iconst 1), (16, .goto 4), (19, .iconst 0), (20, .istore_n 3), (21, .iconst 0), (22, .istore 4), (24, .iload_n 3), (25, .ifCond .eq 57), (28, .iload 4), (30, .aload_n 0), (31, .getfield 97), (34, .iload_n 1), (35, .iaload), (36, .if_icmp .ge 46), (39, .aload_n 0), (40, .getfield 84), (43, .aload_n 0), (44, .getfield 94), (47, .iload_n 1), (48, .iaload), (49, .iload 4), (51, .iadd), (52, .baload), (53, .aload_n 0), (54, .getfield 84), (57, .aload_n 0), (58, .getfield 94), (61, .iload_n 2), (62, .iaload), (63, .iload 4), (65, .iadd), (66, .baload), (67, .if_icmp .ne 7), (70, .iconst 1), (71, .goto 4), (74, .iconst 0), (75, .istore_n 3), (76, .iinc 4 1), (79, .goto (-55)), (82, .iload_n 3), (83, .ireturn)]
def am_f267 : List (Nat × Instr) := [(0, .aload_n 0), (1, .getfield 91), (4, .iload_n 1), (5, .iaload), (6, .istore_n 2), (7, .iload_n 2), (8, .bipush 11), (10, .if_icmp .eq 9), (13, .iload_n 2), (14, .bipush 12), (16, .if_icmp .ne 17), (19, .aload_n 0), (20, .iload_n 1), (21, .invokevirtual 509), (24, .ifCond .ne 7), (27, .iconst 1), (28, .goto 4), (31, .iconst 0), (32, .ireturn), (33, .iconst 0), (34, .istore_n 3), (35, .iload_n 2), (36, .bipush 15), (38, .if_icmp .ne 89), (41, .aload_n 0), (42, .getfield 91), (45, .aload_n 0), (46, .getfield 100), (49, .iload_n 1), (50, .iaload), (51, .iaload), (52, .bipush 21), (54, .if_icmp .ne 73), (57, .aload_n 0), (58, .getfield 100), (61, .aload_n 0), (62, .getfield 106), (65, .iload_n 1), (66, .iaload), (67, .iaload), (68, .istore 4), (70, .iload 4), (72, .iload_n 1), (73, .if_icmp .eq 54), (76, .iload_n 3), (77, .ifCond .ne 32), (80, .aload_n 0), (81, .getfield 91), (84, .iload 4), (86, .iaload), (87, .bipush 15), (89, .if_icmp .ne 24), (92, .aload_n 0), (93, .getfield 91), (96, .aload_n 0), (97, .getfield 100), (100, .iload 4), (102, .iaload), (103, .iaload), (104, .bipush 21), (106, .if_icmp .ne 7), (109, .iconst 1), (110, .goto 4), (113, .iconst 0), (114, .istore_n 3), (115, .aload_n 0), (116, .getfield 103), (119, .iload 4), (121, .iaload), (122, .istore 4), (124, .goto (-54)), (127, .iload_n 2), (128, .bipush 13), (130, .if_icmp .eq 9), (133, .iload_n 2), (134, .bipush 16), (136, .if_icmp .ne 109), (139, .aload_n 0), (140, .getfield 106), (143, .iload_n 1), (144, .iaload), (145, .istore 4), (147, .aload_n 0), (148, .getfield 91), (151, .iload 4), (153, .iaload), (154, .bipush 23), (156, .if_icmp .eq 63), (159, .aload_n 0), (160, .getfield 91), (163, .iload 4), (165, .iaload), (166, .ifCond .eq 53), (169, .iload_n 3), (170, .ifCond .ne 31), (173, .iload_n 2), (174, .bipush 16), (176, .if_icmp .ne 29), (179, .aload_n 0), (180, .getfield 91), (183, .iload 4), (185, .iaload), (186, .bipush 16), (188, .if_icmp .ne 17), (191, .aload_n 0), (192, .iload 4), (194, .iload_n 1), (195, .invokevirtual 490), (198, .ifCond .eq 7), (201, .iconst 1), (202, .goto 4), (205, .iconst 0), (206, .istore_n 3), (207, .aload_n 0), (208, .getfield 106), (211, .iload 4), (213, .iaload), (214, .istore 4), (216, .goto (-69)), (219, .iload_n 3), (220, .ifCond .ne 19), (223, .iload_n 2), (224, .bipush 13), (226, .if_icmp .ne 17), (229, .aload_n 0), (230, .getfield 91), (233, .iload 4), (235, .iaload), (236, .ifCond .ne 7), (239, .iconst 1), (240, .goto 4), (243, .iconst 0), (244, .istore_n 3), (245, .iload_n 3), (246, .ireturn)]
def am_f268 : List (Nat × Instr) := [(0, .aload_n 0), (1, .getfield 91), (4, .iload_n 1), (5, .iaload), (6, .bipush 11), (8, .if_icmp .ne 7), (11, .iconst 1), (12, .goto 4), (15, .iconst 0), (16, .istore_n 2), (17, .aload_n 0), (18, .getfield 106), (21, .iload_n 1), (22, .iaload), (23, .istore_n 3), (24, .aload_n 0), (25, .getfield 91), (28, .iload_n 3), (29, .iaload), (30, .bipush 23), (32, .if_icmp .eq 144), (35, .aload_n 0), (36, .getfield 91), (39, .iload_n 3), (40, .iaload), (41, .ifCond .eq 135), (44, .aload_n 0), (45, .getfield 97), (48, .iload_n 1), (49, .iaload), (50, .ifCond .ne 32), (53, .aload_n 0), (54, .getfield 91), (57, .iload_n 3), (58, .iaload), (59, .invokestatic 506), (62, .ifCond .ne 18), (65, .iload_n 2), (66, .ifCond .ne 16), (69, .aload_n 0), (70, .getfield 91), (73, .iload_n 3), (74, .iaload), (75, .bipush 14), (77, .if_icmp .ne 5), (80, .iconst 1), (81, .ireturn), (82, .aload_n 0), (83, .getfield 97), (86, .iload_n 1), (87, .iaload), (88, .ifCond .le 78), (91, .aload_n 0), (92, .getfield 91), (95, .iload_n 3), (96, .iaload), (97, .bipush 16), (99, .if_icmp .ne 67), (102, .aload_n 0), (103, .iload_n 3), (104, .iload_n 1), (105, .invokevirtual 490), (108, .ifCond .eq 58), (111, .aload_n 0), (112, .getfield 100), (115, .iload_n 3), (116, .iaload), (117, .istore 4), (119, .aload_n 0), (120, .getfield 91), (123, .iload 4), (125, .iaload), (126, .bipush 16), (128, .if_icmp .ne 15), (131, .aload_n 0), (132, .getfield 100), (135, .iload 4), (137, .iaload), (138, .istore 4), (140, .goto (-21)), (143, .iload_n 2), (144, .ifCond .eq 16), (147, .aload_n 0), (148, .getfield 91), (151, .iload 4), (153, .iaload), (154, .invokestatic 506), (157, .ifCond .eq 7), (160, .iconst 1), (161, .goto 4), (164, .iconst 0), (165, .ireturn), (166, .aload_n 0), (167, .getfield 106), (170, .iload_n 3), (171, .iaload), (172, .istore_n 3), (173, .goto (-149)), (176, .iconst 0), (177, .ireturn)]
def am_f269 : List (Nat × Instr) := [(0, .iload_n 0), (1, .bipush 7), (3, .if_icmp .lt 13), (6, .iload_n 0), (7, .bipush 10), (9, .if_icmp .gt 7), (12, .iconst 1), (13, .goto 4), (16, .iconst 0), (17, .ireturn)]
def am_f270 : List (Nat × Instr) := [(0, .aload_n 0), (1, .iconst 0), (2, .putfield 518), (5, .aload_n 0), (6, .iconst 0), (7, .putfield 521), (10, .aload_n 0), (11, .iconst 0), (12, .putfield 524), (15, .aload_n 0), (16, .iconst 0), (17, .putfield 535), (20, .aload_n 0), (21, .iconst 5), (22, .aload_n 0), (23, .getfield 100), (26, .iload_n 1), (27, .iaload), (28, .iconst 0), (29, .invokevirtual 553), (32, .aload_n 0), (33, .getfield 535), (36, .ifCond .le 195), (39, .aload_n 0), (40, .dup), (41, .getfield 535), (44, .iconst 1), (45, .isub), (46, .putfield 535), (49, .aload_n 0), (50, .getfield 161), (53, .aload_n 0), (54, .getfield 535), (57, .iaload), (58, .istore_n 2), (59, .aload_n 0), (60, .getfield 164), (63, .aload_n 0), (64, .getfield 535), (67, .iaload), (68, .istore_n 3), (69, .aload_n 0), (70, .getfield 158), (73, .aload_n 0), (74, .getfield 535), (77, .iaload), (78, .istore 4), (80, .iload 4), (82, .tableswitch 138 1 12 #[62, 70, 78, 87, 95, 138, 138, 122, 138, 138, 138, 130]), (144, .aload_n 0), (145, .iload_n 2), (146, .invokevirtual 550), (149, .goto 79), (152, .aload_n 0), (153, .iload_n 2), (154, .invokevirtual 565), (157, .goto 71), (160, .aload_n 0), (161, .iload_n 2), (162, .iload_n 3), (163, .invokevirtual 595), (166, .goto 62), (169, .aload_n 0), (170, .iload_n 2), (171, .invokevirtual 598), (174, .goto 54), (177, .iload_n 2), (178, .iconst (-1)), (179, .if_icmp .eq 49), (182, .aload_n 0), (183, .iconst 5), (184, .aload_n 0), (185, .getfield 103), (188, .iload_n 2), (189, .iaload), (190, .iconst 0), (191, .invokevirtual 553), (194, .aload_n 0), (195, .iconst 4), (196, .iload_n 2), (197, .iconst 0), (198, .invokevirtual 553), (201, .goto 27), (204, .aload_n 0), (205, .iload_n 2), (206, .invokevirtual 562), (209, .goto 19), (212, .aload_n 0), (213, .iload_n 2), (214, .invokevirtual 601), (217, .goto 11), (220, .aload_n 0), (221, .iload 4), (223, .iload_n 2), (224, .iload_n 3), (225, .invokevirtual 604), (228, .goto (-196)), (231, .return_)]
def am_f271 : List (Nat × Instr) := [(0, .aload_n 0), (1, .getfield 158), (4, .aload_n 0), (5, .getfield 535), (8, .iload_n 1), (9, .iastore), (10, .aload_n 0), (11, .getfield 161), (14, .aload_n 0), (15, .getfield 535), (18, .iload_n 2), (19, .iastore), (20, .aload_n 0), (21, .getfield 164), (24, .aload_n 0), (25, .getfield 535), (28, .iload_n 3), (29, .iastore), (30, .aload_n 0), (31, .dup), (32, .getfield 535), (35, .iconst 1), (36, .iadd), (37, .putfield 535), (40, .return_)]
def am_f272 : List (Nat × Instr) := [(0, .iload_n 1), (1, .invokestatic 261), (4, .istore_n 2), (5, .aload_n 0), (6, .iload_n 1), (7, .bipush 8), (9, .iload_n 2), (10, .iconst 1), (11, .isub), (12, .imul), (13, .ishr), (14, .sipush 255), (17, .iand), (18, .invokevirtual 530), (21, .iload_n 2), (22, .iconst 1), (23, .isub), (24, .istore_n 3), (25, .iload_n 3), (26, .ifCond .lt 23), (29, .aload_n 0), (30, .iload_n 1), (31, .bipush 8), (33, .iload_n 3), (34, .imul), (35, .ishr), (36, .sipush 255), (39, .iand), (40, .invokevirtual 527), (43, .iinc 3 (-1)), (46, .goto (-21)), (49, .aload_n 0), (50, .iload_n 1), (51, .putfield 524), (54, .return_)]
def am_f273 : List (Nat × Instr) := [(0, .iload_n 1), (1, .invokestatic 218), (4, .ifCond .eq 33), (7, .aload_n 0), (8, .getfield 521), (11, .invokestatic 218), (14, .ifCond .ne 19), (17, .aload_n 0), (18, .getfield 524), (21, .iconst 2), (22, .if_icmp .eq 11), (25, .aload_n 0), (26, .getfield 524), (29, .iconst 4), (30, .if_icmp .ne 7), (33, .iconst 1), (34, .goto 4), (37, .iconst 0), (38, .istore_n 2), (39, .iload_n 2), (40, .ifCond .ne 29), (43, .aload_n 0), (44, .getfield 521), (47, .iload_n 1), (48, .if_icmp .ne 27), (51, .iload_n 1), (52, .bipush 43), (54, .if_icmp .eq 15), (57, .iload_n 1), (58, .bipush 45), (60, .if_icmp .eq 9), (63, .iload_n 1), (64, .bipush 47), (66, .if_icmp .ne 9), (69, .aload_n 0), (70, .bipush 32), (72, .invokevirtual 527), (75, .return_)]
def am_f274 : List (Nat × Instr) := [(0, .aload_n 0), (1, .getfield 155), (4, .aload_n 0), (5, .getfield 518), (8, .iload_n 1), (9, .i2b), (10, .bastore), (11, .aload_n 0), (12, .dup), (13, .getfield 518), (16, .iconst 1), (17, .iadd), (18, .putfield 518), (21, .aload_n 0), (22, .iload_n 1), (23, .putfield 521), (26, .return_)]
def am_f275 : List (Nat × Instr) := [(0, .iconst 0), (1, .istore_n 2), (2, .aload_n 0), (3, .getfield 61), (6, .iload_n 1), (7, .laload), (8, .iconst 5), (9, .iload_n 2), (10, .imul), (11, .lshr), (12, .lconst 0), (13, .lcmp), (14, .ifCond .le 9), (17, .iinc 2 1), (20, .goto (-18)), (23, .iload_n 2), (24, .iconst 1), (25, .isub), (26, .istore_n 3), (27, .iload_n 3), (28, .ifCond .lt 48), (31, .bipush 96), (33, .aload_n 0), (34, .getfield 61), (37, .iload_n 1), (38, .laload), (39, .iconst 5), (40, .iload_n 3), (41, .imul), (42, .lshr), (43, .ldc2_w 533), (46, .land), (47, .l2i), (48, .iadd), (49, .istore 4), (51, .iload_n 3), (52, .iload_n 2), (53, .iconst 1), (54, .isub), (55, .if_icmp .ne 9), (58, .aload_n 0), (59, .iload 4), (61, .invokevirtual 530), (64, .aload_n 0), (65, .iload 4), (67, .invokevirtual 527), (70, .iinc 3 (-1)), (73, .goto (-46)), (76, .aload_n 0), (77, .sipush 1000), (80, .iload_n 1), (81, .iadd), (82, .putfield 524), (85, .return_)]
def am_f276 : List (Nat × Instr) := [(0, .iload_n 2), (1, .sipush 256), (4, .iand), (5, .ifCond .le 7), (8, .iconst 1), (9, .goto 4), (12, .iconst 0), (13, .istore_n 3), (14, .iload_n 2), (15, .sipush 512), (18, .iand), (19, .ifCond .gt 28), (22, .aload_n 0), (23, .iload_n 1), (24, .invokevirtual 541), (27, .iload_n 2), (28, .sipush 255), (31, .iand), (32, .if_icmp .lt 15), (35, .iload_n 3), (36, .ifCond .eq 35), (39, .aload_n 0), (40, .iload_n 1), (41, .invokevirtual 547), (44, .ifCond .eq 27), (47, .aload_n 0), (48, .bipush 40), (50, .invokevirtual 550), (53, .aload_n 0), (54, .iconst 1), (55, .bipush 41), (57, .iconst 0), (58, .invokevirtual 553), (61, .aload_n 0), (62, .iconst 3), (63, .iload_n 1), (64, .iconst 0), (65, .invokevirtual 553), (68, .goto 32), (71, .aload_n 0), (72, .getfield 91), (75, .iload_n 1), (76, .iaload), (77, .bipush 44), (79, .if_icmp .ge 11), (82, .aload_n 0), (83, .iload_n 1), (84, .invokevirtual 556), (87, .goto 13), (90, .aload_n 0), (91, .iload_n 1), (92, .iload_n 2), (93, .sipush 256), (96, .iand), (97, .invokevirtual 559), (100, .return_)]
def am_f277 : List (Nat × Instr) := [(0, .aload_n 0), (1, .getfield 91), (4, .iload_n 1), (5, .iaload), (6, .tableswitch 61 44 49 #[58, 55, 44, 42, 40, 38]), (44, .iconst 0), (45, .ireturn), (46, .iconst 1), (47, .ireturn), (48, .iconst 2), (49, .ireturn), (50, .iconst 2), (51, .aload_n 0), (52, .iload_n 1), (53, .invokevirtual 538), (56, .invokestatic 343), (59, .iadd), (60, .ireturn), (61, .bipush 13), (63, .ireturn), (64, .bipush 14), (66, .ireturn), (67, .bipush 15), (69, .ireturn)]
def am_f278 : List (Nat × Instr) := [(0, .aload_n 0), (1, .getfield 84), (4, .aload_n 0), (5, .getfield 94), (8, .iload_n 1), (9, .iaload), (10, .baload), (11, .bipush 105), (13, .if_icmp .ne 7), (16, .sipush 1013), (19, .ireturn), (20, .iconst 0), (21, .istore_n 2), (22, .iconst 0), (23, .istore_n 3), (24, .iload_n 3), (25, .aload_n 0), (26, .getfield 97), (29, .iload_n 1), (30, .iaload), (31, .if_icmp .ge 28), (34, .iload_n 2), (35, .bipush 8), (37, .ishl), (38, .aload_n 0), (39, .getfield 84), (42, .aload_n 0), (43, .getfield 94), (46, .iload_n 1), (47, .iaload), (48, .iload_n 3), (49, .iadd), (50, .baload), (51, .ior), (52, .istore_n 2), (53, .iinc 3 1), (56, .goto (-32)), (59, .iload_n 2), (60, .ireturn)]
def am_f279 : List (Nat × Instr) := [(0, .aload_n 0), (1, .getfield 91), (4, .iload_n 1), (5, .iaload), (6, .bipush 46), (8, .if_icmp .ne 33), (11, .aload_n 0), (12, .getfield 84), (15, .aload_n 0), (16, .getfield 94), (19, .iload_n 1), (20, .iaload), (21, .baload), (22, .bipush 105), (24, .if_icmp .ne 17), (27, .aload_n 0), (28, .getfield 97), (31, .iload_n 1), (32, .iaload), (33, .iconst 2), (34, .if_icmp .ne 7), (37, .iconst 1), (38, .goto 4), (41, .iconst 0), (42, .ireturn)]
def am_f280 : List (Nat × Instr) := [(0, .aload_n 0), (1, .getfield 100), (4, .iload_n 1), (5, .iaload), (6, .istore_n 2), (7, .aload_n 0), (8, .getfield 91), (11, .iload_n 1), (12, .iaload), (13, .tableswitch 303 30 43 #[71, 303, 303, 303, 303, 303, 80, 105, 303, 130, 138, 177, 221, 221]), (84, .aload_n 0), (85, .bipush 19), (87, .invokevirtual 565), (90, .goto 231), (93, .aload_n 0), (94, .bipush 91), (96, .invokevirtual 550), (99, .aload_n 0), (100, .iconst 1), (101, .bipush 93), (103, .iconst 0), (104, .invokevirtual 553), (107, .aload_n 0), (108, .bipush 11), (110, .iload_n 2), (111, .iconst 0), (112, .invokevirtual 553), (115, .goto 206), (118, .aload_n 0), (119, .bipush 123), (121, .invokevirtual 550), (124, .aload_n 0), (125, .iconst 1), (126, .bipush 125), (128, .iconst 0), (129, .invokevirtual 553), (132, .aload_n 0), (133, .bipush 10), (135, .iload_n 2), (136, .iconst 0), (137, .invokevirtual 553), (140, .goto 181), (143, .aload_n 0), (144, .iload_n 1), (145, .invokevirtual 568), (148, .goto 173), (151, .aload_n 0), (152, .iconst 1), (153, .bipush 93), (155, .iconst 0), (156, .invokevirtual 553), (159, .aload_n 0), (160, .iconst 3), (161, .aload_n 0), (162, .getfield 103), (165, .iload_n 2), (166, .iaload), (167, .iconst 0), (168, .invokevirtual 553), (171, .aload_n 0), (172, .iconst 1), (173, .bipush 91), (175, .iconst 0), (176, .invokevirtual 553), (179, .aload_n 0), (180, .iconst 3), (181, .iload_n 2), (182, .bipush 15), (184, .invokevirtual 553), (187, .goto 134), (190, .aload_n 0), (191, .bipush 8), (193, .iload_n 1), (194, .iconst 0), (195, .invokevirtual 553), (198, .aload_n 0), (199, .iconst 1), (200, .bipush 46), (202, .iconst 0), (203, .invokevirtual 553), (206, .aload_n 0), (207, .iconst 3), (208, .iload_n 2), (209, .aload_n 0), (210, .getfield 91), (213, .iload_n 2), (214, .iaload), (215, .bipush 33), (217, .if_icmp .ne 9), (220, .sipush 527), (223, .goto 5), (226, .bipush 15), (228, .invokevirtual 553), (231, .goto 90), (234, .aload_n 0), (235, .iconst 1), (236, .bipush 41), (238, .iconst 0), (239, .invokevirtual 553), (242, .aload_n 0), (243, .bipush 6), (245, .aload_n 0), (246, .getfield 103), (249, .iload_n 2), (250, .iaload), (251, .iconst 1), (252, .invokevirtual 553), (255, .aload_n 0), (256, .iconst 1), (257, .bipush 40), (259, .iconst 0), (260, .invokevirtual 553), (263, .aload_n 0), (264, .iconst 3), (265, .iload_n 2), (266, .aload_n 0), (267, .getfield 91), (270, .iload_n 1), (271, .iaload), (272, .bipush 42), (274, .if_icmp .ne 17), (277, .aload_n 0), (278, .iload_n 2), (279, .invokevirtual 571), (282, .ifCond .eq 9), (285, .sipush 527), (288, .goto 5), (291, .bipush 15), (293, .invokevirtual 553), (296, .aload_n 0), (297, .getfield 91), (300, .iload_n 1), (301, .iaload), (302, .bipush 42), (304, .if_icmp .ne 17), (307, .aload_n 0), (308, .bipush 15), (310, .invokevirtual 565), (313, .goto 8), (316, .aload_n 0), (317, .iload_n 1), (318, .invokevirtual 562), (321, .return_)]
def am_f281 : List (Nat × Instr) := [(0, .aload_n 0), (1, .bipush 11), (3, .invokevirtual 565), (6, .aload_n 0), (7, .getfield 97), (10, .iload_n 1), (11, .iaload), (12, .ifCond .le 8), (15, .aload_n 0), (16, .iload_n 1), (17, .invokevirtual 562), (20, .aload_n 0), (21, .iconst 1), (22, .bipush 125), (24, .iconst 0), (25, .invokevirtual 553), (28, .aload_n 0), (29, .iconst 5), (30, .aload_n 0), (31, .getfield 100), (34, .aload_n 0), (35, .iload_n 1), (36, .invokevirtual 483), (39, .iaload), (40, .iconst 0), (41, .invokevirtual 553), (44, .aload_n 0), (45, .iconst 1), (46, .bipush 123), (48, .iconst 0), (49, .invokevirtual 553), (52, .aload_n 0), (53, .iconst 1), (54, .bipush 41), (56, .iconst 0), (57, .invokevirtual 553), (60, .aload_n 0), (61, .bipush 9), (63, .aload_n 0), (64, .getfield 100), (67, .iload_n 1), (68, .iaload), (69, .iconst 0), (70, .invokevirtual 553), (73, .aload_n 0), (74, .iconst 1), (75, .bipush 40), (77, .iconst 0), (78, .invokevirtual 553), (81, .return_)]
def am_f282 : List (Nat × Instr) := [(0, .aload_n 0), (1, .aload_n 0), (2, .getfield 84), (5, .aload_n 0), (6, .getfield 94), (9, .iload_n 1), (10, .iaload), (11, .baload), (12, .invokevirtual 530), (15, .iconst 0), (16, .istore_n 2), (17, .iload_n 2), (18, .aload_n 0), (19, .getfield 97), (22, .iload_n 1), (23, .iaload), (24, .if_icmp .ge 26), (27, .aload_n 0), (28, .aload_n 0), (29, .getfield 84), (32, .aload_n 0), (33, .getfield 94), (36, .iload_n 1), (37, .iaload), (38, .iload_n 2), (39, .iadd), (40, .baload), (41, .invokevirtual 527), (44, .iinc 2 1), (47, .goto (-30)), (50, .aload_n 0), (51, .getfield 84), (54, .aload_n 0), (55, .getfield 94), (58, .iload_n 1), (59, .iaload), (60, .baload), (61, .istore_n 2), (62, .aload_n 0), (63, .aload_n 0), (64, .getfield 91), (67, .iload_n 1), (68, .iaload), (69, .bipush 35), (71, .if_icmp .ne 7), (74, .iconst 4), (75, .goto 43), (78, .iload_n 2), (79, .invokestatic 182), (82, .ifCond .ne 31), (85, .aload_n 0), (86, .getfield 91), (89, .iload_n 1), (90, .iaload), (91, .bipush 33), (93, .if_icmp .eq 20), (96, .aload_n 0), (97, .getfield 91), (100, .iload_n 1), (101, .iaload), (102, .bipush 38), (104, .if_icmp .ne 13), (107, .iload_n 2), (108, .bipush 46), (110, .if_icmp .ne 7), (113, .iconst 2), (114, .goto 4), (117, .iconst 1), (118, .putfield 524), (121, .return_)]
def am_f283 : List (Nat × Instr) := [(0, .iload_n 1), (1, .istore_n 2), (2, .aload_n 0), (3, .getfield 91), (6, .iload_n 2), (7, .iaload), (8, .bipush 40), (10, .if_icmp .eq 14), (13, .aload_n 0), (14, .getfield 91), (17, .iload_n 2), (18, .iaload), (19, .bipush 41), (21, .if_icmp .ne 50), (24, .aload_n 0), (25, .getfield 100), (28, .iload_n 2), (29, .iaload), (30, .istore_n 3), (31, .aload_n 0), (32, .getfield 91), (35, .iload_n 3), (36, .iaload), (37, .bipush 43), (39, .if_icmp .gt 25), (42, .aload_n 0), (43, .getfield 91), (46, .iload_n 2), (47, .iaload), (48, .bipush 41), (50, .if_icmp .ne 16), (53, .aload_n 0), (54, .getfield 91), (57, .iload_n 3), (58, .iaload), (59, .bipush 33), (61, .if_icmp .ne 5), (64, .iconst 0), (65, .ireturn), (66, .iload_n 3), (67, .istore_n 2), (68, .goto (-66)), (71, .aload_n 0), (72, .getfield 91), (75, .iload_n 2), (76, .iaload), (77, .bipush 43), (79, .if_icmp .ne 7), (82, .iconst 1), (83, .goto 4), (86, .iconst 0), (87, .ireturn)]
def am_f284 : List (Nat × Instr) := [(0, .aload_n 0), (1, .getfield 100), (4, .iload_n 1), (5, .iaload), (6, .istore_n 3), (7, .aload_n 0), (8, .getfield 103), (11, .iload_n 3), (12, .iaload), (13, .istore 4), (15, .aload_n 0), (16, .iload_n 1), (17, .invokevirtual 541), (20, .istore 5), (22, .aload_n 0), (23, .getfield 91), (26, .iload_n 1), (27, .iaload), (28, .tableswitch 187 44 48 #[36, 55, 71, 105, 158]), (64, .aload_n 0), (65, .bipush 8), (67, .iload_n 1), (68, .iconst 0), (69, .invokevirtual 553), (72, .aload_n 0), (73, .iconst 3), (74, .iload_n 3), (75, .bipush 15), (77, .invokevirtual 553), (80, .goto 159), (83, .aload_n 0), (84, .iload_n 1), (85, .invokevirtual 562), (88, .aload_n 0), (89, .iconst 3), (90, .iload_n 3), (91, .bipush 13), (93, .invokevirtual 553), (96, .goto 143), (99, .aload_n 0), (100, .iconst 3), (101, .iload 4), (103, .iload 5), (105, .iconst 1), (106, .iadd), (107, .iload_n 2), (108, .ior), (109, .invokevirtual 553), (112, .aload_n 0), (113, .bipush 8), (115, .iload_n 1), (116, .iconst 0), (117, .invokevirtual 553), (120, .aload_n 0), (121, .iconst 3), (122, .iload_n 3), (123, .iload 5), (125, .iload_n 2), (126, .ior), (127, .invokevirtual 553), (130, .goto 109), (133, .aload_n 0), (134, .iconst 3), (135, .aload_n 0), (136, .getfield 103), (139, .iload 4), (141, .iaload), (142, .iconst 1), (143, .iload_n 2), (144, .ior), (145, .invokevirtual 553), (148, .aload_n 0), (149, .iconst 1), (150, .bipush 58), (152, .iconst 0), (153, .invokevirtual 553), (156, .aload_n 0), (157, .iconst 3), (158, .iload 4), (160, .iconst 1), (161, .iload_n 2), (162, .ior), (163, .invokevirtual 553), (166, .aload_n 0), (167, .iconst 1), (168, .bipush 63), (170, .iconst 0), (171, .invokevirtual 553), (174, .aload_n 0), (175, .iconst 3), (176, .iload_n 3), (177, .iconst 3), (178, .iload_n 2), (179, .ior), (180, .invokevirtual 553), (183, .goto 56), (186, .aload_n 0), (187, .iconst 3), (188, .iload 4), (190, .iconst 1), (191, .iload_n 2), (192, .ior), (193, .invokevirtual 553), (196, .aload_n 0), (197, .bipush 8), (199, .iload_n 1), (200, .iconst 0), (201, .invokevirtual 553), (204, .aload_n 0), (205, .iconst 3), (206, .iload_n 3), (207, .bipush 15), (209, .invokevirtual 553), (212, .goto 27), (215, .aload_n 0), (216, .bipush 6), (218, .iload 4), (220, .iconst 1), (221, .iload_n 2), (222, .ior), (223, .sipush 512), (226, .ior), (227, .invokevirtual 553), (230, .aload_n 0), (231, .iconst 3), (232, .iload_n 3), (233, .iconst 1), (234, .iload_n 2), (235, .ior), (236, .invokevirtual 553), (239, .return_)]
def am_f285 : List (Nat × Instr) := [(0, .aload_n 0), (1, .getfield 100), (4, .iload_n 1), (5, .iaload), (6, .istore_n 2), (7, .aload_n 0), (8, .getfield 91), (11, .iload_n 1), (12, .iaload), (13, .tableswitch 310 1 20 #[95, 103, 310, 128, 137, 310, 310, 310, 310, 310, 189, 189, 234, 310, 310, 279, 234, 310, 310, 302]), (108, .aload_n 0), (109, .iload_n 1), (110, .invokevirtual 574), (113, .goto 216), (116, .aload_n 0), (117, .bipush 24), (119, .invokevirtual 565), (122, .aload_n 0), (123, .iconst 1), (124, .bipush 59), (126, .iconst 0), (127, .invokevirtual 553), (130, .aload_n 0), (131, .bipush 7), (133, .iload_n 2), (134, .iconst 0), (135, .invokevirtual 553), (138, .goto 191), (141, .aload_n 0), (142, .bipush 59), (144, .invokevirtual 550), (147, .goto 182), (150, .aload_n 0), (151, .iconst 1), (152, .bipush 59), (154, .iconst 0), (155, .invokevirtual 553), (158, .aload_n 0), (159, .iconst 3), (160, .iload_n 2), (161, .aload_n 0), (162, .iload_n 2), (163, .invokevirtual 577), (166, .ifCond .ne 23), (169, .aload_n 0), (170, .getfield 91), (173, .iload_n 2), (174, .iaload), (175, .bipush 34), (177, .if_icmp .ne 18), (180, .aload_n 0), (181, .getfield 112), (184, .iload_n 2), (185, .baload), (186, .ifCond .eq 9), (189, .sipush 512), (192, .goto 4), (195, .iconst 0), (196, .invokevirtual 553), (199, .goto 130), (202, .aload_n 0), (203, .aload_n 0), (204, .getfield 91), (207, .iload_n 1), (208, .iaload), (209, .bipush 11), (211, .if_icmp .ne 7), (214, .iconst 3), (215, .goto 4), (218, .iconst 0), (219, .invokevirtual 565), (222, .aload_n 0), (223, .iconst 1), (224, .bipush 59), (226, .iconst 0), (227, .invokevirtual 553), (230, .aload_n 0), (231, .getfield 97), (234, .iload_n 1), (235, .iaload), (236, .ifCond .le 93), (239, .aload_n 0), (240, .iload_n 1), (241, .invokevirtual 562), (244, .goto 85), (247, .aload_n 0), (248, .aload_n 0), (249, .getfield 91), (252, .iload_n 1), (253, .iaload), (254, .bipush 13), (256, .if_icmp .ne 8), (259, .bipush 17), (261, .goto 5), (264, .bipush 20), (266, .invokevirtual 565), (269, .aload_n 0), (270, .iconst 1), (271, .bipush 59), (273, .iconst 0), (274, .invokevirtual 553), (277, .iload_n 2), (278, .iconst (-1)), (279, .if_icmp .eq 50), (282, .aload_n 0), (283, .iconst 3), (284, .iload_n 2), (285, .iconst 0), (286, .invokevirtual 553), (289, .goto 40), (292, .aload_n 0), (293, .iload_n 1), (294, .invokevirtual 562), (297, .aload_n 0), (298, .iconst 4), (299, .iload_n 2), (300, .iconst 0), (301, .invokevirtual 553), (304, .aload_n 0), (305, .iconst 1), (306, .bipush 58), (308, .iconst 0), (309, .invokevirtual 553), (312, .goto 17), (315, .aload_n 0), (316, .iload_n 1), (317, .invokevirtual 568), (320, .goto 9), (323, .aload_n 0), (324, .iload_n 1), (325, .iload_n 2), (326, .invokevirtual 580), (329, .return_)]
def am_f286 : List (Nat × Instr) := [(0, .aload_n 0), (1, .iconst 1), (2, .bipush 125), (4, .iconst 0), (5, .invokevirtual 553), (8, .aload_n 0), (9, .iconst 5), (10, .aload_n 0), (11, .getfield 100), (14, .iload_n 1), (15, .iaload), (16, .iconst 0), (17, .invokevirtual 553), (20, .aload_n 0), (21, .iconst 1), (22, .bipush 123), (24, .iconst 0), (25, .invokevirtual 553), (28, .return_)]
def am_f287 : List (Nat × Instr) := [(0, .iload_n 1), (1, .istore_n 2), (2, .iconst 1), (3, .istore_n 3), (4, .iload_n 3), (5, .ifCond .eq 78), (8, .aload_n 0), (9, .getfield 100), (12, .iload_n 2), (13, .iaload), (14, .istore 4), (16, .aload_n 0), (17, .iload_n 2), (18, .invokevirtual 544), (21, .bipush 100), (23, .if_icmp .ge 44), (26, .aload_n 0), (27, .iload 4), (29, .invokevirtual 541), (32, .aload_n 0), (33, .iload_n 2), (34, .invokevirtual 544), (37, .if_icmp .lt 30), (40, .aload_n 0), (41, .getfield 91), (44, .iload_n 2), (45, .iaload), (46, .bipush 41), (48, .if_icmp .ne 15), (51, .aload_n 0), (52, .getfield 91), (55, .iload 4), (57, .iaload), (58, .bipush 33), (60, .if_icmp .eq 7), (63, .iconst 1), (64, .goto 4), (67, .iconst 0), (68, .istore_n 3), (69, .iload_n 3), (70, .ifCond .eq 8), (73, .iload 4), (75, .goto 4), (78, .iload_n 2), (79, .istore_n 2), (80, .goto (-76)), (83, .aload_n 0), (84, .getfield 91), (87, .iload_n 2), (88, .iaload), (89, .bipush 37), (91, .if_icmp .eq 14), (94, .aload_n 0), (95, .getfield 91), (98, .iload_n 2), (99, .iaload), (100, .bipush 39), (102, .if_icmp .ne 7), (105, .iconst 1), (106, .goto 4), (109, .iconst 0), (110, .ireturn)]
def am_f288 : List (Nat × Instr) := [(0, .aload_n 0), (1, .getfield 91), (4, .iload_n 1), (5, .iaload), (6, .istore_n 2), (7, .iload_n 2), (8, .bipush 49), (10, .if_icmp .ne 7), (13, .iconst 1), (14, .goto 64), (17, .iload_n 2), (18, .bipush 47), (20, .if_icmp .ne 7), (23, .iconst 3), (24, .goto 54), (27, .iload_n 2), (28, .bipush 46), (30, .if_icmp .ne 11), (33, .aload_n 0), (34, .iload_n 1), (35, .invokevirtual 541), (38, .goto 40), (41, .iload_n 2), (42, .bipush 48), (44, .if_icmp .eq 27), (47, .iload_n 2), (48, .bipush 44), (50, .if_icmp .eq 21), (53, .iload_n 2), (54, .bipush 43), (56, .if_icmp .eq 15), (59, .iload_n 2), (60, .bipush 41), (62, .if_icmp .eq 9), (65, .iload_n 2), (66, .bipush 40), (68, .if_icmp .ne 8), (71, .bipush 15), (73, .goto 5), (76, .bipush 100), (78, .ireturn)]
def am_f289 : List (Nat × Instr) := [(0, .aload_n 0), (1, .getfield 103), (4, .iload_n 2), (5, .iaload), (6, .istore_n 3), (7, .aload_n 0), (8, .getfield 91), (11, .iload_n 1), (12, .iaload), (13, .tableswitch 264 6 14 #[51, 102, 139, 160, 169, 264, 264, 264, 226]), (64, .aload_n 0), (65, .bipush 12), (67, .invokevirtual 565), (70, .aload_n 0), (71, .getfield 109), (74, .iload_n 1), (75, .iaload), (76, .iconst 3), (77, .if_icmp .ne 23), (80, .aload_n 0), (81, .iconst 4), (82, .aload_n 0), (83, .getfield 103), (86, .iload_n 3), (87, .iaload), (88, .iconst 0), (89, .invokevirtual 553), (92, .aload_n 0), (93, .iconst 2), (94, .bipush 7), (96, .iconst 0), (97, .invokevirtual 553), (100, .aload_n 0), (101, .iconst 4), (102, .iload_n 3), (103, .iconst 0), (104, .invokevirtual 553), (107, .aload_n 0), (108, .iload_n 2), (109, .invokevirtual 583), (112, .goto 177), (115, .aload_n 0), (116, .bipush 6), (118, .invokevirtual 565), (121, .aload_n 0), (122, .iconst 1), (123, .bipush 59), (125, .iconst 0), (126, .invokevirtual 553), (129, .aload_n 0), (130, .iload_n 3), (131, .invokevirtual 583), (134, .aload_n 0), (135, .iconst 2), (136, .bipush 26), (138, .iconst 0), (139, .invokevirtual 553), (142, .aload_n 0), (143, .iconst 4), (144, .iload_n 2), (145, .iconst 0), (146, .invokevirtual 553), (149, .goto 140), (152, .aload_n 0), (153, .bipush 26), (155, .invokevirtual 565), (158, .aload_n 0), (159, .iconst 4), (160, .iload_n 3), (161, .iconst 0), (162, .invokevirtual 553), (165, .aload_n 0), (166, .iload_n 2), (167, .invokevirtual 583), (170, .goto 119), (173, .aload_n 0), (174, .iload_n 1), (175, .iload_n 2), (176, .invokevirtual 586), (179, .goto 110), (182, .aload_n 0), (183, .bipush 10), (185, .invokevirtual 565), (188, .aload_n 0), (189, .iconst 4), (190, .aload_n 0), (191, .getfield 103), (194, .iload_n 3), (195, .iaload), (196, .iconst 0), (197, .invokevirtual 553), (200, .aload_n 0), (201, .iconst 1), (202, .bipush 41), (204, .iconst 0), (205, .invokevirtual 553), (208, .aload_n 0), (209, .iconst 3), (210, .iload_n 3), (211, .iconst 0), (212, .invokevirtual 553), (215, .aload_n 0), (216, .iconst 2), (217, .bipush 13), (219, .iconst 0), (220, .invokevirtual 553), (223, .aload_n 0), (224, .iload_n 2), (225, .invokevirtual 589), (228, .aload_n 0), (229, .iconst 1), (230, .bipush 40), (232, .iconst 0), (233, .invokevirtual 553), (236, .goto 53), (239, .aload_n 0), (240, .bipush 18), (242, .invokevirtual 565), (245, .aload_n 0), (246, .iconst 1), (247, .bipush 125), (249, .iconst 0), (250, .invokevirtual 553), (253, .aload_n 0), (254, .bipush 12), (256, .iload_n 3), (257, .iconst 0), (258, .invokevirtual 553), (261, .aload_n 0), (262, .iconst 1), (263, .bipush 123), (265, .iconst 0), (266, .invokevirtual 553), (269, .aload_n 0), (270, .iload_n 2), (271, .invokevirtual 583), (274, .goto 15), (277, .aload_n 0), (278, .iload_n 2), (279, .iload_n 3), (280, .aload_n 0), (281, .getfield 103), (284, .iload_n 3), (285, .iaload), (286, .invokevirtual 592), (289, .return_)]
def am_f290 : List (Nat × Instr) := [(0, .aload_n 0), (1, .iconst 1), (2, .bipush 41), (4, .iconst 0), (5, .invokevirtual 553), (8, .aload_n 0), (9, .iconst 3), (10, .iload_n 1), (11, .iconst 0), (12, .invokevirtual 553), (15, .aload_n 0), (16, .iconst 1), (17, .bipush 40), (19, .iconst 0), (20, .invokevirtual 553), (23, .return_)]
def am_f291 : List (Nat × Instr) := [(0, .aload_n 0), (1, .getfield 103), (4, .iload_n 2), (5, .iaload), (6, .istore_n 3), (7, .aload_n 0), (8, .getfield 103), (11, .iload_n 3), (12, .iaload), (13, .istore 4), (15, .aload_n 0), (16, .bipush 10), (18, .invokevirtual 565), (21, .aload_n 0), (22, .iconst 4), (23, .aload_n 0), (24, .getfield 103), (27, .iload 4), (29, .iaload), (30, .iconst 0), (31, .invokevirtual 553), (34, .aload_n 0), (35, .iconst 1), (36, .bipush 41), (38, .iconst 0), (39, .invokevirtual 553), (42, .aload_n 0), (43, .getfield 91), (46, .iload 4), (48, .iaload), (49, .bipush 21), (51, .if_icmp .eq 11), (54, .aload_n 0), (55, .iconst 3), (56, .iload 4), (58, .iconst 0), (59, .invokevirtual 553), (62, .aload_n 0), (63, .iconst 1), (64, .bipush 59), (66, .iconst 0), (67, .invokevirtual 553), (70, .aload_n 0), (71, .getfield 91), (74, .iload_n 3), (75, .iaload), (76, .bipush 21), (78, .if_icmp .eq 10), (81, .aload_n 0), (82, .iconst 3), (83, .iload_n 3), (84, .iconst 0), (85, .invokevirtual 553), (88, .aload_n 0), (89, .iconst 1), (90, .bipush 59), (92, .iconst 0), (93, .invokevirtual 553), (96, .aload_n 0), (97, .iload_n 2), (98, .invokevirtual 589), (101, .aload_n 0), (102, .iconst 1), (103, .bipush 40), (105, .iconst 0), (106, .invokevirtual 553), (109, .return_)]
def am_f292 : List (Nat × Instr) := [(0, .aload_n 0), (1, .getfield 91), (4, .iload_n 1), (5, .iaload), (6, .iconst 2), (7, .if_icmp .ne 29), (10, .aload_n 0), (11, .bipush 7), (13, .aload_n 0), (14, .getfield 100), (17, .iload_n 1), (18, .iaload), (19, .sipush 256), (22, .invokevirtual 553), (25, .aload_n 0), (26, .iconst 2), (27, .bipush 24), (29, .iconst 0), (30, .invokevirtual 553), (33, .goto 23), (36, .aload_n 0), (37, .getfield 91), (40, .iload_n 1), (41, .iaload), (42, .bipush 21), (44, .if_icmp .eq 12), (47, .aload_n 0), (48, .iconst 3), (49, .iload_n 1), (50, .sipush 256), (53, .invokevirtual 553), (56, .return_)]
def am_f293 : List (Nat × Instr) := [(0, .aload_n 0), (1, .bipush 22), (3, .invokevirtual 565), (6, .aload_n 0), (7, .getfield 91), (10, .iload_n 3), (11, .iaload), (12, .bipush 21), (14, .if_icmp .eq 16), (17, .aload_n 0), (18, .iload_n 3), (19, .invokevirtual 574), (22, .aload_n 0), (23, .iconst 2), (24, .bipush 9), (26, .iconst 0), (27, .invokevirtual 553), (30, .aload_n 0), (31, .getfield 91), (34, .iload_n 2), (35, .iaload), (36, .bipush 21), (38, .if_icmp .eq 44), (41, .aload_n 0), (42, .aload_n 0), (43, .getfield 100), (46, .iload_n 2), (47, .iaload), (48, .invokevirtual 574), (51, .aload_n 0), (52, .iconst 1), (53, .bipush 41), (55, .iconst 0), (56, .invokevirtual 553), (59, .aload_n 0), (60, .bipush 8), (62, .iload_n 2), (63, .iconst 0), (64, .invokevirtual 553), (67, .aload_n 0), (68, .iconst 1), (69, .bipush 40), (71, .iconst 0), (72, .invokevirtual 553), (75, .aload_n 0), (76, .iconst 2), (77, .iconst 2), (78, .iconst 0), (79, .invokevirtual 553), (82, .aload_n 0), (83, .iload_n 1), (84, .invokevirtual 574), (87, .return_)]
def am_f294 : List (Nat × Instr) := [(0, .iload_n 1), (1, .iconst (-1)), (2, .if_icmp .ne 4), (5, .return_), (6, .aload_n 0), (7, .getfield 100), (10, .iload_n 1), (11, .iaload), (12, .istore_n 2), (13, .aload_n 0), (14, .bipush 12), (16, .aload_n 0), (17, .getfield 103), (20, .iload_n 1), (21, .iaload), (22, .iconst 0), (23, .invokevirtual 553), (26, .aload_n 0), (27, .iconst 5), (28, .aload_n 0), (29, .getfield 103), (32, .iload_n 2), (33, .iaload), (34, .iconst 0), (35, .invokevirtual 553), (38, .aload_n 0), (39, .iconst 1), (40, .bipush 58), (42, .iconst 0), (43, .invokevirtual 553), (46, .aload_n 0), (47, .getfield 91), (50, .iload_n 2), (51, .iaload), (52, .bipush 21), (54, .if_icmp .ne 11), (57, .aload_n 0), (58, .iconst 4), (59, .invokevirtual 565), (62, .goto 15), (65, .aload_n 0), (66, .iconst 3), (67, .iload_n 2), (68, .iconst 0), (69, .invokevirtual 553), (72, .aload_n 0), (73, .iconst 1), (74, .invokevirtual 565), (77, .return_)]
def am_f295 : List (Nat × Instr) := [(0, .iload_n 2), (1, .iconst (-1)), (2, .if_icmp .eq 14), (5, .aload_n 0), (6, .getfield 91), (9, .iload_n 2), (10, .iaload), (11, .bipush 23), (13, .if_icmp .ne 4), (16, .return_), (17, .iload_n 3), (18, .sipush 512), (21, .iand), (22, .ifCond .le 7), (25, .iconst 1), (26, .goto 4), (29, .iconst 0), (30, .istore 4), (32, .iload_n 3), (33, .sipush 512), (36, .ior), (37, .istore 5), (39, .iload 4), (41, .ifCond .eq 9), (44, .aload_n 0), (45, .bipush 44), (47, .invokevirtual 550), (50, .iload_n 1), (51, .bipush 11), (53, .if_icmp .ne 30), (56, .aload_n 0), (57, .getfield 91), (60, .iload_n 2), (61, .iaload), (62, .bipush 21), (64, .if_icmp .ne 19), (67, .aload_n 0), (68, .getfield 103), (71, .iload_n 2), (72, .iaload), (73, .iconst (-1)), (74, .if_icmp .ne 9), (77, .aload_n 0), (78, .bipush 44), (80, .invokevirtual 550), (83, .aload_n 0), (84, .iload_n 1), (85, .aload_n 0), (86, .getfield 103), (89, .iload_n 2), (90, .iaload), (91, .iload 5), (93, .invokevirtual 553), (96, .iload_n 1), (97, .bipush 6), (99, .if_icmp .eq 20), (102, .iload_n 1), (103, .bipush 11), (105, .if_icmp .ne 30), (108, .aload_n 0), (109, .getfield 91), (112, .iload_n 2), (113, .iaload), (114, .bipush 21), (116, .if_icmp .eq 19), (119, .aload_n 0), (120, .iconst 3), (121, .iload_n 2), (122, .iconst 1), (123, .iload_n 3), (124, .sipush 256), (127, .iand), (128, .ior), (129, .invokevirtual 553), (132, .goto 97), (135, .iload_n 1), (136, .bipush 7), (138, .if_icmp .ne 46), (141, .aload_n 0), (142, .getfield 109), (145, .iload_n 2), (146, .iaload), (147, .ifCond .le 37), (150, .aload_n 0), (151, .iload_n 2), (152, .invokevirtual 562), (155, .aload_n 0), (156, .iconst 3), (157, .aload_n 0), (158, .getfield 100), (161, .iload_n 2), (162, .iaload), (163, .iconst 1), (164, .iload_n 3), (165, .sipush 256), (168, .iand), (169, .ior), (170, .invokevirtual 553), (173, .aload_n 0), (174, .iconst 1), (175, .bipush 61), (177, .iconst 0), (178, .invokevirtual 553), (181, .goto 48), (184, .iload_n 1), (185, .bipush 10), (187, .if_icmp .ne 31), (190, .aload_n 0), (191, .iload_n 2), (192, .invokevirtual 562), (195, .aload_n 0), (196, .iconst 3), (197, .aload_n 0), (198, .getfield 100), (201, .iload_n 2), (202, .iaload), (203, .iconst 1), (204, .invokevirtual 553), (207, .aload_n 0), (208, .iconst 1), (209, .bipush 58), (211, .iconst 0), (212, .invokevirtual 553), (215, .goto 14), (218, .iload_n 1), (219, .bipush 11), (221, .if_icmp .eq 8), (224, .aload_n 0), (225, .iload_n 2), (226, .invokevirtual 562), (229, .return_)]
def am_f296 : List (Nat × Instr) := [(0, .aload_n 0), (1, .iconst 0), (2, .putfield 167), (5, .iload_n 1), (6, .ifCond .ne 10), (9, .aload_n 0), (10, .getfield 188), (13, .goto 28), (16, .iload_n 1), (17, .iconst 1), (18, .if_icmp .ne 10), (21, .aload_n 0), (22, .getfield 87), (25, .goto 16), (28, .iload_n 1), (29, .iconst 2), (30, .if_icmp .ne 10), (33, .aload_n 0), (34, .getfield 328), (37, .goto 4), (40, .iconst (-1)), (41, .ireturn)]
def am_f297 : List (Nat × Instr) := [(0, .aload_n 0), (1, .iload_n 1), (2, .ifCond .lt 20), (5, .iload_n 1), (6, .aload_n 0), (7, .getfield 623), (10, .if_icmp .ge 12), (13, .iload_n 2), (14, .ifCond .lt 8), (17, .iload_n 2), (18, .iconst 5), (19, .if_icmp .le 7), (22, .iconst 1), (23, .goto 4), (26, .iconst 0), (27, .putfield 167), (30, .aload_n 0), (31, .getfield 167), (34, .ifCond .le 7), (37, .iconst 0), (38, .goto 14), (41, .aload_n 0), (42, .getfield 152), (45, .bipush 6), (47, .iload_n 1), (48, .imul), (49, .iload_n 2), (50, .iadd), (51, .iaload), (52, .ireturn)]
def am_f298 : List (Nat × Instr) := [(0, .aload_n 0), (1, .iconst 0), (2, .putfield 167), (5, .iconst 0), (6, .istore_n 2), (7, .iconst 0), (8, .istore_n 3), (9, .iload_n 3), (10, .aload_n 0), (11, .getfield 623), (14, .if_icmp .ge 30), (17, .aload_n 0), (18, .getfield 152), (21, .bipush 6), (23, .iload_n 3), (24, .imul), (25, .iaload), (26, .iload_n 1), (27, .if_icmp .ne 9), (30, .iload_n 2), (31, .iconst 1), (32, .iadd), (33, .goto 4), (36, .iload_n 2), (37, .istore_n 2), (38, .iinc 3 1), (41, .goto (-32)), (44, .iload_n 2), (45, .ireturn)]
def am_f299 : List (Nat × Instr) := [(0, .aload_n 0), (1, .iconst 0), (2, .putfield 167), (5, .iload_n 1), (6, .iconst (-1)), (7, .if_icmp .ne 10), (10, .aload_n 0), (11, .getfield 518), (14, .goto 25), (17, .iload_n 1), (18, .ifCond .lt 20), (21, .iload_n 1), (22, .aload_n 0), (23, .getfield 518), (26, .if_icmp .ge 12), (29, .aload_n 0), (30, .getfield 155), (33, .iload_n 1), (34, .baload), (35, .goto 4), (38, .iconst (-1)), (39, .ireturn)]
def am_f300 : List (Nat × Instr) := [(0, .aload_n 0), (1, .iconst 0), (2, .putfield 167), (5, .aload_n 0), (6, .getfield 629), (9, .ifCond .eq 13), (12, .aload_n 0), (13, .getfield 518), (16, .sipush 480), (19, .if_icmp .le 5), (22, .iconst 0), (23, .ireturn), (24, .iconst 0), (25, .istore_n 1), (26, .iload_n 1), (27, .aload_n 0), (28, .getfield 518), (31, .if_icmp .ge 21), (34, .aload_n 0), (35, .getfield 80), (38, .iload_n 1), (39, .aload_n 0), (40, .getfield 155), (43, .iload_n 1), (44, .baload), (45, .bastore), (46, .iinc 1 1), (49, .goto (-23)), (52, .aload_n 0), (53, .aload_n 0), (54, .getfield 518), (57, .putfield 170), (60, .iconst 1), (61, .ireturn)]
/-- a method: its name, the place of its code, its locals, its answer, its class, its rows -/
abbrev am_Me : Type := MethodName × Nat × Nat × Option FieldType × Nat × List (Nat × Instr)
def am_me0 : List am_Me := [(⟨"ScriptFront", "<init>", "()V"⟩, 249, 1, (Option.none : Option FieldType), 0, am_f0), (⟨"ScriptFront$Tape", "<init>", "()V"⟩, 257, 1, (Option.none : Option FieldType), 1, am_f1), (⟨"ScriptFront$Flaw", "<init>", "()V"⟩, 276, 1, (Option.none : Option FieldType), 2, am_f2), (⟨"ScriptFront$Draft", "<init>", "(LScriptFront$Flaw;)V"⟩, 295, 2, (Option.none : Option FieldType), 3, am_f3), (⟨"ScriptFront$Scanner", "<init>", "(LScriptFront$Tape;LScriptFront$Flaw;)V"⟩, 338, 3, (Option.none : Option FieldType), 5, am_f4), (⟨"ScriptFront$Parser", "<init>", "(LScriptFront$Scanner;LScriptFront$Draft;LScriptFront$Flaw;)V"⟩, 371, 4, (Option.none : Option FieldType), 4, am_f5), (⟨"ScriptFront$Tree", "<init>", "()V"⟩, 403, 1, (Option.none : Option FieldType), 6, am_f6), (⟨"ScriptFront$Judge", "<init>", "(LScriptFront$Tape;LScriptFront$Flaw;LScriptFront$Tree;)V"⟩, 441, 4, (Option.none : Option FieldType), 7, am_f7), (⟨"ScriptFront$Printer", "<init>", "(LScriptFront$Tape;LScriptFront$Tree;)V"⟩, 457, 3, (Option.none : Option FieldType), 8, am_f8), (⟨"ScriptFront", "type", "(JI)Z"⟩, 510, 5, (Option.some FieldType.boolean), 0, am_f9), (⟨"ScriptFront$Tape", "isTypable", "(I)Z"⟩, 513, 1, (Option.some FieldType.boolean), 1, am_f10), (⟨"ScriptFront$Tape", "isLineEnd", "(I)Z"⟩, 516, 1, (Option.some FieldType.boolean), 1, am_f11), (⟨"ScriptFront$Tape", "put", "(I)V"⟩, 520, 2, (Option.none : Option FieldType), 1, am_f12), (⟨"ScriptFront", "fault", "(I)I"⟩, 524, 2, (Option.some FieldType.int), 0, am_f13), (⟨"ScriptFront", "many", "(I)I"⟩, 528, 4, (Option.some FieldType.int), 0, am_f14), (⟨"ScriptFront$Tree", "kindOf", "(I)I"⟩, 532, 2, (Option.some FieldType.int), 6, am_f15), (⟨"ScriptFront$Tree", "has", "(I)Z"⟩, 536, 2, (Option.some FieldType.boolean), 6, am_f16), (⟨"ScriptFront", "printed", "(I)I"⟩, 540, 2, (Option.some FieldType.int), 0, am_f17), (⟨"ScriptFront$Printer", "at", "(I)I"⟩, 544, 2, (Option.some FieldType.int), 8, am_f18), (⟨"ScriptFront", "again", "()Z"⟩, 548, 2, (Option.some FieldType.boolean), 0, am_f19), (⟨"ScriptFront", "parse", "()I"⟩, 556, 3, (Option.some FieldType.int), 0, am_f20), (⟨"ScriptFront$Tape", "becomeText", "()V"⟩, 560, 1, (Option.none : Option FieldType), 1, am_f21), (⟨"ScriptFront$Flaw", "clear", "()V"⟩, 564, 1, (Option.none : Option FieldType), 2, am_f22), (⟨"ScriptFront$Parser", "read", "()I"⟩, 568, 3, (Option.some FieldType.int), 4, am_f23), (⟨"ScriptFront$Draft", "clear", "()V"⟩, 572, 1, (Option.none : Option FieldType), 3, am_f24), (⟨"ScriptFront$Scanner", "begin", "()V"⟩, 576, 1, (Option.none : Option FieldType), 5, am_f25), (⟨"ScriptFront$Scanner", "next", "()V"⟩, 580, 2, (Option.none : Option FieldType), 5, am_f26), (⟨"ScriptFront$Scanner", "behindBlanks", "(I)I"⟩, 584, 6, (Option.some FieldType.int), 5, am_f27), (⟨"ScriptFront$Tape", "at", "(I)I"⟩, 588, 2, (Option.some FieldType.int), 1, am_f28), (⟨"ScriptFront$Scanner", "behindLine", "(I)I"⟩, 593, 3, (Option.some FieldType.int), 5, am_f29), (⟨"ScriptFront$Scanner", "behindComment", "(I)I"⟩, 597, 5, (Option.some FieldType.int), 5, am_f30), (⟨"ScriptFront$Tape", "isDigit", "(I)Z"⟩, 600, 1, (Option.some FieldType.boolean), 1, am_f31), (⟨"ScriptFront$Scanner", "readNumber", "()V"⟩, 604, 4, (Option.none : Option FieldType), 5, am_f32), (⟨"ScriptFront$Scanner", "refuseIf", "(Z)V"⟩, 608, 2, (Option.none : Option FieldType), 5, am_f33), (⟨"ScriptFront$Flaw", "raise", "(II)V"⟩, 612, 3, (Option.none : Option FieldType), 2, am_f34), (⟨"ScriptFront$Scanner", "behindDigits", "(IZ)I"⟩, 683, 7, (Option.some FieldType.int), 5, am_f35), (⟨"ScriptFront$Scanner", "exponentPlace", "(I)I"⟩, 687, 4, (Option.some FieldType.int), 5, am_f36), (⟨"ScriptFront$Tape", "isNameChar", "(I)Z"⟩, 690, 2, (Option.some FieldType.boolean), 1, am_f37), (⟨"ScriptFront$Scanner", "readName", "()V"⟩, 694, 2, (Option.none : Option FieldType), 5, am_f38), (⟨"ScriptFront$Scanner", "wordCode", "()I"⟩, 698, 5, (Option.some FieldType.int), 5, am_f39)]
def am_me1 : List am_Me := [(⟨"ScriptFront$Scanner", "length", "()I"⟩, 702, 1, (Option.some FieldType.int), 5, am_f40), (⟨"jdk/internal/util/Preconditions", "checkIndex", "(IILjava/util/function/BiFunction;)I"⟩, 732, 3, (Option.some FieldType.int), 11, am_f41), (⟨"ScriptFront$Scanner", "readString", "(I)V"⟩, 755, 5, (Option.none : Option FieldType), 5, am_f42), (⟨"ScriptFront$Scanner", "readSign", "()V"⟩, 759, 4, (Option.none : Option FieldType), 5, am_f43), (⟨"ScriptFront$Token", "isSign", "(I)Z"⟩, 762, 2, (Option.some FieldType.boolean), 10, am_f44), (⟨"ScriptFront$Draft", "make", "(IIII)I"⟩, 768, 6, (Option.some FieldType.int), 3, am_f45), (⟨"ScriptFront$Parser", "element", "(I)I"⟩, 773, 2, (Option.some FieldType.int), 4, am_f46), (⟨"ScriptFront$Parser", "statement", "(I)I"⟩, 777, 3, (Option.some FieldType.int), 4, am_f47), (⟨"ScriptFront$Parser", "beginWithin", "(I)V"⟩, 781, 2, (Option.none : Option FieldType), 4, am_f48), (⟨"ScriptFront$Scanner", "operandDue", "()V"⟩, 785, 1, (Option.none : Option FieldType), 5, am_f49), (⟨"ScriptFront$Scanner", "readPattern", "()V"⟩, 789, 5, (Option.none : Option FieldType), 5, am_f50), (⟨"ScriptFront$Scanner", "behindFlags", "(I)I"⟩, 793, 7, (Option.some FieldType.int), 5, am_f51), (⟨"ScriptFront$Parser", "refuse", "()V"⟩, 797, 1, (Option.none : Option FieldType), 4, am_f52), (⟨"ScriptFront$Parser", "unended", "(I)I"⟩, 802, 2, (Option.some FieldType.int), 4, am_f53), (⟨"ScriptFront$Parser", "block", "(I)I"⟩, 806, 4, (Option.some FieldType.int), 4, am_f54), (⟨"ScriptFront$Parser", "demand", "(I)V"⟩, 810, 2, (Option.none : Option FieldType), 4, am_f55), (⟨"ScriptFront$Parser", "makeFirst", "(I)I"⟩, 814, 3, (Option.some FieldType.int), 4, am_f56), (⟨"ScriptFront$Parser", "listGoesOn", "()Z"⟩, 819, 1, (Option.some FieldType.boolean), 4, am_f57), (⟨"ScriptFront$Draft", "add", "(II)V"⟩, 823, 4, (Option.none : Option FieldType), 3, am_f58), (⟨"ScriptFront$Draft", "has", "(I)Z"⟩, 827, 2, (Option.some FieldType.boolean), 3, am_f59), (⟨"ScriptFront$Parser", "pass", "(I)V"⟩, 831, 2, (Option.none : Option FieldType), 4, am_f60), (⟨"ScriptFront$Parser", "declarators", "(IZ)I"⟩, 835, 5, (Option.some FieldType.int), 4, am_f61), (⟨"ScriptFront$Parser", "declarator", "(IZ)I"⟩, 839, 4, (Option.some FieldType.int), 4, am_f62), (⟨"ScriptFront$Parser", "demandName", "()V"⟩, 843, 1, (Option.none : Option FieldType), 4, am_f63), (⟨"ScriptFront$Parser", "makeOf", "(I)I"⟩, 847, 3, (Option.some FieldType.int), 4, am_f64), (⟨"ScriptFront$Parser", "x", "(IZ)I"⟩, 852, 5, (Option.some FieldType.int), 4, am_f65), (⟨"ScriptFront$Parser", "choice", "(IZ)I"⟩, 856, 5, (Option.some FieldType.int), 4, am_f66), (⟨"ScriptFront$Parser", "binary", "(IZ)I"⟩, 860, 8, (Option.some FieldType.int), 4, am_f67), (⟨"ScriptFront$Parser", "unary", "(I)I"⟩, 864, 5, (Option.some FieldType.int), 4, am_f68), (⟨"ScriptFront$Token", "isPrefix", "(I)Z"⟩, 867, 1, (Option.some FieldType.boolean), 10, am_f69), (⟨"ScriptFront$Parser", "left", "(I)I"⟩, 871, 4, (Option.some FieldType.int), 4, am_f70), (⟨"ScriptFront$Parser", "head", "(I)I"⟩, 875, 2, (Option.some FieldType.int), 4, am_f71), (⟨"ScriptFront$Parser", "creation", "(I)I"⟩, 879, 3, (Option.some FieldType.int), 4, am_f72), (⟨"ScriptFront$Parser", "member", "(I)I"⟩, 883, 4, (Option.some FieldType.int), 4, am_f73), (⟨"ScriptFront$Parser", "access", "(II)I"⟩, 887, 4, (Option.some FieldType.int), 4, am_f74), (⟨"ScriptFront$Parser", "makeHere", "(I)I"⟩, 891, 2, (Option.some FieldType.int), 4, am_f75), (⟨"ScriptFront$Parser", "sequence", "(IZ)I"⟩, 895, 6, (Option.some FieldType.int), 4, am_f76), (⟨"ScriptFront$Parser", "arguments", "(II)V"⟩, 899, 4, (Option.none : Option FieldType), 4, am_f77), (⟨"ScriptFront$Parser", "operand", "(I)I"⟩, 903, 2, (Option.some FieldType.int), 4, am_f78), (⟨"ScriptFront$Parser", "codedOperand", "(I)I"⟩, 907, 3, (Option.some FieldType.int), 4, am_f79)]
def am_me2 : List am_Me := [(⟨"ScriptFront$Parser", "function", "(II)I"⟩, 911, 6, (Option.some FieldType.int), 4, am_f80), (⟨"ScriptFront$Parser", "body", "(I)I"⟩, 915, 4, (Option.some FieldType.int), 4, am_f81), (⟨"ScriptFront$Parser", "array", "(I)I"⟩, 919, 4, (Option.some FieldType.int), 4, am_f82), (⟨"ScriptFront$Parser", "nothing", "()I"⟩, 923, 1, (Option.some FieldType.int), 4, am_f83), (⟨"ScriptFront$Parser", "object", "(I)I"⟩, 927, 4, (Option.some FieldType.int), 4, am_f84), (⟨"ScriptFront$Parser", "property", "(I)I"⟩, 931, 4, (Option.some FieldType.int), 4, am_f85), (⟨"ScriptFront$Parser", "call", "(II)I"⟩, 935, 4, (Option.some FieldType.int), 4, am_f86), (⟨"ScriptFront$Token", "strengthOf", "(I)I"⟩, 938, 1, (Option.some FieldType.int), 10, am_f87), (⟨"ScriptFront$Parser", "closeWaiting", "(III)I"⟩, 942, 6, (Option.some FieldType.int), 4, am_f88), (⟨"ScriptFront$Parser", "hold", "(II)V"⟩, 946, 3, (Option.none : Option FieldType), 4, am_f89), (⟨"ScriptFront$Token", "isAssignment", "(I)Z"⟩, 949, 1, (Option.some FieldType.boolean), 10, am_f90), (⟨"ScriptFront$Parser", "ifStatement", "(I)I"⟩, 953, 3, (Option.some FieldType.int), 4, am_f91), (⟨"ScriptFront$Parser", "condition", "(II)V"⟩, 957, 3, (Option.none : Option FieldType), 4, am_f92), (⟨"ScriptFront$Parser", "doStatement", "(I)I"⟩, 961, 3, (Option.some FieldType.int), 4, am_f93), (⟨"ScriptFront$Parser", "whileStatement", "(I)I"⟩, 965, 3, (Option.some FieldType.int), 4, am_f94), (⟨"ScriptFront$Parser", "forStatement", "(I)I"⟩, 969, 5, (Option.some FieldType.int), 4, am_f95), (⟨"ScriptFront$Parser", "forParts", "(III)I"⟩, 973, 5, (Option.some FieldType.int), 4, am_f96), (⟨"ScriptFront$Draft", "hasOneChild", "(I)Z"⟩, 977, 2, (Option.some FieldType.boolean), 3, am_f97), (⟨"ScriptFront$Parser", "forIn", "(III)I"⟩, 981, 5, (Option.some FieldType.int), 4, am_f98), (⟨"ScriptFront$Parser", "jump", "(I)I"⟩, 985, 4, (Option.some FieldType.int), 4, am_f99), (⟨"ScriptFront$Parser", "returnStatement", "(I)I"⟩, 989, 3, (Option.some FieldType.int), 4, am_f100), (⟨"ScriptFront$Parser", "switchStatement", "(I)I"⟩, 993, 4, (Option.some FieldType.int), 4, am_f101), (⟨"ScriptFront$Parser", "switchCase", "(I)I"⟩, 997, 4, (Option.some FieldType.int), 4, am_f102), (⟨"ScriptFront$Parser", "throwStatement", "(I)I"⟩, 1001, 3, (Option.some FieldType.int), 4, am_f103), (⟨"ScriptFront$Parser", "tryStatement", "(I)I"⟩, 1005, 4, (Option.some FieldType.int), 4, am_f104), (⟨"ScriptFront$Parser", "catchPart", "(I)I"⟩, 1009, 3, (Option.some FieldType.int), 4, am_f105), (⟨"ScriptFront$Parser", "nameOrExpression", "(I)I"⟩, 1013, 3, (Option.some FieldType.int), 4, am_f106), (⟨"ScriptFront$Scanner", "colonBehind", "()Z"⟩, 1017, 1, (Option.some FieldType.boolean), 5, am_f107), (⟨"ScriptFront$Draft", "kindOf", "(I)I"⟩, 1021, 2, (Option.some FieldType.int), 3, am_f108), (⟨"ScriptFront$Parser", "needsSemicolon", "(I)Z"⟩, 1024, 1, (Option.some FieldType.boolean), 4, am_f109), (⟨"ScriptFront$Parser", "endStatement", "()V"⟩, 1028, 1, (Option.none : Option FieldType), 4, am_f110), (⟨"ScriptFront$Draft", "orderInto", "(LScriptFront$Tree;I)V"⟩, 1032, 6, (Option.none : Option FieldType), 3, am_f111), (⟨"ScriptFront$Tree", "clear", "()V"⟩, 1036, 1, (Option.none : Option FieldType), 6, am_f112), (⟨"ScriptFront$Tree", "put", "(IIIII)I"⟩, 1040, 7, (Option.some FieldType.int), 6, am_f113), (⟨"ScriptFront$Draft", "behind", "(I)I"⟩, 1044, 4, (Option.some FieldType.int), 3, am_f114), (⟨"ScriptFront$Judge", "look", "(LScriptFront$Tree;)V"⟩, 1048, 3, (Option.none : Option FieldType), 7, am_f115), (⟨"ScriptFront$Judge", "strictness", "(I)Z"⟩, 1052, 3, (Option.some FieldType.boolean), 7, am_f116), (⟨"ScriptFront$Tree", "parentOf", "(I)I"⟩, 1056, 2, (Option.some FieldType.int), 6, am_f117), (⟨"ScriptFront$Judge", "hasDirective", "(I)Z"⟩, 1061, 4, (Option.some FieldType.boolean), 7, am_f118), (⟨"ScriptFront$Judge", "isLoneString", "(I)Z"⟩, 1065, 2, (Option.some FieldType.boolean), 7, am_f119)]
def am_me3 : List am_Me := [(⟨"ScriptFront$Tree", "placeOf", "(I)I"⟩, 1069, 2, (Option.some FieldType.int), 6, am_f120), (⟨"ScriptFront$Tree", "lengthOf", "(I)I"⟩, 1073, 2, (Option.some FieldType.int), 6, am_f121), (⟨"ScriptFront$Tape", "hasAt", "(ILjava/lang/String;)Z"⟩, 1078, 4, (Option.some FieldType.boolean), 1, am_f122), (⟨"ScriptFront$Tree", "isStrict", "(I)Z"⟩, 1085, 2, (Option.some FieldType.boolean), 6, am_f123), (⟨"ScriptFront$Tree", "childrenOf", "(I)I"⟩, 1089, 2, (Option.some FieldType.int), 6, am_f124), (⟨"ScriptFront$Tree", "setStrict", "(IZ)V"⟩, 1093, 3, (Option.none : Option FieldType), 6, am_f125), (⟨"ScriptFront$Judge", "isWrongTarget", "(I)Z"⟩, 1097, 3, (Option.some FieldType.boolean), 7, am_f126), (⟨"ScriptFront$Judge", "hasTarget", "(I)Z"⟩, 1101, 2, (Option.some FieldType.boolean), 7, am_f127), (⟨"ScriptFront$Tree", "signOf", "(I)I"⟩, 1105, 2, (Option.some FieldType.int), 6, am_f128), (⟨"ScriptFront$Judge", "refuseIf", "(ZII)V"⟩, 1109, 4, (Option.none : Option FieldType), 7, am_f129), (⟨"ScriptFront$Judge", "isWrongInStrictCode", "(I)Z"⟩, 1114, 2, (Option.some FieldType.boolean), 7, am_f130), (⟨"ScriptFront$Judge", "isGuarded", "(I)Z"⟩, 1118, 4, (Option.some FieldType.boolean), 7, am_f131), (⟨"ScriptFront$Judge", "isRepeated", "(I)Z"⟩, 1124, 5, (Option.some FieldType.boolean), 7, am_f132), (⟨"ScriptFront$Judge", "areAlike", "(II)Z"⟩, 1128, 5, (Option.some FieldType.boolean), 7, am_f133), (⟨"ScriptFront$Judge", "isGuardedTarget", "(I)Z"⟩, 1133, 2, (Option.some FieldType.boolean), 7, am_f134), (⟨"ScriptFront$Judge", "isDeletedName", "(I)Z"⟩, 1137, 2, (Option.some FieldType.boolean), 7, am_f135), (⟨"ScriptFront$Judge", "isWrongJump", "(I)Z"⟩, 1141, 2, (Option.some FieldType.boolean), 7, am_f136), (⟨"ScriptFront$Judge", "isSecondDefault", "(I)Z"⟩, 1145, 5, (Option.some FieldType.boolean), 7, am_f137), (⟨"ScriptFront$Judge", "isInFunction", "(I)Z"⟩, 1149, 4, (Option.some FieldType.boolean), 7, am_f138), (⟨"ScriptFront$Judge", "labelAround", "(I)I"⟩, 1153, 4, (Option.some FieldType.int), 7, am_f139), (⟨"ScriptFront$Judge", "isInLoop", "(IZ)Z"⟩, 1157, 5, (Option.some FieldType.boolean), 7, am_f140), (⟨"ScriptFront$Judge", "isLoop", "(I)Z"⟩, 1160, 1, (Option.some FieldType.boolean), 7, am_f141), (⟨"ScriptFront$Judge", "isLoopLabel", "(I)Z"⟩, 1164, 4, (Option.some FieldType.boolean), 7, am_f142), (⟨"ScriptFront$Printer", "print", "(LScriptFront$Tree;)V"⟩, 1168, 3, (Option.none : Option FieldType), 8, am_f143), (⟨"ScriptFront$Printer", "isHeading", "(I)Z"⟩, 1172, 5, (Option.some FieldType.boolean), 8, am_f144), (⟨"ScriptFront$Tree", "rankOf", "(I)I"⟩, 1178, 2, (Option.some FieldType.int), 6, am_f145), (⟨"ScriptFront$Printer", "bindsLess", "(I)Z"⟩, 1182, 5, (Option.some FieldType.boolean), 8, am_f146), (⟨"ScriptFront$Printer", "levelOf", "(I)I"⟩, 1186, 2, (Option.some FieldType.int), 8, am_f147), (⟨"ScriptFront$Printer", "isMisread", "(I)Z"⟩, 1192, 3, (Option.some FieldType.boolean), 8, am_f148), (⟨"ScriptFront$Printer", "hasCall", "(I)Z"⟩, 1196, 4, (Option.some FieldType.boolean), 8, am_f149), (⟨"ScriptFront$Printer", "beginsLikeAnother", "(I)Z"⟩, 1200, 3, (Option.some FieldType.boolean), 8, am_f150), (⟨"ScriptFront$Printer", "hasBrackets", "(I)Z"⟩, 1204, 2, (Option.some FieldType.boolean), 8, am_f151), (⟨"ScriptFront$Printer", "hadBrackets", "(I)Z"⟩, 1208, 2, (Option.some FieldType.boolean), 8, am_f152), (⟨"ScriptFront$Printer", "closeUpTo", "(II)V"⟩, 1213, 5, (Option.none : Option FieldType), 8, am_f153), (⟨"ScriptFront$Printer", "closeExpression", "(II)V"⟩, 1217, 4, (Option.none : Option FieldType), 8, am_f154), (⟨"ScriptFront$Printer", "putIf", "(ZLjava/lang/String;)V"⟩, 1223, 3, (Option.none : Option FieldType), 8, am_f155), (⟨"ScriptFront$Printer", "put", "(Ljava/lang/String;)V"⟩, 1227, 3, (Option.none : Option FieldType), 8, am_f156), (⟨"ScriptFront$Printer", "separateFrom", "(I)V"⟩, 1236, 4, (Option.none : Option FieldType), 8, am_f157), (⟨"ScriptFront$Printer", "append", "(I)V"⟩, 1242, 2, (Option.none : Option FieldType), 8, am_f158), (⟨"ScriptFront$Printer", "putText", "(I)V"⟩, 1250, 5, (Option.none : Option FieldType), 8, am_f159)]
def am_me4 : List am_Me := [(⟨"ScriptFront$Printer", "closeStatement", "(I)V"⟩, 1258, 3, (Option.none : Option FieldType), 8, am_f160), (⟨"ScriptFront$Printer", "isForPart", "(I)Z"⟩, 1264, 3, (Option.some FieldType.boolean), 8, am_f161), (⟨"ScriptFront$Printer", "putAhead", "(I)V"⟩, 1269, 4, (Option.none : Option FieldType), 8, am_f162), (⟨"ScriptFront$Printer", "putAheadInHead", "(II)V"⟩, 1277, 3, (Option.none : Option FieldType), 8, am_f163), (⟨"ScriptFront$Printer", "open", "(I)V"⟩, 1284, 3, (Option.none : Option FieldType), 8, am_f164), (⟨"ScriptFront$Printer", "openExpression", "(II)V"⟩, 1288, 3, (Option.none : Option FieldType), 8, am_f165), (⟨"ScriptFront$Printer", "openFunction", "(I)V"⟩, 1293, 2, (Option.none : Option FieldType), 8, am_f166), (⟨"ScriptFront$Printer", "openStatement", "(II)V"⟩, 1299, 3, (Option.none : Option FieldType), 8, am_f167), (⟨"ScriptFront$Printer", "openHead", "(II)V"⟩, 1311, 3, (Option.none : Option FieldType), 8, am_f168), (⟨"ScriptFront", "node", "(II)I"⟩, 1324, 3, (Option.some FieldType.int), 0, am_f169), (⟨"ScriptFrontModel", "<init>", "()V"⟩, 1351, 1, (Option.none : Option FieldType), 9, am_f170), (⟨"ScriptFrontModel", "thrown", "()I"⟩, 1556, 1, (Option.some FieldType.int), 9, am_f171), (⟨"ScriptFrontModel", "type", "(JI)Z"⟩, 1560, 6, (Option.some FieldType.boolean), 9, am_f172), (⟨"ScriptFrontModel", "isBlank", "(I)Z"⟩, 1564, 1, (Option.some FieldType.boolean), 9, am_f173), (⟨"ScriptFrontModel", "parse", "()I"⟩, 1568, 5, (Option.some FieldType.int), 9, am_f174), (⟨"ScriptFrontModel", "readAll", "()I"⟩, 1572, 1, (Option.some FieldType.int), 9, am_f175), (⟨"ScriptFrontModel", "push", "(IIIII)V"⟩, 1576, 6, (Option.none : Option FieldType), 9, am_f176), (⟨"ScriptFrontModel", "later", "(II)V"⟩, 1580, 3, (Option.none : Option FieldType), 9, am_f177), (⟨"ScriptFrontModel", "step", "()V"⟩, 1584, 5, (Option.none : Option FieldType), 9, am_f178), (⟨"ScriptFrontModel", "statements", "(I)V"⟩, 1588, 3, (Option.none : Option FieldType), 9, am_f179), (⟨"ScriptFrontModel", "look", "(Z)V"⟩, 1592, 4, (Option.none : Option FieldType), 9, am_f180), (⟨"ScriptFrontModel", "here", "(I)I"⟩, 1596, 2, (Option.some FieldType.int), 9, am_f181), (⟨"ScriptFrontModel", "skip", "()V"⟩, 1600, 3, (Option.none : Option FieldType), 9, am_f182), (⟨"ScriptFrontModel", "isEnd", "(I)Z"⟩, 1603, 1, (Option.some FieldType.boolean), 9, am_f183), (⟨"ScriptFrontModel", "commentEnd", "(I)I"⟩, 1607, 3, (Option.some FieldType.int), 9, am_f184), (⟨"ScriptFrontModel", "wrong", "(II)V"⟩, 1611, 3, (Option.none : Option FieldType), 9, am_f185), (⟨"ScriptFrontModel", "isLetter", "(I)Z"⟩, 1614, 1, (Option.some FieldType.boolean), 9, am_f186), (⟨"ScriptFrontModel", "isNameChar", "(I)Z"⟩, 1617, 1, (Option.some FieldType.boolean), 9, am_f187), (⟨"ScriptFrontModel", "isDigit", "(I)Z"⟩, 1620, 1, (Option.some FieldType.boolean), 9, am_f188), (⟨"ScriptFrontModel", "wordOf", "(II)I"⟩, 1624, 6, (Option.some FieldType.int), 9, am_f189), (⟨"ScriptFrontModel", "numberEnd", "(I)I"⟩, 1630, 4, (Option.some FieldType.int), 9, am_f190), (⟨"ScriptFrontModel", "isHex", "(I)Z"⟩, 1633, 1, (Option.some FieldType.boolean), 9, am_f191), (⟨"ScriptFrontModel", "digits", "(I)I"⟩, 1637, 3, (Option.some FieldType.int), 9, am_f192), (⟨"ScriptFrontModel", "stringEnd", "(I)I"⟩, 1641, 3, (Option.some FieldType.int), 9, am_f193), (⟨"ScriptFrontModel", "patternEnd", "(I)I"⟩, 1645, 4, (Option.some FieldType.int), 9, am_f194), (⟨"ScriptFrontModel", "flagsEnd", "(I)I"⟩, 1649, 5, (Option.some FieldType.int), 9, am_f195), (⟨"ScriptFrontModel", "signAt", "(I)I"⟩, 1653, 6, (Option.some FieldType.int), 9, am_f196), (⟨"ScriptFrontModel", "signLengthOf", "(I)I"⟩, 1656, 1, (Option.some FieldType.int), 9, am_f197), (⟨"ScriptFrontModel", "take", "()V"⟩, 1662, 1, (Option.none : Option FieldType), 9, am_f198), (⟨"ScriptFrontModel", "statement", "(Z)V"⟩, 1666, 4, (Option.none : Option FieldType), 9, am_f199)]
def am_me5 : List am_Me := [(⟨"ScriptFrontModel", "enters", "()Z"⟩, 1670, 1, (Option.some FieldType.boolean), 9, am_f200), (⟨"ScriptFrontModel", "leaf", "(II)V"⟩, 1674, 3, (Option.none : Option FieldType), 9, am_f201), (⟨"ScriptFrontModel", "reduce", "(IIII)V"⟩, 1678, 7, (Option.none : Option FieldType), 9, am_f202), (⟨"ScriptFrontModel", "labels", "()Z"⟩, 1682, 4, (Option.some FieldType.boolean), 9, am_f203), (⟨"ScriptFrontModel", "function", "(I)V"⟩, 1686, 4, (Option.none : Option FieldType), 9, am_f204), (⟨"ScriptFrontModel", "bad", "()V"⟩, 1690, 1, (Option.none : Option FieldType), 9, am_f205), (⟨"ScriptFrontModel", "line", "(II)V"⟩, 1694, 5, (Option.none : Option FieldType), 9, am_f206), (⟨"ScriptFrontModel", "isHead", "()Z"⟩, 1698, 1, (Option.some FieldType.boolean), 9, am_f207), (⟨"ScriptFrontModel", "head", "(II)V"⟩, 1702, 4, (Option.none : Option FieldType), 9, am_f208), (⟨"ScriptFrontModel", "condition", "()V"⟩, 1706, 1, (Option.none : Option FieldType), 9, am_f209), (⟨"ScriptFrontModel", "need", "(I)V"⟩, 1710, 2, (Option.none : Option FieldType), 9, am_f210), (⟨"ScriptFrontModel", "semicolon", "()V"⟩, 1714, 1, (Option.none : Option FieldType), 9, am_f211), (⟨"ScriptFrontModel", "elsePart", "()V"⟩, 1718, 1, (Option.none : Option FieldType), 9, am_f212), (⟨"ScriptFrontModel", "forHead", "(II)V"⟩, 1722, 3, (Option.none : Option FieldType), 9, am_f213), (⟨"ScriptFrontModel", "nothing", "()V"⟩, 1726, 1, (Option.none : Option FieldType), 9, am_f214), (⟨"ScriptFrontModel", "forRest", "(II)V"⟩, 1730, 3, (Option.none : Option FieldType), 9, am_f215), (⟨"ScriptFrontModel", "forVariables", "(IIII)V"⟩, 1734, 6, (Option.none : Option FieldType), 9, am_f216), (⟨"ScriptFrontModel", "forMore", "(IIZ)V"⟩, 1738, 4, (Option.none : Option FieldType), 9, am_f217), (⟨"ScriptFrontModel", "forIn", "(II)V"⟩, 1742, 3, (Option.none : Option FieldType), 9, am_f218), (⟨"ScriptFrontModel", "optional", "(I)V"⟩, 1746, 2, (Option.none : Option FieldType), 9, am_f219), (⟨"ScriptFrontModel", "cases", "()V"⟩, 1750, 4, (Option.none : Option FieldType), 9, am_f220), (⟨"ScriptFrontModel", "block", "()V"⟩, 1754, 1, (Option.none : Option FieldType), 9, am_f221), (⟨"ScriptFrontModel", "catchPart", "(II)V"⟩, 1758, 4, (Option.none : Option FieldType), 9, am_f222), (⟨"ScriptFrontModel", "catchName", "()V"⟩, 1762, 1, (Option.none : Option FieldType), 9, am_f223), (⟨"ScriptFrontModel", "finalPart", "(IIZ)V"⟩, 1766, 4, (Option.none : Option FieldType), 9, am_f224), (⟨"ScriptFrontModel", "variable", "(I)V"⟩, 1770, 2, (Option.none : Option FieldType), 9, am_f225), (⟨"ScriptFrontModel", "initial", "(I)V"⟩, 1774, 2, (Option.none : Option FieldType), 9, am_f226), (⟨"ScriptFrontModel", "variableMore", "(I)V"⟩, 1778, 2, (Option.none : Option FieldType), 9, am_f227), (⟨"ScriptFrontModel", "parameters", "(Z)V"⟩, 1782, 2, (Option.none : Option FieldType), 9, am_f228), (⟨"ScriptFrontModel", "parameterMore", "()V"⟩, 1786, 1, (Option.none : Option FieldType), 9, am_f229), (⟨"ScriptFrontModel", "body", "()V"⟩, 1790, 1, (Option.none : Option FieldType), 9, am_f230), (⟨"ScriptFrontModel", "expression", "(IIII)V"⟩, 1794, 5, (Option.none : Option FieldType), 9, am_f231), (⟨"ScriptFrontModel", "comma", "(III)V"⟩, 1798, 4, (Option.none : Option FieldType), 9, am_f232), (⟨"ScriptFrontModel", "one", "(I)V"⟩, 1802, 2, (Option.none : Option FieldType), 9, am_f233), (⟨"ScriptFrontModel", "behind", "(I)V"⟩, 1806, 2, (Option.none : Option FieldType), 9, am_f234), (⟨"ScriptFrontModel", "assigns", "(I)Z"⟩, 1809, 1, (Option.some FieldType.boolean), 9, am_f235), (⟨"ScriptFrontModel", "between", "(II)V"⟩, 1813, 4, (Option.none : Option FieldType), 9, am_f236), (⟨"ScriptFrontModel", "strength", "(I)I"⟩, 1816, 1, (Option.some FieldType.int), 9, am_f237), (⟨"ScriptFrontModel", "join", "()V"⟩, 1820, 1, (Option.none : Option FieldType), 9, am_f238), (⟨"ScriptFrontModel", "unary", "(Z)V"⟩, 1824, 3, (Option.none : Option FieldType), 9, am_f239)]
def am_me6 : List am_Me := [(⟨"ScriptFrontModel", "postfix", "()V"⟩, 1828, 1, (Option.none : Option FieldType), 9, am_f240), (⟨"ScriptFrontModel", "operandOrNew", "(I)V"⟩, 1832, 2, (Option.none : Option FieldType), 9, am_f241), (⟨"ScriptFrontModel", "member", "()V"⟩, 1836, 1, (Option.none : Option FieldType), 9, am_f242), (⟨"ScriptFrontModel", "tail", "(I)V"⟩, 1840, 3, (Option.none : Option FieldType), 9, am_f243), (⟨"ScriptFrontModel", "newArguments", "(II)V"⟩, 1844, 3, (Option.none : Option FieldType), 9, am_f244), (⟨"ScriptFrontModel", "arguments", "(III)V"⟩, 1848, 4, (Option.none : Option FieldType), 9, am_f245), (⟨"ScriptFrontModel", "argumentMore", "(III)V"⟩, 1852, 4, (Option.none : Option FieldType), 9, am_f246), (⟨"ScriptFrontModel", "operand", "()V"⟩, 1856, 4, (Option.none : Option FieldType), 9, am_f247), (⟨"ScriptFrontModel", "elements", "(II)V"⟩, 1860, 3, (Option.none : Option FieldType), 9, am_f248), (⟨"ScriptFrontModel", "elementMore", "(II)V"⟩, 1864, 3, (Option.none : Option FieldType), 9, am_f249), (⟨"ScriptFrontModel", "properties", "(II)V"⟩, 1868, 3, (Option.none : Option FieldType), 9, am_f250), (⟨"ScriptFrontModel", "propertyMore", "(II)V"⟩, 1872, 3, (Option.none : Option FieldType), 9, am_f251), (⟨"ScriptFrontModel", "closeParen", "()V"⟩, 1876, 2, (Option.none : Option FieldType), 9, am_f252), (⟨"ScriptFrontModel", "arrange", "(I)I"⟩, 1880, 4, (Option.some FieldType.int), 9, am_f253), (⟨"ScriptFrontModel", "settle", "(I)V"⟩, 1884, 4, (Option.none : Option FieldType), 9, am_f254), (⟨"ScriptFrontModel", "begins", "(I)Z"⟩, 1888, 4, (Option.some FieldType.boolean), 9, am_f255), (⟨"ScriptFrontModel", "isPlainString", "(I)Z"⟩, 1892, 2, (Option.some FieldType.boolean), 9, am_f256), (⟨"ScriptFrontModel", "saysStrict", "(I)Z"⟩, 1896, 3, (Option.some FieldType.boolean), 9, am_f257), (⟨"ScriptFrontModel", "last", "(I)I"⟩, 1900, 2, (Option.some FieldType.int), 9, am_f258), (⟨"ScriptFrontModel", "child", "(II)I"⟩, 1904, 5, (Option.some FieldType.int), 9, am_f259), (⟨"ScriptFrontModel", "judge", "(I)V"⟩, 1908, 6, (Option.none : Option FieldType), 9, am_f260), (⟨"ScriptFrontModel", "hasTarget", "(I)Z"⟩, 1912, 3, (Option.some FieldType.boolean), 9, am_f261), (⟨"ScriptFrontModel", "breaksStrict", "(I)Z"⟩, 1916, 6, (Option.some FieldType.boolean), 9, am_f262), (⟨"ScriptFrontModel", "isSpecial", "(I)Z"⟩, 1920, 6, (Option.some FieldType.boolean), 9, am_f263), (⟨"ScriptFrontModel", "isDelete", "(I)Z"⟩, 1926, 2, (Option.some FieldType.boolean), 9, am_f264), (⟨"ScriptFrontModel", "isTwice", "(I)Z"⟩, 1930, 4, (Option.some FieldType.boolean), 9, am_f265), (⟨"ScriptFrontModel", "alike", "(II)Z"⟩, 1934, 5, (Option.some FieldType.boolean), 9, am_f266), (⟨"ScriptFrontModel", "jumpsWrong", "(I)Z"⟩, 1938, 5, (Option.some FieldType.boolean), 9, am_f267), (⟨"ScriptFrontModel", "lands", "(I)Z"⟩, 1942, 5, (Option.some FieldType.boolean), 9, am_f268), (⟨"ScriptFrontModel", "loops", "(I)Z"⟩, 1945, 1, (Option.some FieldType.boolean), 9, am_f269), (⟨"ScriptFrontModel", "print", "(I)V"⟩, 1949, 5, (Option.none : Option FieldType), 9, am_f270), (⟨"ScriptFrontModel", "plan", "(III)V"⟩, 1953, 4, (Option.none : Option FieldType), 9, am_f271), (⟨"ScriptFrontModel", "printSign", "(I)V"⟩, 1957, 4, (Option.none : Option FieldType), 9, am_f272), (⟨"ScriptFrontModel", "part", "(I)V"⟩, 1961, 3, (Option.none : Option FieldType), 9, am_f273), (⟨"ScriptFrontModel", "letter", "(I)V"⟩, 1965, 2, (Option.none : Option FieldType), 9, am_f274), (⟨"ScriptFrontModel", "printWord", "(I)V"⟩, 1969, 5, (Option.none : Option FieldType), 9, am_f275), (⟨"ScriptFrontModel", "printValue", "(II)V"⟩, 1974, 4, (Option.none : Option FieldType), 9, am_f276), (⟨"ScriptFrontModel", "bind", "(I)I"⟩, 1978, 2, (Option.some FieldType.int), 9, am_f277), (⟨"ScriptFrontModel", "signOf", "(I)I"⟩, 1982, 4, (Option.some FieldType.int), 9, am_f278), (⟨"ScriptFrontModel", "isIn", "(I)Z"⟩, 1986, 2, (Option.some FieldType.boolean), 9, am_f279)]
def am_me7 : List am_Me := [(⟨"ScriptFrontModel", "printOperand", "(I)V"⟩, 1990, 3, (Option.none : Option FieldType), 9, am_f280), (⟨"ScriptFrontModel", "printFunction", "(I)V"⟩, 1994, 2, (Option.none : Option FieldType), 9, am_f281), (⟨"ScriptFrontModel", "printToken", "(I)V"⟩, 1998, 3, (Option.none : Option FieldType), 9, am_f282), (⟨"ScriptFrontModel", "hasCall", "(I)Z"⟩, 2002, 4, (Option.some FieldType.boolean), 9, am_f283), (⟨"ScriptFrontModel", "printJoined", "(II)V"⟩, 2006, 6, (Option.none : Option FieldType), 9, am_f284), (⟨"ScriptFrontModel", "printAct", "(I)V"⟩, 2010, 3, (Option.none : Option FieldType), 9, am_f285), (⟨"ScriptFrontModel", "braces", "(I)V"⟩, 2014, 2, (Option.none : Option FieldType), 9, am_f286), (⟨"ScriptFrontModel", "startsBadly", "(I)Z"⟩, 2018, 5, (Option.some FieldType.boolean), 9, am_f287), (⟨"ScriptFrontModel", "wanted", "(I)I"⟩, 2022, 3, (Option.some FieldType.int), 9, am_f288), (⟨"ScriptFrontModel", "printHead", "(II)V"⟩, 2026, 4, (Option.none : Option FieldType), 9, am_f289), (⟨"ScriptFrontModel", "inBrackets", "(I)V"⟩, 2030, 2, (Option.none : Option FieldType), 9, am_f290), (⟨"ScriptFrontModel", "printFor", "(II)V"⟩, 2034, 5, (Option.none : Option FieldType), 9, am_f291), (⟨"ScriptFrontModel", "planFirst", "(I)V"⟩, 2038, 2, (Option.none : Option FieldType), 9, am_f292), (⟨"ScriptFrontModel", "printTry", "(III)V"⟩, 2042, 4, (Option.none : Option FieldType), 9, am_f293), (⟨"ScriptFrontModel", "printChoice", "(I)V"⟩, 2046, 3, (Option.none : Option FieldType), 9, am_f294), (⟨"ScriptFrontModel", "printRow", "(III)V"⟩, 2050, 6, (Option.none : Option FieldType), 9, am_f295), (⟨"ScriptFrontModel", "fault", "(I)I"⟩, 2054, 2, (Option.some FieldType.int), 9, am_f296), (⟨"ScriptFrontModel", "node", "(II)I"⟩, 2058, 3, (Option.some FieldType.int), 9, am_f297), (⟨"ScriptFrontModel", "many", "(I)I"⟩, 2062, 4, (Option.some FieldType.int), 9, am_f298), (⟨"ScriptFrontModel", "printed", "(I)I"⟩, 2066, 2, (Option.some FieldType.int), 9, am_f299), (⟨"ScriptFrontModel", "again", "()Z"⟩, 2070, 2, (Option.some FieldType.boolean), 9, am_f300)]
def am_me : List am_Me := am_me0 ++ (am_me1 ++ (am_me2 ++ (am_me3 ++ (am_me4 ++ (am_me5 ++ (am_me6 ++ (am_me7)))))))
end
section
def am_chk (bs : ByteArray) (tb : List (Nat × Instr)) : Bool := tb.all fun q => match decode bs q.1 with
  | .ok (i, n) => decide (i = q.2) && (decide (am_len i = 0) || decide (n = am_len i))
  | _ => false
theorem am_mem_look {α β : Type} [BEq α] [LawfulBEq α] {l : List (α × β)} {k : α} {v : β} (h : l.lookup k = some v) : (k, v) ∈ l := by
  induction l with
  | nil => cases h
  | cons q r ih =>
    obtain ⟨j, w⟩ := q
    rw [List.lookup_cons] at h
    by_cases e : (k == j) = true
    · rw [e] at h
      cases h
      rw [eq_of_beq e]
      exact List.mem_cons_self
    · rw [Bool.not_eq_true] at e
      rw [e] at h
      exact List.mem_cons_of_mem _ (ih h)
theorem am_chk_ok {bs : ByteArray} {tb : List (Nat × Instr)} (h : am_chk bs tb = true) {pc : Nat} {i : Instr} (hl : tb.lookup pc = some i) : ∃ n, decode bs pc = .ok (i, n) ∧ (am_len i ≠ 0 → n = am_len i) := by
  have h1 := List.all_eq_true.mp h _ (am_mem_look hl)
  simp only at h1
  split at h1
  · next j n hd =>
    simp only [Bool.and_eq_true, Bool.or_eq_true, decide_eq_true_eq] at h1
    obtain ⟨rfl, h2⟩ := h1
    exact ⟨n, hd, fun z => h2.resolve_left z⟩
  · cases h1
end
section
section AM9
variable {p : Program} {l : Launch} {e : Env} {R : Room} {s : State} {m : MethodId} {args : Array Value} {below : List Frame} {meth : Method} {c : Code}
variable {cc : ByteArray} {D : va_G} {cl : List vw_C} {A : Nat → Prop} {tys : List (ClassId × FieldType)} {ct ak : Nat → Nat} {Ts : List Jvm.Cond} {own : String} {nL : Nat} {K0 : (Nat → Prop) → State → Prop} {X : Nat → Nat → State → Prop}
variable {cal : Instr → Option (Nat × Nat × Nat × Nat)} {nm : Nat → MethodName} {bt : Nat → ByteArray} {mL : Nat → Nat} {rt : Nat → Option FieldType} {wsM : Nat → List Jvm.Cond}
variable {fl : Nat → Option (Nat × Nat × FieldType × Bool)} {kc : Nat → Option Value} {kl : Nat → Option Int64} {gs : Nat → Option Value} {ro : Nat → Option (Nat × (Nat → Int32))} {ini : Bool}
variable {fetch : Nat → Option Instr} {oi : Nat → Bool} {nw : Nat → Option (Nat × List Value)} {run : Nat → List Value → List va_E → Option am_R} {thr : Nat → Option Nat} {ret : Option FieldType} {xc xs d : Nat}
set_option maxHeartbeats 4000000 in
set_option maxRecDepth 20000 in
/-- A RUN THAT THROWS; hsite: what a throw's own rows do -/
theorem am_exec_T (hX : am_XO X) (hnh : c.exceptionTable.isEmpty = true) (hm : am_M p l s m args meth c R cc D cl A tys ct ak Ts own nL K0 cal nm bt mL rt wsM fl kc kl gs ro ini fetch oi nw ret d)
    (hrun : ∀ y as h v h' nc ns, run y as h = some (.inl v, h', nc, ns) → ∀ (ad : Nat → Nat) (sz : Nat), Met l (nm y) (wsM y) (am_rm d nc ns) (am_Pre D cl ct tys ak K0 ad h sz as) (am_Post D cl ct tys X ad h.length (va_A (am_ws ad ct h) sz) (.inl v) h' nc) nc ns (va_A (am_ws ad ct h) sz))
    (hrunT : ∀ y as h ex h' nc ns, run y as h = some (.inr ex, h', nc, ns) → ∀ (ad : Nat → Nat) (sz : Nat), am_MT l (nm y) (wsM y) (am_rm d nc ns) (am_Pre D cl ct tys ak K0 ad h sz as) (am_Post D cl ct tys X ad h.length (va_A (am_ws ad ct h) sz) (.inr ex) h' nc) nc ns (va_A (am_ws ad ct h) sz))
    {ad0 : Nat → Nat} {n0 NC NS : Nat} (hNC : NC ≤ R.cells) (hNS : NS ≤ R.slots) {ex : Nat} {h' : List va_E}
    (hsite : ∀ (pc ex : Nat) (st : List Value) (h : List va_E) (ad : Nat → Nat) (H : Heap) (locs : List Loc) (cells slots : Nat) (ls : Array Slot), thr pc = some ex → (st.map fun v => v.category).sum ≤ 8 → cells + xc = NC → slots + xs = NS → va_P D cl (am_ws ad ct h) H → va_D A (am_ws ad ct h) → va_S A s.heap H locs → ls.size = nL → (∀ i, 1000 ≤ i → ad i = ak i) → (∀ i, (i < n0 ∨ 1000 ≤ i) → ad i = ad0 i) → n0 ≤ h.length → (cells = 0 → ad = ad0) →
      W p l e R s m args below meth c H locs cells slots (am_MQT below (am_Post D cl ct tys X ad0 n0 A (.inr ex) h NC) args s NC NS A) (F0 m pc ls (st.map (am_tv ad)))) :
    ∀ (kk : Nat) (pc : Nat) (lv : am_L) (st : List Value) (h : List va_E) (nc ns : Nat), am_exec fetch (am_step fl kc kl gs ro ini nL) cal oi nw run thr ret xc xs kk pc lv st h = some (.inr ex, h', nc, ns) →
    ∀ (ad : Nat → Nat) (H : Heap) (locs : List Loc) (cells slots : Nat) (ls : Array Slot), cells + nc = NC → slots + ns = NS → va_P D cl (am_ws ad ct h) H → va_D A (am_ws ad ct h) → va_S A s.heap H locs → lv_has ls nL (am_lv ad lv) → (∀ i, 1000 ≤ i → ad i = ak i) → (∀ i, (i < n0 ∨ 1000 ≤ i) → ad i = ad0 i) → n0 ≤ h.length → (cells = 0 → ad = ad0) →
    W p l e R s m args below meth c H locs cells slots (am_MQT below (am_Post D cl ct tys X ad0 n0 A (.inr ex) h' NC) args s NC NS A) (F0 m pc ls (st.map (am_tv ad))) := by
  obtain ⟨hx, hb, hml, hts, hown, hlocks, hret, hK, h0, hK0, hA, hFL, hKGR, hKL, hTY, hin, hCT, hOI, hNW, hAR, hfe, hRf, hRl⟩ := hm
  intro kk
  induction kk with
  | zero => intro pc lv st h nc ns hex; cases hex
  | succ kk ih =>
    intro pc lv st h nc ns hex ad H locs cells slots ls hcn hsn hP hD hS hl hak hag hn0 hc0
    obtain ⟨hKC, hGS, hRO⟩ := hKGR ad hak
    rw [am_exec_s] at hex
    split at hex
    · next e1 he1 =>
      obtain ⟨h8, h9⟩ := am_if hex
      cases h9
      exact hsite pc _ st _ ad H locs cells slots ls he1 (of_decide_eq_true h8) hcn hsn hP hD hS hl.1 hak hag hn0 hc0
    · split at hex
      · cases hex
      · next i hi =>
        have hdec := hfe pc i hi
        split at hex
        · exact absurd (am_if hex).2 (fun z => by cases z)
        · split at hex
          · split at hex
            · exact absurd (am_if hex).2 (fun z => by cases z)
            · cases hex
          · cases hex
        · -- new
          next k =>
          obtain ⟨q, hq, h2⟩ := Option.bind_eq_some_iff.mp hex
          obtain ⟨h3, h4⟩ := am_if h2
          obtain ⟨r, hr, h5⟩ := Option.bind_eq_some_iff.mp h4
          obtain ⟨r1, r2, r3, r4⟩ := r
          cases h5
          dsimp only at hcn hsn
          simp only [Bool.and_eq_true, decide_eq_true_eq] at h3
          obtain ⟨n, hd, hn⟩ := hdec
          cases hn (by simp [am_len])
          obtain ⟨C, T, ty, g1, g2, g3, g4, g5, g6, g7, g8⟩ := hNW k q hq
          refine am_new (nL := nL) hx hb hts g2 ty g3 hown g4 g5 g6 hK hP hD hS hA g1 g7 g8 (by omega) (by omega) hd hl h3.1 h3.2.1 h3.2.2 (fun ad' H1 ha hP1 hD1 hS1 hl1 => ?_)
          exact ih (pc + 3) lv (.ref h.length :: st) (h ++ [.inr q]) r3 r4 hr ad' H1 locs (cells + 1) (slots + q.2.length) ls (by omega) (by omega) hP1 hD1 hS1 hl1 (fun i hi => (ha i (Or.inr hi)).trans (hak i hi)) (fun i hi => (ha i (hi.imp (fun z => Nat.lt_of_lt_of_le z hn0) id)).trans (hag i hi)) (by simp; omega) (fun z => absurd z (by omega))
        · -- newarray
          next t =>
          obtain ⟨x, r0, rfl, h1⟩ := am_i1_eq hex
          obtain ⟨t0, ht0, h2⟩ := Option.bind_eq_some_iff.mp h1
          obtain ⟨h3, h4⟩ := am_if h2
          obtain ⟨r, hr, h5⟩ := Option.bind_eq_some_iff.mp h4
          obtain ⟨r1, r2, r3, r4⟩ := r
          cases h5
          dsimp only at hcn hsn
          simp only [Bool.and_eq_true, decide_eq_true_eq] at h3
          obtain ⟨n, hd, hn⟩ := hdec
          cases hn (by simp [am_len])
          have hol : am_oldL h.length lv r0 = true := by
            have := h3.2.2.2.1
            unfold am_oldL at this ⊢
            rw [Bool.and_eq_true] at this ⊢
            exact ⟨this.1, (by have := this.2; rw [List.all_cons, Bool.and_eq_true] at this; exact this.2)⟩
          refine am_newa (nL := nL) hx hb hts ht0 (hAR t t0 ht0) hTY hK hP hD hS hA h3.1 h3.2.1 (by omega) (by omega) hd hl h3.2.2.1 hol h3.2.2.2.2 (fun ad' H1 ha hP1 hD1 hS1 hl1 => ?_)
          exact ih (pc + 2) lv (.ref h.length :: r0) _ r3 r4 hr ad' H1 locs (cells + 1) (slots + x.toNatClampNeg) ls (by omega) (by omega) hP1 hD1 hS1 hl1 (fun i hi => (ha i (Or.inr hi)).trans (hak i hi)) (fun i hi => (ha i (hi.imp (fun z => Nat.lt_of_lt_of_le z hn0) id)).trans (hag i hi)) (by simp; omega) (fun z => absurd z (by omega))
        · -- the rest
          split at hex
          · -- Object.<init>
            next hoi =>
            split at hoi
            · next k =>
              obtain ⟨a, r, rfl, h1⟩ := am_r1_eq hex
              obtain ⟨h2, h3⟩ := am_if h1
              obtain ⟨n, hd, hn⟩ := hdec
              cases hn (by simp [am_len])
              obtain ⟨o1, o2, o3⟩ := hOI _ hoi
              refine W.objInit hx hb hown (hts _ o1) (hts _ o2) (hts _ o3) (g := F0 m pc ls ((Value.ref a :: r).map (am_tv ad))) rfl (hl.1.trans hml.symm) rfl hd (by omega) ?_ (ih (pc + 3) lv r h nc ns h3 ad H locs cells slots ls hcn hsn hP hD hS hl hak hag hn0 hc0)
              have h8 := of_decide_eq_true h2
              have := lv_room (m := m) (pc := pc) (ls := ls) (rest := (Value.ref a :: r).map (am_tv ad)) (st := r.map (am_tv ad)) (by rw [am_cats]; exact h8)
              omega
            · cases hoi
          · split at hex
            · -- a call
              next q hq =>
              obtain ⟨w, hw, h1⟩ := Option.bind_eq_some_iff.mp hex
              obtain ⟨h2, h3⟩ := am_if h1
              obtain ⟨r, hr, h4⟩ := Option.bind_eq_some_iff.mp h3
              obtain ⟨r1, r2, r3, r4⟩ := r
              simp only at h4
              split at h4
              · next ex1 =>
                obtain ⟨h5, h6⟩ := am_if h4
                cases h6
                simp only [Bool.and_eq_true, decide_eq_true_eq] at h2
                have hd3 : decode cc pc = .ok (i, 3) := by
                  obtain ⟨n, hd, hn⟩ := hdec
                  have : am_len i = 3 := by
                    rcases (hCT i q hq).2.2.2 with ⟨-, _, _, _, _, rfl, -⟩ | ⟨-, _, rfl, -⟩ | ⟨-, _, rfl, -⟩ | ⟨-, _, _, rfl, -⟩ <;> rfl
                  rw [hd, hn (by rw [this]; decide), this]
                refine am_callT (nL := nL) (X := X) hX hx hb hml hlocks hnh hts hown hK h0 hCT hq (of_decide_eq_true h5) hw h2.1 (fun k0 => ?_) (hrunT _ _ _ _ _ _ _ hr ad H.size) ⟨hRf, hRl⟩ (by omega) (by omega) hd3 hl.1 hP hD hS hA hak hK0 hcn hsn hag hn0 hc0
                have := h2.2
                rw [k0] at this
                simpa using this
              · next v1 =>
                obtain ⟨h5, h6⟩ := am_if h4
                obtain ⟨rr, hrr, h7⟩ := Option.bind_eq_some_iff.mp h6
                obtain ⟨s1, s2, s3, s4⟩ := rr
                cases h7
                dsimp only at hcn hsn
                simp only [Bool.and_eq_true, decide_eq_true_eq] at h2 h5
                have hd3 : decode cc pc = .ok (i, 3) := by
                  obtain ⟨n, hd, hn⟩ := hdec
                  have : am_len i = 3 := by
                    rcases (hCT i q hq).2.2.2 with ⟨-, _, _, _, _, rfl, -⟩ | ⟨-, _, rfl, -⟩ | ⟨-, _, rfl, -⟩ | ⟨-, _, _, rfl, -⟩ <;> rfl
                  rw [hd, hn (by rw [this]; decide), this]
                refine am_callR (nL := nL) (X := X) hx hb hml hts hown hK h0 hCT hq hw h2.1 (fun k0 => ?_) (hrun _ _ _ _ _ _ _ hr ad H.size) ⟨hRf, hRl⟩ (by omega) (by omega) hd3 hl.1 hP hD hS hA hak hK0 (fun ad' H1 locs1 ha hz hP1 hD1 hS1 => ?_)
                · have := h2.2
                  rw [k0] at this
                  simpa using this
                · have hlv : am_lv ad' lv = am_lv ad lv ∧ w.2.map (am_tv ad') = w.2.map (am_tv ad) := by
                    have h52 := h5.2
                    rw [Bool.or_eq_true] at h52
                    rcases h52 with z | z
                    · have z : r3 = 0 := by simpa using z
                      rw [hz z]
                      exact ⟨rfl, rfl⟩
                    · unfold am_oldL at z
                      rw [Bool.and_eq_true] at z
                      exact ⟨am_lv_old ha z.1, am_st_old ha z.2⟩
                  have k1 := ih (pc + 3) lv (v1.toList ++ w.2) r2 s3 s4 hrr ad' H1 locs1 (cells + r3) (slots + r4) ls (by omega) (by omega) hP1 hD1 hS1 (by rw [hlv.1]; exact hl) (fun i hi => (ha i (Or.inr hi)).trans (hak i hi)) (fun i hi => (ha i (hi.imp (fun z => Nat.lt_of_lt_of_le z hn0) id)).trans (hag i hi)) (Nat.le_trans hn0 h5.1) (fun z => by
                    have z1 : cells = 0 := by omega
                    have z2 : r3 = 0 := by omega
                    rw [hz z2, hc0 z1])
                  rw [List.map_append, hlv.2] at k1
                  exact k1
            · -- a step
              obtain ⟨q, hq, h1⟩ := Option.bind_eq_some_iff.mp hex
              obtain ⟨q1, q2, q3, q4⟩ := q
              refine am_step_ok hx hb hts hown hK hFL hKC hKL hGS hRO hTY hin hq hdec hP hD hS hl (fun H1 locs1 ls1 hP1 hD1 hS1 hl1 => ?_)
              exact ih q1 q2 q3 q4 nc ns h1 ad H1 locs1 cells slots ls1 hcn hsn hP1 hD1 hS1 hl1 hak hag (by rw [am_step_len hq]; exact hn0) hc0
end AM9
end
section
/-- what a throw's own rows do, at the pcs that thr names -/
def am_SI (p : Program) (l : Launch) (e : Env) (R : Room) (s : State) (m : MethodId) (args : Array Value) (below : List Frame) (meth : Method) (c : Code) (D : va_G) (cl : List vw_C) (A : Nat → Prop) (tys : List (ClassId × FieldType)) (ct ak : Nat → Nat) (nL : Nat) (X : Nat → Nat → State → Prop) (thr : Nat → Option Nat) (xc xs : Nat) : Prop :=
  ∀ (ad0 : Nat → Nat) (n0 NC NS : Nat), NC ≤ R.cells → NS ≤ R.slots → ∀ (pc ex : Nat) (st : List Value) (h : List va_E) (ad : Nat → Nat) (H : Heap) (locs : List Loc) (cells slots : Nat) (ls : Array Slot), thr pc = some ex → (st.map fun v => v.category).sum ≤ 8 → cells + xc = NC → slots + xs = NS → va_P D cl (am_ws ad ct h) H → va_D A (am_ws ad ct h) → va_S A s.heap H locs → ls.size = nL → (∀ i, 1000 ≤ i → ad i = ak i) → (∀ i, (i < n0 ∨ 1000 ≤ i) → ad i = ad0 i) → n0 ≤ h.length → (cells = 0 → ad = ad0) →
    W p l e R s m args below meth c H locs cells slots (am_MQT below (am_Post D cl ct tys X ad0 n0 A (.inr ex) h NC) args s NC NS A) (F0 m pc ls (st.map (am_tv ad)))
/-- a class's statics are none of the world's cells -/
theorem am_NA {D : va_G} {cl : List vw_C} {ws : va_W} {H : Heap} (hP : va_P D cl ws H) {aS : Addr} {cS : Cell} (h1 : H[aS]? = some cS) (h2 : cS.vm.isStatics = true) : ¬ va_A ws H.size aS := by
  intro h
  rcases h with ⟨k, e0, hk⟩ | h
  · have hat := hP k _ hk
    cases e0 with
    | inl x =>
      have hat : H[aS]? = some (vp_cell x.1 x.2) := hat
      rw [h1] at hat
      cases hat
      obtain ⟨a, n, f⟩ := x
      rcases f with f | f | f | f | f <;> cases h2
    | inr o =>
      obtain ⟨r, -, cell, q1, -, q3, -⟩ := hat
      rw [h1] at q1
      cases q1
      rw [q3] at h2
      cases h2
  · exact absurd (Array.getElem?_eq_some_iff.mp h1).1 (Nat.not_lt.mpr h)
section AM10
variable {l : Launch} {D : va_G} {cl : List vw_C} {tys : List (ClassId × FieldType)} {ct ak : Nat → Nat} {K0 : (Nat → Prop) → State → Prop} {X : Nat → Nat → State → Prop}
variable {nm : Nat → MethodName} {bt : Nat → ByteArray} {wsM : Nat → List Jvm.Cond}
variable {cls mL : Nat → Nat} {rt : Nat → Option FieldType} {ini : Nat → Bool} {ftc : Nat → Nat → Option Instr} {fl : Nat → Nat → Option (Nat × Nat × FieldType × Bool)} {kc : Nat → Nat → Option Value} {kl : Nat → Nat → Option Int64} {gs : Nat → Nat → Option Value} {ro : Nat → Option (Nat × (Nat → Int32))} {cal : Nat → Instr → Option (Nat × Nat × Nat × Nat)} {oi : Nat → Nat → Bool} {nw : Nat → Nat → Option (Nat × List Value)} {thr : Nat → Nat → Option Nat} {xc xs fuel : Nat}
theorem am_exec_posT {fetch : Nat → Option Instr} {stp : Instr → Nat → am_L → List Value → List va_E → Option am_F} {cal : Instr → Option (Nat × Nat × Nat × Nat)} {oi : Nat → Bool} {nw : Nat → Option (Nat × List Value)} {run : Nat → List Value → List va_E → Option am_R} {thr : Nat → Option Nat} {ret : Option FieldType} {xc xs kk pc : Nat} {lv : am_L} {st : List Value} {h : List va_E} {z : am_R} (hex : am_exec fetch stp cal oi nw run thr ret xc xs kk pc lv st h = some z) : (∃ e, thr pc = some e) ∨ ∃ i, fetch pc = some i := by
  cases kk with
  | zero => cases hex
  | succ kk =>
    rw [am_exec_s] at hex
    split at hex
    · next e1 he => exact Or.inl ⟨e1, he⟩
    · split at hex
      · cases hex
      · next i hi => exact Or.inr ⟨i, hi⟩
set_option maxHeartbeats 1000000 in
/-- EVERY METHOD MEETS ITS RUN (one that throws) -/
theorem am_run_T {ok : Nat → Prop} (hX : am_XO X) (hG : am_G ok cl tys ct ak K0 nm bt wsM cls mL rt ini ftc fl kc kl gs ro cal oi nw) (hthr : ∀ y pc e, thr y pc = some e → ok y)
    (hS1 : ∀ y, ok y → ∀ (p : Program) (e : Env) (R : Room) (s : State) (m : MethodId) (args : Array Value) (below : List Frame) (meth : Method) (c : Code) (A : Nat → Prop), l.admits e → p.tables.exec = Jvm.exec → c.code = bt y → c.maxLocals = mL y → (∀ w ∈ wsM y, w.before args s = true) → s.vm.findClass (nm y).cls = some m.cls → meth.locks = false → c.exceptionTable.isEmpty = true → va_K D cl tys s → K0 A s → (∀ q, s.heap.size ≤ q → A q) → (∀ (aS : Addr) (cS : Cell), s.heap[aS]? = some cS → cS.vm.isStatics = true → ¬ A aS) → 9 ≤ R.frames → 400 ≤ R.locals → am_SI p l e R s m args below meth c D cl A tys ct ak (mL y) X (thr y) xc xs) :
    ∀ (d y : Nat) (as : List Value) (h : List va_E) (ex : Nat) (h' : List va_E) (nc ns : Nat), am_run cls mL rt ini ftc fl kc kl gs ro cal oi nw thr xc xs fuel d y as h = some (.inr ex, h', nc, ns) → ∀ (ad : Nat → Nat) (sz : Nat), am_MT l (nm y) (wsM y) (am_rm d nc ns) (am_Pre D cl ct tys ak K0 ad h sz as) (am_Post D cl ct tys X ad h.length (va_A (am_ws ad ct h) sz) (.inr ex) h' nc) nc ns (va_A (am_ws ad ct h) sz) := by
  obtain ⟨h0, hTY, hok, hall⟩ := id hG
  intro d
  induction d with
  | zero => intro y as h v h' nc ns hr; cases hr
  | succ d ih =>
    intro y as h ex h' nc ns hr ad sz
    obtain ⟨hw, hex⟩ := am_if hr
    have hw := of_decide_eq_true hw
    have hy : ok y := by
      rcases am_exec_posT hex with ⟨e1, he1⟩ | ⟨i0, hi0⟩
      · exact hthr y 0 e1 he1
      · exact hok y 0 i0 hi0
    obtain ⟨⟨ws', hws⟩, hpl, hini, hFL, hKL, hOI, hNW, hAR, hfe, hdyn⟩ := hall y hy
    refine am_MT.ofW (cc := bt y) (maxL := mL y) (ret := rt y) hpl hws ?_
    intro p e s m args below meth c s₁ B hml hv
    obtain ⟨rfl, hsz, hP, hK, hD0, hak, hK0⟩ := hv
    have hts := atoms_spec (ws := wsM y) B.pre
    subst hsz
    have hD := hD0.self (sz := s.heap.size)
    obtain ⟨hCT, hKGR⟩ := hdyn _ s _ hK0 hts
    have hnh : c.exceptionTable.isEmpty = true := B.noHandlers (hts _ (by rw [hws]; exact List.mem_cons_self))
    have hl := lv_entry (as.map (am_tv ad)) (n := mL y) (by rw [am_sl_len, am_cats]; exact hw)
    rw [lg_entry_eq]
    generalize (lg_sl (as.map (am_tv ad)) ++ List.replicate (mL y - (lg_sl (as.map (am_tv ad))).length) Slot.unset).toArray = ls at hl ⊢
    rw [← am_args_lv] at hl
    have hm : am_M p l s m (as.map (am_tv ad)).toArray meth c (am_rm (d + 1) nc ns) (bt y) D cl (va_A (am_ws ad ct h) s.heap.size) tys ct ak (wsM y) (nm y).cls (mL y) K0 (cal (cls y)) nm bt mL rt wsM (fl (cls y)) (kc (cls y)) (kl (cls y)) (gs (cls y)) ro (ini y) (ftc y) (oi (cls y)) (nw (cls y)) (rt y) d :=
      ⟨B.exec, B.bytes, hml, hts, findClass_of_methodNamed B.named, B.notSynchronized, B.returns, hK, h0, hK0, fun q hq => Or.inr hq, hFL, hKGR, hKL, hTY, fun z => (name_of_methodNamed B.named B.method).1.trans (hini z), hCT, hOI, hNW, hAR, hfe, by show d + 9 ≤ d + 1 + 8; omega, Nat.le_refl _⟩
    have hsi := hS1 y hy p e (am_rm (d + 1) nc ns) s m (as.map (am_tv ad)).toArray below meth c (va_A (am_ws ad ct h) s.heap.size) (Stand.of_body B).admits B.exec B.bytes hml hts (findClass_of_methodNamed B.named) B.notSynchronized hnh hK hK0 (fun q hq => Or.inr hq) (fun aS cS h1 h2 => am_NA hP h1 h2) (by show 9 ≤ d + 1 + 8; omega) (by show 400 ≤ (d + 1) * 40 + 400; omega)
    exact am_exec_T (X := X) (thr := thr y) (xc := xc) (xs := xs) (run := am_run cls mL rt ini ftc fl kc kl gs ro cal oi nw thr xc xs fuel d) hX hnh hm (am_run_R (X := X) (thr := thr) (xc := xc) (xs := xs) (fuel := fuel) hG d) ih (ad0 := ad) (n0 := h.length) (NC := nc) (NS := ns) (Nat.le_refl _) (Nat.le_refl _) (hsi ad h.length nc ns (Nat.le_refl _) (Nat.le_refl _)) fuel 0 (lv_args 0 as) [] h nc ns hex ad s.heap [] 0 0 ls (by omega) (by omega) hP hD va_S.rf hl hak (fun _ _ => rfl) (Nat.le_refl _) (fun _ => rfl)
end AM10
end
section
section AM11
variable {p : Program} {l : Launch} {e : Env} {R : Room} {s : State} {m : MethodId} {args : Array Value} {below : List Frame} {meth : Method} {c : Code} {T : State} {locs : List Loc} {cells slots : Nat}
set_option maxHeartbeats 1000000 in
/-- an exception's constructor with a text, then its throw: the cells that were there stay as they are -/
theorem am_throw6 (X : Stand p l e R s m args below meth c T locs cells slots) (hexec : p.tables.exec = Jvm.exec) (htr : e.platform.stackTraces = false) {own xc : String} {names : List String} {ic : Nat}
    (hown : s.vm.findClass own = some m.cls) (hcls : Bundle.fit xc = true) (hnames : ∀ n ∈ names, Bundle.fit n = true) (h : ∀ a ∈ Bundle.ownAtoms own ic xc names, a.before args s = true)
    (hSt : ∀ (aS : Addr) (cS : Cell), s.heap[aS]? = some cS → cS.vm.isStatics = true → T.heap[aS]? = some cS)
    {a : Addr} {cX : ClassId} {kX : Class} (hfx : s.vm.findClass xc = some cX) (hkx : s.vm.classes[cX]? = some kX) (hcell : T.heap[a]? = some (freshCell cX kX)) (hnew : s.heap.size ≤ a) {msg : Value} (hmsg : msg.isRef = true)
    {g : JFrame} (hg : g.method = m) (hsize : g.locals.size = c.maxLocals) (hlocked : g.locked = none) (hentered : g.entered = []) {rest : List Value} (hstack : g.stack = msg :: .ref a :: .ref a :: rest)
    (hd6 : decode c.code g.pc = .ok (.invokespecial ic, 3)) (hd9 : decode c.code (g.pc + 3) = .ok (.athrow, 1)) (hout : ∀ x ∈ c.exceptionTable.toList, covers x (g.pc + 3) = false)
    (hRf : names.length + 3 < R.frames) (hRl : 2 * g.monitorRoom + ((Value.ref a :: rest).map fun v => v.category).sum + (13 * (names.length + 1) + 42) ≤ R.locals) (hlocks : meth.locks = false) :
    ∃ (U : State) (ce : Cell) (L : List Loc), Steps p.tables e below (T.setTop g) U ∧ U.status = .running ∧ Ended U below (.threw a) ∧ s.WarmedH U.vm ∧ s.sameButNew ({ U with vm := s.vm } : State) (locs ++ L) cells slots ∧ (∀ q ∈ L, q.base = a) ∧ U.heap = T.heap.setIfInBounds a ce ∧ ce.cls = cX ∧ ce.vm = .none := by
  have hpl : e.platform.magicAccessors = ({} : Platform).magicAccessors := by rw [X.admits.platform]
  have w : ∀ x, x ∈ Bundle.ownAtoms own ic xc names → x.holds args s none s [] = true := fun x hx => h x hx
  obtain ⟨T1, Z0, L1, -, Y⟩ := ThrowableC.of_atoms (args := args) (pl := e.platform) (by rw [X.admits.platform]) (by rw [X.admits.platform]) hpl (fun x hx => h x (by simp [Bundle.ownAtoms, hx]))
  obtain ⟨Z, M, LZ, LM, hnZ⟩ := Init0T.ofS_atoms (args := args) hpl L1 Y (fun x hx => h x (by simp [Bundle.ownAtoms, hx]))
  obtain ⟨P1, Ps, hlen, LP, hL, hP1m, hlink1, hlink⟩ := Bundle.chainS (args := args) hpl hnZ names xc hcls hnames (fun x hx => h x (by simp [Bundle.ownAtoms, hx]))
  have hfP : s.vm.findClass xc = some P1.m.cls := findClass_of_methodNamed hP1m
  cases Option.some.inj (hfx.symm.trans hfP)
  obtain ⟨c1, k1, hc1, hk, hord, -, -, -⟩ := Cond.instantiable_spec (w (.instantiable xc 6) (by simp [Bundle.ownAtoms]))
  cases Option.some.inj (hc1.symm.trans hfP)
  cases Option.some.inj (hkx.symm.trans hk)
  have hpick : ∀ {x : MethodName} {f : MethodId}, Jvm.Cond.selects xc x x ∈ Bundle.ownAtoms own ic xc names → s.methodNamed? x = some f → (x.cls ≠ "java/lang/invoke/MethodHandle" ∧ x.cls ≠ "java/lang/invoke/VarHandle") → selectMethod e.platform s.vm P1.m.cls f = .method f := by
    intro x f hx hf hxc
    obtain ⟨c2, r2, m2, q1, q2, q3, q4, -⟩ := Cond.selects_spec (w _ hx)
    cases Option.some.inj (q1.symm.trans hfP)
    cases Option.some.inj (q2.symm.trans (State.methodFound?_of_named hf hxc))
    cases Option.some.inj (q3.symm.trans hf)
    rw [Launch.admits_selectMethod X.admits]
    exact q4
  have hsel0 := hpick (x := Bundle.tFill0) (by simp [Bundle.ownAtoms]) Y.fill0 (by decide)
  have hselF := hpick (x := Bundle.tFill) (by simp [Bundle.ownAtoms]) Y.fill (by decide)
  obtain ⟨cS, hcS, hiss⟩ := Y.statics
  obtain ⟨u0, hu0⟩ := Cond.staticRefV Y.unassigned L1.unassignedStatic L1.statics hcS hiss (w (.isRef (.static Bundle.tN "UNASSIGNED_STACK" Bundle.steD)) (by simp [Bundle.ownAtoms]))
  obtain ⟨sen, hsen⟩ := Cond.staticRefV Y.sentinel L1.sentinelStatic L1.statics hcS hiss (w (.isRef (.static Bundle.tN "SUPPRESSED_SENTINEL" Bundle.listD)) (by simp [Bundle.ownAtoms]))
  obtain ⟨ci198, i198, fB, hk198, hg198, ha198, hsB, -, hnB, htB, hffB⟩ := Cond.ownField (t := .object "java/lang/Object") Y.found L1.cls (by decide +kernel) (w (.fieldLink Bundle.tN 198 Bundle.tN "backtrace" "Ljava/lang/Object;") (by simp [Bundle.ownAtoms])) (w (.lays Bundle.tN Bundle.tN "backtrace" "Ljava/lang/Object;") (by simp [Bundle.ownAtoms])) e.platform hpl
  have hcT : T.heap[T1.aS]? = some cS := hSt _ _ hcS hiss
  have hneS : T1.aS ≠ a := Nat.ne_of_lt (Nat.lt_of_lt_of_le (Array.getElem?_eq_some_iff.mp hcS).1 hnew)
  have hkn : cS.vm ≠ .unknown := fun z => by rw [z] at hiss; cases hiss
  obtain ⟨iM, hffM⟩ := Y.msg
  obtain ⟨tyC, dC, hdC, hdnC⟩ := Cond.laysAt hfP hk Y.cause (w (.lays xc Bundle.tN "cause" "Ljava/lang/Throwable;") (by simp [Bundle.ownAtoms]))
  obtain ⟨tyS, dS, hdS, hdnS⟩ := Cond.laysAt hfP hk Y.stack (w (.lays xc Bundle.tN "stackTrace" Bundle.steD) (by simp [Bundle.ownAtoms]))
  obtain ⟨tyP, dP, hdP, hdnP⟩ := Cond.laysAt hfP hk Y.supp (w (.lays xc Bundle.tN "suppressedExceptions" Bundle.listD) (by simp [Bundle.ownAtoms]))
  obtain ⟨tyM, -⟩ := Cond.laysAt hfP hk hffM (w (.lays xc Bundle.tN "detailMessage" "Ljava/lang/String;") (by simp [Bundle.ownAtoms]))
  obtain ⟨tyB, dB, hdB, hdnB⟩ := Cond.laysAt hfP hk hffB (w (.lays xc Bundle.tN "backtrace" "Ljava/lang/Object;") (by simp [Bundle.ownAtoms]))
  have bC := Cond.laysApart hdB hdC hdnB hdnC (by rw [hnB, Y.causeName]; decide)
  have bS := Cond.laysApart hdB hdS hdnB hdnS (by rw [hnB, Y.stackName]; decide)
  have bP := Cond.laysApart hdB hdP hdnB hdnP (by rw [hnB, Y.suppName]; decide)
  have hskip : SkipFacts T1 e.platform s (fun u => u) u0 ((preparedCellV T1.toThrowableT (freshCell P1.m.cls kX) a u0 sen).withEntry T.cur) := by
    refine ⟨{ ci198 := ci198, i198 := i198, fBack := fB }, ⟨hk198, hg198, ha198, hsB⟩, ?_, fun _ _ => rfl⟩
    have hz := fresh_default (c := P1.m.cls) tyB
    rw [htB] at hz
    simpa [preparedCellV, Cell.setSlot, Cell.withEntry, Array.getElem?_setIfInBounds, bC, bS, bP, bC.symm, bS.symm, bP.symm, defaultValue] using hz
  obtain ⟨tm, _, _, _, vm₁, hnC, -, -, -, -, -, -, -, hW₁, st1⟩ := Steps.initColdS (tb := p.tables) (e := e) (below := below) (s := s) (U := T) X.here hexec X.warmed hpl hown (t := Bundle.initS xc) rfl rfl (Bundle.fit_spec hcls).2
    (w (.methodLink own ic (Bundle.initS xc)) (by simp [Bundle.ownAtoms])) (h (.instanceMethod (Bundle.initS xc)) (by cases names <;> simp [Bundle.ownAtoms, Bundle.chainSAtoms, Bundle.passSAtoms])) (bytes := Bundle.six) (maxL := 2) (h (.code (Bundle.initS xc) Bundle.six 2 none) (by cases names <;> simp [Bundle.ownAtoms, Bundle.chainSAtoms, Bundle.passSAtoms]))
    (f := g) hg (a := a) (msg := msg) (rest := .ref a :: rest) hstack hd6
  cases Option.some.inj (hnC.symm.trans hP1m)
  obtain ⟨vm₂, X₂, st2⟩ := (X.noted hW₁).ctorMessageOffV hexec (g := { g with stack := .ref a :: rest }) hg hsize T1 L1 Z LZ M LM (P1 :: Ps)
    (fun P hP => by rcases List.mem_cons.mp hP with rfl | hP; exact LP; exact hL P hP) ⟨hlink1, hlink⟩ (u0 := u0) (sen := sen) (self := a) hmsg (cell := freshCell P1.m.cls kX) (cellS := cS)
    hcell (fun _ => by simp) (by simp) rfl rfl hsel0 hselF hcT hneS hkn hu0 hsen
    (Takes.of_laid hk hord tyC (by rw [Y.causeType]; rfl)) (Takes.of_laid hk hord tyS (by rw [Y.stackType]; exact fits_refV_array _ u0)) (Takes.of_laid hk hord tyP (by rw [Y.suppType]; exact fits_refV_object _ sen))
    (Takes.of_laid hk hord tyM (by rw [Y.msgType]; exact fits_refV_object _ ⟨msg, hmsg⟩)) Y.objLocals hskip htr [] hd6
    (by simp only [List.length_cons, hlen]; omega) (by simp only [List.length_cons, hlen]; exact hRl)
  obtain ⟨hwalk, hrun, hended, hWU, hsame⟩ := X₂.athrowLeaves hexec (g := { g with stack := .ref a :: rest, pc := g.pc + 3 }) hg hlocked hentered hout (a := a) (rest := rest) rfl hd9 hlocks
  refine ⟨_, _, _, st1 _ (fun acts => ?_), hrun, hended, hWU, hsame, ?_, rfl, rfl, rfl⟩
  · rw [doInvoke_state]
    exact st2 _ hwalk
  · intro q hq
    simp only [List.mem_cons, List.not_mem_nil, or_false] at hq
    rcases hq with rfl | rfl | rfl | rfl | rfl <;> rfl
end AM11
end
section
/-- what an exception's cell is; xn: the names of the exceptions' classes -/
def am_X (xn : Nat → String) (ex a : Nat) (t : State) : Prop := ∃ cell : Cell, t.heap[a]? = some cell ∧ cell.vm.isStatics = false ∧ t.vm.findClass (xn ex) = some cell.cls
theorem am_X_o (xn : Nat → String) : am_XO (am_X xn) := by
  intro ex a t u h1 h2 h3
  obtain ⟨cell, q1, q2, q3⟩ := h3
  exact ⟨cell, by rw [← h1]; exact q1, q2, by rw [← h2]; exact q3⟩
/-- a throw of a new exception with a text: its five rows and its words -/
def am_ST (xn : Nat → String) (own : String) (cc : ByteArray) (Ts : List Jvm.Cond) (args : Array Value) (s : State) (pc ex : Nat) : Prop :=
  ∃ (ix k ic : Nat) (names : List String) (tx : String) (a0 : Nat), decode cc pc = .ok (.new ix, 3) ∧ decode cc (pc + 3) = .ok (.dup, 1) ∧ decode cc (pc + 4) = .ok (.ldc k, 2) ∧ decode cc (pc + 6) = .ok (.invokespecial ic, 3) ∧ decode cc (pc + 9) = .ok (.athrow, 1) ∧ Jvm.Cond.classLink own ix (xn ex) ∈ Ts ∧ Jvm.Cond.instantiable (xn ex) 6 ∈ Ts ∧ Jvm.Cond.initialized (xn ex) ∈ Ts ∧ vk_R own k tx a0 s ∧ Bundle.fit (xn ex) = true ∧ (∀ n ∈ names, Bundle.fit n = true) ∧ (∀ a ∈ Bundle.ownAtoms own ic (xn ex) names, a.before args s = true) ∧ names.length ≤ 4
section AM12
variable {p : Program} {l : Launch} {e : Env} {R : Room} {s : State} {m : MethodId} {args : Array Value} {below : List Frame} {meth : Method} {c : Code}
variable {cc : ByteArray} {D : va_G} {cl : List vw_C} {A : Nat → Prop} {tys : List (ClassId × FieldType)} {ct ak : Nat → Nat} {Ts : List Jvm.Cond} {own : String} {nL : Nat} {thr : Nat → Option Nat}
set_option maxHeartbeats 1000000 in
theorem am_site (xn : Nat → String) (htr : e.platform.stackTraces = false) (hx : p.tables.exec = Jvm.exec) (hb : c.code = cc) (hml : c.maxLocals = nL) (hts : ∀ w ∈ Ts, w.before args s = true) (hown : s.vm.findClass own = some m.cls) (hlocks : meth.locks = false) (hnh : c.exceptionTable.isEmpty = true) (hK : va_K D cl tys s) (hA : ∀ q, s.heap.size ≤ q → A q) (hNA : ∀ (aS : Addr) (cS : Cell), s.heap[aS]? = some cS → cS.vm.isStatics = true → ¬ A aS) (hRf : 9 ≤ R.frames) (hRl : 400 ≤ R.locals)
    (hST : ∀ pc ex, thr pc = some ex → am_ST xn own cc Ts args s pc ex) : am_SI p l e R s m args below meth c D cl A tys ct ak nL (am_X xn) thr 1 6 := by
  intro ad0 n0 NC NS hNC hNS pc ex st h ad H locs cells slots ls ht h8 hcn hsn hP hD hS hls hak hag hn0 hc0
  obtain ⟨ix, k, ic, names, tx, a0, d0, d3, d4, d6, d9, w1, w2, w3, hR, hfit, hfits, hat, hnl⟩ := hST pc ex ht
  obtain ⟨cX, kX0, hfx, hkx0, -⟩ := Cond.instantiable_spec (hts _ w2)
  refine W.newcK hx hb hown (hts _ w1) (hts _ w2) (hts _ w3) (g := F0 m pc ls (st.map (am_tv ad))) rfl d0 (by omega) (by omega) hfx rfl (fun H1 kX hkx e1 z1 o1 => ?_)
  refine lv_dup hx hb d3 rfl ?_
  refine va_ldcS hx hb hown hR d4 ?_
  intro T hT X1
  obtain ⟨U, ce, L, u1, u2, u3, u4, u5, u6, u7, u8, u9⟩ := am_throw6 X1 hx htr hown hfit hfits hat (fun aS cS q1 q2 => by
      have hlt := (Array.getElem?_eq_some_iff.mp q1).1
      rw [hT, o1 aS (Nat.lt_of_lt_of_le hlt hS.1), hS.2.1 aS hlt (hNA aS cS q1 q2)]
      exact q1) (a := H.size) hfx hkx (by rw [hT]; exact e1) hS.1 (msg := .ref a0) rfl (g := F0 m (pc + 3 + 1 + 2) ls (.ref a0 :: .ref H.size :: .ref H.size :: st.map (am_tv ad))) rfl (hls.trans hml.symm) rfl rfl rfl (by rw [hb]; exact d6) (by rw [hb]; exact d9) (by
      intro z hz
      rw [Array.isEmpty_iff] at hnh
      rw [hnh] at hz
      cases hz) (by omega) (by
      have h0 : (F0 m (pc + 3 + 1 + 2) ls (.ref a0 :: .ref H.size :: .ref H.size :: st.map (am_tv ad))).monitorRoom = 0 := rfl
      rw [h0, List.map_cons, List.sum_cons, am_cats]
      have h1 : (Value.ref H.size).category = 1 := rfl
      rw [h1]
      omega) hlocks
  have hkeep : ∀ q : Nat, q < H.size → U.heap[q]? = H[q]? := fun q hq => by
    rw [u7, Array.getElem?_setIfInBounds_ne (Nat.ne_of_gt hq), hT, o1 q hq]
  have hsz : U.heap.size = H.size + 1 := by rw [u7, Array.size_setIfInBounds, hT, z1]
  refine ⟨U, u1, .threw H.size, u2, u3, ⟨ad, hag, fun z => hc0 (by omega), ⟨H.size, rfl, ce, ?_, by rw [u9]; rfl, ?_⟩, hP.kept (fun k q hk => hkeep q.1 (hP k q hk).lt), va_K.moved u4.alike hK, hD, ⟨by rw [hsz]; exact Nat.le_trans hS.1 (Nat.le_succ _), fun q h1 h2 => by rw [hkeep q (Nat.lt_of_lt_of_le h1 hS.1)]; exact hS.2.1 q h1 h2⟩⟩, locs ++ L, ⟨⟨H.size, rfl⟩, u4, ?_⟩, fun q hq => ?_⟩
  · rw [u7, Array.getElem?_setIfInBounds_self_of_lt (by rw [hT, z1]; omega)]
  · rw [u8, u4.alike.findClass]
    exact hfx
  · have e2 : cells + 1 = NC := hcn
    have e3 : slots + 6 = NS := hsn
    rw [← e2, ← e3]
    exact u5
  · rcases List.mem_append.mp hq with z | z
    · exact hS.2.2 q z
    · rw [u6 q z]
      exact hA _ hS.1
end AM12
end
section
/-! ===== LINKS, printed by wip/gen/gen.py ===== -/
def am_p0 : List Nat := [490, 492, 494, 496, 498, 500, 502, 504]
def am_p1 : List Nat := [264, 266, 268]
def am_p2 : List Nat := [284, 286, 288]
def am_p3 : List Nat := [308, 310, 312, 314, 316, 318, 320, 322, 324, 326, 328]
def am_p4 : List Nat := [382, 384, 386, 388, 390, 392, 394, 396]
def am_p5 : List Nat := [352, 354, 356, 358, 360, 362, 364, 366]
def am_p6 : List Nat := [417, 419, 421, 423, 425, 427, 429, 431, 433]
def am_p7 : List Nat := [446, 448, 450]
def am_p8 : List Nat := [467, 469, 471, 473, 475, 477, 479]
def am_p9 : List Nat := [1441, 1443, 1445, 1447, 1449, 1451, 1453, 1455, 1457, 1459, 1461, 1463, 1465, 1467, 1469, 1471, 1473, 1475, 1477, 1479, 1481, 1483, 1485, 1487, 1489, 1491, 1493, 1495, 1497, 1499, 1501, 1503, 1505, 1507, 1509, 1511, 1513, 1515, 1517, 1519, 1521, 1523, 1525, 1527, 1529, 1531, 1533, 1535, 1537, 1539, 1541, 1543, 1545, 1547, 1549]
def am_flT : List ((Nat × Nat) × (Nat × Nat × FieldType × Bool)) := [((1, 9), (1, 0, .array (.char), true)), ((1, 15), (1, 1, .int, false)), ((0, 74), (1, 1, .int, false)), ((1, 19), (1, 2, .int, false)), ((5, 85), (1, 2, .int, false)), ((2, 15), (2, 0, .int, false)), ((0, 114), (2, 0, .int, false)), ((2, 9), (2, 1, .int, false)), ((0, 117), (2, 1, .int, false)), ((2, 18), (2, 2, .int, false)), ((0, 99), (2, 2, .int, false)), ((3, 39), (3, 0, .object "ScriptFront$Flaw", true)), ((3, 9), (3, 1, .array (.int), true)), ((3, 15), (3, 2, .array (.int), true)), ((3, 18), (3, 3, .array (.int), true)), ((3, 21), (3, 4, .array (.int), true)), ((3, 24), (3, 5, .array (.int), true)), ((3, 27), (3, 6, .array (.int), true)), ((3, 30), (3, 7, .array (.int), true)), ((3, 33), (3, 8, .array (.int), true)), ((3, 36), (3, 9, .array (.int), true)), ((3, 43), (3, 10, .int, false)), ((5, 9), (5, 0, .object "ScriptFront$Tape", true)), ((5, 15), (5, 1, .object "ScriptFront$Flaw", true)), ((5, 33), (5, 2, .boolean, false)), ((4, 53), (5, 3, .int, false)), ((5, 50), (5, 3, .int, false)), ((5, 40), (5, 4, .int, false)), ((4, 78), (5, 4, .int, false)), ((5, 26), (5, 5, .int, false)), ((4, 66), (5, 5, .int, false)), ((5, 19), (5, 6, .int, false)), ((5, 37), (5, 7, .boolean, false)), ((4, 117), (5, 7, .boolean, false)), ((4, 18), (4, 0, .object "ScriptFront$Scanner", true)), ((4, 22), (4, 1, .object "ScriptFront$Draft", true)), ((4, 26), (4, 2, .object "ScriptFront$Flaw", true)), ((4, 11), (4, 3, .array (.int), true)), ((4, 15), (4, 4, .array (.int), true)), ((4, 34), (4, 5, .int, false)), ((4, 202), (4, 6, .boolean, false)), ((4, 30), (4, 7, .int, false)), ((0, 96), (4, 7, .int, false)), ((6, 9), (6, 0, .array (.int), true)), ((6, 15), (6, 1, .array (.int), true)), ((6, 18), (6, 2, .array (.int), true)), ((6, 21), (6, 3, .array (.int), true)), ((6, 24), (6, 4, .array (.int), true)), ((6, 27), (6, 5, .array (.int), true)), ((6, 30), (6, 6, .array (.int), true)), ((6, 33), (6, 7, .array (.boolean), true)), ((6, 37), (6, 8, .int, false)), ((7, 23), (6, 8, .int, false)), ((8, 38), (6, 8, .int, false)), ((0, 111), (6, 8, .int, false)), ((7, 9), (7, 0, .object "ScriptFront$Tape", true)), ((7, 15), (7, 1, .object "ScriptFront$Flaw", true)), ((7, 19), (7, 2, .object "ScriptFront$Tree", false)), ((8, 22), (8, 0, .object "ScriptFront$Tape", true)), ((8, 11), (8, 1, .array (.char), true)), ((8, 15), (8, 2, .array (.boolean), true)), ((8, 19), (8, 3, .array (.boolean), true)), ((8, 26), (8, 4, .object "ScriptFront$Tree", false)), ((8, 34), (8, 5, .boolean, false)), ((8, 30), (8, 6, .int, false)), ((0, 148), (8, 6, .int, false)), ((0, 10), (0, 0, .object "ScriptFront$Tape", true)), ((0, 19), (0, 1, .object "ScriptFront$Flaw", true)), ((0, 28), (0, 2, .object "ScriptFront$Draft", true)), ((0, 42), (0, 3, .object "ScriptFront$Parser", true)), ((0, 61), (0, 4, .object "ScriptFront$Judge", true)), ((0, 70), (0, 5, .object "ScriptFront$Printer", true)), ((0, 49), (0, 6, .object "ScriptFront$Tree", false)), ((0, 53), (0, 7, .object "ScriptFront$Tree", false)), ((9, 61), (9, 0, .array (.long), true)), ((9, 73), (9, 1, .array (.int), true)), ((9, 77), (9, 2, .array (.int), true)), ((9, 167), (9, 3, .int, false)), ((9, 80), (9, 4, .array (.byte), true)), ((9, 84), (9, 5, .array (.byte), true)), ((9, 170), (9, 6, .int, false)), ((9, 179), (9, 7, .int, false)), ((9, 188), (9, 8, .int, false)), ((9, 87), (9, 9, .int, false)), ((9, 328), (9, 10, .int, false)), ((9, 242), (9, 11, .int, false)), ((9, 205), (9, 12, .int, false)), ((9, 264), (9, 13, .int, false)), ((9, 202), (9, 14, .int, false)), ((9, 198), (9, 15, .boolean, false)), ((9, 233), (9, 16, .boolean, false)), ((9, 236), (9, 17, .boolean, false)), ((9, 267), (9, 18, .int, false)), ((9, 91), (9, 19, .array (.int), true)), ((9, 94), (9, 20, .array (.int), true)), ((9, 97), (9, 21, .array (.int), true)), ((9, 100), (9, 22, .array (.int), true)), ((9, 103), (9, 23, .array (.int), true)), ((9, 106), (9, 24, .array (.int), true)), ((9, 109), (9, 25, .array (.int), true)), ((9, 112), (9, 26, .array (.boolean), true)), ((9, 116), (9, 27, .array (.boolean), true)), ((9, 283), (9, 28, .int, false)), ((9, 119), (9, 29, .array (.int), true)), ((9, 122), (9, 30, .array (.int), true)), ((9, 125), (9, 31, .array (.int), true)), ((9, 128), (9, 32, .array (.int), true)), ((9, 131), (9, 33, .array (.int), true)), ((9, 270), (9, 34, .int, false)), ((9, 134), (9, 35, .array (.int), true)), ((9, 340), (9, 36, .int, false)), ((9, 137), (9, 37, .array (.int), true)), ((9, 140), (9, 38, .array (.int), true)), ((9, 143), (9, 39, .array (.int), true)), ((9, 294), (9, 40, .int, false)), ((9, 273), (9, 41, .boolean, false)), ((9, 629), (9, 42, .boolean, false)), ((9, 623), (9, 43, .int, false)), ((9, 146), (9, 44, .array (.int), true)), ((9, 149), (9, 45, .array (.int), true)), ((9, 152), (9, 46, .array (.int), true)), ((9, 155), (9, 47, .array (.byte), true)), ((9, 518), (9, 48, .int, false)), ((9, 535), (9, 49, .int, false)), ((9, 158), (9, 50, .array (.int), true)), ((9, 161), (9, 51, .array (.int), true)), ((9, 164), (9, 52, .array (.int), true)), ((9, 521), (9, 53, .int, false)), ((9, 524), (9, 54, .int, false))]
def am_flP : List Nat := [259, 260, 261, 262, 263, 278, 279, 280, 281, 282, 283, 297, 298, 299, 300, 301, 302, 303, 304, 305, 306, 307, 340, 341, 342, 343, 344, 345, 346, 347, 348, 349, 350, 351, 373, 374, 375, 376, 377, 378, 379, 380, 381, 405, 406, 407, 408, 409, 410, 411, 412, 413, 414, 415, 416, 443, 444, 445, 459, 460, 461, 462, 463, 464, 465, 466, 482, 483, 484, 485, 486, 487, 488, 489, 1386, 1387, 1388, 1389, 1390, 1391, 1392, 1393, 1394, 1395, 1396, 1397, 1398, 1399, 1400, 1401, 1402, 1403, 1404, 1405, 1406, 1407, 1408, 1409, 1410, 1411, 1412, 1413, 1414, 1415, 1416, 1417, 1418, 1419, 1420, 1421, 1422, 1423, 1424, 1425, 1426, 1427, 1428, 1429, 1430, 1431, 1432, 1433, 1434, 1435, 1436, 1437, 1438, 1439, 1440]
abbrev am_Ca : Type := (Nat × Nat) × ((Nat × Nat × Nat × Nat) × (Nat × Nat × Nat × Nat))
def am_ca0 : List am_Ca := [((12, 21), ((2, 0, 0, 0), (247, 248, 225, 0))), ((0, 25), ((2, 3, 1, 3), (293, 294, 228, 0))), ((0, 36), ((2, 4, 2, 5), (336, 337, 230, 0))), ((0, 39), ((2, 5, 3, 4), (369, 370, 229, 0))), ((0, 58), ((2, 7, 3, 7), (439, 440, 232, 0))), ((0, 67), ((2, 8, 2, 8), (455, 456, 233, 0))), ((12, 27), ((0, 9, 2, 0), (507, 508, 225, 509))), ((0, 78), ((1, 10, 1, 1), (511, 512, 226, 0))), ((1, 35), ((1, 11, 1, 1), (514, 515, 226, 0))), ((0, 82), ((0, 12, 1, 1), (517, 518, 226, 519))), ((12, 41), ((0, 13, 1, 0), (521, 522, 225, 523))), ((12, 50), ((0, 14, 1, 0), (525, 526, 225, 527))), ((0, 127), ((0, 15, 1, 6), (529, 530, 231, 531))), ((6, 41), ((0, 16, 1, 6), (533, 535, 231, 0))), ((12, 54), ((0, 17, 1, 0), (537, 538, 225, 539))), ((0, 151), ((0, 18, 1, 8), (541, 542, 233, 543))), ((12, 58), ((0, 19, 0, 0), (545, 546, 225, 547))), ((12, 7), ((0, 20, 0, 0), (553, 554, 225, 555))), ((0, 86), ((0, 21, 0, 1), (557, 558, 226, 559))), ((0, 89), ((0, 22, 0, 2), (561, 562, 227, 563))), ((0, 92), ((0, 23, 0, 4), (565, 566, 229, 567))), ((4, 37), ((0, 24, 0, 3), (569, 570, 228, 571))), ((4, 42), ((0, 25, 0, 5), (573, 574, 230, 575))), ((5, 23), ((0, 26, 0, 5), (577, 578, 230, 579))), ((5, 29), ((0, 27, 1, 5), (581, 583, 230, 1))), ((5, 43), ((0, 28, 1, 1), (585, 586, 226, 587))), ((5, 76), ((1, 11, 1, 1), (589, 515, 226, 0))), ((5, 79), ((0, 29, 1, 5), (590, 592, 230, 2))), ((5, 82), ((0, 30, 1, 5), (594, 596, 230, 3))), ((5, 53), ((1, 31, 1, 1), (598, 599, 226, 0))), ((5, 57), ((0, 32, 0, 5), (601, 603, 230, 4))), ((5, 103), ((0, 33, 1, 5), (605, 607, 230, 5))), ((5, 116), ((0, 34, 2, 2), (609, 610, 227, 611))), ((5, 107), ((0, 35, 2, 5), (680, 682, 230, 7))), ((5, 111), ((0, 36, 1, 5), (684, 686, 230, 8))), ((5, 60), ((1, 37, 1, 1), (688, 689, 226, 0))), ((5, 63), ((0, 38, 0, 5), (691, 693, 230, 9))), ((5, 88), ((0, 39, 0, 5), (695, 697, 230, 10))), ((5, 92), ((0, 40, 0, 5), (699, 700, 230, 701))), ((5, 66), ((0, 42, 1, 5), (752, 754, 230, 11))), ((5, 70), ((0, 43, 0, 5), (756, 758, 230, 12)))]
def am_ca1 : List am_Ca := [((5, 123), ((1, 44, 1, 0), (760, 761, 243, 0))), ((4, 49), ((0, 45, 4, 3), (765, 766, 228, 767))), ((3, 49), ((0, 34, 2, 2), (769, 610, 227, 611))), ((4, 56), ((0, 46, 1, 4), (770, 772, 229, 13))), ((4, 94), ((0, 47, 1, 4), (774, 776, 229, 14))), ((4, 97), ((0, 48, 1, 4), (778, 780, 229, 15))), ((4, 72), ((0, 49, 0, 5), (782, 783, 230, 784))), ((5, 73), ((0, 50, 0, 5), (786, 788, 230, 16))), ((5, 120), ((0, 51, 1, 5), (790, 792, 230, 17))), ((4, 75), ((0, 52, 0, 4), (794, 796, 229, 18))), ((4, 69), ((0, 34, 2, 2), (798, 610, 227, 611))), ((4, 104), ((0, 53, 1, 4), (799, 801, 229, 19))), ((4, 121), ((0, 54, 1, 4), (803, 805, 229, 20))), ((4, 81), ((0, 55, 1, 4), (807, 809, 229, 21))), ((4, 124), ((0, 56, 1, 4), (811, 813, 229, 22))), ((4, 85), ((0, 26, 0, 5), (815, 578, 230, 579))), ((4, 177), ((0, 57, 0, 4), (816, 818, 229, 23))), ((4, 60), ((0, 58, 2, 3), (820, 821, 228, 822))), ((3, 53), ((0, 59, 1, 3), (824, 826, 228, 24))), ((4, 168), ((0, 60, 1, 4), (828, 830, 229, 25))), ((4, 127), ((0, 61, 2, 4), (832, 834, 229, 26))), ((4, 180), ((0, 62, 2, 4), (836, 838, 229, 27))), ((4, 183), ((0, 63, 0, 4), (840, 842, 229, 28))), ((4, 165), ((0, 64, 1, 4), (844, 846, 229, 29))), ((4, 88), ((0, 40, 0, 5), (848, 700, 230, 701))), ((4, 186), ((0, 65, 2, 4), (849, 851, 229, 30))), ((4, 217), ((0, 66, 2, 4), (853, 855, 229, 31))), ((4, 223), ((0, 67, 2, 4), (857, 859, 229, 32))), ((4, 226), ((0, 68, 1, 4), (861, 863, 229, 33))), ((4, 238), ((1, 69, 1, 0), (865, 866, 243, 0))), ((4, 241), ((0, 70, 1, 4), (868, 870, 229, 34))), ((4, 244), ((0, 71, 1, 4), (872, 874, 229, 35))), ((4, 253), ((0, 72, 1, 4), (876, 878, 229, 36))), ((4, 259), ((0, 73, 1, 4), (880, 882, 229, 37))), ((4, 250), ((0, 74, 2, 4), (884, 886, 229, 38))), ((4, 171), ((0, 75, 1, 4), (888, 890, 229, 39))), ((4, 174), ((0, 76, 2, 4), (892, 894, 229, 40))), ((4, 262), ((0, 77, 2, 4), (896, 898, 229, 41))), ((4, 256), ((0, 78, 1, 4), (900, 902, 229, 42))), ((4, 265), ((0, 79, 1, 4), (904, 906, 229, 43))), ((4, 100), ((0, 80, 2, 4), (908, 910, 229, 44)))]
def am_ca2 : List am_Ca := [((4, 214), ((0, 81, 1, 4), (912, 914, 229, 45))), ((4, 268), ((0, 82, 1, 4), (916, 918, 229, 46))), ((4, 192), ((0, 83, 0, 4), (920, 922, 229, 47))), ((4, 271), ((0, 84, 1, 4), (924, 926, 229, 48))), ((4, 274), ((0, 85, 1, 4), (928, 930, 229, 49))), ((4, 247), ((0, 86, 2, 4), (932, 934, 229, 50))), ((4, 229), ((1, 87, 1, 0), (936, 937, 243, 0))), ((4, 232), ((0, 88, 3, 4), (939, 941, 229, 51))), ((4, 235), ((0, 89, 2, 4), (943, 945, 229, 52))), ((4, 220), ((1, 90, 1, 0), (947, 948, 243, 0))), ((4, 131), ((0, 91, 1, 4), (950, 952, 229, 53))), ((4, 189), ((0, 92, 2, 4), (954, 956, 229, 54))), ((4, 134), ((0, 93, 1, 4), (958, 960, 229, 55))), ((4, 137), ((0, 94, 1, 4), (962, 964, 229, 56))), ((4, 140), ((0, 95, 1, 4), (966, 968, 229, 57))), ((4, 195), ((0, 96, 3, 4), (970, 972, 229, 58))), ((4, 199), ((0, 97, 1, 3), (974, 975, 228, 976))), ((4, 205), ((0, 98, 3, 4), (978, 980, 229, 59))), ((4, 143), ((0, 99, 1, 4), (982, 984, 229, 60))), ((4, 146), ((0, 100, 1, 4), (986, 988, 229, 61))), ((4, 149), ((0, 101, 1, 4), (990, 992, 229, 62))), ((4, 208), ((0, 102, 1, 4), (994, 996, 229, 63))), ((4, 152), ((0, 103, 1, 4), (998, 1000, 229, 64))), ((4, 155), ((0, 104, 1, 4), (1002, 1004, 229, 65))), ((4, 211), ((0, 105, 1, 4), (1006, 1008, 229, 66))), ((4, 158), ((0, 106, 1, 4), (1010, 1012, 229, 67))), ((4, 161), ((0, 107, 0, 5), (1014, 1015, 230, 1016))), ((4, 107), ((0, 108, 1, 3), (1018, 1019, 228, 1020))), ((4, 110), ((1, 109, 1, 4), (1022, 1023, 229, 0))), ((4, 114), ((0, 110, 0, 4), (1025, 1027, 229, 68))), ((0, 100), ((0, 111, 2, 3), (1029, 1030, 228, 1031))), ((3, 57), ((0, 112, 0, 6), (1033, 1034, 231, 1035))), ((3, 62), ((0, 113, 5, 6), (1037, 1038, 231, 1039))), ((3, 66), ((0, 114, 1, 3), (1041, 1043, 228, 69))), ((0, 104), ((0, 115, 1, 7), (1045, 1046, 232, 1047))), ((7, 29), ((0, 116, 1, 7), (1049, 1051, 232, 70))), ((7, 60), ((0, 117, 1, 6), (1053, 1054, 231, 1055))), ((7, 63), ((0, 15, 1, 6), (1057, 530, 231, 531))), ((7, 66), ((0, 118, 1, 7), (1058, 1060, 232, 71))), ((7, 75), ((0, 119, 1, 7), (1062, 1064, 232, 72))), ((7, 52), ((0, 120, 1, 6), (1066, 1067, 231, 1068)))]
def am_ca3 : List am_Ca := [((7, 78), ((0, 121, 1, 6), (1070, 1071, 231, 1072))), ((7, 83), ((0, 122, 2, 1), (1075, 1076, 226, 1077))), ((1, 27), ((0, 28, 1, 1), (1080, 586, 226, 587))), ((7, 69), ((0, 123, 1, 6), (1082, 1083, 231, 1084))), ((7, 72), ((0, 124, 1, 6), (1086, 1087, 231, 1088))), ((7, 33), ((0, 125, 2, 6), (1090, 1091, 231, 1092))), ((7, 37), ((0, 126, 1, 7), (1094, 1096, 232, 73))), ((7, 96), ((0, 127, 1, 7), (1098, 1100, 232, 74))), ((7, 91), ((0, 128, 1, 6), (1102, 1103, 231, 1104))), ((7, 42), ((0, 129, 3, 7), (1106, 1108, 232, 75))), ((7, 56), ((0, 34, 2, 2), (1110, 610, 227, 611))), ((7, 46), ((0, 130, 1, 7), (1111, 1113, 232, 76))), ((7, 99), ((0, 131, 1, 7), (1115, 1117, 232, 77))), ((7, 102), ((0, 132, 1, 7), (1121, 1123, 232, 78))), ((7, 115), ((0, 133, 2, 7), (1125, 1127, 232, 79))), ((7, 119), ((0, 28, 1, 1), (1129, 586, 226, 587))), ((7, 105), ((0, 134, 1, 7), (1130, 1132, 232, 80))), ((7, 108), ((0, 135, 1, 7), (1134, 1136, 232, 81))), ((7, 49), ((0, 136, 1, 7), (1138, 1140, 232, 82))), ((7, 122), ((0, 137, 1, 7), (1142, 1144, 232, 83))), ((7, 125), ((0, 138, 1, 7), (1146, 1148, 232, 84))), ((7, 128), ((0, 139, 1, 7), (1150, 1152, 232, 85))), ((7, 131), ((0, 140, 2, 7), (1154, 1156, 232, 86))), ((7, 138), ((1, 141, 1, 7), (1158, 1159, 232, 0))), ((7, 135), ((0, 142, 1, 7), (1161, 1163, 232, 87))), ((0, 108), ((0, 143, 1, 8), (1165, 1166, 233, 1167))), ((8, 43), ((0, 144, 1, 8), (1169, 1171, 233, 88))), ((8, 65), ((0, 117, 1, 6), (1173, 1054, 231, 1055))), ((8, 53), ((0, 15, 1, 6), (1174, 530, 231, 531))), ((8, 79), ((0, 145, 1, 6), (1175, 1176, 231, 1177))), ((8, 47), ((0, 146, 1, 8), (1179, 1181, 233, 89))), ((8, 90), ((0, 147, 1, 8), (1183, 1185, 233, 90))), ((8, 82), ((0, 128, 1, 6), (1187, 1103, 231, 1104))), ((8, 85), ((1, 87, 1, 0), (1188, 937, 243, 0))), ((8, 50), ((0, 148, 1, 8), (1189, 1191, 233, 91))), ((8, 93), ((0, 149, 1, 8), (1193, 1195, 233, 92))), ((8, 59), ((0, 150, 1, 8), (1197, 1199, 233, 93))), ((8, 96), ((0, 151, 1, 8), (1201, 1203, 233, 94))), ((8, 62), ((0, 152, 1, 8), (1205, 1207, 233, 95))), ((8, 99), ((0, 120, 1, 6), (1209, 1067, 231, 1068))), ((8, 68), ((0, 153, 2, 8), (1210, 1212, 233, 96)))]
def am_ca4 : List am_Ca := [((8, 102), ((0, 154, 2, 8), (1214, 1216, 233, 97))), ((8, 192), ((0, 124, 1, 6), (1218, 1087, 231, 1088))), ((8, 110), ((0, 155, 2, 8), (1220, 1222, 233, 98))), ((8, 116), ((0, 156, 1, 8), (1224, 1226, 233, 99))), ((8, 214), ((0, 157, 1, 8), (1233, 1235, 233, 100))), ((8, 231), ((0, 18, 1, 8), (1237, 542, 233, 543))), ((8, 232), ((1, 37, 1, 1), (1238, 689, 226, 0))), ((8, 220), ((0, 158, 1, 8), (1239, 1241, 233, 101))), ((8, 130), ((0, 159, 1, 8), (1247, 1249, 233, 102))), ((8, 223), ((0, 121, 1, 6), (1251, 1071, 231, 1072))), ((8, 226), ((0, 28, 1, 1), (1252, 586, 226, 587))), ((8, 105), ((0, 160, 1, 8), (1255, 1257, 233, 103))), ((8, 201), ((0, 161, 1, 8), (1261, 1263, 233, 104))), ((8, 72), ((0, 162, 1, 8), (1266, 1268, 233, 105))), ((8, 135), ((0, 163, 2, 8), (1274, 1276, 233, 106))), ((8, 76), ((0, 164, 1, 8), (1281, 1283, 233, 107))), ((8, 148), ((0, 165, 2, 8), (1285, 1287, 233, 108))), ((8, 156), ((0, 166, 1, 8), (1290, 1292, 233, 109))), ((8, 151), ((0, 167, 2, 8), (1296, 1298, 233, 110))), ((8, 179), ((0, 168, 2, 8), (1308, 1310, 233, 111))), ((12, 15), ((0, 169, 2, 0), (1321, 1322, 225, 1323))), ((0, 131), ((0, 120, 1, 6), (1341, 1067, 231, 1068))), ((0, 134), ((0, 121, 1, 6), (1342, 1071, 231, 1072))), ((0, 137), ((0, 124, 1, 6), (1343, 1087, 231, 1088))), ((0, 140), ((0, 117, 1, 6), (1344, 1054, 231, 1055))), ((0, 143), ((0, 123, 1, 6), (1345, 1083, 231, 1084))), ((12, 24), ((2, 170, 0, 9), (1349, 1350, 234, 0))), ((12, 38), ((0, 171, 0, 9), (1553, 1554, 234, 1555))), ((12, 31), ((0, 172, 2, 9), (1557, 1558, 234, 1559))), ((9, 175), ((1, 173, 1, 9), (1562, 1563, 234, 0))), ((12, 37), ((0, 174, 0, 9), (1565, 1566, 234, 1567))), ((9, 610), ((0, 175, 0, 9), (1569, 1571, 234, 112))), ((9, 286), ((0, 176, 5, 9), (1573, 1575, 234, 113))), ((9, 297), ((0, 177, 2, 9), (1577, 1579, 234, 114))), ((9, 607), ((0, 178, 0, 9), (1581, 1583, 234, 115))), ((9, 355), ((0, 179, 1, 9), (1585, 1587, 234, 116))), ((9, 290), ((0, 180, 1, 9), (1589, 1591, 234, 117))), ((9, 191), ((0, 181, 1, 9), (1593, 1595, 234, 118))), ((9, 239), ((0, 182, 0, 9), (1597, 1599, 234, 119))), ((9, 195), ((1, 183, 1, 9), (1601, 1602, 234, 0))), ((9, 208), ((0, 184, 1, 9), (1604, 1606, 234, 120)))]
def am_ca5 : List am_Ca := [((9, 211), ((0, 185, 2, 9), (1608, 1610, 234, 121))), ((9, 185), ((1, 186, 1, 9), (1612, 1613, 234, 0))), ((9, 218), ((1, 187, 1, 9), (1615, 1616, 234, 0))), ((9, 182), ((1, 188, 1, 9), (1618, 1619, 234, 0))), ((9, 245), ((0, 189, 2, 9), (1621, 1623, 234, 122))), ((9, 249), ((0, 190, 1, 9), (1627, 1629, 234, 123))), ((9, 215), ((1, 191, 1, 9), (1631, 1632, 234, 0))), ((9, 221), ((0, 192, 1, 9), (1634, 1636, 234, 124))), ((9, 252), ((0, 193, 1, 9), (1638, 1640, 234, 125))), ((9, 255), ((0, 194, 1, 9), (1642, 1644, 234, 126))), ((9, 224), ((0, 195, 1, 9), (1646, 1648, 234, 127))), ((9, 258), ((0, 196, 1, 9), (1650, 1652, 234, 128))), ((9, 261), ((1, 197, 1, 9), (1654, 1655, 234, 0))), ((9, 280), ((0, 198, 0, 9), (1659, 1661, 234, 129))), ((9, 358), ((0, 199, 1, 9), (1663, 1665, 234, 130))), ((9, 300), ((0, 200, 0, 9), (1667, 1669, 234, 131))), ((9, 304), ((0, 201, 2, 9), (1671, 1673, 234, 132))), ((9, 276), ((0, 202, 4, 9), (1675, 1677, 234, 133))), ((9, 307), ((0, 203, 0, 9), (1679, 1681, 234, 134))), ((9, 310), ((0, 204, 1, 9), (1683, 1685, 234, 135))), ((9, 314), ((0, 205, 0, 9), (1687, 1689, 234, 136))), ((9, 317), ((0, 206, 2, 9), (1691, 1693, 234, 137))), ((9, 319), ((0, 207, 0, 9), (1695, 1697, 234, 138))), ((9, 322), ((0, 208, 2, 9), (1699, 1701, 234, 139))), ((9, 325), ((0, 209, 0, 9), (1703, 1705, 234, 140))), ((9, 352), ((0, 210, 1, 9), (1707, 1709, 234, 141))), ((9, 361), ((0, 211, 0, 9), (1711, 1713, 234, 142))), ((9, 364), ((0, 212, 0, 9), (1715, 1717, 234, 143))), ((9, 367), ((0, 213, 2, 9), (1719, 1721, 234, 144))), ((9, 331), ((0, 214, 0, 9), (1723, 1725, 234, 145))), ((9, 334), ((0, 215, 2, 9), (1727, 1729, 234, 146))), ((9, 370), ((0, 216, 4, 9), (1731, 1733, 234, 147))), ((9, 373), ((0, 217, 3, 9), (1735, 1737, 234, 148))), ((9, 337), ((0, 218, 2, 9), (1739, 1741, 234, 149))), ((9, 377), ((0, 219, 1, 9), (1743, 1745, 234, 150))), ((9, 380), ((0, 220, 0, 9), (1747, 1749, 234, 151))), ((9, 383), ((0, 221, 0, 9), (1751, 1753, 234, 152))), ((9, 386), ((0, 222, 2, 9), (1755, 1757, 234, 153))), ((9, 389), ((0, 223, 0, 9), (1759, 1761, 234, 154))), ((9, 392), ((0, 224, 3, 9), (1763, 1765, 234, 155))), ((9, 395), ((0, 225, 1, 9), (1767, 1769, 234, 156)))]
def am_ca6 : List am_Ca := [((9, 398), ((0, 226, 1, 9), (1771, 1773, 234, 157))), ((9, 401), ((0, 227, 1, 9), (1775, 1777, 234, 158))), ((9, 404), ((0, 228, 1, 9), (1779, 1781, 234, 159))), ((9, 407), ((0, 229, 0, 9), (1783, 1785, 234, 160))), ((9, 410), ((0, 230, 0, 9), (1787, 1789, 234, 161))), ((9, 413), ((0, 231, 4, 9), (1791, 1793, 234, 162))), ((9, 416), ((0, 232, 3, 9), (1795, 1797, 234, 163))), ((9, 420), ((0, 233, 1, 9), (1799, 1801, 234, 164))), ((9, 423), ((0, 234, 1, 9), (1803, 1805, 234, 165))), ((9, 349), ((1, 235, 1, 9), (1807, 1808, 234, 0))), ((9, 426), ((0, 236, 2, 9), (1810, 1812, 234, 166))), ((9, 343), ((1, 237, 1, 9), (1814, 1815, 234, 0))), ((9, 346), ((0, 238, 0, 9), (1817, 1819, 234, 167))), ((9, 429), ((0, 239, 1, 9), (1821, 1823, 234, 168))), ((9, 432), ((0, 240, 0, 9), (1825, 1827, 234, 169))), ((9, 435), ((0, 241, 1, 9), (1829, 1831, 234, 170))), ((9, 438), ((0, 242, 0, 9), (1833, 1835, 234, 171))), ((9, 441), ((0, 243, 1, 9), (1837, 1839, 234, 172))), ((9, 444), ((0, 244, 2, 9), (1841, 1843, 234, 173))), ((9, 447), ((0, 245, 3, 9), (1845, 1847, 234, 174))), ((9, 450), ((0, 246, 3, 9), (1849, 1851, 234, 175))), ((9, 453), ((0, 247, 0, 9), (1853, 1855, 234, 176))), ((9, 456), ((0, 248, 2, 9), (1857, 1859, 234, 177))), ((9, 459), ((0, 249, 2, 9), (1861, 1863, 234, 178))), ((9, 462), ((0, 250, 2, 9), (1865, 1867, 234, 179))), ((9, 465), ((0, 251, 2, 9), (1869, 1871, 234, 180))), ((9, 468), ((0, 252, 0, 9), (1873, 1875, 234, 181))), ((9, 614), ((0, 253, 1, 9), (1877, 1879, 234, 182))), ((9, 617), ((0, 254, 1, 9), (1881, 1883, 234, 183))), ((9, 480), ((0, 255, 1, 9), (1885, 1887, 234, 184))), ((9, 474), ((0, 256, 1, 9), (1889, 1891, 234, 185))), ((9, 477), ((0, 257, 1, 9), (1893, 1895, 234, 186))), ((9, 483), ((0, 258, 1, 9), (1897, 1899, 234, 187))), ((9, 471), ((0, 259, 2, 9), (1901, 1903, 234, 188))), ((9, 620), ((0, 260, 1, 9), (1905, 1907, 234, 189))), ((9, 494), ((0, 261, 1, 9), (1909, 1911, 234, 190))), ((9, 512), ((0, 262, 1, 9), (1913, 1915, 234, 191))), ((9, 497), ((0, 263, 1, 9), (1917, 1919, 234, 192))), ((9, 500), ((0, 264, 1, 9), (1923, 1925, 234, 193))), ((9, 503), ((0, 265, 1, 9), (1927, 1929, 234, 194))), ((9, 490), ((0, 266, 2, 9), (1931, 1933, 234, 195)))]
def am_ca7 : List am_Ca := [((9, 515), ((0, 267, 1, 9), (1935, 1937, 234, 196))), ((9, 509), ((0, 268, 1, 9), (1939, 1941, 234, 197))), ((9, 506), ((1, 269, 1, 9), (1943, 1944, 234, 0))), ((9, 626), ((0, 270, 1, 9), (1946, 1948, 234, 198))), ((9, 553), ((0, 271, 3, 9), (1950, 1952, 234, 199))), ((9, 550), ((0, 272, 1, 9), (1954, 1956, 234, 200))), ((9, 530), ((0, 273, 1, 9), (1958, 1960, 234, 201))), ((9, 527), ((0, 274, 1, 9), (1962, 1964, 234, 202))), ((9, 565), ((0, 275, 1, 9), (1966, 1968, 234, 203))), ((9, 595), ((0, 276, 2, 9), (1971, 1973, 234, 204))), ((9, 541), ((0, 277, 1, 9), (1975, 1977, 234, 205))), ((9, 538), ((0, 278, 1, 9), (1979, 1981, 234, 206))), ((9, 547), ((0, 279, 1, 9), (1983, 1985, 234, 207))), ((9, 556), ((0, 280, 1, 9), (1987, 1989, 234, 208))), ((9, 568), ((0, 281, 1, 9), (1991, 1993, 234, 209))), ((9, 562), ((0, 282, 1, 9), (1995, 1997, 234, 210))), ((9, 571), ((0, 283, 1, 9), (1999, 2001, 234, 211))), ((9, 559), ((0, 284, 2, 9), (2003, 2005, 234, 212))), ((9, 598), ((0, 285, 1, 9), (2007, 2009, 234, 213))), ((9, 574), ((0, 286, 1, 9), (2011, 2013, 234, 214))), ((9, 577), ((0, 287, 1, 9), (2015, 2017, 234, 215))), ((9, 544), ((0, 288, 1, 9), (2019, 2021, 234, 216))), ((9, 580), ((0, 289, 2, 9), (2023, 2025, 234, 217))), ((9, 583), ((0, 290, 1, 9), (2027, 2029, 234, 218))), ((9, 586), ((0, 291, 2, 9), (2031, 2033, 234, 219))), ((9, 589), ((0, 292, 1, 9), (2035, 2037, 234, 220))), ((9, 592), ((0, 293, 3, 9), (2039, 2041, 234, 221))), ((9, 601), ((0, 294, 1, 9), (2043, 2045, 234, 222))), ((9, 604), ((0, 295, 3, 9), (2047, 2049, 234, 223))), ((12, 45), ((0, 296, 1, 9), (2051, 2052, 234, 2053))), ((12, 49), ((0, 297, 2, 9), (2055, 2056, 234, 2057))), ((12, 53), ((0, 298, 1, 9), (2059, 2060, 234, 2061))), ((12, 57), ((0, 299, 1, 9), (2063, 2064, 234, 2065))), ((12, 62), ((0, 300, 0, 9), (2067, 2068, 234, 2069))), ((0, 9), ((3, 1, 0, 1), (255, 256, 226, 0))), ((0, 18), ((3, 2, 0, 2), (274, 275, 227, 0))), ((0, 48), ((3, 6, 0, 6), (401, 402, 231, 0)))]
def am_calT : List am_Ca := am_ca0 ++ (am_ca1 ++ (am_ca2 ++ (am_ca3 ++ (am_ca4 ++ (am_ca5 ++ (am_ca6 ++ (am_ca7)))))))
def am_nestT : List (String × Nat × MethodName × String) := [("ScriptFront", 9, ⟨"ScriptFront$Tape", "<init>", "()V"⟩, "ScriptFront"), ("ScriptFront", 18, ⟨"ScriptFront$Flaw", "<init>", "()V"⟩, "ScriptFront"), ("ScriptFront", 48, ⟨"ScriptFront$Tree", "<init>", "()V"⟩, "ScriptFront")]
def am_oiT : List (Nat × Nat) := [(0, 1), (1, 3), (2, 3), (3, 3), (5, 3), (4, 3), (6, 3), (7, 3), (8, 3), (9, 1)]
def am_oiP : List Nat := [250, 258, 277, 296, 339, 372, 404, 442, 458, 1352]
def am_oiQ : Nat × Nat := (251, 252)
def am_nwT : List ((Nat × Nat) × (Nat × List Value)) := [((12, 8), (0, [.null, .null, .null, .null, .null, .null, .null, .null])), ((0, 7), (1, [.null, .int 0, .int 0])), ((0, 16), (2, [.int 0, .int 0, .int 0])), ((0, 23), (3, [.null, .null, .null, .null, .null, .null, .null, .null, .null, .null, .int 0])), ((0, 32), (4, [.null, .null, .null, .null, .null, .int 0, .int 0, .int 0])), ((0, 34), (5, [.null, .null, .int 0, .int 0, .int 0, .int 0, .int 0, .int 0])), ((0, 46), (6, [.null, .null, .null, .null, .null, .null, .null, .null, .int 0])), ((0, 56), (7, [.null, .null, .null])), ((0, 65), (8, [.null, .null, .null, .null, .null, .int 0, .int 0])), ((12, 22), (9, [.null, .null, .null, .int 0, .null, .null, .int 0, .int 0, .int 0, .int 0, .int 0, .int 0, .int 0, .int 0, .int 0, .int 0, .int 0, .int 0, .int 0, .null, .null, .null, .null, .null, .null, .null, .null, .null, .int 0, .null, .null, .null, .null, .null, .int 0, .null, .int 0, .null, .null, .null, .int 0, .int 0, .int 0, .int 0, .null, .null, .null, .null, .int 0, .int 0, .null, .null, .null, .int 0, .int 0]))]
def am_nwP : List (Nat × Nat × Nat) := [(245, 246, 225), (253, 254, 226), (272, 273, 227), (291, 292, 228), (332, 333, 229), (334, 335, 230), (399, 400, 231), (437, 438, 232), (453, 454, 233), (1347, 1348, 234)]
def am_klT : List ((Nat × Nat) × Int64) := [((9, 7), (2692139 : Int64)), ((9, 9), (99941 : Int64)), ((9, 11), (3199080 : Int64)), ((9, 13), (119676385957 : Int64)), ((9, 15), (4469085588 : Int64)), ((9, 17), (139859589 : Int64)), ((9, 19), (143 : Int64)), ((9, 21), (176741 : Int64)), ((9, 23), (6337125 : Int64)), ((9, 25), (6759166361 : Int64)), ((9, 27), (6642 : Int64)), ((9, 29), (229180581358 : Int64)), ((9, 31), (294 : Int64)), ((9, 33), (302 : Int64)), ((9, 35), (332726869792230 : Int64)), ((9, 37), (14519 : Int64)), ((9, 39), (480652 : Int64)), ((9, 41), (609900110 : Int64)), ((9, 43), (661966952 : Int64)), ((9, 45), (663859 : Int64)), ((9, 47), (21252599 : Int64)), ((9, 49), (674469 : Int64)), ((9, 51), (21081 : Int64)), ((9, 53), (697832934 : Int64)), ((9, 55), (22578 : Int64)), ((9, 57), (736548 : Int64)), ((9, 59), (24388997 : Int64)), ((9, 173), (255 : Int64)), ((9, 227), (32 : Int64)), ((9, 229), (96 : Int64)), ((9, 486), (186412 : Int64)), ((9, 488), (1726221564563 : Int64)), ((9, 533), (31 : Int64)), ((12, 25), (4294967295 : Int64))]
def am_klP : List Nat := [1353, 1354, 1355, 1356, 1357, 1358, 1359, 1360, 1361, 1362, 1363, 1364, 1365, 1366, 1367, 1368, 1369, 1370, 1371, 1372, 1373, 1374, 1375, 1376, 1377, 1378, 1379, 1561, 1625, 1626, 1921, 1922, 1970, 2071]
def am_kiT : List ((Nat × Nat) × Int32) := [((9, 67), (4013373 : Int32)), ((9, 68), (2178365 : Int32)), ((9, 69), (4079166 : Int32)), ((9, 70), (3947581 : Int32)), ((9, 71), (4079165 : Int32)), ((9, 72), (1044266557 : Int32)), ((9, 231), (16777215 : Int32)), ((9, 232), (65535 : Int32))]
def am_kiP : List Nat := [1380, 1381, 1382, 1383, 1384, 1385, 1657, 1658]
def am_sT : List ((Nat × Nat) × Nat) := [((2, 23), 1000), ((5, 94), 1001), ((7, 81), 1002), ((7, 111), 1003), ((7, 113), 1004), ((8, 108), 1005), ((8, 195), 1006), ((8, 197), 1007), ((8, 199), 1008), ((8, 128), 1009), ((8, 124), 1010), ((8, 146), 1011), ((8, 120), 1012), ((8, 142), 1013), ((8, 114), 1014), ((8, 122), 1015), ((8, 126), 1016), ((8, 133), 1017), ((8, 138), 1018), ((8, 140), 1019), ((8, 144), 1020), ((8, 154), 1021), ((8, 161), 1022), ((8, 159), 1023), ((8, 163), 1024), ((8, 165), 1025), ((8, 167), 1026), ((8, 169), 1027), ((8, 171), 1028), ((8, 173), 1029), ((8, 175), 1030), ((8, 177), 1031), ((8, 182), 1032), ((8, 184), 1033), ((8, 186), 1034), ((8, 188), 1035), ((8, 190), 1036), ((0, 122), 1037), ((0, 146), 1038)]
def am_strs : List (String × Nat × String × Nat) := [("ScriptFront$Flaw", 23, "the text has a fault", 1000), ("ScriptFront$Scanner", 94, "break case catch continue default delete do else false finally for function if in instanceof new null return switch this throw true try typeof var void while ", 1001), ("ScriptFront$Judge", 81, "use strict", 1002), ("ScriptFront$Judge", 111, "eval", 1003), ("ScriptFront$Judge", 113, "arguments", 1004), ("ScriptFront$Printer", 108, ",", 1005), ("ScriptFront$Printer", 195, "]", 1006), ("ScriptFront$Printer", 197, "}", 1007), ("ScriptFront$Printer", 199, ".", 1008), ("ScriptFront$Printer", 128, "(", 1009), ("ScriptFront$Printer", 124, ")", 1010), ("ScriptFront$Printer", 146, "{", 1011), ("ScriptFront$Printer", 120, ":", 1012), ("ScriptFront$Printer", 142, ";", 1013), ("ScriptFront$Printer", 114, "=", 1014), ("ScriptFront$Printer", 122, "finally", 1015), ("ScriptFront$Printer", 126, "[", 1016), ("ScriptFront$Printer", 133, "?", 1017), ("ScriptFront$Printer", 138, "else", 1018), ("ScriptFront$Printer", 140, "while", 1019), ("ScriptFront$Printer", 144, "in", 1020), ("ScriptFront$Printer", 154, "this", 1021), ("ScriptFront$Printer", 161, "function", 1022), ("ScriptFront$Printer", 159, "new", 1023), ("ScriptFront$Printer", 163, "var", 1024), ("ScriptFront$Printer", 165, "continue", 1025), ("ScriptFront$Printer", 167, "break", 1026), ("ScriptFront$Printer", 169, "return", 1027), ("ScriptFront$Printer", 171, "default", 1028), ("ScriptFront$Printer", 173, "case", 1029), ("ScriptFront$Printer", 175, "throw", 1030), ("ScriptFront$Printer", 177, "try", 1031), ("ScriptFront$Printer", 182, "if", 1032), ("ScriptFront$Printer", 184, "do", 1033), ("ScriptFront$Printer", 186, "for", 1034), ("ScriptFront$Printer", 188, "switch", 1035), ("ScriptFront$Printer", 190, "catch", 1036), ("ScriptFront", 122, "no such node", 1037), ("ScriptFront", 146, "nothing of that number is told of a node", 1038)]
def am_arP : List Nat := [331, 271, 436, 679, 1552]
end
section
/-- the tables' words that every state of a run keeps -/
def am_Ts : List Jvm.Cond := lw_tbl.filter goodWord
def am_at (i : Nat) (w : Jvm.Cond) : Bool := decide (lw_tbl[i]? = some w) && goodWord w
theorem am_at_in {i : Nat} {w : Jvm.Cond} (h : am_at i w = true) : w ∈ am_Ts := by
  unfold am_at at h
  rw [Bool.and_eq_true] at h
  exact List.mem_filter.mpr ⟨List.mem_of_getElem? (of_decide_eq_true h.1), h.2⟩
theorem am_Ts_good {w : Jvm.Cond} (h : w ∈ am_Ts) : goodWord w = true := (List.mem_filter.mp h).2
theorem am_Ts_tbl {w : Jvm.Cond} (h : w ∈ am_Ts) : w ∈ lw_tbl := (List.mem_filter.mp h).1
def am_lays (C : String) (T : u_T) (N : Nat) (ps : List Nat) : Bool := (List.range N).all fun k => am_at (ps.getD k 0) (u_lay C T k)
theorem am_lays_ok {C : String} {T : u_T} {N : Nat} {ps : List Nat} (h : am_lays C T N ps = true) : ∀ w ∈ u_ws C T N, w ∈ am_Ts := by
  intro w hw
  obtain ⟨k, hk, rfl⟩ := List.mem_map.mp hw
  exact am_at_in (List.all_eq_true.mp h k hk)
/-- what is known of a class of the list -/
def am_CK (q : vw_C) : Prop := (∀ w ∈ u_ws q.1 q.2.1 q.2.2, w ∈ am_Ts) ∧ ∃ ty0 : Nat → FieldType, (∀ k, k < q.2.2 → parseFieldDescriptor (q.2.1 k).2.2.1 = some (ty0 k)) ∧ ∀ a, a < q.2.2 → ∀ b, b < q.2.2 → a ≠ b → (q.2.1 a).2.1 ≠ (q.2.1 b).2.1
set_option maxRecDepth 100000 in
theorem am_c0 : am_CK ("ScriptFront", am_T0, 8) := ⟨am_lays_ok (ps := am_p0) (by decide +kernel), am_y0, by decide +kernel, by decide +kernel⟩
set_option maxRecDepth 100000 in
theorem am_c1 : am_CK ("ScriptFront$Tape", am_T1, 3) := ⟨am_lays_ok (ps := am_p1) (by decide +kernel), am_y1, by decide +kernel, by decide +kernel⟩
set_option maxRecDepth 100000 in
theorem am_c2 : am_CK ("ScriptFront$Flaw", am_T2, 3) := ⟨am_lays_ok (ps := am_p2) (by decide +kernel), am_y2, by decide +kernel, by decide +kernel⟩
set_option maxRecDepth 100000 in
theorem am_c3 : am_CK ("ScriptFront$Draft", am_T3, 11) := ⟨am_lays_ok (ps := am_p3) (by decide +kernel), am_y3, by decide +kernel, by decide +kernel⟩
set_option maxRecDepth 100000 in
theorem am_c4 : am_CK ("ScriptFront$Parser", am_T4, 8) := ⟨am_lays_ok (ps := am_p4) (by decide +kernel), am_y4, by decide +kernel, by decide +kernel⟩
set_option maxRecDepth 100000 in
theorem am_c5 : am_CK ("ScriptFront$Scanner", am_T5, 8) := ⟨am_lays_ok (ps := am_p5) (by decide +kernel), am_y5, by decide +kernel, by decide +kernel⟩
set_option maxRecDepth 100000 in
theorem am_c6 : am_CK ("ScriptFront$Tree", am_T6, 9) := ⟨am_lays_ok (ps := am_p6) (by decide +kernel), am_y6, by decide +kernel, by decide +kernel⟩
set_option maxRecDepth 100000 in
theorem am_c7 : am_CK ("ScriptFront$Judge", am_T7, 3) := ⟨am_lays_ok (ps := am_p7) (by decide +kernel), am_y7, by decide +kernel, by decide +kernel⟩
set_option maxRecDepth 100000 in
theorem am_c8 : am_CK ("ScriptFront$Printer", am_T8, 7) := ⟨am_lays_ok (ps := am_p8) (by decide +kernel), am_y8, by decide +kernel, by decide +kernel⟩
set_option maxRecDepth 100000 in
theorem am_c9 : am_CK ("ScriptFrontModel", am_T9, 55) := ⟨am_lays_ok (ps := am_p9) (by decide +kernel), am_y9, by decide +kernel, by decide +kernel⟩
theorem am_cls {ci : Nat} {q : vw_C} (h : am_cl[ci]? = some q) : am_CK q := by
  match ci, h with
  | 0, h => cases h; exact am_c0
  | 1, h => cases h; exact am_c1
  | 2, h => cases h; exact am_c2
  | 3, h => cases h; exact am_c3
  | 4, h => cases h; exact am_c4
  | 5, h => cases h; exact am_c5
  | 6, h => cases h; exact am_c6
  | 7, h => cases h; exact am_c7
  | 8, h => cases h; exact am_c8
  | 9, h => cases h; exact am_c9
  | ci + 10, h => simp [am_cl] at h
theorem am_zip {α β : Type} : ∀ {l : List α} {p : List β}, l.length = p.length → ∀ {x : α}, x ∈ l → ∃ y, (x, y) ∈ l.zip p
  | [], _, _, _, hx => by cases hx
  | a :: l, [], h, _, _ => by cases h
  | a :: l, b :: p, h, x, hx => by
    rcases List.mem_cons.mp hx with rfl | hx
    · exact ⟨b, by simp⟩
    · obtain ⟨y, hy⟩ := am_zip (l := l) (p := p) (by simpa using h) hx
      exact ⟨y, by rw [List.zip_cons_cons]; exact List.mem_cons_of_mem _ hy⟩
-- the links as functions
def am_fl (c k : Nat) : Option (Nat × Nat × FieldType × Bool) := am_flT.lookup (c, k)
def am_kl (c k : Nat) : Option Int64 := am_klT.lookup (c, k)
def am_kc (c k : Nat) : Option Value := match am_kiT.lookup (c, k) with
  | some x => some (.int x)
  | none => (am_sT.lookup (c, k)).map .ref
def am_nw (c k : Nat) : Option (Nat × List Value) := am_nwT.lookup (c, k)
def am_oi (c k : Nat) : Bool := am_oiT.contains (c, k)
def am_ckF (e : ((Nat × Nat) × (Nat × Nat × FieldType × Bool)) × Nat) : Bool := match am_cl[e.1.2.1]? with
  | some q => decide (e.1.2.2.1 < q.2.2) && (am_at e.2 (.fieldLink (am_cn e.1.1.1) e.1.1.2 (q.2.1 e.1.2.2.1).1 (q.2.1 e.1.2.2.1).2.1 (q.2.1 e.1.2.2.1).2.2.1) && (decide (parseFieldDescriptor (q.2.1 e.1.2.2.1).2.2.1 = some e.1.2.2.2.1) && (decide ((q.2.1 e.1.2.2.1).2.2.2 = e.1.2.2.2.2) && (!e.1.2.2.2.2 || decide ((q.2.1 e.1.2.2.1).1 = am_cn e.1.1.1)))))
  | none => false
set_option maxRecDepth 100000 in
theorem am_flck : (am_flT.zip am_flP).all am_ckF = true := by decide +kernel
theorem am_FLok (c : Nat) {Ts : List Jvm.Cond} (hT : ∀ w ∈ am_Ts, w ∈ Ts) : am_FL (am_fl c) (am_cn c) am_cl Ts := by
  intro idx q hq
  obtain ⟨i, hi⟩ := am_zip (p := am_flP) (by decide +kernel) (am_mem_look hq)
  have h := List.all_eq_true.mp am_flck _ hi
  unfold am_ckF at h
  split at h
  · next z hz =>
    simp only [Bool.and_eq_true, Bool.or_eq_true, decide_eq_true_eq] at h
    obtain ⟨h1, h2, h3, h4, h5⟩ := h
    obtain ⟨g1, ty0, g2, g3⟩ := am_cls hz
    have h3' := (g2 _ h1).symm.trans h3
    exact ⟨z.1, z.2.1, z.2.2, ty0, fun w hw => hT w (g1 w hw), hz, h1, hT _ (am_at_in h2), g2, Option.some.inj h3', g3, h4, fun e1 => h5.resolve_left (by rw [e1]; decide)⟩
  · cases h
end
section
def am_m0 : am_Me := (⟨"", "", ""⟩, 0, 0, none, 0, [])
def am_mq (y : Nat) : am_Me := am_me.getD y am_m0
def am_bx (p : Nat) : ByteArray := match lw_tbl[p]? with
  | some (.code _ b _ _) => b
  | _ => ⟨#[]⟩
def am_nm (y : Nat) : MethodName := (am_mq y).1
def am_bt (y : Nat) : ByteArray := am_bx (am_mq y).2.1
def am_mL (y : Nat) : Nat := (am_mq y).2.2.1
def am_rt (y : Nat) : Option FieldType := (am_mq y).2.2.2.1
def am_co (y : Nat) : Nat := (am_mq y).2.2.2.2.1
def am_fc (y : Nat) (pc : Nat) : Option Instr := (am_mq y).2.2.2.2.2.lookup pc
def am_in (y : Nat) : Bool := decide ((am_nm y).name = "<init>")
def am_wM (y : Nat) : List Jvm.Cond := Jvm.Cond.code (am_nm y) (am_bt y) (am_mL y) (am_rt y) :: am_Ts
theorem am_wM_in (y : Nat) : ∀ w ∈ am_Ts, w ∈ am_wM y := fun _ h => List.mem_cons_of_mem _ h
/-- a method's own words -/
def am_ckM (q : am_Me) : Bool := match lw_tbl[q.2.1]? with
  | some (.code n b k r) => decide (n = q.1) && (decide (k = q.2.2.1) && (decide (r = q.2.2.2.1) && (goodWord (.code n b k r) && (decide (q.2.2.1 ≤ 20) && (plainName q.1.cls && decide (am_cn q.2.2.2.2.1 = q.1.cls))))))
  | _ => false
theorem am_ckM_ok {y : Nat} (h : am_ckM (am_mq y) = true) : Jvm.Cond.code (am_nm y) (am_bt y) (am_mL y) (am_rt y) ∈ am_Ts ∧ am_mL y ≤ 20 ∧ plainName (am_nm y).cls = true ∧ am_cn (am_co y) = (am_nm y).cls := by
  unfold am_ckM at h
  split at h
  · next n b k r hw =>
    simp only [Bool.and_eq_true, decide_eq_true_eq] at h
    obtain ⟨h1, h2, h3, h4, h5, h6, h7⟩ := h
    have e1 : am_bt y = b := by unfold am_bt am_bx; rw [hw]
    refine ⟨?_, h5, h6, h7⟩
    show Jvm.Cond.code (am_mq y).1 (am_bt y) (am_mq y).2.2.1 (am_mq y).2.2.2.1 ∈ am_Ts
    rw [e1, ← h1, ← h2, ← h3]
    exact List.mem_filter.mpr ⟨List.mem_of_getElem? hw, h4⟩
  · cases h
def am_cal (c : Nat) (i : Instr) : Option (Nat × Nat × Nat × Nat) := match i with
  | .invokevirtual k => (am_calT.lookup (c, k)).bind fun q => if decide (q.1.1 = 0) = true then some q.1 else none
  | .invokestatic k => (am_calT.lookup (c, k)).bind fun q => if decide (q.1.1 = 1) = true then some q.1 else none
  | .invokespecial k => (am_calT.lookup (c, k)).bind fun q => if decide (2 ≤ q.1.1) = true then some q.1 else none
  | _ => none
/-- a call's words -/
def am_ckC (e : am_Ca) : Bool :=
  decide ((am_nm e.2.1.2.1).cls ≠ "java/lang/invoke/MethodHandle") && (decide ((am_nm e.2.1.2.1).cls ≠ "java/lang/invoke/VarHandle") && (decide ((parseMethodDescriptor (am_nm e.2.1.2.1).desc).map (fun d => d.parameters.length) = some e.2.1.2.2.1) && (am_at e.2.2.2.2.1 (.initialized (am_nm e.2.1.2.1).cls) && (decide (e.2.1.2.1 < am_me.length) &&
  (match e.2.1.1 with
    | 0 => am_at e.2.2.1 (.methodLink (am_cn e.1.1) e.1.2 (am_nm e.2.1.2.1)) && (am_at e.2.2.2.1 (.instanceMethod (am_nm e.2.1.2.1)) && (am_at e.2.2.2.2.2 (.selects (am_nm e.2.1.2.1).cls (am_nm e.2.1.2.1) (am_nm e.2.1.2.1)) && decide ((am_cl[e.2.1.2.2.2]?).map (fun q => q.1) = some (am_nm e.2.1.2.1).cls)))
    | 1 => am_at e.2.2.1 (.methodLink (am_cn e.1.1) e.1.2 (am_nm e.2.1.2.1)) && am_at e.2.2.2.1 (.static (am_nm e.2.1.2.1))
    | 2 => am_at e.2.2.1 (.methodLink (am_cn e.1.1) e.1.2 (am_nm e.2.1.2.1)) && (am_at e.2.2.2.1 (.instanceMethod (am_nm e.2.1.2.1)) && (decide (am_rt e.2.1.2.1 = none) && decide ((am_nm e.2.1.2.1).name = "<init>")))
    | _ => decide (e.2.1.1 = 3) && (am_at e.2.2.2.1 (.instanceMethod (am_nm e.2.1.2.1)) && (decide (am_rt e.2.1.2.1 = none) && (decide ((am_nm e.2.1.2.1).name = "<init>") && am_nestT.any (fun z => decide (z.1 = am_cn e.1.1) && (decide (z.2.1 = e.1.2) && decide (z.2.2.1 = am_nm e.2.1.2.1)))))))))))
theorem am_good {Ts a : List Jvm.Cond} (hT : ∀ w ∈ am_Ts, w ∈ Ts) (h : ∀ w ∈ a, w ∈ am_Ts) : GoodIn Ts a := fun w hw => ⟨hT w (h w hw), good_of_word (am_Ts_good (h w hw))⟩
theorem am_CTok (hM : ∀ y, y < am_me.length → am_ckM (am_mq y) = true) (hC : ∀ e ∈ am_calT, am_ckC e = true) (c : Nat) {Ts : List Jvm.Cond} {s : State} (hT : ∀ w ∈ am_Ts, w ∈ Ts) (hn : ∀ z ∈ am_nestT, va_Nw (.methodLinkNest z.1 z.2.1 z.2.2.1 z.2.2.2) s) : am_CT (am_cal c) (am_cn c) am_cl Ts s am_nm am_bt am_mL am_rt am_wM := by
  intro i q hq
  have hk : ∃ k r, am_calT.lookup (c, k) = some (q, r) ∧ ((q.1 = 0 ∧ i = .invokevirtual k) ∨ (q.1 = 1 ∧ i = .invokestatic k) ∨ (2 ≤ q.1 ∧ i = .invokespecial k)) := by
    unfold am_cal at hq
    split at hq
    · next k =>
      obtain ⟨z, hz, h1⟩ := Option.bind_eq_some_iff.mp hq
      obtain ⟨h2, h3⟩ := am_if h1
      cases h3
      exact ⟨k, z.2, hz, Or.inl ⟨of_decide_eq_true h2, rfl⟩⟩
    · next k =>
      obtain ⟨z, hz, h1⟩ := Option.bind_eq_some_iff.mp hq
      obtain ⟨h2, h3⟩ := am_if h1
      cases h3
      exact ⟨k, z.2, hz, Or.inr (Or.inl ⟨of_decide_eq_true h2, rfl⟩)⟩
    · next k =>
      obtain ⟨z, hz, h1⟩ := Option.bind_eq_some_iff.mp hq
      obtain ⟨h2, h3⟩ := am_if h1
      cases h3
      exact ⟨k, z.2, hz, Or.inr (Or.inr ⟨of_decide_eq_true h2, rfl⟩)⟩
    · cases hq
  obtain ⟨k, ps, hl, hi⟩ := hk
  have h := hC _ (am_mem_look hl)
  unfold am_ckC at h
  simp only [Bool.and_eq_true, decide_eq_true_eq] at h
  obtain ⟨h2, h3, h4, h6, hy, h7⟩ := h
  obtain ⟨h5, h1, -, -⟩ := am_ckM_ok (hM _ hy)
  have hw : ∀ w ∈ am_wM q.2.1, w ∈ am_Ts := fun w hw => by
    rcases List.mem_cons.mp hw with rfl | hw
    · exact h5
    · exact hw
  refine ⟨⟨am_Ts, rfl⟩, h1, ⟨h2, h3, h4⟩, ?_⟩
  rcases hi with ⟨hk, rfl⟩ | ⟨hk, rfl⟩ | ⟨hk, rfl⟩
  · rw [hk] at h7
    simp only [Bool.and_eq_true, decide_eq_true_eq] at h7
    obtain ⟨g1, g2, g3, g4⟩ := h7
    cases hc : am_cl[q.2.2.2]? with
    | none => rw [hc] at g4; cases g4
    | some z =>
      rw [hc] at g4
      have g4 : z.1 = (am_nm q.2.1).cls := Option.some.inj g4
      refine Or.inl ⟨hk, k, z.1, z.2.1, z.2.2, rfl, rfl, g4.symm, am_good hT (fun w hw2 => ?_)⟩
      unfold wsV at hw2
      rcases List.mem_append.mp hw2 with z1 | z1
      · simp only [List.mem_cons, List.not_mem_nil, or_false] at z1
        rcases z1 with rfl | rfl | rfl | rfl
        · exact am_at_in g1
        · exact am_at_in g2
        · rw [g4]; exact am_at_in g3
        · rw [g4]; exact am_at_in h6
      · exact hw w z1
  · rw [hk] at h7
    simp only [Bool.and_eq_true] at h7
    obtain ⟨g1, g2⟩ := h7
    refine Or.inr (Or.inl ⟨hk, k, rfl, am_good hT (fun w hw2 => ?_)⟩)
    unfold va_wsS at hw2
    rcases List.mem_append.mp hw2 with z1 | z1
    · simp only [List.mem_cons, List.not_mem_nil, or_false] at z1
      rcases z1 with rfl | rfl | rfl
      · exact am_at_in g1
      · exact am_at_in g2
      · exact am_at_in h6
    · exact hw w z1
  · split at h7
    · next e => omega
    · next e => omega
    · next e =>
      simp only [Bool.and_eq_true, decide_eq_true_eq] at h7
      obtain ⟨g1, g2, g3, g4⟩ := h7
      exact Or.inr (Or.inr (Or.inl ⟨e, k, rfl, g3, am_good hT hw, hT _ (am_at_in h6), hT _ (am_at_in g1), hT _ (am_at_in g2), g4⟩))
    · simp only [Bool.and_eq_true, decide_eq_true_eq] at h7
      obtain ⟨g0, g2, g3, g4, g5⟩ := h7
      obtain ⟨z, hz1, hz2⟩ := List.any_eq_true.mp g5
      simp only [Bool.and_eq_true, decide_eq_true_eq] at hz2
      obtain ⟨z1, z2, z3⟩ := hz2
      have hnz := hn z hz1
      rw [z1, z2, z3] at hnz
      exact Or.inr (Or.inr (Or.inr ⟨g0, k, z.2.2.2, rfl, g3, am_good hT hw, hT _ (am_at_in h6), hnz, hT _ (am_at_in g2), g4⟩))
end
section
set_option maxRecDepth 100000 in
theorem am_kC0 : am_ca0.all am_ckC = true := by decide +kernel
set_option maxRecDepth 100000 in
theorem am_kC1 : am_ca1.all am_ckC = true := by decide +kernel
end
section
set_option maxRecDepth 100000 in
theorem am_kC2 : am_ca2.all am_ckC = true := by decide +kernel
set_option maxRecDepth 100000 in
theorem am_kC3 : am_ca3.all am_ckC = true := by decide +kernel
end
section
set_option maxRecDepth 100000 in
theorem am_kC4 : am_ca4.all am_ckC = true := by decide +kernel
set_option maxRecDepth 100000 in
theorem am_kC5 : am_ca5.all am_ckC = true := by decide +kernel
end
section
set_option maxRecDepth 100000 in
theorem am_kC6 : am_ca6.all am_ckC = true := by decide +kernel
set_option maxRecDepth 100000 in
theorem am_kC7 : am_ca7.all am_ckC = true := by decide +kernel
end
section
set_option maxRecDepth 100000 in
theorem am_kM0 : am_me0.all am_ckM = true := by decide +kernel
set_option maxRecDepth 100000 in
theorem am_kM1 : am_me1.all am_ckM = true := by decide +kernel
set_option maxRecDepth 100000 in
theorem am_kM2 : am_me2.all am_ckM = true := by decide +kernel
set_option maxRecDepth 100000 in
theorem am_kM3 : am_me3.all am_ckM = true := by decide +kernel
set_option maxRecDepth 100000 in
theorem am_kM4 : am_me4.all am_ckM = true := by decide +kernel
set_option maxRecDepth 100000 in
theorem am_kM5 : am_me5.all am_ckM = true := by decide +kernel
set_option maxRecDepth 100000 in
theorem am_kM6 : am_me6.all am_ckM = true := by decide +kernel
set_option maxRecDepth 100000 in
theorem am_kM7 : am_me7.all am_ckM = true := by decide +kernel
end
section
/-- a method's rows, held against its bytes -/
def am_chk2 (q : am_Me) : Bool := match lw_tbl[q.2.1]? with
  | some (.code _ b _ _) => am_chk b q.2.2.2.2.2
  | _ => false
/-- forty of them, from the k-th on -/
def am_chk3 (q : am_Me) (k : Nat) : Bool := match lw_tbl[q.2.1]? with
  | some (.code _ b _ _) => am_chk b ((q.2.2.2.2.2.drop k).take 40)
  | _ => false
theorem am_chk2_bt {y : Nat} (h : am_chk2 (am_mq y) = true) : am_chk (am_bt y) (am_mq y).2.2.2.2.2 = true := by
  unfold am_chk2 at h
  unfold am_bt am_bx
  split at h
  · next hw => rw [hw]; exact h
  · cases h
theorem am_chk3_bt {y k : Nat} (h : am_chk3 (am_mq y) k = true) : am_chk (am_bt y) (((am_mq y).2.2.2.2.2.drop k).take 40) = true := by
  unfold am_chk3 at h
  unfold am_bt am_bx
  split at h
  · next hw => rw [hw]; exact h
  · cases h
end
section
set_option maxRecDepth 100000 in
theorem am_kD0_0 : ([0, 1, 2, 3, 4, 5, 6, 7, 8, 9, 10, 11, 12, 13, 14, 15, 16, 17, 18, 19, 20, 21, 22, 23, 24, 25, 26, 27, 28, 29] : List Nat).all (fun y => am_chk2 (am_mq y)) = true := by decide +kernel
set_option maxRecDepth 100000 in
theorem am_kD0_1 : ([30, 31, 32, 33, 34, 35, 36, 37, 38, 39, 40, 41] : List Nat).all (fun y => am_chk2 (am_mq y)) = true := by decide +kernel
set_option maxRecDepth 100000 in
theorem am_kD0_2 : ([42, 43, 44, 45, 46, 47, 48, 49, 50, 51, 52] : List Nat).all (fun y => am_chk2 (am_mq y)) = true := by decide +kernel
set_option maxRecDepth 100000 in
theorem am_kD0_3 : ([53, 54, 55, 56, 57, 58, 59, 60, 61, 62, 63, 64, 65, 66, 67, 68, 69, 70, 71, 72, 73] : List Nat).all (fun y => am_chk2 (am_mq y)) = true := by decide +kernel
set_option maxRecDepth 100000 in
theorem am_kD0_4 : ([74, 75, 76, 77, 78, 79, 80, 81, 82, 83, 84, 85, 86, 87, 88, 89, 90, 91] : List Nat).all (fun y => am_chk2 (am_mq y)) = true := by decide +kernel
set_option maxRecDepth 100000 in
theorem am_kD0_5 : ([92, 93, 94, 95, 96, 97, 98, 99, 100, 101, 102, 103, 104, 105, 106, 107, 108, 109, 110] : List Nat).all (fun y => am_chk2 (am_mq y)) = true := by decide +kernel
set_option maxRecDepth 100000 in
theorem am_kD0_6 : ([111, 112, 113, 114, 115, 116, 117, 118, 119, 120, 121, 122, 123, 124, 125, 126, 127, 128, 129] : List Nat).all (fun y => am_chk2 (am_mq y)) = true := by decide +kernel
end
section
set_option maxRecDepth 100000 in
theorem am_kD1_0 : ([130, 131, 132, 133, 134, 135, 136, 137, 138, 139, 140, 141, 142] : List Nat).all (fun y => am_chk2 (am_mq y)) = true := by decide +kernel
set_option maxRecDepth 100000 in
theorem am_kD1_1 : ([143, 144, 145] : List Nat).all (fun y => am_chk2 (am_mq y)) = true := by decide +kernel
set_option maxRecDepth 100000 in
theorem am_kD1_2 : ([146, 147, 148, 149, 150, 151, 152, 153] : List Nat).all (fun y => am_chk2 (am_mq y)) = true := by decide +kernel
set_option maxRecDepth 100000 in
theorem am_kD1_3 : ([154, 155, 156, 157, 158, 159, 160, 161] : List Nat).all (fun y => am_chk2 (am_mq y)) = true := by decide +kernel
set_option maxRecDepth 100000 in
theorem am_kD1_4 : ([162] : List Nat).all (fun y => am_chk2 (am_mq y)) = true := by decide +kernel
set_option maxRecDepth 100000 in
theorem am_kD1_5 : ([163, 164, 165, 166, 167, 168] : List Nat).all (fun y => am_chk2 (am_mq y)) = true := by decide +kernel
set_option maxRecDepth 100000 in
theorem am_kD1_6 : ([169, 171, 172, 173] : List Nat).all (fun y => am_chk2 (am_mq y)) = true := by decide +kernel
end
section
set_option maxRecDepth 100000 in
theorem am_kD2_0 : ([174, 175, 176, 177] : List Nat).all (fun y => am_chk2 (am_mq y)) = true := by decide +kernel
set_option maxRecDepth 100000 in
theorem am_kD2_1 : ([178] : List Nat).all (fun y => am_chk2 (am_mq y)) = true := by decide +kernel
set_option maxRecDepth 100000 in
theorem am_kD2_2 : ([179, 180, 181] : List Nat).all (fun y => am_chk2 (am_mq y)) = true := by decide +kernel
set_option maxRecDepth 100000 in
theorem am_kD2_3 : ([182, 183, 184, 185, 186, 187, 188, 189] : List Nat).all (fun y => am_chk2 (am_mq y)) = true := by decide +kernel
set_option maxRecDepth 100000 in
theorem am_kD2_4 : ([190, 191, 192, 193, 194, 195, 196, 197, 198] : List Nat).all (fun y => am_chk2 (am_mq y)) = true := by decide +kernel
set_option maxRecDepth 100000 in
theorem am_kD2_5 : ([199, 200, 201, 202, 203] : List Nat).all (fun y => am_chk2 (am_mq y)) = true := by decide +kernel
set_option maxRecDepth 100000 in
theorem am_kD2_6 : ([204, 205, 206, 207] : List Nat).all (fun y => am_chk2 (am_mq y)) = true := by decide +kernel
end
section
set_option maxRecDepth 100000 in
theorem am_kD3_0 : ([208, 209, 210, 211, 212, 213, 214, 215, 216, 217, 218, 219, 220, 221, 222, 223, 224, 225, 226, 227, 228, 229, 230] : List Nat).all (fun y => am_chk2 (am_mq y)) = true := by decide +kernel
set_option maxRecDepth 100000 in
theorem am_kD3_1 : ([231, 232, 233, 234, 235, 236, 237, 238] : List Nat).all (fun y => am_chk2 (am_mq y)) = true := by decide +kernel
set_option maxRecDepth 100000 in
theorem am_kD3_2 : ([239, 240, 241, 242, 243, 244, 245, 246] : List Nat).all (fun y => am_chk2 (am_mq y)) = true := by decide +kernel
set_option maxRecDepth 100000 in
theorem am_kD3_3 : ([247, 248, 249, 250, 251, 252, 253, 254, 255, 256] : List Nat).all (fun y => am_chk2 (am_mq y)) = true := by decide +kernel
set_option maxRecDepth 100000 in
theorem am_kD3_4 : ([257, 258, 259, 260, 261, 262] : List Nat).all (fun y => am_chk2 (am_mq y)) = true := by decide +kernel
set_option maxRecDepth 100000 in
theorem am_kD3_5 : ([263, 264, 265, 266, 267] : List Nat).all (fun y => am_chk2 (am_mq y)) = true := by decide +kernel
set_option maxRecDepth 100000 in
theorem am_kD3_6 : ([268, 269, 270, 271, 272, 273, 274, 275, 276, 277] : List Nat).all (fun y => am_chk2 (am_mq y)) = true := by decide +kernel
end
section
set_option maxRecDepth 100000 in
theorem am_kD4_0 : ([278, 279, 280, 281] : List Nat).all (fun y => am_chk2 (am_mq y)) = true := by decide +kernel
set_option maxRecDepth 100000 in
theorem am_kD4_1 : ([282, 283, 284] : List Nat).all (fun y => am_chk2 (am_mq y)) = true := by decide +kernel
set_option maxRecDepth 100000 in
theorem am_kD4_2 : ([285, 286, 287, 288] : List Nat).all (fun y => am_chk2 (am_mq y)) = true := by decide +kernel
set_option maxRecDepth 100000 in
theorem am_kD4_3 : ([289, 290, 291, 292, 293] : List Nat).all (fun y => am_chk2 (am_mq y)) = true := by decide +kernel
set_option maxRecDepth 100000 in
theorem am_kD4_4 : ([294, 295, 296, 297, 298, 299, 300] : List Nat).all (fun y => am_chk2 (am_mq y)) = true := by decide +kernel
end
section
set_option maxRecDepth 100000 in
theorem am_kB170_0 : am_chk3 (am_mq 170) 0 = true := by decide +kernel
set_option maxRecDepth 100000 in
theorem am_kB170_40 : am_chk3 (am_mq 170) 40 = true := by decide +kernel
set_option maxRecDepth 100000 in
theorem am_kB170_80 : am_chk3 (am_mq 170) 80 = true := by decide +kernel
set_option maxRecDepth 100000 in
theorem am_kB170_120 : am_chk3 (am_mq 170) 120 = true := by decide +kernel
set_option maxRecDepth 100000 in
theorem am_kB170_160 : am_chk3 (am_mq 170) 160 = true := by decide +kernel
set_option maxRecDepth 100000 in
theorem am_kB170_200 : am_chk3 (am_mq 170) 200 = true := by decide +kernel
set_option maxRecDepth 100000 in
theorem am_kB170_240 : am_chk3 (am_mq 170) 240 = true := by decide +kernel
set_option maxRecDepth 100000 in
theorem am_kB170_280 : am_chk3 (am_mq 170) 280 = true := by decide +kernel
set_option maxRecDepth 100000 in
theorem am_kB170_320 : am_chk3 (am_mq 170) 320 = true := by decide +kernel
set_option maxRecDepth 100000 in
theorem am_kB170_360 : am_chk3 (am_mq 170) 360 = true := by decide +kernel
set_option maxRecDepth 100000 in
theorem am_kB170_400 : am_chk3 (am_mq 170) 400 = true := by decide +kernel
end
section
def am_ckK (e : ((Nat × Nat) × Int64) × Nat) : Bool := am_at e.2 (.constantLong (am_cn e.1.1.1) e.1.1.2 e.1.2)
set_option maxRecDepth 100000 in
theorem am_klck : (am_klT.zip am_klP).all am_ckK = true := by decide +kernel
theorem am_KLok (c : Nat) {Ts : List Jvm.Cond} (hT : ∀ w ∈ am_Ts, w ∈ Ts) : am_KL (am_kl c) (am_cn c) Ts := by
  intro idx v hv
  obtain ⟨i, hi⟩ := am_zip (p := am_klP) (by decide +kernel) (am_mem_look hv)
  exact hT _ (am_at_in (List.all_eq_true.mp am_klck _ hi))
def am_ckI (e : ((Nat × Nat) × Int32) × Nat) : Bool := am_at e.2 (.constant (am_cn e.1.1.1) e.1.1.2 e.1.2)
set_option maxRecDepth 100000 in
theorem am_kick : (am_kiT.zip am_kiP).all am_ckI = true := by decide +kernel
def am_ckO (e : (Nat × Nat) × Nat) : Bool := am_at e.2 (.methodLink (am_cn e.1.1) e.1.2 Lib.objectInit)
set_option maxRecDepth 100000 in
theorem am_oick : (am_oiT.zip am_oiP).all am_ckO = true ∧ am_at am_oiQ.1 (.instanceMethod Lib.objectInit) = true ∧ am_at am_oiQ.2 (.code Lib.objectInit ⟨#[0xb1]⟩ 1 none) = true := by decide +kernel
theorem am_OIok (c : Nat) {Ts : List Jvm.Cond} (hT : ∀ w ∈ am_Ts, w ∈ Ts) : am_OI (am_oi c) (am_cn c) Ts := by
  intro k hk
  obtain ⟨i, hi⟩ := am_zip (p := am_oiP) (by decide +kernel) (List.contains_iff_mem.mp hk)
  exact ⟨hT _ (am_at_in (List.all_eq_true.mp am_oick.1 _ hi)), hT _ (am_at_in am_oick.2.1), hT _ (am_at_in am_oick.2.2)⟩
def am_ckN (e : ((Nat × Nat) × (Nat × List Value)) × (Nat × Nat × Nat)) : Bool := match am_cl[e.1.2.1]? with
  | some q => decide (q.2.2 = e.1.2.2.length) && (am_at e.2.1 (.classLink (am_cn e.1.1.1) e.1.1.2 q.1) && (am_at e.2.2.1 (.instantiable q.1 q.2.2) && (am_at e.2.2.2 (.initialized q.1) && ((List.range q.2.2).all (fun j => decide ((parseFieldDescriptor (q.2.1 j).2.2.1).map defaultValue = some (vp_V e.1.2.2 j))) && e.1.2.2.all am_nor))))
  | none => false
set_option maxRecDepth 100000 in
theorem am_nwck : (am_nwT.zip am_nwP).all am_ckN = true := by decide +kernel
theorem am_NWok (c : Nat) {Ts : List Jvm.Cond} (hT : ∀ w ∈ am_Ts, w ∈ Ts) : am_NW (am_nw c) (am_cn c) am_cl Ts := by
  intro k q hq
  obtain ⟨i, hi⟩ := am_zip (p := am_nwP) (by decide +kernel) (am_mem_look hq)
  have h := List.all_eq_true.mp am_nwck _ hi
  unfold am_ckN at h
  split at h
  · next z hz =>
    simp only [Bool.and_eq_true, decide_eq_true_eq, List.all_eq_true] at h
    obtain ⟨h1, h2, h3, h4, h5, h6⟩ := h
    obtain ⟨g1, ty0, g2, -⟩ := am_cls hz
    obtain ⟨C, T, N⟩ := z
    dsimp only at h1 h2 h3 h4 h5 g1 g2 hz
    subst h1
    refine ⟨C, T, ty0, hz, fun w hw => hT w (g1 w hw), g2, hT _ (am_at_in h2), hT _ (am_at_in h3), hT _ (am_at_in h4), fun j hj => ?_, h6⟩
    have h5 := h5 j (List.mem_range.mpr hj)
    rw [g2 j hj] at h5
    exact Option.some.inj h5
  · cases h
set_option maxRecDepth 100000 in
theorem am_arck : am_at (am_arP.getD 0 0) (.arrayClass .int) = true ∧ am_at (am_arP.getD 1 0) (.arrayClass .char) = true ∧ am_at (am_arP.getD 2 0) (.arrayClass .boolean) = true ∧ am_at (am_arP.getD 3 0) (.arrayClass .byte) = true ∧ am_at (am_arP.getD 4 0) (.arrayClass .long) = true := by decide +kernel
theorem am_ARok {Ts : List Jvm.Cond} (hT : ∀ w ∈ am_Ts, w ∈ Ts) : am_AR Ts := by
  obtain ⟨h1, h2, h3, h4, h5⟩ := am_arck
  intro t t0 h
  have g1 : Jvm.Cond.arrayClass .int ∈ Ts := hT _ (am_at_in h1)
  have g2 : Jvm.Cond.arrayClass .char ∈ Ts := hT _ (am_at_in h2)
  have g3 : Jvm.Cond.arrayClass .boolean ∈ Ts := hT _ (am_at_in h3)
  have g4 : Jvm.Cond.arrayClass .byte ∈ Ts := hT _ (am_at_in h4)
  have g5 : Jvm.Cond.arrayClass .long ∈ Ts := hT _ (am_at_in h5)
  clear h1 h2 h3 h4 h5
  cases t with
  | boolean => exact g3
  | char => exact g2
  | byte => exact g4
  | int => exact g1
  | long => exact g5
  | float => cases h
  | double => cases h
  | short => cases h
-- the constants: texts at their places, nests
def am_Kc (ak : Nat → Nat) (U : State) : Prop := (∀ q ∈ am_strs, vk_R q.1 q.2.1 q.2.2.1 (ak q.2.2.2) U) ∧ ∀ z ∈ am_nestT, va_Nw (.methodLinkNest z.1 z.2.1 z.2.2.1 z.2.2.2) U
theorem am_Kc_same {ak : Nat → Nat} {u U : State} (hv : U.vm = u.vm) (h : am_Kc ak u) : am_Kc ak U := ⟨fun q hq => (h.1 q hq).same hv, fun z hz => va_Nw.same rfl hv.symm (h.2 z hz)⟩
theorem am_Kc_warm {ak : Nat → Nat} {s U : State} (hW : s.WarmedH U.vm) (h : am_Kc ak s) : am_Kc ak U := ⟨fun q hq => (h.1 q hq).warm hW, fun z hz => va_Nw.warmM hW (h.2 z hz)⟩
def am_ckS (e : ((Nat × Nat) × Nat) × (String × Nat × String × Nat)) : Bool := decide (am_cn e.1.1.1 = e.2.1) && (decide (e.1.1.2 = e.2.2.1) && (decide (e.1.2 = e.2.2.2.2) && decide (1000 ≤ e.1.2)))
set_option maxRecDepth 100000 in
theorem am_sck : (am_sT.zip am_strs).all am_ckS = true := by decide +kernel
theorem am_KCok (c : Nat) {Ts : List Jvm.Cond} {ad ak : Nat → Nat} {s : State} (hT : ∀ w ∈ am_Ts, w ∈ Ts) (hs : am_Kc ak s) (ha : ∀ i, 1000 ≤ i → ad i = ak i) : am_KC (am_kc c) (am_cn c) ad Ts s := by
  intro idx v hv
  unfold am_kc at hv
  split at hv
  · next x hx =>
    cases hv
    obtain ⟨i, hi⟩ := am_zip (p := am_kiP) (by decide +kernel) (am_mem_look hx)
    exact Or.inl ⟨x, rfl, hT _ (am_at_in (List.all_eq_true.mp am_kick _ hi))⟩
  · obtain ⟨a, ha1, rfl⟩ := Option.map_eq_some_iff.mp hv
    obtain ⟨q, hq⟩ := am_zip (p := am_strs) (by decide +kernel) (am_mem_look ha1)
    have h := List.all_eq_true.mp am_sck _ hq
    unfold am_ckS at h
    simp only [Bool.and_eq_true, decide_eq_true_eq] at h
    obtain ⟨h1, h2, h3, h4⟩ := h
    refine Or.inr ⟨a, q.2.2.1, rfl, ?_⟩
    have hz := hs.1 q (List.of_mem_zip hq).2
    rw [← h1, ← h2, ← h3] at hz
    rw [ha a h4]
    exact hz
end
section
/-! ===== the checks, joined ===== -/
theorem am_allM : am_me.all am_ckM = true := by
  unfold am_me
  simp only [List.all_append, Bool.and_eq_true]
  exact ⟨am_kM0, am_kM1, am_kM2, am_kM3, am_kM4, am_kM5, am_kM6, am_kM7⟩
theorem am_allC : am_calT.all am_ckC = true := by
  unfold am_calT
  simp only [List.all_append, Bool.and_eq_true]
  exact ⟨am_kC0, am_kC1, am_kC2, am_kC3, am_kC4, am_kC5, am_kC6, am_kC7⟩
def am_g0 : List Nat := [0, 1, 2, 3, 4, 5, 6, 7, 8, 9, 10, 11, 12, 13, 14, 15, 16, 17, 18, 19, 20, 21, 22, 23, 24, 25, 26, 27, 28, 29]
def am_g1 : List Nat := [30, 31, 32, 33, 34, 35, 36, 37, 38, 39, 40, 41]
def am_g2 : List Nat := [42, 43, 44, 45, 46, 47, 48, 49, 50, 51, 52]
def am_g3 : List Nat := [53, 54, 55, 56, 57, 58, 59, 60, 61, 62, 63, 64, 65, 66, 67, 68, 69, 70, 71, 72, 73]
def am_g4 : List Nat := [74, 75, 76, 77, 78, 79, 80, 81, 82, 83, 84, 85, 86, 87, 88, 89, 90, 91]
def am_g5 : List Nat := [92, 93, 94, 95, 96, 97, 98, 99, 100, 101, 102, 103, 104, 105, 106, 107, 108, 109, 110]
def am_g6 : List Nat := [111, 112, 113, 114, 115, 116, 117, 118, 119, 120, 121, 122, 123, 124, 125, 126, 127, 128, 129]
def am_g7 : List Nat := [130, 131, 132, 133, 134, 135, 136, 137, 138, 139, 140, 141, 142]
def am_g8 : List Nat := [143, 144, 145]
def am_g9 : List Nat := [146, 147, 148, 149, 150, 151, 152, 153]
def am_g10 : List Nat := [154, 155, 156, 157, 158, 159, 160, 161]
def am_g11 : List Nat := [162]
def am_g12 : List Nat := [163, 164, 165, 166, 167, 168]
def am_g13 : List Nat := [169, 171, 172, 173]
def am_g14 : List Nat := [174, 175, 176, 177]
def am_g15 : List Nat := [178]
def am_g16 : List Nat := [179, 180, 181]
def am_g17 : List Nat := [182, 183, 184, 185, 186, 187, 188, 189]
def am_g18 : List Nat := [190, 191, 192, 193, 194, 195, 196, 197, 198]
def am_g19 : List Nat := [199, 200, 201, 202, 203]
def am_g20 : List Nat := [204, 205, 206, 207]
def am_g21 : List Nat := [208, 209, 210, 211, 212, 213, 214, 215, 216, 217, 218, 219, 220, 221, 222, 223, 224, 225, 226, 227, 228, 229, 230]
def am_g22 : List Nat := [231, 232, 233, 234, 235, 236, 237, 238]
def am_g23 : List Nat := [239, 240, 241, 242, 243, 244, 245, 246]
def am_g24 : List Nat := [247, 248, 249, 250, 251, 252, 253, 254, 255, 256]
def am_g25 : List Nat := [257, 258, 259, 260, 261, 262]
def am_g26 : List Nat := [263, 264, 265, 266, 267]
def am_g27 : List Nat := [268, 269, 270, 271, 272, 273, 274, 275, 276, 277]
def am_g28 : List Nat := [278, 279, 280, 281]
def am_g29 : List Nat := [282, 283, 284]
def am_g30 : List Nat := [285, 286, 287, 288]
def am_g31 : List Nat := [289, 290, 291, 292, 293]
def am_g32 : List Nat := [294, 295, 296, 297, 298, 299, 300]
def am_grp : List Nat := am_g0 ++ (am_g1 ++ (am_g2 ++ (am_g3 ++ (am_g4 ++ (am_g5 ++ (am_g6 ++ (am_g7 ++ (am_g8 ++ (am_g9 ++ (am_g10 ++ (am_g11 ++ (am_g12 ++ (am_g13 ++ (am_g14 ++ (am_g15 ++ (am_g16 ++ (am_g17 ++ (am_g18 ++ (am_g19 ++ (am_g20 ++ (am_g21 ++ (am_g22 ++ (am_g23 ++ (am_g24 ++ (am_g25 ++ (am_g26 ++ (am_g27 ++ (am_g28 ++ (am_g29 ++ (am_g30 ++ (am_g31 ++ (am_g32))))))))))))))))))))))))))))))))
theorem am_allD : am_grp.all (fun y => am_chk2 (am_mq y)) = true := by
  unfold am_grp
  simp only [List.all_append, Bool.and_eq_true]
  exact ⟨am_kD0_0, am_kD0_1, am_kD0_2, am_kD0_3, am_kD0_4, am_kD0_5, am_kD0_6, am_kD1_0, am_kD1_1, am_kD1_2, am_kD1_3, am_kD1_4, am_kD1_5, am_kD1_6, am_kD2_0, am_kD2_1, am_kD2_2, am_kD2_3, am_kD2_4, am_kD2_5, am_kD2_6, am_kD3_0, am_kD3_1, am_kD3_2, am_kD3_3, am_kD3_4, am_kD3_5, am_kD3_6, am_kD4_0, am_kD4_1, am_kD4_2, am_kD4_3, am_kD4_4⟩
set_option maxRecDepth 100000 in
theorem am_grin : ∀ y, y < 301 → y ∈ am_grp ∨ y = 170 := by decide +kernel
theorem am_melen : am_me.length = 301 := by decide +kernel
theorem am_pieces {α : Type} {p : α → Bool} {l : List α} (h : ∀ k, 40 * k < l.length → ((l.drop (40 * k)).take 40).all p = true) : l.all p = true := by
  rw [List.all_eq_true]
  intro x hx
  obtain ⟨j, hj, rfl⟩ := List.getElem_of_mem hx
  have h1 := h (j / 40) (by omega)
  rw [List.all_eq_true] at h1
  refine h1 _ ?_
  have e : ((l.drop (40 * (j / 40))).take 40)[j - 40 * (j / 40)]? = some l[j] := by
    rw [List.getElem?_take, if_pos (by omega), List.getElem?_drop, show 40 * (j / 40) + (j - 40 * (j / 40)) = j by omega]
    exact List.getElem?_eq_getElem hj
  exact List.mem_of_getElem? e
set_option maxRecDepth 100000 in
theorem am_biglen : (am_mq 170).2.2.2.2.2.length ≤ 440 := by decide +kernel
theorem am_bigG (y n : Nat) (hlen : (am_mq y).2.2.2.2.2.length ≤ 40 * n) (h : ∀ k, k < n → am_chk3 (am_mq y) (40 * k) = true) : am_chk (am_bt y) (am_mq y).2.2.2.2.2 = true := by
  unfold am_chk
  refine am_pieces (fun k hk => ?_)
  have h1 := am_chk3_bt (h k (by omega))
  unfold am_chk at h1
  exact h1
theorem am_bigD : am_chk (am_bt 170) (am_mq 170).2.2.2.2.2 = true := am_bigG 170 11 am_biglen (fun k hk => match k, hk with
  | 0, _ => am_kB170_0
  | 1, _ => am_kB170_40
  | 2, _ => am_kB170_80
  | 3, _ => am_kB170_120
  | 4, _ => am_kB170_160
  | 5, _ => am_kB170_200
  | 6, _ => am_kB170_240
  | 7, _ => am_kB170_280
  | 8, _ => am_kB170_320
  | 9, _ => am_kB170_360
  | 10, _ => am_kB170_400
  | k + 11, h => absurd h (by omega))
theorem am_mq_in {y : Nat} (h : y < am_me.length) : am_mq y ∈ am_me := by
  unfold am_mq
  rw [List.getD_eq_getElem?_getD, List.getElem?_eq_getElem h]
  exact List.getElem_mem h
theorem am_hM (y : Nat) (h : y < am_me.length) : am_ckM (am_mq y) = true := List.all_eq_true.mp am_allM _ (am_mq_in h)
theorem am_hC (e : am_Ca) (h : e ∈ am_calT) : am_ckC e = true := List.all_eq_true.mp am_allC _ h
theorem am_hD (y : Nat) (h : y < am_me.length) : am_chk (am_bt y) (am_mq y).2.2.2.2.2 = true := by
  rw [am_melen] at h
  rcases am_grin y h with z | z
  · exact am_chk2_bt (List.all_eq_true.mp am_allD _ z)
  · rw [z]
    exact am_bigD
theorem am_fc_lt {y pc : Nat} {i : Instr} (h : am_fc y pc = some i) : y < am_me.length := by
  rcases Nat.lt_or_ge y am_me.length with z | z
  · exact z
  · exfalso
    have e : am_mq y = am_m0 := by
      unfold am_mq
      rw [List.getD_eq_getElem?_getD, List.getElem?_eq_none z]
      rfl
    unfold am_fc at h
    rw [e] at h
    cases h
end
section
/-- the constants: texts, nests, Throwable's two statics -/
def am_KK (ak : Nat → Nat) (A : Nat → Prop) (U : State) : Prop := am_Kc ak U ∧ (∃ u : RefV, va_Z Bundle.tN "UNASSIGNED_STACK" Bundle.steD u.v A U U.heap) ∧ ∃ u : RefV, va_Z Bundle.tN "SUPPRESSED_SENTINEL" Bundle.listD u.v A U U.heap
theorem am_KK_ok (ak : Nat → Nat) : am_K0 (am_KK ak) := by
  refine ⟨fun A U g mk a h => ?_, fun A A' s U h hW hk hA => ?_⟩
  · obtain ⟨h1, ⟨u, h2⟩, v, h3⟩ := h
    exact ⟨am_Kc_same rfl h1, ⟨u, va_Z.moved (u := U) (U := U.calling g mk a) (Vm.Alike.refl U.vm) h2⟩, v, va_Z.moved (u := U) (U := U.calling g mk a) (Vm.Alike.refl U.vm) h3⟩
  · obtain ⟨h1, ⟨u, h2⟩, v, h3⟩ := h
    exact ⟨am_Kc_warm hW h1, ⟨u, ((h2.kept hk).narrow hA).moved hW.alike⟩, v, ((h3.kept hk).narrow hA).moved hW.alike⟩
theorem am_isRef {C n d : String} {u : RefV} {A : Nat → Prop} {s : State} {args : Array Value} (h : va_Z C n d u.v A s s.heap) : (Jvm.Cond.isRef (.static C n d)).before args s = true := by
  obtain ⟨cf, kf, fi, f, a, cell, h1, h2, h3, h4, h5, h6, h7, h8⟩ := h
  have hv : (Term.static C n d).eval args s none [] s = some u.v := by simp [Term.eval, State.fieldNamed?, h1, h2, h4, h5, h6, h7]
  obtain ⟨w, hw⟩ := u
  cases w <;> first | (cases hw; done) | simp [Cond.before, Cond.holds, Cond.value, hv, Value.isRef]
abbrev am_okm (y : Nat) : Prop := y < am_me.length
theorem am_GG {tys : List (ClassId × FieldType)} {ct : Nat → Nat} (hTY : am_TY tys ct) (ak : Nat → Nat) : am_G am_okm am_cl tys ct ak (am_KK ak) am_nm am_bt am_wM am_co am_mL am_rt am_in am_fc am_fl am_kc am_kl (fun _ _ => none) (fun _ => none) am_cal am_oi am_nw := by
  refine ⟨am_KK_ok ak, hTY, fun y pc i h => am_fc_lt h, fun y hy => ?_⟩
  obtain ⟨h1, h2, h3, h4⟩ := am_ckM_ok (am_hM y hy)
  have hT := am_wM_in y
  rw [← h4]
  refine ⟨⟨am_Ts, rfl⟩, by rw [h4]; exact h3, fun z => of_decide_eq_true z, am_FLok _ hT, am_KLok _ hT, am_OIok _ hT, am_NWok _ hT, am_ARok hT, fun pc i hi => am_chk_ok (am_hD y hy) hi, fun A s args hK hts => ⟨am_CTok am_hM am_hC _ hT hK.1.2, fun ad ha => ⟨am_KCok _ hT hK.1 ha, fun _ _ z => (by cases z), fun _ _ _ z => (by cases z)⟩⟩⟩
/-- the machine over all methods of the claim -/
def am_all (thr : Nat → Nat → Option Nat) (fuel : Nat) : Nat → Nat → List Value → List va_E → Option am_R := am_run am_co am_mL am_rt am_in am_fc am_fl am_kc am_kl (fun _ _ => none) (fun _ => none) am_cal am_oi am_nw thr 1 6 fuel
/-- EVERY METHOD OF THE CLAIM MEETS ITS RUN (one that comes back) -/
theorem am_meets {l : Launch} {D : va_G} {tys : List (ClassId × FieldType)} {ct ak : Nat → Nat} {X : Nat → Nat → State → Prop} (hTY : am_TY tys ct) {thr : Nat → Nat → Option Nat} {fuel d y : Nat} {as : List Value} {h h' : List va_E} {v : Option Value} {nc ns : Nat} (hr : am_all thr fuel d y as h = some (.inl v, h', nc, ns)) (ad : Nat → Nat) (sz : Nat) :
    Met l (am_nm y) (am_wM y) (am_rm d nc ns) (am_Pre D am_cl ct tys ak (am_KK ak) ad h sz as) (am_Post D am_cl ct tys X ad h.length (va_A (am_ws ad ct h) sz) (.inl v) h' nc) nc ns (va_A (am_ws ad ct h) sz) := am_run_R (am_GG hTY ak) d y as h v h' nc ns hr ad sz
end
section
/-- a static field is laid, its class's cell lies outside A -/
def am_LS (C n d : String) (A : Nat → Prop) (U : State) (H : Heap) : Prop := ∃ (c : ClassId) (k : Class) (i : Nat) (f : Field) (a : Nat) (cell : Cell), U.vm.findClass C = some c ∧ U.fieldFound? C n d = some (c, k, i, f) ∧ f.isStatic = true ∧ k.statics = some a ∧ H[a]? = some cell ∧ cell.vm.isStatics = true ∧ cell.cls = c ∧ f.slot < cell.slots.size ∧ k.staticTypes[f.slot]? = some f.type ∧ ¬ A a
theorem am_LS.moved {C n d : String} {A : Nat → Prop} {u U : State} {H : Heap} (hvm : u.vm.Alike U.vm) (h : am_LS C n d A u H) : am_LS C n d A U H := by
  obtain ⟨c, k, i, f, a, cell, h0, h1, h2, h3, h4, h5, h6, h7, h8, h9⟩ := h
  obtain ⟨k', hi', he⟩ := State.fieldFound?_setVm hvm h1
  exact ⟨c, k', i, f, a, cell, by rw [hvm.findClass]; exact h0, hi', h2, by rw [he]; exact h3, h4, h5, h6, h7, by rw [he]; exact h8, h9⟩
theorem am_LS.kept {C n d : String} {A : Nat → Prop} {U : State} {H H1 : Heap} (h : am_LS C n d A U H) (hq : ∀ a : Nat, a < H.size → ¬ A a → H1[a]? = H[a]?) : am_LS C n d A U H1 := by
  obtain ⟨c, k, i, f, a, cell, h0, h1, h2, h3, h4, h5⟩ := h
  exact ⟨c, k, i, f, a, cell, h0, h1, h2, h3, by rw [hq a (Array.getElem?_eq_some_iff.mp h4).1 h5.2.2.2.2]; exact h4, h5⟩
theorem am_LS.narrow {C n d : String} {A B : Nat → Prop} {U : State} {H : Heap} (h : am_LS C n d A U H) (hAB : ∀ q, B q → A q) : am_LS C n d B U H := by
  obtain ⟨c, k, i, f, a, cell, h0, h1, h2, h3, h4, h5, h6, h7, h8, h9⟩ := h
  exact ⟨c, k, i, f, a, cell, h0, h1, h2, h3, h4, h5, h6, h7, h8, fun z => h9 (hAB a z)⟩
theorem am_LS.word {C n d : String} {A : Nat → Prop} {s : State} {args : Array Value} (h : am_LS C n d A s s.heap) : (Jvm.Cond.laysStatic C n d).before args s = true := by
  obtain ⟨c, k, i, f, a, cell, h0, h1, h2, h3, h4, h5, h6, h7, h8, -⟩ := h
  simp [Cond.before, Cond.holds, Cond.value, h0, h1, h2, h3, h4, h5, h6, h7, h8]
theorem am_LS.of {C n d : String} {A : Nat → Prop} {s : State} {args : Array Value} (h : (Jvm.Cond.laysStatic C n d).before args s = true) (hA : ∀ a : Nat, a < s.heap.size → ¬ A a) : am_LS C n d A s s.heap := by
  obtain ⟨c, k, i, f, a, cell, h0, h1, h2, h3, h4, h5, h6, h7, h8⟩ := Cond.laysStatic_spec h
  exact ⟨c, k, i, f, a, cell, h0, h1, h2, h3, h4, h5, h6, h7, h8, hA a (Array.getElem?_eq_some_iff.mp h4).1⟩
end
section
def am_nmS : List String := ["java/lang/RuntimeException", "java/lang/Exception"]
/-- words on exceptions that no callee may be handed as they are -/
def am_nwW : List Jvm.Cond := [.declares (Bundle.initS "java/lang/RuntimeException"), .declares (Bundle.initS "java/lang/Exception"), .declares (Bundle.initS Bundle.tN), .castable "java/lang/IllegalArgumentException" "java/lang/IllegalArgumentException", .castable "java/lang/IndexOutOfBoundsException" "java/lang/IndexOutOfBoundsException"]
def am_spc : List Jvm.Cond := am_nwW ++ [.laysStatic Bundle.tN "UNASSIGNED_STACK" Bundle.steD, .laysStatic Bundle.tN "SUPPRESSED_SENTINEL" Bundle.listD, .isRef (.static Bundle.tN "UNASSIGNED_STACK" Bundle.steD), .isRef (.static Bundle.tN "SUPPRESSED_SENTINEL" Bundle.listD)]
/-- all constants -/
def am_KX (ak : Nat → Nat) (A : Nat → Prop) (U : State) : Prop := am_KK ak A U ∧ (∀ w ∈ am_nwW, va_Nw w U) ∧ am_LS Bundle.tN "UNASSIGNED_STACK" Bundle.steD A U U.heap ∧ am_LS Bundle.tN "SUPPRESSED_SENTINEL" Bundle.listD A U U.heap
theorem am_nwW_same {u U : State} (hv : u.vm = U.vm) (h : ∀ w ∈ am_nwW, va_Nw w u) : ∀ w ∈ am_nwW, va_Nw w U := by
  intro w hw
  have h1 := h w hw
  simp only [am_nwW, List.mem_cons, List.not_mem_nil, or_false] at hw
  rcases hw with rfl | rfl | rfl | rfl | rfl <;> exact va_Nw.same rfl hv h1
theorem am_nwW_warm {s U : State} (hW : s.WarmedH U.vm) (h : ∀ w ∈ am_nwW, va_Nw w s) : ∀ w ∈ am_nwW, va_Nw w U := by
  intro w hw
  have h1 := h w hw
  simp only [am_nwW, List.mem_cons, List.not_mem_nil, or_false] at hw
  rcases hw with rfl | rfl | rfl | rfl | rfl
  · exact va_Nw.warmD hW h1
  · exact va_Nw.warmD hW h1
  · exact va_Nw.warmD hW h1
  · exact va_Nw.warmC hW h1
  · exact va_Nw.warmC hW h1
theorem am_KX_ok (ak : Nat → Nat) : am_K0 (am_KX ak) := by
  refine ⟨fun A U g mk a h => ?_, fun A A' s U h hW hk hA => ?_⟩
  · obtain ⟨h1, h2, h3, h4⟩ := h
    exact ⟨(am_KK_ok ak).1 _ _ _ _ _ h1, am_nwW_same (u := U) (U := U.calling g mk a) rfl h2, am_LS.moved (u := U) (U := U.calling g mk a) (Vm.Alike.refl U.vm) h3, am_LS.moved (u := U) (U := U.calling g mk a) (Vm.Alike.refl U.vm) h4⟩
  · obtain ⟨h1, h2, h3, h4⟩ := h
    exact ⟨(am_KK_ok ak).2 _ _ _ _ h1 hW hk hA, am_nwW_warm hW h2, ((h3.kept hk).narrow hA).moved hW.alike, ((h4.kept hk).narrow hA).moved hW.alike⟩
theorem am_spc_ok {ak : Nat → Nat} {A : Nat → Prop} {s : State} {args : Array Value} (h : am_KX ak A s) : ∀ w ∈ am_spc, w.before args s = true := by
  intro w hw
  obtain ⟨⟨-, ⟨u, hu⟩, v, hv⟩, h2, h3, h4⟩ := h
  rcases List.mem_append.mp hw with z | z
  · have h5 := h2 w z
    simp only [am_nwW, List.mem_cons, List.not_mem_nil, or_false] at z
    rcases z with rfl | rfl | rfl | rfl | rfl <;> exact va_Nw.use rfl h5
  · simp only [List.mem_cons, List.not_mem_nil, or_false] at z
    rcases z with rfl | rfl | rfl | rfl
    · exact h3.word
    · exact h4.word
    · exact am_isRef hu
    · exact am_isRef hv
theorem am_GX {tys : List (ClassId × FieldType)} {ct : Nat → Nat} (hTY : am_TY tys ct) (ak : Nat → Nat) : am_G am_okm am_cl tys ct ak (am_KX ak) am_nm am_bt am_wM am_co am_mL am_rt am_in am_fc am_fl am_kc am_kl (fun _ _ => none) (fun _ => none) am_cal am_oi am_nw := by
  obtain ⟨-, h2, h3, h4⟩ := am_GG hTY ak
  refine ⟨am_KX_ok ak, h2, h3, fun y hy => ?_⟩
  obtain ⟨g1, g2, g3, g4, g5, g6, g7, g8, g9, g10⟩ := h4 y hy
  exact ⟨g1, g2, g3, g4, g5, g6, g7, g8, g9, fun A s args hK hts => g10 A s args hK.1 hts⟩
def am_ow0 : List Nat := [235, 635, 644, 647, 650, 652, 636, 637, 251, 252, 638, 643, 648, 668, 625, 669, 627, 670, 629, 639, 99999, 641, 99999, 631, 664, 665, 667, 631, 655, 656, 657, 658, 99999, 658, 659, 660, 661, 99999, 661, 662, 663, 664, 99999, 654, 614, 99999, 622, 623, 624, 626, 628, 630, 99999, 99999, 634, 633, 632]
def am_ow1 : List Nat := [235, 635, 644, 647, 650, 652, 636, 637, 251, 252, 638, 643, 648, 668, 625, 669, 627, 670, 629, 639, 99999, 641, 99999, 631, 664, 665, 667, 631, 1336, 1337, 1338, 658, 99999, 658, 659, 660, 661, 99999, 661, 662, 663, 664, 99999, 1335, 1326, 99999, 1328, 646, 1329, 1330, 1331, 1332, 99999, 99999, 634, 633, 1333]
def am_owck (own : String) (ic : Nat) (xc : String) (ps : List Nat) : Bool := decide ((Bundle.ownAtoms own ic xc am_nmS).length = ps.length) && ((Bundle.ownAtoms own ic xc am_nmS).zip ps).all (fun e => am_at e.2 e.1 || decide (e.1 ∈ am_spc))
set_option maxRecDepth 100000 in
theorem am_owck0 : am_owck "ScriptFront$Flaw" 25 "java/lang/IllegalArgumentException" am_ow0 = true := by decide +kernel
set_option maxRecDepth 100000 in
theorem am_owck1 : am_owck "ScriptFront" 124 "java/lang/IndexOutOfBoundsException" am_ow1 = true := by decide +kernel
theorem am_ow_ok {own xc : String} {ic : Nat} {ps : List Nat} (h : am_owck own ic xc ps = true) {Ts : List Jvm.Cond} {ak : Nat → Nat} {A : Nat → Prop} {s : State} {args : Array Value} (hT : ∀ w ∈ am_Ts, w ∈ Ts) (hts : ∀ w ∈ Ts, w.before args s = true) (hK : am_KX ak A s) : ∀ a ∈ Bundle.ownAtoms own ic xc am_nmS, a.before args s = true := by
  unfold am_owck at h
  rw [Bool.and_eq_true] at h
  intro w hw
  obtain ⟨i, hi⟩ := am_zip (of_decide_eq_true h.1) hw
  have h1 := List.all_eq_true.mp h.2 _ hi
  rw [Bool.or_eq_true] at h1
  rcases h1 with z | z
  · exact hts _ (hT _ (am_at_in z))
  · exact am_spc_ok hK _ (of_decide_eq_true z)
end
section
def am_thrT : List ((Nat × Nat) × Nat) := [((34, 10), 0), ((169, 15), 1), ((169, 126), 1)]
def am_thr (y pc : Nat) : Option Nat := am_thrT.lookup (y, pc)
def am_xn (ex : Nat) : String := match ex with
  | 0 => "java/lang/IllegalArgumentException"
  | _ => "java/lang/IndexOutOfBoundsException"
theorem am_row5 {y pc : Nat} {i : Instr} (hy : am_okm y) (h : am_fc y pc = some i) (n : Nat) (hn : am_len i = n) (h0 : n ≠ 0) : decode (am_bt y) pc = .ok (i, n) := by
  obtain ⟨m, h1, h2⟩ := am_chk_ok (am_hD y hy) h
  rw [h1, h2 (by rw [hn]; exact h0), hn]
theorem am_stAt {y pc ex ix k ic pc0 pI pC a0 : Nat} {ps : List Nat} (hy : am_okm y) (r0 : am_fc y pc = some (.new ix)) (r1 : am_fc y (pc + 3) = some .dup) (r2 : am_fc y (pc + 4) = some (.ldc k)) (r3 : am_fc y (pc + 6) = some (.invokespecial ic)) (r4 : am_fc y (pc + 9) = some .athrow)
    (c0 : am_at pc0 (.classLink (am_nm y).cls ix (am_xn ex)) = true) (c1 : am_at pC (.instantiable (am_xn ex) 6) = true) (c2 : am_at pI (.initialized (am_xn ex)) = true) (hk : am_kc (am_co y) k = some (.ref a0)) (hf : Bundle.fit (am_xn ex) = true) (ho : am_owck (am_nm y).cls ic (am_xn ex) ps = true)
    {ak : Nat → Nat} {A : Nat → Prop} {s : State} {args : Array Value} (hts : ∀ w ∈ am_wM y, w.before args s = true) (hK : am_KX ak A s) : am_ST am_xn (am_nm y).cls (am_bt y) (am_wM y) args s pc ex := by
  have hT := am_wM_in y
  obtain ⟨-, -, -, h4⟩ := am_ckM_ok (am_hM y hy)
  have hkc := am_KCok (am_co y) (ad := ak) hT hK.1.1 (fun _ _ => rfl) k (.ref a0) hk
  rw [h4] at hkc
  rcases hkc with ⟨x, hx, -⟩ | ⟨a, tx, ha, hv⟩
  · cases hx
  · exact ⟨ix, k, ic, am_nmS, tx, _, am_row5 hy r0 3 rfl (by decide), am_row5 hy r1 1 rfl (by decide), am_row5 hy r2 2 rfl (by decide), am_row5 hy r3 3 rfl (by decide), am_row5 hy r4 1 rfl (by decide), hT _ (am_at_in c0), hT _ (am_at_in c1), hT _ (am_at_in c2), hv, hf, by decide +kernel, am_ow_ok ho hT hts hK, by decide⟩
end
section
set_option maxRecDepth 100000 in
theorem am_s0 : am_fc 34 10 = some (.new 21) ∧ am_fc 34 13 = some .dup ∧ am_fc 34 14 = some (.ldc 23) ∧ am_fc 34 16 = some (.invokespecial 25) ∧ am_fc 34 19 = some .athrow ∧ am_at 613 (.classLink (am_nm 34).cls 21 (am_xn 0)) = true ∧ am_at 614 (.instantiable (am_xn 0) 6) = true ∧ am_at 238 (.initialized (am_xn 0)) = true ∧ (am_kc (am_co 34) 23).isSome = true ∧ Bundle.fit (am_xn 0) = true ∧ (am_nm 34).cls = "ScriptFront$Flaw" := by decide +kernel
set_option maxRecDepth 100000 in
theorem am_s1 : am_fc 169 15 = some (.new 120) ∧ am_fc 169 18 = some .dup ∧ am_fc 169 19 = some (.ldc 122) ∧ am_fc 169 21 = some (.invokespecial 124) ∧ am_fc 169 24 = some .athrow ∧ am_at 1325 (.classLink (am_nm 169).cls 120 (am_xn 1)) = true ∧ am_at 1326 (.instantiable (am_xn 1) 6) = true ∧ am_at 244 (.initialized (am_xn 1)) = true ∧ Bundle.fit (am_xn 1) = true ∧ (am_nm 169).cls = "ScriptFront" := by decide +kernel
set_option maxRecDepth 100000 in
theorem am_s2 : am_fc 169 126 = some (.new 120) ∧ am_fc 169 129 = some .dup ∧ am_fc 169 130 = some (.ldc 146) ∧ am_fc 169 132 = some (.invokespecial 124) ∧ am_fc 169 135 = some .athrow := by decide +kernel
def am_isR (v : Option Value) : Bool := match v with
  | some (.ref _) => true
  | _ => false
theorem am_isR_ok {v : Option Value} (h : am_isR v = true) : ∃ a, v = some (.ref a) := by
  unfold am_isR at h
  split at h
  · exact ⟨_, rfl⟩
  · cases h
set_option maxRecDepth 100000 in
theorem am_s3 : am_isR (am_kc (am_co 34) 23) = true ∧ am_isR (am_kc (am_co 169) 122) = true ∧ am_isR (am_kc (am_co 169) 146) = true := by decide +kernel
theorem am_STall {y pc ex : Nat} (h : am_thr y pc = some ex) (hy : am_okm y) {ak : Nat → Nat} {A : Nat → Prop} {s : State} {args : Array Value} (hts : ∀ w ∈ am_wM y, w.before args s = true) (hK : am_KX ak A s) : am_ST am_xn (am_nm y).cls (am_bt y) (am_wM y) args s pc ex := by
  have hm := am_mem_look h
  simp only [am_thrT, List.mem_cons, List.not_mem_nil, or_false, Prod.mk.injEq] at hm
  rcases hm with ⟨⟨rfl, rfl⟩, rfl⟩ | ⟨⟨rfl, rfl⟩, rfl⟩ | ⟨⟨rfl, rfl⟩, rfl⟩
  · obtain ⟨q0, q1, q2, q3, q4, q5, q6, q7, -, q8, q9⟩ := am_s0
    obtain ⟨a0, ha⟩ := am_isR_ok am_s3.1
    exact am_stAt hy q0 q1 q2 q3 q4 q5 q6 q7 ha q8 (by rw [q9]; exact am_owck0) hts hK
  · obtain ⟨q0, q1, q2, q3, q4, q5, q6, q7, q8, q9⟩ := am_s1
    obtain ⟨a0, ha⟩ := am_isR_ok am_s3.2.1
    exact am_stAt hy q0 q1 q2 q3 q4 q5 q6 q7 ha q8 (by rw [q9]; exact am_owck1) hts hK
  · obtain ⟨q0, q1, q2, q3, q4⟩ := am_s2
    obtain ⟨-, -, -, -, -, q5, q6, q7, q8, q9⟩ := am_s1
    obtain ⟨a0, ha⟩ := am_isR_ok am_s3.2.2
    exact am_stAt hy q0 q1 q2 q3 q4 q5 q6 q7 ha q8 (by rw [q9]; exact am_owck1) hts hK
theorem am_thr_ok {y pc ex : Nat} (h : am_thr y pc = some ex) : am_okm y := by
  have hm := am_mem_look h
  simp only [am_thrT, List.mem_cons, List.not_mem_nil, or_false, Prod.mk.injEq] at hm
  show y < am_me.length
  rw [am_melen]
  omega
/-- EVERY METHOD OF THE CLAIM MEETS ITS RUN, one that comes back and one that throws, on a JVM without stack traces -/
theorem am_meetsB {l : Launch} {D : va_G} {tys : List (ClassId × FieldType)} {ct ak : Nat → Nat} (hTY : am_TY tys ct) {fuel d y : Nat} {as : List Value} {h h' : List va_E} {v : Option Value} {nc ns : Nat} (hr : am_all am_thr fuel d y as h = some (.inl v, h', nc, ns)) (ad : Nat → Nat) (sz : Nat) :
    Met l (am_nm y) (am_wM y) (am_rm d nc ns) (am_Pre D am_cl ct tys ak (am_KX ak) ad h sz as) (am_Post D am_cl ct tys (am_X am_xn) ad h.length (va_A (am_ws ad ct h) sz) (.inl v) h' nc) nc ns (va_A (am_ws ad ct h) sz) := am_run_R (am_GX hTY ak) d y as h v h' nc ns hr ad sz
theorem am_meetsT {l : Launch} (hfl : ∀ e : Env, l.admits e → e.platform.stackTraces = false) {D : va_G} {tys : List (ClassId × FieldType)} {ct ak : Nat → Nat} (hTY : am_TY tys ct) {fuel d y : Nat} {as : List Value} {h h' : List va_E} {ex nc ns : Nat} (hr : am_all am_thr fuel d y as h = some (.inr ex, h', nc, ns)) (ad : Nat → Nat) (sz : Nat) :
    am_MT l (am_nm y) (am_wM y) (am_rm d nc ns) (am_Pre D am_cl ct tys ak (am_KX ak) ad h sz as) (am_Post D am_cl ct tys (am_X am_xn) ad h.length (va_A (am_ws ad ct h) sz) (.inr ex) h' nc) nc ns (va_A (am_ws ad ct h) sz) :=
  am_run_T (am_X_o am_xn) (am_GX hTY ak) (fun y pc e h => am_thr_ok h) (fun y hy p e R s m args below meth c A h1 h2 h3 h4 h5 h6 h7 h8 h9 h10 h11 h12 h13 h14 => am_site am_xn (hfl e h1) h2 h3 h4 h5 h6 h7 h8 h9 h11 h12 h13 h14 (fun pc ex hp => am_STall hp hy h5 h10)) d y as h ex h' nc ns hr ad sz
end
section
/-! ===== A ROAD of a method's run: kk instructions (a call counts as one), going on ===== -/
def am_one (fetch : Nat → Option Instr) (stp : Instr → Nat → am_L → List Value → List va_E → Option am_F) (cal : Instr → Option (Nat × Nat × Nat × Nat)) (oi : Nat → Bool) (nw : Nat → Option (Nat × List Value)) (run : Nat → List Value → List va_E → Option am_R) (pc : Nat) (lv : am_L) (st : List Value) (h : List va_E) : Option (am_F × Nat × Nat) := match fetch pc with
  | none => none
  | some i => match i with
    | .new k => (nw k).bind fun q => if (decide (h.length < 1000) && (am_oldL h.length lv st && am_oldH h.length h)) = true then some ((pc + 3, lv, .ref h.length :: st, h ++ [.inr q]), 1, q.2.length) else none
    | .newarray t => am_i1 st fun x r0 => (am_nk t).bind fun t0 => if (decide (¬ x < 0) && (decide (x.toNatClampNeg ≤ 65536) && (decide (h.length < 1000) && (am_oldL h.length lv st && am_oldH h.length h)))) = true then some ((pc + 2, lv, .ref h.length :: r0, h ++ [.inl (t0, am_zero t0 x.toNatClampNeg)]), 1, x.toNatClampNeg) else none
    | _ => match (match i with
        | .invokespecial k => oi k
        | _ => false) with
      | true => am_r1 st fun _ r => if decide ((r.map fun v => v.category).sum ≤ 8) = true then some ((pc + 3, lv, r, h), 0, 0) else none
      | false => match cal i with
        | some q => (am_pop (am_vir q.1) q.2.2.1 st).bind fun w => if (decide ((w.2.map fun v => v.category).sum ≤ 8) && ((q.1 != 0) || am_rcv w.1 h q.2.2.2)) = true then (run q.2.1 w.1 h).bind fun r => match r.1 with
            | .inr _ => none
            | .inl v => if (decide (h.length ≤ r.2.1.length) && (r.2.2.1 == 0 || am_oldL h.length lv w.2)) = true then some ((pc + 3, lv, v.toList ++ w.2, r.2.1), r.2.2.1, r.2.2.2) else none
            else none
        | none => (stp i pc lv st h).bind fun q => some (q, 0, 0)
def am_seg (fetch : Nat → Option Instr) (stp : Instr → Nat → am_L → List Value → List va_E → Option am_F) (cal : Instr → Option (Nat × Nat × Nat × Nat)) (oi : Nat → Bool) (nw : Nat → Option (Nat × List Value)) (run : Nat → List Value → List va_E → Option am_R) : Nat → Nat → am_L → List Value → List va_E → Option (am_F × Nat × Nat)
  | 0, pc, lv, st, h => some ((pc, lv, st, h), 0, 0)
  | kk + 1, pc, lv, st, h => (am_one fetch stp cal oi nw run pc lv st h).bind fun r => (am_seg fetch stp cal oi nw run kk r.1.1 r.1.2.1 r.1.2.2.1 r.1.2.2.2).bind fun r2 => some (r2.1, r.2.1 + r2.2.1, r.2.2 + r2.2.2)
section AM13
variable {p : Program} {l : Launch} {e : Env} {R : Room} {s : State} {m : MethodId} {args : Array Value} {below : List Frame} {meth : Method} {c : Code} {Q : State → Prop}
variable {cc : ByteArray} {D : va_G} {cl : List vw_C} {A : Nat → Prop} {tys : List (ClassId × FieldType)} {ct ak : Nat → Nat} {Ts : List Jvm.Cond} {own : String} {nL : Nat} {K0 : (Nat → Prop) → State → Prop} {X : Nat → Nat → State → Prop}
variable {cal : Instr → Option (Nat × Nat × Nat × Nat)} {nm : Nat → MethodName} {bt : Nat → ByteArray} {mL : Nat → Nat} {rt : Nat → Option FieldType} {wsM : Nat → List Jvm.Cond}
variable {fl : Nat → Option (Nat × Nat × FieldType × Bool)} {kc : Nat → Option Value} {kl : Nat → Option Int64} {gs : Nat → Option Value} {ro : Nat → Option (Nat × (Nat → Int32))} {ini : Bool}
variable {fetch : Nat → Option Instr} {oi : Nat → Bool} {nw : Nat → Option (Nat × List Value)} {run : Nat → List Value → List va_E → Option am_R} {ret : Option FieldType} {d : Nat}
set_option maxHeartbeats 4000000 in
set_option maxRecDepth 20000 in
/-- one instruction, and on -/
theorem am_one_W (hm : am_M p l s m args meth c R cc D cl A tys ct ak Ts own nL K0 cal nm bt mL rt wsM fl kc kl gs ro ini fetch oi nw ret d)
    (hrun : ∀ y as h v h' nc ns, run y as h = some (.inl v, h', nc, ns) → ∀ (ad : Nat → Nat) (sz : Nat), Met l (nm y) (wsM y) (am_rm d nc ns) (am_Pre D cl ct tys ak K0 ad h sz as) (am_Post D cl ct tys X ad h.length (va_A (am_ws ad ct h) sz) (.inl v) h' nc) nc ns (va_A (am_ws ad ct h) sz))
    {pc pc' : Nat} {lv lv' : am_L} {st st' : List Value} {h h' : List va_E} {nc ns : Nat} (hex : am_one fetch (am_step fl kc kl gs ro ini nL) cal oi nw run pc lv st h = some ((pc', lv', st', h'), nc, ns))
    {ad : Nat → Nat} {H : Heap} {locs : List Loc} {cells slots : Nat} {ls : Array Slot} (hcn : cells + nc ≤ R.cells) (hsn : slots + ns ≤ R.slots) (hP : va_P D cl (am_ws ad ct h) H) (hD : va_D A (am_ws ad ct h)) (hS : va_S A s.heap H locs) (hl : lv_has ls nL (am_lv ad lv)) (hak : ∀ i, 1000 ≤ i → ad i = ak i)
    (kk : ∀ (ad' : Nat → Nat) (H1 : Heap) (locs1 : List Loc) (ls1 : Array Slot), (∀ i, (i < h.length ∨ 1000 ≤ i) → ad' i = ad i) → (nc = 0 → ad' = ad) → h.length ≤ h'.length → va_P D cl (am_ws ad' ct h') H1 → va_D A (am_ws ad' ct h') → va_S A s.heap H1 locs1 → lv_has ls1 nL (am_lv ad' lv') → (∀ i, 1000 ≤ i → ad' i = ak i) → W p l e R s m args below meth c H1 locs1 (cells + nc) (slots + ns) Q (F0 m pc' ls1 (st'.map (am_tv ad')))) :
    W p l e R s m args below meth c H locs cells slots Q (F0 m pc ls (st.map (am_tv ad))) := by
  obtain ⟨hx, hb, hml, hts, hown, hlocks, hret, hK, h0, hK0, hA, hFL, hKGR, hKL, hTY, hin, hCT, hOI, hNW, hAR, hfe, hRf, hRl⟩ := hm
  obtain ⟨hKC, hGS, hRO⟩ := hKGR ad hak
  unfold am_one at hex
  split at hex
  · cases hex
  · next i hi =>
    have hdec := hfe pc i hi
    split at hex
    · -- new
      next k =>
      obtain ⟨q, hq, h2⟩ := Option.bind_eq_some_iff.mp hex
      obtain ⟨h3, h4⟩ := am_if h2
      cases h4
      simp only [Bool.and_eq_true, decide_eq_true_eq] at h3
      obtain ⟨n, hd, hn⟩ := hdec
      cases hn (by simp [am_len])
      obtain ⟨C, T, ty, g1, g2, g3, g4, g5, g6, g7, g8⟩ := hNW k q hq
      refine am_new (nL := nL) hx hb hts g2 ty g3 hown g4 g5 g6 hK hP hD hS hA g1 g7 g8 (by omega) (by omega) hd hl h3.1 h3.2.1 h3.2.2 (fun ad' H1 ha hP1 hD1 hS1 hl1 => ?_)
      exact kk ad' H1 locs ls ha (fun z => absurd z (by decide)) (by simp) hP1 hD1 hS1 hl1 (fun i hi => (ha i (Or.inr hi)).trans (hak i hi))
    · -- newarray
      next t =>
      obtain ⟨x, r0, rfl, h1⟩ := am_i1_eq hex
      obtain ⟨t0, ht0, h2⟩ := Option.bind_eq_some_iff.mp h1
      obtain ⟨h3, h4⟩ := am_if h2
      cases h4
      simp only [Bool.and_eq_true, decide_eq_true_eq] at h3
      obtain ⟨n, hd, hn⟩ := hdec
      cases hn (by simp [am_len])
      have hol : am_oldL h.length lv r0 = true := by
        have := h3.2.2.2.1
        unfold am_oldL at this ⊢
        rw [Bool.and_eq_true] at this ⊢
        exact ⟨this.1, (by have := this.2; rw [List.all_cons, Bool.and_eq_true] at this; exact this.2)⟩
      refine am_newa (nL := nL) hx hb hts ht0 (hAR t t0 ht0) hTY hK hP hD hS hA h3.1 h3.2.1 (by omega) (by omega) hd hl h3.2.2.1 hol h3.2.2.2.2 (fun ad' H1 ha hP1 hD1 hS1 hl1 => ?_)
      exact kk ad' H1 locs ls ha (fun z => absurd z (by decide)) (by simp) hP1 hD1 hS1 hl1 (fun i hi => (ha i (Or.inr hi)).trans (hak i hi))
    · -- the rest
      split at hex
      · -- Object.<init>
        next hoi =>
        split at hoi
        · next k =>
          obtain ⟨a, r, rfl, h1⟩ := am_r1_eq hex
          obtain ⟨h2, h3⟩ := am_if h1
          cases h3
          obtain ⟨n, hd, hn⟩ := hdec
          cases hn (by simp [am_len])
          obtain ⟨o1, o2, o3⟩ := hOI _ hoi
          refine W.objInit hx hb hown (hts _ o1) (hts _ o2) (hts _ o3) (g := F0 m pc ls ((Value.ref a :: st').map (am_tv ad))) rfl (hl.1.trans hml.symm) rfl hd (by omega) ?_ (kk ad H locs ls (fun _ _ => rfl) (fun _ => rfl) (Nat.le_refl _) hP hD hS hl hak)
          have h8 := of_decide_eq_true h2
          have := lv_room (m := m) (pc := pc) (ls := ls) (rest := (Value.ref a :: st').map (am_tv ad)) (st := st'.map (am_tv ad)) (by rw [am_cats]; exact h8)
          omega
        · cases hoi
      · split at hex
        · -- a call
          next q hq =>
          obtain ⟨w, hw, h1⟩ := Option.bind_eq_some_iff.mp hex
          obtain ⟨h2, h3⟩ := am_if h1
          obtain ⟨r, hr, h4⟩ := Option.bind_eq_some_iff.mp h3
          obtain ⟨r1, r2, r3, r4⟩ := r
          simp only at h4
          split at h4
          · cases h4
          · next v1 =>
            obtain ⟨h5, h6⟩ := am_if h4
            cases h6
            simp only [Bool.and_eq_true, decide_eq_true_eq] at h2 h5
            have hd3 : decode cc pc = .ok (i, 3) := by
              obtain ⟨n, hd, hn⟩ := hdec
              have : am_len i = 3 := by
                rcases (hCT i q hq).2.2.2 with ⟨-, _, _, _, _, rfl, -⟩ | ⟨-, _, rfl, -⟩ | ⟨-, _, rfl, -⟩ | ⟨-, _, _, rfl, -⟩ <;> rfl
              rw [hd, hn (by rw [this]; decide), this]
            refine am_callR (nL := nL) (X := X) hx hb hml hts hown hK h0 hCT hq hw h2.1 (fun k0 => ?_) (hrun _ _ _ _ _ _ _ hr ad H.size) ⟨hRf, hRl⟩ (by omega) (by omega) hd3 hl.1 hP hD hS hA hak hK0 (fun ad' H1 locs1 ha hz hP1 hD1 hS1 => ?_)
            · have := h2.2
              rw [k0] at this
              simpa using this
            · have hlv : am_lv ad' lv = am_lv ad lv ∧ w.2.map (am_tv ad') = w.2.map (am_tv ad) := by
                have h52 := h5.2
                rw [Bool.or_eq_true] at h52
                rcases h52 with z | z
                · have z : nc = 0 := by simpa using z
                  rw [hz z]
                  exact ⟨rfl, rfl⟩
                · unfold am_oldL at z
                  rw [Bool.and_eq_true] at z
                  exact ⟨am_lv_old ha z.1, am_st_old ha z.2⟩
              have k1 := kk ad' H1 locs1 ls ha hz h5.1 hP1 hD1 hS1 (by rw [hlv.1]; exact hl) (fun i hi => (ha i (Or.inr hi)).trans (hak i hi))
              rw [List.map_append, hlv.2] at k1
              exact k1
        · -- a step
          obtain ⟨q, hq, h1⟩ := Option.bind_eq_some_iff.mp hex
          obtain ⟨q1, q2, q3, q4⟩ := q
          cases h1
          refine am_step_ok hx hb hts hown hK hFL hKC hKL hGS hRO hTY hin hq hdec hP hD hS hl (fun H1 locs1 ls1 hP1 hD1 hS1 hl1 => ?_)
          exact kk ad H1 locs1 ls1 (fun _ _ => rfl) (fun _ => rfl) (by rw [am_step_len hq]; exact Nat.le_refl _) hP1 hD1 hS1 hl1 hak
/-- a road, and on -/
theorem am_seg_W (hm : am_M p l s m args meth c R cc D cl A tys ct ak Ts own nL K0 cal nm bt mL rt wsM fl kc kl gs ro ini fetch oi nw ret d)
    (hrun : ∀ y as h v h' nc ns, run y as h = some (.inl v, h', nc, ns) → ∀ (ad : Nat → Nat) (sz : Nat), Met l (nm y) (wsM y) (am_rm d nc ns) (am_Pre D cl ct tys ak K0 ad h sz as) (am_Post D cl ct tys X ad h.length (va_A (am_ws ad ct h) sz) (.inl v) h' nc) nc ns (va_A (am_ws ad ct h) sz))
    {pc' : Nat} {lv' : am_L} {st' : List Value} {h' : List va_E} : ∀ (n pc : Nat) (lv : am_L) (st : List Value) (h : List va_E) (nc ns : Nat), am_seg fetch (am_step fl kc kl gs ro ini nL) cal oi nw run n pc lv st h = some ((pc', lv', st', h'), nc, ns) →
    ∀ (ad : Nat → Nat) (H : Heap) (locs : List Loc) (cells slots : Nat) (ls : Array Slot), cells + nc ≤ R.cells → slots + ns ≤ R.slots → va_P D cl (am_ws ad ct h) H → va_D A (am_ws ad ct h) → va_S A s.heap H locs → lv_has ls nL (am_lv ad lv) → (∀ i, 1000 ≤ i → ad i = ak i) →
    (∀ (ad' : Nat → Nat) (H1 : Heap) (locs1 : List Loc) (ls1 : Array Slot), (∀ i, (i < h.length ∨ 1000 ≤ i) → ad' i = ad i) → (nc = 0 → ad' = ad) → h.length ≤ h'.length → va_P D cl (am_ws ad' ct h') H1 → va_D A (am_ws ad' ct h') → va_S A s.heap H1 locs1 → lv_has ls1 nL (am_lv ad' lv') → (∀ i, 1000 ≤ i → ad' i = ak i) → W p l e R s m args below meth c H1 locs1 (cells + nc) (slots + ns) Q (F0 m pc' ls1 (st'.map (am_tv ad')))) →
    W p l e R s m args below meth c H locs cells slots Q (F0 m pc ls (st.map (am_tv ad))) := by
  intro n
  induction n with
  | zero =>
    intro pc lv st h nc ns hex ad H locs cells slots ls hcn hsn hP hD hS hl hak kk
    cases hex
    exact kk ad H locs ls (fun _ _ => rfl) (fun _ => rfl) (Nat.le_refl _) hP hD hS hl hak
  | succ n ih =>
    intro pc lv st h nc ns hex ad H locs cells slots ls hcn hsn hP hD hS hl hak kk
    obtain ⟨r, hr, h1⟩ := Option.bind_eq_some_iff.mp hex
    obtain ⟨r2, hr2, h2⟩ := Option.bind_eq_some_iff.mp h1
    obtain ⟨⟨q1, q2, q3, q4⟩, n1, m1⟩ := r
    obtain ⟨q5, n2, m2⟩ := r2
    cases h2
    dsimp only at hcn hsn hr2 kk
    refine am_one_W hm hrun hr (by omega) (by omega) hP hD hS hl hak (fun ad' H1 locs1 ls1 ha hz hle hP1 hD1 hS1 hl1 hak1 => ?_)
    refine ih q1 q2 q3 q4 n2 m2 hr2 ad' H1 locs1 (cells + n1) (slots + m1) ls1 (by omega) (by omega) hP1 hD1 hS1 hl1 hak1 (fun ad2 H2 locs2 ls2 ha2 hz2 hle2 hP2 hD2 hS2 hl2 hak2 => ?_)
    have k := kk ad2 H2 locs2 ls2 (fun i hi => (ha2 i (hi.imp (fun z => Nat.lt_of_lt_of_le z hle) id)).trans (ha i hi)) (fun z => by
      rw [hz2 (by omega), hz (by omega)]) (Nat.le_trans hle hle2) hP2 hD2 hS2 hl2 hak2
    rw [← Nat.add_assoc, ← Nat.add_assoc] at k
    exact k
end AM13
end
section
/-! ===== a static method with an exception table, called ===== -/
section AM14
variable {p : Program} {l : Launch} {e : Env} {R : Room} {s : State} {m : MethodId} {args : Array Value} {below : List Frame} {meth : Method} {c : Code} {H : Heap} {locs : List Loc} {cells slots : Nat} {Q : State → Prop}
theorem am_runSW {y : MethodName} {bytes cc : ByteArray} {maxL nL mc ms n index : Nat} {ret : Option FieldType} {hh : List (Nat × Nat × Nat × Nat)} {ws ws' : List Jvm.Cond} {rm : Room} {Pc : Array Value → State → Prop} {Qc : Array Value → State → Outcome → State → Prop} {free : Addr → Prop} {Ts : List Jvm.Cond} {own : String} {As rest : List Value} {g : JFrame}
    (S : CallFix p m c cc nL s args Ts own) (hM : Met l y ws rm Pc Qc mc ms free) (hG : GoodIn Ts (va_wsS own index y ws)) (hw : ws = Jvm.Cond.codeWith y bytes maxL ret hh :: ws') (hrc : rm.cells = mc) (hrs : rm.slots = ms)
    (hd : y.cls ≠ "java/lang/invoke/MethodHandle" ∧ y.cls ≠ "java/lang/invoke/VarHandle" ∧ (parseMethodDescriptor y.desc).map (fun d => d.parameters.length) = some n) (hR : rm.frames + 1 ≤ R.frames ∧ 8 + (maxL + 11) + rm.locals ≤ R.locals) (hp : PreS s H Pc As)
    (hg : g.method = m) (hn : As.length = n) (hsize : g.locals.size = nL) (hstack : g.stack = As.reverse ++ rest) (hW : 2 * g.monitorRoom + (rest.map fun v => v.category).sum ≤ 8) (hdg : decode cc g.pc = .ok (.invokestatic index, 3)) (hf : cells + mc ≤ R.cells ∧ slots + ms ≤ R.slots) :
    va_Run p l e R s m args below meth c H locs cells slots mc ms g rest (Qc As.toArray) (free) := by
  obtain ⟨hx, hb, hml, ho, ht⟩ := S
  have ok : ∀ w ∈ va_wsS own index y ws, w.before args s = true := fun w h => ht w (hG w h).1
  have hG2 : GoodIn Ts ws := fun w h => hG w (by unfold va_wsS; exact List.mem_append_right _ h)
  have hcw : Jvm.Cond.codeWith y bytes maxL ret hh ∈ ws := by rw [hw]; exact List.mem_cons_self
  have hini : (Jvm.Cond.initialized y.cls).before args s = true := ok _ (by simp [va_wsS])
  have hstt : (Jvm.Cond.static y).before args s = true := ok _ (by simp [va_wsS])
  have hl : (Jvm.Cond.methodLink own index y).before args s = true := ok _ (by simp [va_wsS])
  have hK : Back l R p e below s args y 3 8 (PreOf R mc ms Pc) (PostOf Qc mc ms free) := va_backW (hh := hh) (bytes := bytes) (maxL := maxL) (ret := ret) hM hp.1 hrc hrs hR.1 hR.2 (pay_in ht hG2) hcw (fun a' U hW => word_at hW (Or.inl (by first | rfl | simp [Cond.onTables, Cond.keeps, Cond.steady])) hini)
  obtain ⟨mk, methM, cM, hnamed, hmethM, -, -, -, -, -, -, hsigM⟩ := Cond.codeWith_spec (show (Jvm.Cond.codeWith y bytes maxL ret hh).before args s = true from ok _ (by unfold va_wsS; exact List.mem_append_right _ hcw))
  have hstatic : methM.isStatic = true := Cond.static_spec hnamed hmethM hstt
  obtain ⟨kP, hkP, -⟩ := className_of_methodNamed hnamed
  have hinitP : kP.init = .initialized := Cond.initialized_spec (findClass_of_methodNamed hnamed) hkP hini
  have hlen : As.length = methM.sig.parameters.length := by
    have h2 := hd.2.2
    rw [hsigM] at h2
    exact hn.trans (Option.some.inj h2).symm
  intro T hT X
  obtain ⟨vm₁, X₁, hstep₁⟩ := X.invokestatic hx ho hl hnamed hmethM hstatic hkP hinitP ⟨hd.1, hd.2.1⟩ (g := g) hg (argsL := As) (rest := rest) hlen hstack (by rw [hb]; exact hdg)
  obtain ⟨v, ⟨U', l2, c2, s2⟩, X', ⟨g', mk', t, L, e1, e2, hq, h1, hL, h2, h3⟩, st⟩ := hK m meth c ⟨T.setVm vm₁, locs, cells, slots⟩ { g with stack := rest } (.invokestatic index) mk As.toArray X₁ hg (hsize.trans hml.symm) (by rw [hb]; exact hdg) hW (X₁.named hnamed) ⟨hf.1, hf.2, hp.2 (T.setVm vm₁) hT X₁.warmed⟩
  dsimp only [Pt.U, Pt.locs, Pt.cells, Pt.slots] at X' e1 e2 h1 h2 h3 st
  subst h1; subst h2; subst h3
  exact ⟨v, (T.setVm vm₁).calling g' mk' As.toArray, t, U', L, hT, X', hL, e1, e2, hq, fun target h => hstep₁ _ fun acts => by rw [doInvoke_state]; exact st.trans h⟩
variable {cc : ByteArray} {D : va_G} {cl : List vw_C} {A : Nat → Prop} {tys : List (ClassId × FieldType)} {ad ct ak : Nat → Nat} {Ts : List Jvm.Cond} {own : String} {nL : Nat} {K0 : (Nat → Prop) → State → Prop} {X : Nat → Nat → State → Prop}
/-- such a call that comes back, in the machine's words -/
theorem am_callW (hx : p.tables.exec = Jvm.exec) (hb : c.code = cc) (hml : c.maxLocals = nL) (hts : ∀ w ∈ Ts, w.before args s = true) (hown : s.vm.findClass own = some m.cls) (hK : va_K D cl tys s) (h0 : am_K0 K0)
    {y : MethodName} {bytes : ByteArray} {maxL index n : Nat} {ret : Option FieldType} {hh : List (Nat × Nat × Nat × Nat)} {ws ws' : List Jvm.Cond} (hws : ws = Jvm.Cond.codeWith y bytes maxL ret hh :: ws') (hG : GoodIn Ts (va_wsS own index y ws)) (hd3 : y.cls ≠ "java/lang/invoke/MethodHandle" ∧ y.cls ≠ "java/lang/invoke/VarHandle" ∧ (parseMethodDescriptor y.desc).map (fun d => d.parameters.length) = some n) (hm20 : maxL ≤ 20)
    {d nc ns : Nat} {h h' : List va_E} {st : List Value} {w : List Value × List Value} {v : Option Value} (hw : am_pop false n st = some w) (h8 : (w.2.map fun v => v.category).sum ≤ 8)
    (hM : Met l y ws (am_rm d nc ns) (am_Pre D cl ct tys ak K0 ad h H.size w.1) (am_Post D cl ct tys X ad h.length (va_A (am_ws ad ct h) H.size) (.inl v) h' nc) nc ns (va_A (am_ws ad ct h) H.size))
    (hR : d + 9 ≤ R.frames ∧ (d + 1) * 40 + 400 ≤ R.locals) (hc : cells + nc ≤ R.cells) (hs : slots + ns ≤ R.slots) {pc : Nat} {ls : Array Slot} (hd : decode cc pc = .ok (.invokestatic index, 3)) (hls : ls.size = nL)
    (hP : va_P D cl (am_ws ad ct h) H) (hD : va_D A (am_ws ad ct h)) (hS : va_S A s.heap H locs) (hA : ∀ q, s.heap.size ≤ q → A q) (hak : ∀ i, 1000 ≤ i → ad i = ak i) (hK0 : K0 A s)
    (kk : ∀ (ad' : Nat → Nat) (H1 : Heap) (locs1 : List Loc), (∀ i, (i < h.length ∨ 1000 ≤ i) → ad' i = ad i) → (nc = 0 → ad' = ad) → va_P D cl (am_ws ad' ct h') H1 → va_D A (am_ws ad' ct h') → va_S A s.heap H1 locs1 → W p l e R s m args below meth c H1 locs1 (cells + nc) (slots + ns) Q (F0 m (pc + 3) ls ((v.toList.map (am_tv ad')) ++ w.2.map (am_tv ad)))) :
    W p l e R s m args below meth c H locs cells slots Q (F0 m pc ls (st.map (am_tv ad))) := by
  obtain ⟨-, hp2⟩ := am_pop_eq hw
  have hR2 : (am_rm d nc ns).frames + 1 ≤ R.frames ∧ 8 + (maxL + 11) + (am_rm d nc ns).locals ≤ R.locals := by
    refine ⟨by show d + 8 + 1 ≤ _; omega, ?_⟩
    show 8 + (maxL + 11) + (d * 40 + 400) ≤ _
    omega
  obtain ⟨el, est⟩ := hp2 rfl
  refine am_use (X := X) (rest := w.2.map (am_tv ad)) (am_runSW (As := w.1.map (am_tv ad)) ⟨hx, hb, hml, hown, hts⟩ hM hG hws rfl rfl hd3 hR2 ⟨am_blind h0, am_ahead h0 hK hP hD hS hA hak hK0 rfl⟩ rfl (by rw [List.length_map]; exact el) hls ?_ (lv_room (by rw [am_cats]; exact h8)) hd ⟨hc, hs⟩) hD hS hA kk
  show st.map (am_tv ad) = _
  rw [est, List.map_append, List.map_reverse]
end AM14
end
section
/-! ===== a call whose method throws, caught by the caller ===== -/
section AM15
variable {p : Program} {l : Launch} {e : Env} {R : Room} {s : State} {m : MethodId} {args : Array Value} {below : List Frame} {meth : Method} {c : Code} {H : Heap} {locs : List Loc} {cells slots : Nat} {Q : State → Prop}
variable {cc : ByteArray} {D : va_G} {cl : List vw_C} {A : Nat → Prop} {tys : List (ClassId × FieldType)} {ad ct ak : Nat → Nat} {Ts : List Jvm.Cond} {own : String} {nL : Nat} {K0 : (Nat → Prop) → State → Prop}
variable {cal : Instr → Option (Nat × Nat × Nat × Nat)} {nm : Nat → MethodName} {bt : Nat → ByteArray} {mL : Nat → Nat} {rt : Nat → Option FieldType} {wsM : Nat → List Jvm.Cond}
set_option maxHeartbeats 1000000 in
theorem am_callC (xn : Nat → String) (hx : p.tables.exec = Jvm.exec) (hb : c.code = cc) (hml : c.maxLocals = nL) (hts : ∀ w ∈ Ts, w.before args s = true) (hown : s.vm.findClass own = some m.cls) (hK : va_K D cl tys s) (h0 : am_K0 K0) (hCT : am_CT cal own cl Ts s nm bt mL rt wsM)
    {i : Instr} {q : Nat × Nat × Nat × Nat} (hq : cal i = some q) (hq2 : q.1 = 0) {d nc ns ex : Nat} {h h' : List va_E} {st : List Value} {w : List Value × List Value} (hw : am_pop (am_vir q.1) q.2.2.1 st = some w) (h8 : (w.2.map fun v => v.category).sum ≤ 8)
    (hrc : am_rcv w.1 h q.2.2.2 = true)
    (hM : am_MT l (nm q.2.1) (wsM q.2.1) (am_rm d nc ns) (am_Pre D cl ct tys ak K0 ad h H.size w.1) (am_Post D cl ct tys (am_X xn) ad h.length (va_A (am_ws ad ct h) H.size) (.inr ex) h' nc) nc ns (va_A (am_ws ad ct h) H.size))
    (hR : d + 9 ≤ R.frames ∧ (d + 1) * 40 + 400 ≤ R.locals) (hc : cells + nc ≤ R.cells) (hs : slots + ns ≤ R.slots) {pc : Nat} {ls : Array Slot} (hd : decode cc pc = .ok (i, 3)) (hls : ls.size = nL)
    (hP : va_P D cl (am_ws ad ct h) H) (hD : va_D A (am_ws ad ct h)) (hS : va_S A s.heap H locs) (hA : ∀ q, s.heap.size ≤ q → A q) (hak : ∀ i, 1000 ≤ i → ad i = ak i) (hK0 : K0 A s)
    {z : ExceptionTableEntry} (hsplit : c.exceptionTable.toList = [z]) (hz1 : covers z pc = true) (hz2 : z.catchType ≠ 0) (hlink : (Jvm.Cond.classLink own z.catchType (xn ex)).before args s = true) (hcast : (Jvm.Cond.castable (xn ex) (xn ex)).before args s = true)
    (kk : ∀ (ad' : Nat → Nat) (H1 : Heap) (locs1 : List Loc) (a : Nat), (∀ i, (i < h.length ∨ 1000 ≤ i) → ad' i = ad i) → (nc = 0 → ad' = ad) → va_P D cl (am_ws ad' ct h') H1 → va_D A (am_ws ad' ct h') → va_S A s.heap H1 locs1 → W p l e R s m args below meth c H1 locs1 (cells + nc) (slots + ns) Q (F0 m z.handlerPc ls [.ref a])) :
    W p l e R s m args below meth c H locs cells slots Q (F0 m pc ls (st.map (am_tv ad))) := by
  obtain ⟨⟨ws', hws⟩, hm20, hd3, hkind⟩ := hCT i q hq
  obtain ⟨hp1, hp2⟩ := am_pop_eq hw
  have hR2 : (am_rm d nc ns).frames + 1 ≤ R.frames ∧ 8 + (mL q.2.1 + 11) + (am_rm d nc ns).locals ≤ R.locals := by
    refine ⟨by show d + 8 + 1 ≤ _; omega, ?_⟩
    show 8 + (mL q.2.1 + 11) + (d * 40 + 400) ≤ _
    omega
  have hroom : ∀ (pc : Nat) (ls : Array Slot) (rest : List Value), 2 * (F0 m pc ls rest).monitorRoom + ((w.2.map (am_tv ad)).map fun v => v.category).sum ≤ 8 := fun pc ls rest => lv_room (by rw [am_cats]; exact h8)
  have hf := am_free hD hS hA
  intro T hT X1
  rcases hkind with ⟨k0, index, C, T1, N, rfl, hcl, hC, hG⟩ | ⟨k1, -⟩ | ⟨k2, -⟩ | ⟨k3, -⟩
  · obtain ⟨a, as, ew, el, est⟩ := hp1 (by rw [k0]; rfl)
    rw [ew] at hrc
    unfold am_rcv at hrc
    simp only at hrc
    split at hrc
    · next o ho =>
      have ho2 : o.1 = q.2.2.2 := by simpa using hrc
      have hav : (Value.ref (ad a) :: as.map (am_tv ad)).toArray = (w.1.map (am_tv ad)).toArray := by rw [ew]; rfl
      have hat := am_ws_at (ad := ad) (ct := ct) ho
      have e1 : am_te ad ct (.inr o) = .inr (q.2.2.2, o.2.map (am_tv ad)) := by rw [← ho2]; rfl
      rw [e1] at hat
      obtain ⟨cellB, hcell, hobj, hcls⟩ := va_recv hK hP hcl hat
      obtain ⟨⟨c1, c2, c3, c4, c5, c6, c7, c8, hy, hlen, hlk⟩, hinst, hsel⟩ := cwV (R := R) (rm := am_rm d nc ns) (mc := nc) (ms := ns) q.2.2.1 hts hG hws rfl rfl ⟨hC, hd3⟩ hR2
      obtain ⟨mk, methM, hnamed, hmethM, hstM, habM⟩ := Cond.instanceMethod_spec hinst
      obtain ⟨methM', cM, hmethM', -, -, -, -, -, -, hsigM⟩ := Cond.code_spec hnamed c7
      cases hmethM.symm.trans hmethM'
      obtain ⟨z1, z2, z3, q1, q2, q3, q4, kP, hkP, hkPi⟩ := Cond.selects_spec hsel
      cases hcls.symm.trans q1
      cases (State.methodFound?_of_named hnamed hy).symm.trans q2
      cases hnamed.symm.trans q3
      have hselP : selectMethod e.platform s.vm cellB.cls mk = .method mk := by rw [Launch.admits_selectMethod X1.admits]; exact q4
      obtain ⟨vm₁, X₁, hstep₁⟩ := X1.invokevirtual hx hown hlk hnamed hmethM hstM hkP hkPi hy (a := ad a) (cell := cellB) (by rw [hT]; exact hcell)
        (fun z h => by rw [h] at hobj; cases hobj) hselP hmethM habM hkP hkPi (g := F0 m pc ls (st.map (am_tv ad))) rfl (argsL := as.map (am_tv ad)) (rest := w.2.map (am_tv ad)) (by rw [List.length_map, el]; exact hlen _ hsigM) (by show st.map (am_tv ad) = _; rw [est, List.map_append, List.map_reverse]; rfl) (by rw [hb]; exact hd)
      obtain ⟨x, st₀, t, T', L, r1, X', r2, r3, r4, r5, r6⟩ := am_backT hM (am_blind h0) c1 c2 c3 c4 c5 c6 (fun a' U hW => word_at hW (Or.inl (by first | rfl | simp [Cond.onTables, Cond.keeps, Cond.steady])) c8) X₁ (g := { F0 m pc ls (st.map (am_tv ad)) with stack := w.2.map (am_tv ad) }) (mk := mk) (a := (Value.ref (ad a) :: as.map (am_tv ad)).toArray) rfl (hls.trans hml.symm) (by rw [hb]; exact hd) (hroom _ _ _) (X₁.named hnamed) hc hs (am_ahead h0 hK hP hD hS hA hak hK0 hav _ hT X₁.warmed)
      obtain ⟨ad', a1, a2, ⟨x1, ex1, cellX, x2, x3, x4⟩, a4, a5, a6, hz, hk⟩ := r5
      cases ex1
      rw [r1.trans hT] at hz hk
      have hS1 : va_S A s.heap T'.heap (locs ++ L) := ⟨Nat.le_trans hS.1 (by rw [r3]; exact hz), fun q h1 h2 => by rw [r3, hk q (Nat.lt_of_lt_of_le h1 hS.1) (fun z => h2 (hf q z))]; exact hS.2.1 q h1 h2, fun q hq => by
          rcases List.mem_append.mp hq with h | h
          · exact hS.2.2 q h
          · exact hf _ (r2 q h)⟩
      obtain ⟨cE, cT, hcE, hcT, hasg⟩ := Cond.castable_spec hcast
      have hfx : s.vm.findClass (xn ex) = some cellX.cls := by
        rw [← X'.warmed.alike.findClass, r4]
        exact x4
      cases hcE.symm.trans hfx
      obtain ⟨vm', XV, stV⟩ := X'.caughtLink x (g := { F0 m pc ls (st.map (am_tv ad)) with stack := w.2.map (am_tv ad) }) rfl hown [] z [] hsplit (fun y hy => by cases hy) hz1 hz2 hlink hcT (by rw [r3]; exact x2) x3 hasg
      obtain ⟨t2, b1, b2⟩ := kk ad' T'.heap (locs ++ L) x a1 a2 (by rw [r3]; exact a4) (a6.weaken (fun k q _ z => hf q.1 z)) hS1 (T'.setVm vm') rfl XV
      refine ⟨t2, hstep₁ _ fun acts => ?_, b2⟩
      rw [doInvoke_state]
      refine r6.trans ?_
      rw [X'.pushThrowing_eq]
      exact stV _ b1
    · cases hrc
  · omega
  · omega
  · omega
end AM15
end
section
/-! ===== the law's two methods that catch ===== -/
theorem am_cn12 : am_cn 12 = "ScriptFrontLaw" := by decide +kernel
section AM16
variable {p : Program} {l : Launch} {e : Env} {R : Room} {s : State} {m : MethodId} {args : Array Value} {below : List Frame} {meth : Method} {c : Code}
/-- what a frame of the law's class stands on -/
theorem am_ML {cc : ByteArray} {D : va_G} {A : Nat → Prop} {tys : List (ClassId × FieldType)} {ct ak : Nat → Nat} {Ts : List Jvm.Cond} {nL d : Nat} {ro : Nat → Option (Nat × (Nat → Int32))} {fetch : Nat → Option Instr} {ret : Option FieldType}
    (hT : ∀ w ∈ am_Ts, w ∈ Ts) (hTY : am_TY tys ct) (hx : p.tables.exec = Jvm.exec) (hb : c.code = cc) (hml : c.maxLocals = nL) (hts : ∀ w ∈ Ts, w.before args s = true) (hown : s.vm.findClass "ScriptFrontLaw" = some m.cls) (hlocks : meth.locks = false) (hret : meth.sig.returnType = ret) (hK : va_K D am_cl tys s) (hK0 : am_KX ak A s) (hA : ∀ q, s.heap.size ≤ q → A q) (hRO : ∀ ad : Nat → Nat, (∀ i, 1000 ≤ i → ad i = ak i) → am_RO ro ad A s)
    (hfe : ∀ pc i, fetch pc = some i → ∃ n, decode cc pc = .ok (i, n) ∧ (am_len i ≠ 0 → n = am_len i)) (hRf : d + 9 ≤ R.frames) (hRl : (d + 1) * 40 + 400 ≤ R.locals) :
    am_M p l s m args meth c R cc D am_cl A tys ct ak Ts "ScriptFrontLaw" nL (am_KX ak) (am_cal 12) am_nm am_bt am_mL am_rt am_wM (am_fl 12) (am_kc 12) (am_kl 12) (fun _ => none) ro false fetch (am_oi 12) (am_nw 12) ret d := by
  rw [← am_cn12] at hown ⊢
  exact ⟨hx, hb, hml, hts, hown, hlocks, hret, hK, am_KX_ok ak, hK0, hA, am_FLok 12 hT, fun ad ha => ⟨am_KCok 12 hT hK0.1.1 ha, fun _ _ z => (by cases z), hRO ad ha⟩, am_KLok 12 hT, hTY, fun z => (by cases z), am_CTok am_hM am_hC 12 hT hK0.1.1.2, am_OIok 12 hT, am_NWok 12 hT, am_ARok hT, hfe, hRf, hRl⟩
end AM16
def am_lr (fL : List (Nat × Instr)) (nL fuel d : Nat) (as : List Value) (h : List va_E) : Option am_R := am_exec (fun pc => fL.lookup pc) (am_step (am_fl 12) (am_kc 12) (am_kl 12) (fun _ => none) (fun _ => none) false nL) (am_cal 12) (am_oi 12) (am_nw 12) (am_all am_thr fuel d) (fun _ => none) (some .int) 1 6 20 0 (lv_args 0 as) [] h
theorem am_tsw {yL : MethodName} {bL : ByteArray} {nL : Nat} {hh : List (Nat × Nat × Nat × Nat)} : ∀ w ∈ am_Ts, w ∈ (Jvm.Cond.codeWith yL bL nL (some FieldType.int) hh :: am_Ts) := fun _ h => List.mem_cons_of_mem _ h
/-- it comes back -/
theorem am_lr_R {l : Launch} {D : va_G} {tys : List (ClassId × FieldType)} {ct ak : Nat → Nat} (hTY : am_TY tys ct) {yL : MethodName} {bL : ByteArray} {nL : Nat} {hh : List (Nat × Nat × Nat × Nat)} {fL : List (Nat × Instr)} (hcls : yL.cls = "ScriptFrontLaw") (hck : am_chk bL fL = true)
    {fuel d : Nat} {as : List Value} {h h' : List va_E} {v : Option Value} {nc ns : Nat} (hw : (as.map fun v => v.category).sum ≤ nL) (hr : am_lr fL nL fuel d as h = some (.inl v, h', nc, ns)) (ad : Nat → Nat) (sz : Nat) :
    Met l yL (Jvm.Cond.codeWith yL bL nL (some FieldType.int) hh :: am_Ts) (am_rm (d + 1) nc ns) (am_Pre D am_cl ct tys ak (am_KX ak) ad h sz as) (am_Post D am_cl ct tys (am_X am_xn) ad h.length (va_A (am_ws ad ct h) sz) (.inl v) h' nc) nc ns (va_A (am_ws ad ct h) sz) := by
  refine va_MetW (cc := bL) (maxL := nL) (ret := some FieldType.int) (hh := hh) (by rw [hcls]; decide +kernel) rfl ?_
  intro p e s m args below meth c s₁ B hml hv
  obtain ⟨rfl, hsz, hP, hK, hD0, hak, hK0⟩ := hv
  have hts := atoms_spec (ws := Jvm.Cond.codeWith yL bL nL (some FieldType.int) hh :: am_Ts) B.pre
  subst hsz
  have hD := hD0.self (sz := s.heap.size)
  have hl := lv_entry (as.map (am_tv ad)) (n := nL) (by rw [am_sl_len, am_cats]; exact hw)
  rw [lg_entry_eq]
  generalize (lg_sl (as.map (am_tv ad)) ++ List.replicate (nL - (lg_sl (as.map (am_tv ad))).length) Slot.unset).toArray = ls at hl ⊢
  rw [← am_args_lv] at hl
  have hown := findClass_of_methodNamed B.named
  rw [hcls] at hown
  have hm := am_ML (l := l) (R := am_rm (d + 1) nc ns) (meth := meth) (d := d) (ro := fun _ => none) (fetch := fun pc => fL.lookup pc) (A := va_A (am_ws ad ct h) s.heap.size) am_tsw hTY B.exec B.bytes hml hts hown B.notSynchronized B.returns hK hK0 (fun q hq => Or.inr hq) (fun _ _ _ _ _ z => (by cases z)) (fun pc i hi => am_chk_ok hck hi) (by show d + 9 ≤ d + 1 + 8; omega) (Nat.le_refl _)
  exact am_exec_R (X := am_X am_xn) (thr := fun _ => none) (xc := 1) (xs := 6) (run := am_all am_thr fuel d) hm (fun y as h v h' nc ns hr ad sz => am_meetsB hTY hr ad sz) (ad0 := ad) (n0 := h.length) (NC := nc) (NS := ns) (Nat.le_refl _) (Nat.le_refl _) 20 0 (lv_args 0 as) [] h nc ns hr ad s.heap [] 0 0 ls (by omega) (by omega) hP hD va_S.rf hl hak (fun _ _ => rfl) (Nat.le_refl _) (fun _ => rfl)
def am_lseg (fL : List (Nat × Instr)) (nL fuel d n : Nat) (as : List Value) (h : List va_E) : Option (am_F × Nat × Nat) := am_seg (fun pc => fL.lookup pc) (am_step (am_fl 12) (am_kc 12) (am_kl 12) (fun _ => none) (fun _ => none) false nL) (am_cal 12) (am_oi 12) (am_nw 12) (am_all am_thr fuel d) n 0 (lv_args 0 as) [] h
set_option maxHeartbeats 1000000 in
/-- what it calls throws, and is caught -/
theorem am_lr_T {l : Launch} (hfl : ∀ e : Env, l.admits e → e.platform.stackTraces = false) {D : va_G} {tys : List (ClassId × FieldType)} {ct ak : Nat → Nat} (hTY : am_TY tys ct) {yL : MethodName} {bL : ByteArray} {nL : Nat} {z : Nat × Nat × Nat × Nat} {fL : List (Nat × Instr)} (hcls : yL.cls = "ScriptFrontLaw") (hck : am_chk bL fL = true)
    {fuel d : Nat} {as : List Value} {h h' : List va_E} {nc ns n pc : Nat} {lv : am_L} {st : List Value} {i : Instr} {q : Nat × Nat × Nat × Nat} {w : List Value × List Value} {ex : Nat} (hw : (as.map fun v => v.category).sum ≤ nL) (hsg : am_lseg fL nL fuel d n as h = some ((pc, lv, st, h), 0, 0)) (hi : fL.lookup pc = some i) (hil : am_len i = 3) (hq : am_cal 12 i = some q) (hq2 : q.1 = 0) (hpop : am_pop (am_vir q.1) q.2.2.1 st = some w) (h8 : (w.2.map fun v => v.category).sum ≤ 8) (hrc : am_rcv w.1 h q.2.2.2 = true)
    (hr : am_all am_thr fuel d q.2.1 w.1 h = some (.inr ex, h', nc, ns)) (hzc : z.1 ≤ pc ∧ pc < z.2.1) (hz2 : z.2.2.2 ≠ 0) (hlk : Jvm.Cond.classLink "ScriptFrontLaw" z.2.2.2 (am_xn ex) ∈ am_Ts) (hcs : Jvm.Cond.castable (am_xn ex) (am_xn ex) ∈ am_spc)
    {j hp2 : Nat} (hd1 : (∃ k : Fin 4, decode bL z.2.2.1 = .ok (.astore_n k, 1) ∧ (k : Nat) = j ∧ z.2.2.1 + 1 = hp2) ∨ (decode bL z.2.2.1 = .ok (.astore j, 2) ∧ z.2.2.1 + 2 = hp2)) (hj : j < nL) (hd2 : decode bL hp2 = .ok (.iconst 1, 1)) (hd3 : decode bL (hp2 + 1) = .ok (.ireturn, 1)) (ad : Nat → Nat) (sz : Nat) :
    Met l yL (Jvm.Cond.codeWith yL bL nL (some FieldType.int) [z] :: am_Ts) (am_rm (d + 1) nc ns) (am_Pre D am_cl ct tys ak (am_KX ak) ad h sz as) (am_Post D am_cl ct tys (am_X am_xn) ad h.length (va_A (am_ws ad ct h) sz) (.inl (some (.int 1))) h' nc) nc ns (va_A (am_ws ad ct h) sz) := by
  refine va_MetW (cc := bL) (maxL := nL) (ret := some FieldType.int) (hh := [z]) (by rw [hcls]; decide +kernel) rfl ?_
  intro p e s m args below meth c s₁ B hml hv
  obtain ⟨rfl, hsz, hP, hK, hD0, hak, hK0⟩ := hv
  have hts := atoms_spec (ws := Jvm.Cond.codeWith yL bL nL (some FieldType.int) [z] :: am_Ts) B.pre
  subst hsz
  have hD := hD0.self (sz := s.heap.size)
  have hl := lv_entry (as.map (am_tv ad)) (n := nL) (by rw [am_sl_len, am_cats]; exact hw)
  rw [lg_entry_eq]
  generalize (lg_sl (as.map (am_tv ad)) ++ List.replicate (nL - (lg_sl (as.map (am_tv ad))).length) Slot.unset).toArray = ls at hl ⊢
  rw [← am_args_lv] at hl
  have hown := findClass_of_methodNamed B.named
  rw [hcls] at hown
  have hA : ∀ q, s.heap.size ≤ q → va_A (am_ws ad ct h) s.heap.size q := fun q hq => Or.inr hq
  have hm := am_ML (l := l) (R := am_rm (d + 1) nc ns) (meth := meth) (d := d) (ro := fun _ => none) (fetch := fun pc => fL.lookup pc) (A := va_A (am_ws ad ct h) s.heap.size) am_tsw hTY B.exec B.bytes hml hts hown B.notSynchronized B.returns hK hK0 hA (fun _ _ _ _ _ z => (by cases z)) (fun pc i hi => am_chk_ok hck hi) (by show d + 9 ≤ d + 1 + 8; omega) (Nat.le_refl _)
  obtain ⟨m9, meth9, c9, k1, k2, k3, k4, k5, k6, k7, k8, k9⟩ := Cond.codeWith_spec (hts _ List.mem_cons_self)
  cases B.named.symm.trans k1
  cases B.method.symm.trans k2
  cases (Stand.of_body B).code.symm.trans k3
  have hsp : ∃ z0 : ExceptionTableEntry, c.exceptionTable.toList = [z0] ∧ (z0.startPc, z0.endPc, z0.handlerPc, z0.catchType) = z := by
    match hE : c.exceptionTable.toList with
    | [] => rw [hE] at k6; cases k6
    | [z0] => rw [hE] at k6; exact ⟨z0, rfl, List.head_eq_of_cons_eq k6⟩
    | _ :: _ :: _ => rw [hE] at k6; cases k6
  obtain ⟨z0, hsplit, hz0⟩ := hsp
  subst hz0
  dsimp only at hzc hz2 hlk hd1
  refine am_seg_W (X := am_X am_xn) hm (fun y as h v h' nc ns hr ad sz => am_meetsB hTY hr ad sz) n 0 (lv_args 0 as) [] h 0 0 hsg ad s.heap [] 0 0 ls (by omega) (by omega) hP hD va_S.rf hl hak (fun ad1 H1 locs1 ls1 ha hz1 hle hP1 hD1 hS1 hl1 hak1 => ?_)
  obtain ⟨hx, hb, hml, hts, -, hlocks, hret, -, h0, -, -, -, -, -, -, -, hCT, -, -, -, hfe, hRf, hRl⟩ := hm
  have hd : decode bL pc = .ok (i, 3) := by
    obtain ⟨n, hd, hn⟩ := hfe pc i hi
    rw [hd, hn (by rw [hil]; decide), hil]
  refine am_callC am_xn hx hb hml hts hown hK h0 hCT hq hq2 hpop h8 hrc (am_meetsT hfl hTY hr ad1 H1.size) ⟨hRf, hRl⟩ (by show 0 + 0 + nc ≤ nc; omega) (by show 0 + 0 + ns ≤ ns; omega) hd hl1.1 hP1 hD1 hS1 hA hak1 hK0 hsplit (by simp [covers, hzc.1, hzc.2]) hz2 (hts _ (List.mem_cons_of_mem _ hlk)) (am_spc_ok hK0 _ hcs) (fun ad2 H2 locs2 a ha2 hz hP2 hD2 hS2 => ?_)
  have hl2 : lv_has ls1 nL [] := ⟨hl1.1, hl1.2.1, fun q hq => by cases hq⟩
  have hend : ∀ ls2 : Array Slot, W p l e (am_rm (d + 1) nc ns) s m (as.map (am_tv ad)).toArray below meth c H2 locs2 (0 + 0 + nc) (0 + 0 + ns) (MQ below (am_Post D am_cl ct tys (am_X am_xn) ad h.length (va_A (am_ws ad ct h) s.heap.size) (.inl (some (.int 1))) h' nc) (as.map (am_tv ad)).toArray s nc ns (va_A (am_ws ad ct h) s.heap.size)) (F0 m hp2 ls2 []) := by
    intro ls2
    refine lv_iconst hx hb hd2 (v := 1) (by decide) ?_
    have e1 : 0 + 0 + nc = nc := by omega
    have e2 : 0 + 0 + ns = ns := by omega
    rw [e1, e2]
    exact W.zret hx hb hret (by decide) (fun t ht hW => ⟨ad2, fun i hi => (ha2 i hi).trans (ha i hi), fun z => by
      rw [hz z, hz1 rfl], rfl, by rw [ht]; exact hP2, va_K.moved hW.alike hK, hD2, hS2.F ht⟩) hS2.2.2 hd3 hlocks
  rcases hd1 with ⟨k, d1, d2, d3⟩ | ⟨d1, d2⟩
  · refine lv_astore_n hx hb d1 d2 hl2 hj rfl (fun ls2 _ => ?_)
    rw [d3]
    exact hend ls2
  · refine lv_astore hx hb d1 hl2 hj rfl (fun ls2 _ => ?_)
    rw [d2]
    exact hend ls2
end
section
def am_stP : List Nat := [640, 642, 235, 617, 619, 621, 615, 1327]
def am_strP : List Nat := [653, 703, 1074, 1119, 1120, 1219, 1244, 1245, 1246, 1253, 1254, 1259, 1260, 1265, 1270, 1271, 1272, 1273, 1278, 1279, 1280, 1289, 1294, 1295, 1300, 1301, 1302, 1303, 1304, 1305, 1306, 1307, 1312, 1313, 1314, 1315, 1316, 1334, 1346]
def am_nestP : List Nat := [255, 274, 401]
def am_clP : List Nat := [246, 254, 273, 292, 333, 335, 400, 438, 454, 1348]
/-! ===== the law's start, in the machine's words ===== -/
def am_wat (p : Nat) (w : Jvm.Cond) : Bool := decide (lw_tbl[p]? = some w)
theorem am_wat_in {p : Nat} {w : Jvm.Cond} (h : am_wat p w = true) : w ∈ lw_tbl := List.mem_of_getElem? (of_decide_eq_true h)
set_option maxRecDepth 100000 in
theorem am_stck : am_wat (am_stP.getD 0 0) (.laysStatic Bundle.tN "UNASSIGNED_STACK" Bundle.steD) = true ∧ am_wat (am_stP.getD 1 0) (.laysStatic Bundle.tN "SUPPRESSED_SENTINEL" Bundle.listD) = true ∧ am_wat (am_stP.getD 2 0) (.initialized Bundle.tN) = true ∧ (am_nwW.zip (am_stP.drop 3)).all (fun e => am_wat e.2 e.1 && e.1.onTables) = true ∧ am_nwW.length = (am_stP.drop 3).length := by decide +kernel
set_option maxRecDepth 100000 in
theorem am_strck : (am_strs.zip am_strP).all (fun e => am_wat e.2 (.stringRef e.1.1 e.1.2.1 e.1.2.2.1)) = true ∧ am_strs.length = am_strP.length ∧ am_strs.map (fun q => q.2.2.2) = List.range' 1000 am_strs.length ∧ am_strs.length < 1000 := by decide +kernel
set_option maxRecDepth 100000 in
theorem am_nestck : (am_nestT.zip am_nestP).all (fun e => am_wat e.2 (.methodLinkNest e.1.1 e.1.2.1 e.1.2.2.1 e.1.2.2.2)) = true ∧ am_nestT.length = am_nestP.length := by decide +kernel
set_option maxRecDepth 100000 in
theorem am_clck : (am_cl.zip am_clP).all (fun e => am_wat e.2 (.instantiable e.1.1 e.1.2.2)) = true ∧ am_cl.length = am_clP.length := by decide +kernel
theorem am_startK {s : State} {args : Array Value} (hts : ∀ w ∈ lw_tbl, w.before args s = true) : ∃ (D : va_G) (tys : List (ClassId × FieldType)) (ct : Nat → Nat), am_TY tys ct ∧ va_K D am_cl tys s := by
  have h : ∀ k : Nat, ∃ (cC : ClassId) (iS : Nat → Nat), ∀ q, am_cl[k]? = some q → u_Kn s q.1 q.2.1 q.2.2 cC iS := by
    intro k
    match hk : am_cl[k]? with
    | none => exact ⟨0, fun _ => 0, fun q hq => by cases hq⟩
    | some q =>
      obtain ⟨g1, -⟩ := am_cls hk
      obtain ⟨i, hi⟩ := am_zip (p := am_clP) am_clck.2 (List.mem_of_getElem? hk)
      have hin := am_wat_in (List.all_eq_true.mp am_clck.1 _ hi)
      obtain ⟨cC, iS, hu⟩ := u_known (C := q.1) (T := q.2.1) (N := q.2.2) (n := q.2.2) hts (fun w hw => am_Ts_tbl (g1 w hw)) (hts _ hin)
      exact ⟨cC, iS, fun q' hq' => by cases hq'; exact hu⟩
  obtain ⟨g0, g1, g2, g3, g4⟩ := am_arck
  obtain ⟨c0, k0, p0, a0, b0, d0⟩ := Cond.arrayClass_spec (hts _ (am_Ts_tbl (am_at_in g0)))
  obtain ⟨c1, k1, p1, a1, b1, d1⟩ := Cond.arrayClass_spec (hts _ (am_Ts_tbl (am_at_in g1)))
  obtain ⟨c2, k2, p2, a2, b2, d2⟩ := Cond.arrayClass_spec (hts _ (am_Ts_tbl (am_at_in g2)))
  obtain ⟨c3, k3, p3, a3, b3, d3⟩ := Cond.arrayClass_spec (hts _ (am_Ts_tbl (am_at_in g3)))
  obtain ⟨c4, k4, p4, a4, b4, d4⟩ := Cond.arrayClass_spec (hts _ (am_Ts_tbl (am_at_in g4)))
  refine ⟨(fun k => (h k).choose, fun k => (h k).choose_spec.choose), [(c0, .int), (c1, .char), (c2, .boolean), (c3, .byte), (c4, .long)], fun t => match t with
    | 0 => c0
    | 1 => c1
    | 2 => c2
    | 3 => c3
    | _ => c4, ?_, fun c q hq => (h c).choose_spec.choose_spec q hq, ?_⟩
  · intro t ht
    match t, ht with
    | 0, _ => rfl
    | 1, _ => rfl
    | 2, _ => rfl
    | 3, _ => rfl
    | 4, _ => rfl
    | t + 5, ht => omega
  · intro k q hq
    match k, hq with
    | 0, hq => cases hq; exact ⟨fun n z => ⟨fun k h => (by cases h), k0, b0, p0, d0⟩, a0⟩
    | 1, hq => cases hq; exact ⟨fun n z => ⟨fun k h => (by cases h), k1, b1, p1, d1⟩, a1⟩
    | 2, hq => cases hq; exact ⟨fun n z => ⟨fun k h => (by cases h), k2, b2, p2, d2⟩, a2⟩
    | 3, hq => cases hq; exact ⟨fun n z => ⟨fun k h => (by cases h), k3, b3, p3, d3⟩, a3⟩
    | 4, hq => cases hq; exact ⟨fun n z => ⟨fun k h => (by cases h), k4, b4, p4, d4⟩, a4⟩
    | k + 5, hq => simp at hq
theorem am_strat {own tx : String} {k : Nat} {s : State} {args : Array Value} (h : (Jvm.Cond.stringRef own k tx).before args s = true) : ∃ a : Nat, vk_R own k tx a s := by
  cases hc : s.vm.findClass own with
  | none => simp [Cond.before, Cond.holds, Cond.value, hc] at h
  | some cur =>
    obtain ⟨-, -, -, a, -, -, -, -, -, hev⟩ := Cond.stringRef_spec hc h
    exact ⟨a, vk_R.of h hev⟩
theorem am_startX {s : State} {args : Array Value} (b : Nat) (hts : ∀ w ∈ lw_tbl, w.before args s = true) (hgv : (Jvm.Cond.and given_1 narrow_1).before args s = true) : ∃ ak : Nat → Nat, am_KX ak (fun q => s.heap.size ≤ q) s ∧ ak 2000 = b := by
  have hA : ∀ a : Nat, a < s.heap.size → ¬ (fun q : Nat => s.heap.size ≤ q) a := fun a h => Nat.not_le.mpr h
  have hfl := flat_of_before _ hgv
  have r1 : (Jvm.Cond.isRef (.static Bundle.tN "UNASSIGNED_STACK" Bundle.steD)).before args s = true := hfl _ (by decide +kernel)
  have r2 : (Jvm.Cond.isRef (.static Bundle.tN "SUPPRESSED_SENTINEL" Bundle.listD)).before args s = true := hfl _ (by decide +kernel)
  obtain ⟨x1, e1, o1⟩ := Cond.isRef_spec r1
  obtain ⟨x2, e2, o2⟩ := Cond.isRef_spec r2
  obtain ⟨q1, q2, q3, q4, q5⟩ := am_stck
  have z1 := va_Zof (hts _ (am_wat_in q1)) (hts _ (am_wat_in q3)) e1 hA
  have z2 := va_Zof (hts _ (am_wat_in q2)) (hts _ (am_wat_in q3)) e2 hA
  obtain ⟨t1, t2, t3, t4⟩ := am_strck
  have hstr : ∀ q ∈ am_strs, ∃ a : Nat, vk_R q.1 q.2.1 q.2.2.1 a s := by
    intro q hq
    obtain ⟨i, hi⟩ := am_zip (p := am_strP) t2 hq
    exact am_strat (hts _ (am_wat_in (List.all_eq_true.mp t1 _ hi)))
  have hpl : ∀ (k : Nat) (q : String × Nat × String × Nat), am_strs[k]? = some q → q.2.2.2 = 1000 + k ∧ k < am_strs.length := by
    intro k q hk
    have h1 : (am_strs.map (fun q => q.2.2.2))[k]? = some q.2.2.2 := by rw [List.getElem?_map, hk]; rfl
    have hlt : k < am_strs.length := (List.getElem?_eq_some_iff.mp hk).1
    rw [t3, List.getElem?_range' hlt] at h1
    exact ⟨by have := Option.some.inj h1; omega, hlt⟩
  have hall : ∀ i : Nat, ∃ a : Nat, (∀ q ∈ am_strs, q.2.2.2 = i → vk_R q.1 q.2.1 q.2.2.1 a s) ∧ (i = 2000 → a = b) := by
    intro i
    by_cases hi : i = 2000
    · refine ⟨b, fun q hq hqi => ?_, fun _ => rfl⟩
      obtain ⟨k, hk⟩ := List.getElem?_of_mem hq
      have := hpl k q hk
      omega
    · match hk : am_strs[i - 1000]? with
      | none =>
        refine ⟨0, fun q hq hqi => ?_, fun z => absurd z hi⟩
        obtain ⟨k, hk2⟩ := List.getElem?_of_mem hq
        have h3 := hpl k q hk2
        have h4 : i - 1000 = k := by omega
        rw [h4, hk2] at hk
        cases hk
      | some q0 =>
        obtain ⟨a, ha⟩ := hstr q0 (List.mem_of_getElem? hk)
        refine ⟨a, fun q hq hqi => ?_, fun z => absurd z hi⟩
        obtain ⟨k, hk2⟩ := List.getElem?_of_mem hq
        have h3 := hpl k q hk2
        have h4 : i - 1000 = k := by omega
        rw [h4, hk2] at hk
        cases hk
        exact ha
  refine ⟨fun i => (hall i).choose, ⟨⟨⟨fun q hq => (hall q.2.2.2).choose_spec.1 q hq rfl, fun z hz => ?_⟩, ⟨⟨x1, o1⟩, z1⟩, ⟨x2, o2⟩, z2⟩, fun w hw => ?_, am_LS.of (hts _ (am_wat_in q1)) hA, am_LS.of (hts _ (am_wat_in q2)) hA⟩, (hall 2000).choose_spec.2 rfl⟩
  · obtain ⟨i, hi⟩ := am_zip (p := am_nestP) am_nestck.2 hz
    exact va_Nw.of rfl (hts _ (am_wat_in (List.all_eq_true.mp am_nestck.1 _ hi)))
  · obtain ⟨i, hi⟩ := am_zip (p := am_stP.drop 3) q5 hw
    have h6 := List.all_eq_true.mp q4 _ hi
    rw [Bool.and_eq_true] at h6
    exact va_Nw.of h6.2 (hts _ (am_wat_in h6.1))
end
section
def am_fL0 : List (Nat × Instr) := [(0, .new 8), (3, .dup), (4, .invokespecial 21), (7, .astore_n 1), (8, .new 22), (11, .dup), (12, .invokespecial 24), (15, .astore_n 2), (16, .iconst 1), (17, .newarray .long), (19, .astore_n 3), (20, .iconst 0), (21, .istore 4), (23, .iload 4), (25, .aload_n 0), (26, .arraylength), (27, .iconst 4), (28, .isub), (29, .if_icmp .gt 326), (32, .aload_n 0), (33, .iload 4), (35, .iaload), (36, .bipush 7), (38, .iand), (39, .tableswitch 310 0 6 #[41, 110, 154, 179, 247, 272, 297]), (80, .aload_n 1), (81, .aload_n 0), (82, .iload 4), (84, .iconst 1), (85, .iadd), (86, .iaload), (87, .i2l), (88, .bipush 32), (90, .lshl), (91, .aload_n 0), (92, .iload 4), (94, .iconst 2), (95, .iadd), (96, .iaload), (97, .i2l), (98, .ldc2_w 25), (101, .land), (102, .lor), (103, .aload_n 0), (104, .iload 4), (106, .iconst 3), (107, .iadd), (108, .iaload), (109, .invokevirtual 27), (112, .aload_n 2), (113, .aload_n 0), (114, .iload 4), (116, .iconst 1), (117, .iadd), (118, .iaload), (119, .i2l), (120, .bipush 32), (122, .lshl), (123, .aload_n 0), (124, .iload 4), (126, .iconst 2), (127, .iadd), (128, .iaload), (129, .i2l), (130, .ldc2_w 25), (133, .land), (134, .lor), (135, .aload_n 0), (136, .iload 4), (138, .iconst 3), (139, .iadd), (140, .iaload), (141, .invokevirtual 31), (144, .if_icmp .eq 205), (147, .iconst 0), (148, .ireturn), (149, .aload_n 1), (150, .aload_n 3), (151, .invokestatic 32), (154, .istore 5), (156, .aload_n 2), (157, .invokevirtual 37), (160, .istore 6), (162, .aload_n 2), (163, .invokevirtual 38), (166, .iload 5), (168, .if_icmp .eq 5), (171, .iconst 0), (172, .ireturn), (173, .iload 5), (175, .ifCond .ne 15), (178, .aload_n 3), (179, .iconst 0), (180, .laload), (181, .iload 6), (183, .i2l), (184, .lcmp), (185, .ifCond .eq 5), (188, .iconst 0), (189, .ireturn), (190, .goto 159), (193, .aload_n 1), (194, .aload_n 0), (195, .iload 4), (197, .iconst 1), (198, .iadd), (199, .iaload), (200, .invokevirtual 41), (203, .aload_n 2), (204, .aload_n 0), (205, .iload 4), (207, .iconst 1), (208, .iadd), (209, .iaload), (210, .invokevirtual 45), (213, .if_icmp .eq 136), (216, .iconst 0), (217, .ireturn), (218, .aload_n 1), (219, .aload_n 0), (220, .iload 4), (222, .iconst 1), (223, .iadd), (224, .iaload), (225, .aload_n 0), (226, .iload 4), (228, .iconst 2), (229, .iadd), (230, .iaload), (231, .aload_n 3), (232, .invokestatic 46), (235, .istore 5), (237, .aload_n 2), (238, .aload_n 0), (239, .iload 4), (241, .iconst 1), (242, .iadd), (243, .iaload), (244, .aload_n 0), (245, .iload 4), (247, .iconst 2), (248, .iadd), (249, .iaload), (250, .invokevirtual 49), (253, .istore 6), (255, .aload_n 2), (256, .invokevirtual 38), (259, .iload 5), (261, .if_icmp .eq 5), (264, .iconst 0), (265, .ireturn), (266, .iload 5), (268, .ifCond .ne 15), (271, .aload_n 3), (272, .iconst 0), (273, .laload), (274, .iload 6), (276, .i2l), (277, .lcmp), (278, .ifCond .eq 5), (281, .iconst 0), (282, .ireturn), (283, .goto 66), (286, .aload_n 1), (287, .aload_n 0), (288, .iload 4), (290, .iconst 1), (291, .iadd), (292, .iaload), (293, .invokevirtual 50), (296, .aload_n 2), (297, .aload_n 0), (298, .iload 4), (300, .iconst 1), (301, .iadd), (302, .iaload), (303, .invokevirtual 53), (306, .if_icmp .eq 43), (309, .iconst 0), (310, .ireturn), (311, .aload_n 1), (312, .aload_n 0), (313, .iload 4), (315, .iconst 1), (316, .iadd), (317, .iaload), (318, .invokevirtual 54), (321, .aload_n 2), (322, .aload_n 0), (323, .iload 4), (325, .iconst 1), (326, .iadd), (327, .iaload), (328, .invokevirtual 57), (331, .if_icmp .eq 18), (334, .iconst 0), (335, .ireturn), (336, .aload_n 1), (337, .invokevirtual 58), (340, .aload_n 2), (341, .invokevirtual 62), (344, .if_icmp .eq 5), (347, .iconst 0), (348, .ireturn), (349, .iinc 4 4), (352, .goto (-329)), (355, .iconst 1), (356, .ireturn)]
def am_fL3 : List (Nat × Instr) := [(0, .aload_n 1), (1, .iconst 0), (2, .aload_n 0), (3, .invokevirtual 7), (6, .i2l), (7, .lastore), (8, .goto 6), (11, .astore_n 2), (12, .iconst 1), (13, .ireturn), (14, .iconst 0), (15, .ireturn)]
def am_fL4 : List (Nat × Instr) := [(0, .aload_n 3), (1, .iconst 0), (2, .aload_n 0), (3, .iload_n 1), (4, .iload_n 2), (5, .invokevirtual 15), (8, .i2l), (9, .lastore), (10, .goto 7), (13, .astore 4), (15, .iconst 1), (16, .ireturn), (17, .iconst 0), (18, .ireturn)]
set_option maxRecDepth 100000 in
theorem am_kL0 : am_chk code am_fL0 = true := by decide +kernel
theorem am_kL3 : am_chk method_3_code am_fL3 = true := by decide +kernel
theorem am_kL4 : am_chk method_4_code am_fL4 = true := by decide +kernel
def am_yL3 : MethodName := ⟨"ScriptFrontLaw", "parse", "(LScriptFront;[J)I"⟩
def am_yL4 : MethodName := ⟨"ScriptFrontLaw", "node", "(LScriptFront;II[J)I"⟩
abbrev am_wL3 : List Jvm.Cond := .codeWith am_yL3 method_3_code 3 (some FieldType.int) [(0, 8, 11, 13)] :: am_Ts
abbrev am_wL4 : List Jvm.Cond := .codeWith am_yL4 method_4_code 5 (some FieldType.int) [(0, 10, 13, 19)] :: am_Ts
def am_lwP : List Nat := [551, 549, 550, 224, 552, 1319, 1317, 1318, 1320]
set_option maxRecDepth 100000 in
theorem am_lwck : am_at (am_lwP.getD 0 0) (.codeWith am_yL3 method_3_code 3 (some FieldType.int) [(0, 8, 11, 13)]) = true ∧ am_at (am_lwP.getD 1 0) (.methodLink "ScriptFrontLaw" 32 am_yL3) = true ∧ am_at (am_lwP.getD 2 0) (.static am_yL3) = true ∧ am_at (am_lwP.getD 3 0) (.initialized "ScriptFrontLaw") = true ∧ am_at (am_lwP.getD 4 0) (.classLink "ScriptFrontLaw" 13 "java/lang/IllegalArgumentException") = true ∧ am_at (am_lwP.getD 5 0) (.codeWith am_yL4 method_4_code 5 (some FieldType.int) [(0, 10, 13, 19)]) = true ∧ am_at (am_lwP.getD 6 0) (.methodLink "ScriptFrontLaw" 46 am_yL4) = true ∧ am_at (am_lwP.getD 7 0) (.static am_yL4) = true ∧ am_at (am_lwP.getD 8 0) (.classLink "ScriptFrontLaw" 19 "java/lang/IndexOutOfBoundsException") = true := by decide +kernel
theorem am_gL {own : String} {ix : Nat} {y : MethodName} {w0 : Jvm.Cond} (h1 : Jvm.Cond.methodLink own ix y ∈ am_Ts) (h2 : Jvm.Cond.static y ∈ am_Ts) (h3 : Jvm.Cond.initialized y.cls ∈ am_Ts) (h4 : w0 ∈ am_Ts) : GoodIn am_Ts (va_wsS own ix y (w0 :: am_Ts)) := by
  intro w hw
  have h : w ∈ am_Ts := by
    unfold va_wsS at hw
    simp only [List.mem_append, List.mem_cons, List.not_mem_nil, or_false] at hw
    rcases hw with (rfl | rfl | rfl) | rfl | hw
    · exact h1
    · exact h2
    · exact h3
    · exact h4
    · exact hw
  exact ⟨h, good_of_word (am_Ts_good h)⟩
theorem am_gL3 : GoodIn am_Ts (va_wsS "ScriptFrontLaw" 32 am_yL3 am_wL3) := am_gL (am_at_in am_lwck.2.1) (am_at_in am_lwck.2.2.1) (am_at_in am_lwck.2.2.2.1) (am_at_in am_lwck.1)
theorem am_gL4 : GoodIn am_Ts (va_wsS "ScriptFrontLaw" 46 am_yL4 am_wL4) := am_gL (am_at_in am_lwck.2.2.2.2.2.2.1) (am_at_in am_lwck.2.2.2.2.2.2.2.1) (am_at_in am_lwck.2.2.2.1) (am_at_in am_lwck.2.2.2.2.2.1)
theorem am_cal12 : am_cal 12 (.invokevirtual 7) = some (0, 20, 0, 0) ∧ am_cal 12 (.invokevirtual 15) = some (0, 169, 2, 0) := by decide +kernel
section AM17
variable {l : Launch} {D : va_G} {tys : List (ClassId × FieldType)} {ct ak : Nat → Nat}
theorem am_c3R (hTY : am_TY tys ct) {fuel d x o : Nat} {h h' : List va_E} {v : Option Value} {nc ns : Nat} (hr : am_lr am_fL3 3 fuel d [.ref x, .ref o] h = some (.inl v, h', nc, ns)) (ad : Nat → Nat) (sz : Nat) :
    Met l am_yL3 am_wL3 (am_rm (d + 1) nc ns) (am_Pre D am_cl ct tys ak (am_KX ak) ad h sz [.ref x, .ref o]) (am_Post D am_cl ct tys (am_X am_xn) ad h.length (va_A (am_ws ad ct h) sz) (.inl v) h' nc) nc ns (va_A (am_ws ad ct h) sz) := am_lr_R hTY rfl am_kL3 (by show 1 + (1 + 0) ≤ 3; decide) hr ad sz
theorem am_c4R (hTY : am_TY tys ct) {fuel d x o : Nat} {a b : Int32} {h h' : List va_E} {v : Option Value} {nc ns : Nat} (hr : am_lr am_fL4 5 fuel d [.ref x, .int a, .int b, .ref o] h = some (.inl v, h', nc, ns)) (ad : Nat → Nat) (sz : Nat) :
    Met l am_yL4 am_wL4 (am_rm (d + 1) nc ns) (am_Pre D am_cl ct tys ak (am_KX ak) ad h sz [.ref x, .int a, .int b, .ref o]) (am_Post D am_cl ct tys (am_X am_xn) ad h.length (va_A (am_ws ad ct h) sz) (.inl v) h' nc) nc ns (va_A (am_ws ad ct h) sz) := am_lr_R hTY rfl am_kL4 (by show 1 + (1 + (1 + (1 + 0))) ≤ 5; decide) hr ad sz
set_option maxRecDepth 100000 in
theorem am_c3T (hfl : ∀ e : Env, l.admits e → e.platform.stackTraces = false) (hTY : am_TY tys ct) {fuel d x o : Nat} {h h' : List va_E} {nc ns : Nat} (hrc : am_rcv [.ref x] h 0 = true) (hr : am_all am_thr fuel d 20 [.ref x] h = some (.inr 0, h', nc, ns)) (ad : Nat → Nat) (sz : Nat) :
    Met l am_yL3 am_wL3 (am_rm (d + 1) nc ns) (am_Pre D am_cl ct tys ak (am_KX ak) ad h sz [.ref x, .ref o]) (am_Post D am_cl ct tys (am_X am_xn) ad h.length (va_A (am_ws ad ct h) sz) (.inl (some (.int 1))) h' nc) nc ns (va_A (am_ws ad ct h) sz) :=
  am_lr_T hfl hTY rfl am_kL3 (n := 3) (pc := 3) (lv := lv_args 0 [.ref x, .ref o]) (st := [.ref x, .int 0, .ref o]) (i := .invokevirtual 7) (q := (0, 20, 0, 0)) (w := ([.ref x], [.int 0, .ref o])) (ex := 0) (by show 1 + (1 + 0) ≤ 3; decide) rfl rfl rfl am_cal12.1 rfl rfl (by show 1 + (1 + 0) ≤ 8; decide) hrc hr (by decide) (by decide) (am_at_in am_lwck.2.2.2.2.1) (by decide +kernel) (j := 2) (hp2 := 12) (Or.inl ⟨2, by decide +kernel, rfl, rfl⟩) (by decide) (by decide +kernel) (by decide +kernel) ad sz
set_option maxRecDepth 100000 in
theorem am_c4T (hfl : ∀ e : Env, l.admits e → e.platform.stackTraces = false) (hTY : am_TY tys ct) {fuel d x o : Nat} {a b : Int32} {h h' : List va_E} {nc ns : Nat} (hrc : am_rcv [.ref x, .int a, .int b] h 0 = true) (hr : am_all am_thr fuel d 169 [.ref x, .int a, .int b] h = some (.inr 1, h', nc, ns)) (ad : Nat → Nat) (sz : Nat) :
    Met l am_yL4 am_wL4 (am_rm (d + 1) nc ns) (am_Pre D am_cl ct tys ak (am_KX ak) ad h sz [.ref x, .int a, .int b, .ref o]) (am_Post D am_cl ct tys (am_X am_xn) ad h.length (va_A (am_ws ad ct h) sz) (.inl (some (.int 1))) h' nc) nc ns (va_A (am_ws ad ct h) sz) :=
  am_lr_T hfl hTY rfl am_kL4 (n := 5) (pc := 5) (lv := lv_args 0 [.ref x, .int a, .int b, .ref o]) (st := [.int b, .int a, .ref x, .int 0, .ref o]) (i := .invokevirtual 15) (q := (0, 169, 2, 0)) (w := ([.ref x, .int a, .int b], [.int 0, .ref o])) (ex := 1) (by show 1 + (1 + (1 + (1 + 0))) ≤ 5; decide) rfl rfl rfl am_cal12.2 rfl rfl (by show 1 + (1 + 0) ≤ 8; decide) hrc hr (by decide) (by decide) (am_at_in am_lwck.2.2.2.2.2.2.2.2) (by decide +kernel) (j := 4) (hp2 := 15) (Or.inr ⟨by decide +kernel, rfl⟩) (by decide) (by decide +kernel) (by decide +kernel) ad sz
end AM17
end
section
/-! ===== the law's first road: both objects are made ===== -/
def am_roL (L : Nat) (xs : Nat → Int32) (a : Nat) : Option (Nat × (Nat → Int32)) := if a = 2000 then some (L, xs) else none
abbrev am_lg (ro : Nat → Option (Nat × (Nat → Int32))) (n pc : Nat) (lv : am_L) (st : List Value) (h : List va_E) : Option (am_F × Nat × Nat) := am_seg (fun pc => am_fL0.lookup pc) (am_step (am_fl 12) (am_kc 12) (am_kl 12) (fun _ => none) ro false 7) (am_cal 12) (am_oi 12) (am_nw 12) (am_all am_thr 3000 40) n pc lv st h
def am_s1r : Option (am_F × Nat × Nat) := am_lg (fun _ => none) 13 0 [(0, .ref 2000)] [] []
def am_H1 : List va_E := match am_s1r with
  | some r => r.1.2.2.2
  | none => []
/-- an object's class and fields; a row's kind and length -/
def am_ob (h : List va_E) (i : Nat) : Option (Nat × List Value) := match h[i]? with
  | some (.inr o) => some o
  | _ => none
def am_rw (h : List va_E) (i : Nat) : Option (Nat × Nat × Bool) := match h[i]? with
  | some (.inl (t, n, .inl _)) => some (t, n, false)
  | some (.inl (t, n, .inr (.inl _))) => some (t, n, true)
  | _ => none
end
section
/-! ===== runs with free numbers in them: a row an instruction ===== -/
abbrev am_ex (y fuel d kk pc : Nat) (lv : am_L) (st : List Value) (h : List va_E) : Option am_R := am_exec (am_fc y) (am_step (am_fl (am_co y)) (am_kc (am_co y)) (am_kl (am_co y)) (fun _ => none) (fun _ => none) (am_in y) (am_mL y)) (am_cal (am_co y)) (am_oi (am_co y)) (am_nw (am_co y)) (am_all am_thr fuel d) (am_thr y) (am_rt y) 1 6 kk pc lv st h
/-- from K steps on the run ends so -/
def am_go (y fuel d K pc : Nat) (lv : am_L) (st : List Value) (h : List va_E) (res : Option am_R) : Prop := ∀ kk, K ≤ kk → am_ex y fuel d kk pc lv st h = res
def am_plain (i : Instr) : Bool := match i with
  | .return_ | .ireturn | .new _ | .newarray _ => false
  | _ => true
def am_iso (oi : Nat → Bool) (i : Instr) : Bool := match i with
  | .invokespecial k => oi k
  | _ => false
abbrev am_isoi (c : Nat) (i : Instr) : Bool := am_iso (am_oi c) i
/-- a plain instruction -/
def am_pk (y pc : Nat) : Option Instr := match am_thr y pc with
  | some _ => none
  | none => match am_fc y pc with
    | none => none
    | some i => if (am_plain i && (!(am_isoi (am_co y) i) && (am_cal (am_co y) i).isNone)) = true then some i else none
/-- a call -/
def am_pq (y pc : Nat) : Option (Nat × Nat × Nat × Nat) := match am_thr y pc with
  | some _ => none
  | none => match am_fc y pc with
    | none => none
    | some i => if (am_plain i && !(am_isoi (am_co y) i)) = true then am_cal (am_co y) i else none
/-- a return of an int -/
def am_pr (y pc : Nat) : Option FieldType := match am_thr y pc with
  | some _ => none
  | none => match am_fc y pc with
    | some .ireturn => am_rt y
    | _ => none
def am_pv (y pc : Nat) : Bool := match am_thr y pc with
  | some _ => false
  | none => match am_fc y pc with
    | some .return_ => (am_rt y).isNone
    | _ => false
theorem am_pk_eq {y pc : Nat} {i : Instr} (h : am_pk y pc = some i) : am_thr y pc = none ∧ am_fc y pc = some i ∧ am_plain i = true ∧ am_isoi (am_co y) i = false ∧ am_cal (am_co y) i = none := by
  unfold am_pk at h
  split at h
  · cases h
  · next h1 =>
    split at h
    · cases h
    · next j h2 =>
      split at h
      · next h3 =>
        cases h
        simp only [Bool.and_eq_true, Bool.not_eq_true', Option.isNone_iff_eq_none] at h3
        exact ⟨h1, h2, h3.1, h3.2.1, h3.2.2⟩
      · cases h
theorem am_pq_eq {y pc : Nat} {q : Nat × Nat × Nat × Nat} (h : am_pq y pc = some q) : am_thr y pc = none ∧ ∃ i, am_fc y pc = some i ∧ am_plain i = true ∧ am_isoi (am_co y) i = false ∧ am_cal (am_co y) i = some q := by
  unfold am_pq at h
  split at h
  · cases h
  · next h1 =>
    split at h
    · cases h
    · next j h2 =>
      split at h
      · next h3 =>
        simp only [Bool.and_eq_true, Bool.not_eq_true'] at h3
        exact ⟨h1, j, h2, h3.1, h3.2, h⟩
      · cases h
theorem am_step1 {fetch : Nat → Option Instr} {stp : Instr → Nat → am_L → List Value → List va_E → Option am_F} {cal : Instr → Option (Nat × Nat × Nat × Nat)} {oi : Nat → Bool} {nw : Nat → Option (Nat × List Value)} {run : Nat → List Value → List va_E → Option am_R} {thr : Nat → Option Nat} {ret : Option FieldType} {xc xs kk pc : Nat} {lv : am_L} {st : List Value} {h : List va_E} {i : Instr} {q : am_F} (h1 : thr pc = none) (h2 : fetch pc = some i) (h3 : am_plain i = true) (h4 : am_iso oi i = false) (h5 : cal i = none) (h6 : stp i pc lv st h = some q) : am_exec fetch stp cal oi nw run thr ret xc xs (kk + 1) pc lv st h = am_exec fetch stp cal oi nw run thr ret xc xs kk q.1 q.2.1 q.2.2.1 q.2.2.2 := by
  rw [am_exec_s, h1]
  simp only [h2]
  split
  · cases h3
  · cases h3
  · cases h3
  · cases h3
  · show (match am_iso oi i with
      | true => _
      | false => _) = _
    rw [h4]
    simp only [h5, h6, Option.bind_some]
theorem am_callx {fetch : Nat → Option Instr} {stp : Instr → Nat → am_L → List Value → List va_E → Option am_F} {cal : Instr → Option (Nat × Nat × Nat × Nat)} {oi : Nat → Bool} {nw : Nat → Option (Nat × List Value)} {run : Nat → List Value → List va_E → Option am_R} {thr : Nat → Option Nat} {ret : Option FieldType} {xc xs kk pc : Nat} {lv : am_L} {st : List Value} {h h' : List va_E} {i : Instr} {q : Nat × Nat × Nat × Nat} {w : List Value × List Value} {v : Option Value} {nc ns : Nat} (h1 : thr pc = none) (h2 : fetch pc = some i) (h3 : am_plain i = true) (h4 : am_iso oi i = false) (h5 : cal i = some q) (h6 : am_pop (am_vir q.1) q.2.2.1 st = some w) (h7 : (decide ((w.2.map fun v => v.category).sum ≤ 8) && ((q.1 != 0) || am_rcv w.1 h q.2.2.2)) = true) (h8 : run q.2.1 w.1 h = some (.inl v, h', nc, ns)) (h9 : (decide (h.length ≤ h'.length) && (nc == 0 || am_oldL h.length lv w.2)) = true) : am_exec fetch stp cal oi nw run thr ret xc xs (kk + 1) pc lv st h = (am_exec fetch stp cal oi nw run thr ret xc xs kk (pc + 3) lv (v.toList ++ w.2) h').bind fun r2 => some (r2.1, r2.2.1, nc + r2.2.2.1, ns + r2.2.2.2) := by
  rw [am_exec_s, h1]
  simp only [h2]
  split
  · cases h3
  · cases h3
  · cases h3
  · cases h3
  · show (match am_iso oi i with
      | true => _
      | false => _) = _
    rw [h4]
    simp only [h5, h6, Option.bind_some]
    rw [if_pos h7, h8]
    simp only [Option.bind_some]
    rw [if_pos h9]
section AM18
variable {y fuel d K pc : Nat} {lv : am_L} {st : List Value} {h : List va_E} {res : Option am_R}
theorem am_x1 {c nL : Nat} {ini : Bool} (hF : am_co y = c ∧ am_mL y = nL ∧ am_in y = ini) {i : Instr} (hp : am_pk y pc = some i) {pc' : Nat} {lv' : am_L} {st' : List Value} {h' : List va_E} (hst : am_step (am_fl c) (am_kc c) (am_kl c) (fun _ => none) (fun _ => none) ini nL i pc lv st h = some (pc', lv', st', h')) (hn : am_go y fuel d K pc' lv' st' h' res) : am_go y fuel d (K + 1) pc lv st h res := by
  obtain ⟨rfl, rfl, rfl⟩ := hF
  obtain ⟨h1, h2, h3, h4, h5⟩ := am_pk_eq hp
  intro kk hk
  obtain ⟨k, rfl⟩ : ∃ k, kk = k + 1 := ⟨kk - 1, by omega⟩
  show am_exec _ _ _ _ _ _ _ _ _ _ _ _ _ _ _ = _
  rw [am_step1 (i := i) h1 h2 h3 h4 h5 hst]
  exact hn k (by omega)
/-- a field is read -/
theorem am_xg {c nL k a j cj : Nat} {ini fin : Bool} (hF : am_co y = c ∧ am_mL y = nL ∧ am_in y = ini) {r fs : List Value} {ty : FieldType} {v : Value} (hp : am_pk y pc = some (.getfield k)) (hf : am_fl c k = some (cj, j, ty, fin)) (ho : h[a]? = some (.inr (cj, fs))) (hv : fs[j]? = some v) (hn : am_go y fuel d K (pc + 3) lv (v :: r) h res) : am_go y fuel d (K + 1) pc lv (.ref a :: r) h res := by
  refine am_x1 hF hp ?_ hn
  show (am_fl c k).bind _ = _
  rw [hf]
  show am_obj h a _ = _
  simp only [am_obj, ho]
  show ((fs[j]?).bind _) = _
  rw [hv]
  rfl
/-- a field is written -/
theorem am_xp {c nL k a j cj : Nat} {ini fin : Bool} (hF : am_co y = c ∧ am_mL y = nL ∧ am_in y = ini) {r fs : List Value} {ty : FieldType} {v : Value} (hp : am_pk y pc = some (.putfield k)) (hf : am_fl c k = some (cj, j, ty, fin)) (ho : h[a]? = some (.inr (cj, fs))) (hj : j < fs.length) (hw : ((!fin || ini) && (decide (narrow ty v = v) && fits ty v)) = true) (hn : am_go y fuel d K (pc + 3) lv r (h.set a (.inr (cj, fs.set j v))) res) : am_go y fuel d (K + 1) pc lv (v :: .ref a :: r) h res := by
  refine am_x1 hF hp ?_ hn
  show (am_fl c k).bind _ = _
  rw [hf]
  show am_obj h a _ = _
  unfold am_obj
  rw [ho]
  show (if (decide (cj = cj) && (decide (j < fs.length) && ((!fin || ini) && (decide (narrow ty v = v) && fits ty v)))) = true then _ else _) = _
  rw [if_pos]
  rw [Bool.and_eq_true, Bool.and_eq_true]
  exact ⟨decide_eq_true rfl, decide_eq_true hj, hw⟩
theorem am_set_same {α : Type} {l : List α} {i : Nat} {x : α} (h : l[i]? = some x) : l.set i x = l := by
  obtain ⟨hi, rfl⟩ := List.getElem?_eq_some_iff.mp h
  exact List.set_getElem_self hi
/-- .. with what it holds -/
theorem am_xp0 {c nL k a j cj : Nat} {ini fin : Bool} (hF : am_co y = c ∧ am_mL y = nL ∧ am_in y = ini) {r fs : List Value} {ty : FieldType} {v : Value} (hp : am_pk y pc = some (.putfield k)) (hf : am_fl c k = some (cj, j, ty, fin)) (ho : h[a]? = some (.inr (cj, fs))) (hv : fs[j]? = some v) (hw : ((!fin || ini) && (decide (narrow ty v = v) && fits ty v)) = true) (hn : am_go y fuel d K (pc + 3) lv r h res) : am_go y fuel d (K + 1) pc lv (v :: .ref a :: r) h res := by
  refine am_xp hF hp hf ho (List.getElem?_eq_some_iff.mp hv).1 hw ?_
  rw [am_set_same hv, am_set_same ho]
  exact hn
/-- branches -/
theorem am_xi {c : ClassFile.Cond} {off : Int} {x z : Int32} {r : List Value} {b : Bool} {t : Nat} (hp : am_pk y pc = some (.if_icmp c off)) (hc : am_c c x z = b) (ht : am_to pc off = some t) (hn : am_go y fuel d K (cond b t (pc + 3)) lv r h res) : am_go y fuel d (K + 1) pc lv (.int z :: .int x :: r) h res := by
  refine am_x1 ⟨rfl, rfl, rfl⟩ hp ?_ hn
  show (am_to pc off).bind _ = _
  rw [ht, Option.bind_some, hc]
  cases b <;> rfl
theorem am_xz {c : ClassFile.Cond} {off : Int} {x : Int32} {r : List Value} {b : Bool} {t : Nat} (hp : am_pk y pc = some (.ifCond c off)) (hc : am_c c x 0 = b) (ht : am_to pc off = some t) (hn : am_go y fuel d K (cond b t (pc + 3)) lv r h res) : am_go y fuel d (K + 1) pc lv (.int x :: r) h res := by
  refine am_x1 ⟨rfl, rfl, rfl⟩ hp ?_ hn
  show (am_to pc off).bind _ = _
  rw [ht, Option.bind_some, hc]
  cases b <;> rfl
/-- the end -/
theorem am_xr {x : Int32} {ty : FieldType} (hp : am_pr y pc = some ty) (hx : narrow ty (.int x) = .int x) : am_go y fuel d (K + 1) pc lv [.int x] h (some (.inl (some (.int x)), h, 0, 0)) := by
  intro kk hk
  obtain ⟨k, rfl⟩ : ∃ k, kk = k + 1 := ⟨kk - 1, by omega⟩
  unfold am_pr at hp
  split at hp
  · cases hp
  · next h1 =>
    split at hp
    · next h2 =>
      show am_exec _ _ _ _ _ _ _ _ _ _ _ _ _ _ _ = _
      rw [am_exec_s, h1]
      simp only [h2, hp]
      rw [if_pos (decide_eq_true hx)]
    · cases hp
theorem am_xv (hp : am_pv y pc = true) : am_go y fuel d (K + 1) pc lv [] h (some (.inl none, h, 0, 0)) := by
  intro kk hk
  obtain ⟨k, rfl⟩ : ∃ k, kk = k + 1 := ⟨kk - 1, by omega⟩
  unfold am_pv at hp
  split at hp
  · cases hp
  · next h1 =>
    split at hp
    · next h2 =>
      show am_exec _ _ _ _ _ _ _ _ _ _ _ _ _ _ _ = _
      rw [am_exec_s, h1]
      simp only [h2, hp]
      rfl
    · cases hp
/-- a throw -/
theorem am_xt {ex : Nat} (hp : am_thr y pc = some ex) (h8 : (st.map fun v => v.category).sum ≤ 8) : am_go y fuel d (K + 1) pc lv st h (some (.inr ex, h, 1, 6)) := by
  intro kk hk
  obtain ⟨k, rfl⟩ : ∃ k, kk = k + 1 := ⟨kk - 1, by omega⟩
  show am_exec _ _ _ _ _ _ _ _ _ _ _ _ _ _ _ = _
  rw [am_exec_s, hp]
  simp only
  rw [if_pos (decide_eq_true h8)]
/-- a call that makes no cell -/
theorem am_xc {q : Nat × Nat × Nat × Nat} (hp : am_pq y pc = some q) {w : List Value × List Value} {v : Option Value} {h' : List va_E} (h6 : am_pop (am_vir q.1) q.2.2.1 st = some w) (h7 : (decide ((w.2.map fun v => v.category).sum ≤ 8) && ((q.1 != 0) || am_rcv w.1 h q.2.2.2)) = true) (h8 : am_all am_thr fuel d q.2.1 w.1 h = some (.inl v, h', 0, 0)) (h9 : h.length ≤ h'.length) {o : am_O} {h2 : List va_E} {nc ns : Nat} (hn : am_go y fuel d K (pc + 3) lv (v.toList ++ w.2) h' (some (o, h2, nc, ns))) : am_go y fuel d (K + 1) pc lv st h (some (o, h2, nc, ns)) := by
  obtain ⟨g1, i, g2, g3, g4, g5⟩ := am_pq_eq hp
  intro kk hk
  obtain ⟨k, rfl⟩ : ∃ k, kk = k + 1 := ⟨kk - 1, by omega⟩
  show am_exec _ _ _ _ _ _ _ _ _ _ _ _ _ _ _ = _
  rw [am_callx g1 g2 g3 g4 g5 h6 h7 h8 (by rw [Bool.and_eq_true]; exact ⟨decide_eq_true h9, rfl⟩)]
  have hk2 := hn k (by omega)
  show (am_exec _ _ _ _ _ _ _ _ _ _ _ _ _ _ _).bind _ = _
  rw [show am_exec _ _ _ _ _ _ _ _ _ _ _ _ _ _ _ = _ from hk2]
  simp
/-- a method's run out of its rows -/
theorem am_in_go {as : List Value} (hw : (as.map fun v => v.category).sum ≤ am_mL y) (hg : am_go y fuel d fuel 0 (lv_args 0 as) [] h res) : am_all am_thr fuel (d + 1) y as h = res := by
  show (if decide ((as.map fun v => v.category).sum ≤ am_mL y) = true then _ else _) = _
  rw [if_pos (decide_eq_true hw)]
  exact hg fuel (Nat.le_refl _)
end AM18
end
section
/-! Typ: ScriptFront.type(JI)Z -/
theorem am_FTyp : am_co 9 = 0 ∧ am_mL 9 = 5 ∧ am_in 9 = false := by decide +kernel
theorem am_qTyp_0 : am_pk 9 0 = some (.iload_n 3) := by decide +kernel
theorem am_qTyp_1 : am_pk 9 1 = some (.iconst 1) := by decide +kernel
theorem am_qTyp_2 : am_pk 9 2 = some (.if_icmp .lt 24) := by decide +kernel
theorem am_qTyp_5 : am_pk 9 5 = some (.iload_n 3) := by decide +kernel
theorem am_qTyp_6 : am_pk 9 6 = some (.bipush 8) := by decide +kernel
theorem am_qTyp_8 : am_pk 9 8 = some (.if_icmp .gt 18) := by decide +kernel
theorem am_qTyp_11 : am_pk 9 11 = some (.aload_n 0) := by decide +kernel
theorem am_qTyp_12 : am_pk 9 12 = some (.getfield 10) := by decide +kernel
theorem am_qf0_10 : am_fl 0 10 = some (0, 0, .object "ScriptFront$Tape", true) := by decide +kernel
theorem am_qTyp_15 : am_pk 9 15 = some (.getfield 74) := by decide +kernel
theorem am_qf0_74 : am_fl 0 74 = some (1, 1, .int, false) := by decide +kernel
theorem am_qTyp_18 : am_pk 9 18 = some (.iload_n 3) := by decide +kernel
theorem am_qTyp_19 : am_pk 9 19 = some (.iadd) := by decide +kernel
theorem am_qTyp_20 : am_pk 9 20 = some (.sipush 480) := by decide +kernel
theorem am_qTyp_23 : am_pk 9 23 = some (.if_icmp .le 5) := by decide +kernel
theorem am_qTyp_26 : am_pk 9 26 = some (.iconst 0) := by decide +kernel
theorem am_qTyp_27 : am_pr 9 27 = some FieldType.boolean := by decide +kernel
theorem am_qTyp_28 : am_pk 9 28 = some (.iload_n 3) := by decide +kernel
theorem am_qTyp_29 : am_pk 9 29 = some (.iconst 1) := by decide +kernel
theorem am_qTyp_30 : am_pk 9 30 = some (.isub) := by decide +kernel
theorem am_qTyp_31 : am_pk 9 31 = some (.istore 4) := by decide +kernel
theorem am_qTyp_33 : am_pk 9 33 = some (.iload 4) := by decide +kernel
theorem am_qTyp_35 : am_pk 9 35 = some (.ifCond .lt 29) := by decide +kernel
theorem am_qTyp_38 : am_pk 9 38 = some (.lload_n 1) := by decide +kernel
theorem am_qTyp_39 : am_pk 9 39 = some (.bipush 8) := by decide +kernel
theorem am_qTyp_41 : am_pk 9 41 = some (.iload 4) := by decide +kernel
theorem am_qTyp_43 : am_pk 9 43 = some (.imul) := by decide +kernel
theorem am_qTyp_44 : am_pk 9 44 = some (.lushr) := by decide +kernel
theorem am_qTyp_45 : am_pk 9 45 = some (.l2i) := by decide +kernel
theorem am_qTyp_46 : am_pk 9 46 = some (.sipush 255) := by decide +kernel
theorem am_qTyp_49 : am_pk 9 49 = some (.iand) := by decide +kernel
theorem am_qTyp_50 : am_pq 9 50 = some (1, 10, 1, 1) := by decide +kernel
theorem am_qTyp_53 : am_pk 9 53 = some (.ifCond .ne 5) := by decide +kernel
theorem am_qTyp_56 : am_pk 9 56 = some (.iconst 0) := by decide +kernel
theorem am_qTyp_57 : am_pr 9 57 = some FieldType.boolean := by decide +kernel
theorem am_qTyp_58 : am_pk 9 58 = some (.iinc 4 (-1)) := by decide +kernel
theorem am_qTyp_61 : am_pk 9 61 = some (.goto (-28)) := by decide +kernel
theorem am_qTyp_64 : am_pk 9 64 = some (.iload_n 3) := by decide +kernel
theorem am_qTyp_65 : am_pk 9 65 = some (.iconst 1) := by decide +kernel
theorem am_qTyp_66 : am_pk 9 66 = some (.isub) := by decide +kernel
theorem am_qTyp_67 : am_pk 9 67 = some (.istore 4) := by decide +kernel
theorem am_qTyp_69 : am_pk 9 69 = some (.iload 4) := by decide +kernel
theorem am_qTyp_71 : am_pk 9 71 = some (.ifCond .lt 28) := by decide +kernel
theorem am_qTyp_74 : am_pk 9 74 = some (.aload_n 0) := by decide +kernel
theorem am_qTyp_75 : am_pk 9 75 = some (.getfield 10) := by decide +kernel
theorem am_qTyp_78 : am_pk 9 78 = some (.lload_n 1) := by decide +kernel
theorem am_qTyp_79 : am_pk 9 79 = some (.bipush 8) := by decide +kernel
theorem am_qTyp_81 : am_pk 9 81 = some (.iload 4) := by decide +kernel
theorem am_qTyp_83 : am_pk 9 83 = some (.imul) := by decide +kernel
theorem am_qTyp_84 : am_pk 9 84 = some (.lushr) := by decide +kernel
theorem am_qTyp_85 : am_pk 9 85 = some (.l2i) := by decide +kernel
theorem am_qTyp_86 : am_pk 9 86 = some (.sipush 255) := by decide +kernel
theorem am_qTyp_89 : am_pk 9 89 = some (.iand) := by decide +kernel
theorem am_qTyp_90 : am_pq 9 90 = some (0, 12, 1, 1) := by decide +kernel
theorem am_qTyp_93 : am_pk 9 93 = some (.iinc 4 (-1)) := by decide +kernel
theorem am_qTyp_96 : am_pk 9 96 = some (.goto (-27)) := by decide +kernel
theorem am_qTyp_99 : am_pk 9 99 = some (.iconst 1) := by decide +kernel
theorem am_qTyp_100 : am_pr 9 100 = some FieldType.boolean := by decide +kernel
/-! isTy: ScriptFront$Tape.isTypable(I)Z -/
theorem am_FisTy : am_co 10 = 1 ∧ am_mL 10 = 1 ∧ am_in 10 = false := by decide +kernel
theorem am_qisTy_0 : am_pk 10 0 = some (.iload_n 0) := by decide +kernel
theorem am_qisTy_1 : am_pk 10 1 = some (.bipush 32) := by decide +kernel
theorem am_qisTy_3 : am_pk 10 3 = some (.if_icmp .lt 9) := by decide +kernel
theorem am_qisTy_6 : am_pk 10 6 = some (.iload_n 0) := by decide +kernel
theorem am_qisTy_7 : am_pk 10 7 = some (.bipush 126) := by decide +kernel
theorem am_qisTy_9 : am_pk 10 9 = some (.if_icmp .le 16) := by decide +kernel
theorem am_qisTy_12 : am_pk 10 12 = some (.iload_n 0) := by decide +kernel
theorem am_qisTy_13 : am_pk 10 13 = some (.bipush 9) := by decide +kernel
theorem am_qisTy_15 : am_pk 10 15 = some (.if_icmp .eq 10) := by decide +kernel
theorem am_qisTy_18 : am_pk 10 18 = some (.iload_n 0) := by decide +kernel
theorem am_qisTy_19 : am_pq 10 19 = some (1, 11, 1, 1) := by decide +kernel
theorem am_qisTy_22 : am_pk 10 22 = some (.ifCond .eq 7) := by decide +kernel
theorem am_qisTy_25 : am_pk 10 25 = some (.iconst 1) := by decide +kernel
theorem am_qisTy_26 : am_pk 10 26 = some (.goto 4) := by decide +kernel
theorem am_qisTy_29 : am_pk 10 29 = some (.iconst 0) := by decide +kernel
theorem am_qisTy_30 : am_pr 10 30 = some FieldType.boolean := by decide +kernel
/-! isLE: ScriptFront$Tape.isLineEnd(I)Z -/
theorem am_FisLE : am_co 11 = 1 ∧ am_mL 11 = 1 ∧ am_in 11 = false := by decide +kernel
theorem am_qisLE_0 : am_pk 11 0 = some (.iload_n 0) := by decide +kernel
theorem am_qisLE_1 : am_pk 11 1 = some (.bipush 10) := by decide +kernel
theorem am_qisLE_3 : am_pk 11 3 = some (.if_icmp .eq 9) := by decide +kernel
theorem am_qisLE_6 : am_pk 11 6 = some (.iload_n 0) := by decide +kernel
theorem am_qisLE_7 : am_pk 11 7 = some (.bipush 13) := by decide +kernel
theorem am_qisLE_9 : am_pk 11 9 = some (.if_icmp .ne 7) := by decide +kernel
theorem am_qisLE_12 : am_pk 11 12 = some (.iconst 1) := by decide +kernel
theorem am_qisLE_13 : am_pk 11 13 = some (.goto 4) := by decide +kernel
theorem am_qisLE_16 : am_pk 11 16 = some (.iconst 0) := by decide +kernel
theorem am_qisLE_17 : am_pr 11 17 = some FieldType.boolean := by decide +kernel
/-! put: ScriptFront$Tape.put(I)V -/
theorem am_Fput : am_co 12 = 1 ∧ am_mL 12 = 2 ∧ am_in 12 = false := by decide +kernel
theorem am_qput_0 : am_pk 12 0 = some (.aload_n 0) := by decide +kernel
theorem am_qput_1 : am_pk 12 1 = some (.getfield 15) := by decide +kernel
theorem am_qf1_15 : am_fl 1 15 = some (1, 1, .int, false) := by decide +kernel
theorem am_qput_4 : am_pk 12 4 = some (.ifCond .lt 34) := by decide +kernel
theorem am_qput_7 : am_pk 12 7 = some (.aload_n 0) := by decide +kernel
theorem am_qput_8 : am_pk 12 8 = some (.getfield 15) := by decide +kernel
theorem am_qput_11 : am_pk 12 11 = some (.sipush 480) := by decide +kernel
theorem am_qput_14 : am_pk 12 14 = some (.if_icmp .ge 24) := by decide +kernel
theorem am_qput_17 : am_pk 12 17 = some (.aload_n 0) := by decide +kernel
theorem am_qput_18 : am_pk 12 18 = some (.getfield 9) := by decide +kernel
theorem am_qf1_9 : am_fl 1 9 = some (1, 0, .array (.char), true) := by decide +kernel
theorem am_qput_21 : am_pk 12 21 = some (.aload_n 0) := by decide +kernel
theorem am_qput_22 : am_pk 12 22 = some (.getfield 15) := by decide +kernel
theorem am_qput_25 : am_pk 12 25 = some (.iload_n 1) := by decide +kernel
theorem am_qput_26 : am_pk 12 26 = some (.i2c) := by decide +kernel
theorem am_qput_27 : am_pk 12 27 = some (.castore) := by decide +kernel
theorem am_qput_28 : am_pk 12 28 = some (.aload_n 0) := by decide +kernel
theorem am_qput_29 : am_pk 12 29 = some (.dup) := by decide +kernel
theorem am_qput_30 : am_pk 12 30 = some (.getfield 15) := by decide +kernel
theorem am_qput_33 : am_pk 12 33 = some (.iconst 1) := by decide +kernel
theorem am_qput_34 : am_pk 12 34 = some (.iadd) := by decide +kernel
theorem am_qput_35 : am_pk 12 35 = some (.putfield 15) := by decide +kernel
theorem am_qput_38 : am_pv 12 38 = true := by decide +kernel
/-! Flt: ScriptFront.fault(I)I -/
theorem am_FFlt : am_co 13 = 0 ∧ am_mL 13 = 2 ∧ am_in 13 = false := by decide +kernel
theorem am_qFlt_0 : am_pk 13 0 = some (.iload_n 1) := by decide +kernel
theorem am_qFlt_1 : am_pk 13 1 = some (.tableswitch 51 0 2 #[27, 35, 43]) := by decide +kernel
theorem am_qFlt_28 : am_pk 13 28 = some (.aload_n 0) := by decide +kernel
theorem am_qFlt_29 : am_pk 13 29 = some (.getfield 19) := by decide +kernel
theorem am_qf0_19 : am_fl 0 19 = some (0, 1, .object "ScriptFront$Flaw", true) := by decide +kernel
theorem am_qFlt_32 : am_pk 13 32 = some (.getfield 114) := by decide +kernel
theorem am_qf0_114 : am_fl 0 114 = some (2, 0, .int, false) := by decide +kernel
theorem am_qFlt_35 : am_pr 13 35 = some FieldType.int := by decide +kernel
theorem am_qFlt_36 : am_pk 13 36 = some (.aload_n 0) := by decide +kernel
theorem am_qFlt_37 : am_pk 13 37 = some (.getfield 19) := by decide +kernel
theorem am_qFlt_40 : am_pk 13 40 = some (.getfield 117) := by decide +kernel
theorem am_qf0_117 : am_fl 0 117 = some (2, 1, .int, false) := by decide +kernel
theorem am_qFlt_43 : am_pr 13 43 = some FieldType.int := by decide +kernel
theorem am_qFlt_44 : am_pk 13 44 = some (.aload_n 0) := by decide +kernel
theorem am_qFlt_45 : am_pk 13 45 = some (.getfield 19) := by decide +kernel
theorem am_qFlt_48 : am_pk 13 48 = some (.getfield 99) := by decide +kernel
theorem am_qf0_99 : am_fl 0 99 = some (2, 2, .int, false) := by decide +kernel
theorem am_qFlt_51 : am_pr 13 51 = some FieldType.int := by decide +kernel
theorem am_qFlt_52 : am_pk 13 52 = some (.iconst (-1)) := by decide +kernel
theorem am_qFlt_53 : am_pr 13 53 = some FieldType.int := by decide +kernel
/-! Mny: ScriptFront.many(I)I -/
theorem am_FMny : am_co 14 = 0 ∧ am_mL 14 = 4 ∧ am_in 14 = false := by decide +kernel
theorem am_qMny_0 : am_pk 14 0 = some (.iconst 0) := by decide +kernel
theorem am_qMny_1 : am_pk 14 1 = some (.istore_n 2) := by decide +kernel
theorem am_qMny_2 : am_pk 14 2 = some (.iconst 0) := by decide +kernel
theorem am_qMny_3 : am_pk 14 3 = some (.istore_n 3) := by decide +kernel
theorem am_qMny_4 : am_pk 14 4 = some (.iload_n 3) := by decide +kernel
theorem am_qMny_5 : am_pk 14 5 = some (.aload_n 0) := by decide +kernel
theorem am_qMny_6 : am_pk 14 6 = some (.getfield 49) := by decide +kernel
theorem am_qf0_49 : am_fl 0 49 = some (0, 6, .object "ScriptFront$Tree", false) := by decide +kernel
theorem am_qMny_9 : am_pk 14 9 = some (.getfield 111) := by decide +kernel
theorem am_qf0_111 : am_fl 0 111 = some (6, 8, .int, false) := by decide +kernel
theorem am_qMny_12 : am_pk 14 12 = some (.if_icmp .ge 24) := by decide +kernel
theorem am_qMny_15 : am_pk 14 15 = some (.aload_n 0) := by decide +kernel
theorem am_qMny_16 : am_pk 14 16 = some (.getfield 49) := by decide +kernel
theorem am_qMny_19 : am_pk 14 19 = some (.iload_n 3) := by decide +kernel
theorem am_qMny_20 : am_pq 14 20 = some (0, 15, 1, 6) := by decide +kernel
theorem am_qMny_23 : am_pk 14 23 = some (.iload_n 1) := by decide +kernel
theorem am_qMny_24 : am_pk 14 24 = some (.if_icmp .ne 6) := by decide +kernel
theorem am_qMny_27 : am_pk 14 27 = some (.iinc 2 1) := by decide +kernel
theorem am_qMny_30 : am_pk 14 30 = some (.iinc 3 1) := by decide +kernel
theorem am_qMny_33 : am_pk 14 33 = some (.goto (-29)) := by decide +kernel
theorem am_qMny_36 : am_pk 14 36 = some (.iload_n 2) := by decide +kernel
theorem am_qMny_37 : am_pr 14 37 = some FieldType.int := by decide +kernel
/-! Prt: ScriptFront.printed(I)I -/
theorem am_FPrt : am_co 17 = 0 ∧ am_mL 17 = 2 ∧ am_in 17 = false := by decide +kernel
theorem am_qPrt_0 : am_pk 17 0 = some (.iload_n 1) := by decide +kernel
theorem am_qPrt_1 : am_pk 17 1 = some (.iconst (-1)) := by decide +kernel
theorem am_qPrt_2 : am_pk 17 2 = some (.if_icmp .ne 13) := by decide +kernel
theorem am_qPrt_5 : am_pk 17 5 = some (.aload_n 0) := by decide +kernel
theorem am_qPrt_6 : am_pk 17 6 = some (.getfield 70) := by decide +kernel
theorem am_qf0_70 : am_fl 0 70 = some (0, 5, .object "ScriptFront$Printer", true) := by decide +kernel
theorem am_qPrt_9 : am_pk 17 9 = some (.getfield 148) := by decide +kernel
theorem am_qf0_148 : am_fl 0 148 = some (8, 6, .int, false) := by decide +kernel
theorem am_qPrt_12 : am_pk 17 12 = some (.goto 11) := by decide +kernel
theorem am_qPrt_15 : am_pk 17 15 = some (.aload_n 0) := by decide +kernel
theorem am_qPrt_16 : am_pk 17 16 = some (.getfield 70) := by decide +kernel
theorem am_qPrt_19 : am_pk 17 19 = some (.iload_n 1) := by decide +kernel
theorem am_qPrt_20 : am_pq 17 20 = some (0, 18, 1, 8) := by decide +kernel
theorem am_qPrt_23 : am_pr 17 23 = some FieldType.int := by decide +kernel
/-! pAt: ScriptFront$Printer.at(I)I -/
theorem am_FpAt : am_co 18 = 8 ∧ am_mL 18 = 2 ∧ am_in 18 = false := by decide +kernel
theorem am_qpAt_0 : am_pk 18 0 = some (.iload_n 1) := by decide +kernel
theorem am_qpAt_1 : am_pk 18 1 = some (.ifCond .lt 18) := by decide +kernel
theorem am_qpAt_4 : am_pk 18 4 = some (.iload_n 1) := by decide +kernel
theorem am_qpAt_5 : am_pk 18 5 = some (.aload_n 0) := by decide +kernel
theorem am_qpAt_6 : am_pk 18 6 = some (.getfield 30) := by decide +kernel
theorem am_qf8_30 : am_fl 8 30 = some (8, 6, .int, false) := by decide +kernel
theorem am_qpAt_9 : am_pk 18 9 = some (.if_icmp .ge 10) := by decide +kernel
theorem am_qpAt_12 : am_pk 18 12 = some (.iload_n 1) := by decide +kernel
theorem am_qpAt_13 : am_pk 18 13 = some (.sipush 1024) := by decide +kernel
theorem am_qpAt_16 : am_pk 18 16 = some (.if_icmp .lt 7) := by decide +kernel
theorem am_qpAt_19 : am_pk 18 19 = some (.iconst (-1)) := by decide +kernel
theorem am_qpAt_20 : am_pk 18 20 = some (.goto 9) := by decide +kernel
theorem am_qpAt_23 : am_pk 18 23 = some (.aload_n 0) := by decide +kernel
theorem am_qpAt_24 : am_pk 18 24 = some (.getfield 11) := by decide +kernel
theorem am_qf8_11 : am_fl 8 11 = some (8, 1, .array (.char), true) := by decide +kernel
theorem am_qpAt_27 : am_pk 18 27 = some (.iload_n 1) := by decide +kernel
theorem am_qpAt_28 : am_pk 18 28 = some (.caload) := by decide +kernel
theorem am_qpAt_29 : am_pr 18 29 = some FieldType.int := by decide +kernel
/-! Nod: ScriptFront.node(II)I -/
theorem am_FNod : am_co 169 = 0 ∧ am_mL 169 = 3 ∧ am_in 169 = false := by decide +kernel
theorem am_qNod_0 : am_pk 169 0 = some (.iload_n 1) := by decide +kernel
theorem am_qNod_1 : am_pk 169 1 = some (.ifCond .lt 14) := by decide +kernel
theorem am_qNod_4 : am_pk 169 4 = some (.iload_n 1) := by decide +kernel
theorem am_qNod_5 : am_pk 169 5 = some (.aload_n 0) := by decide +kernel
theorem am_qNod_6 : am_pk 169 6 = some (.getfield 49) := by decide +kernel
theorem am_qNod_9 : am_pk 169 9 = some (.getfield 111) := by decide +kernel
theorem am_qNod_12 : am_pk 169 12 = some (.if_icmp .lt 13) := by decide +kernel
theorem am_qNod_15 : am_thr 169 15 = some 1 := by decide +kernel
theorem am_qNod_25 : am_pk 169 25 = some (.iload_n 2) := by decide +kernel
theorem am_qNod_26 : am_pk 169 26 = some (.tableswitch 100 0 5 #[38, 47, 56, 65, 74, 83]) := by decide +kernel
theorem am_qNod_64 : am_pk 169 64 = some (.aload_n 0) := by decide +kernel
theorem am_qNod_65 : am_pk 169 65 = some (.getfield 49) := by decide +kernel
theorem am_qNod_68 : am_pk 169 68 = some (.iload_n 1) := by decide +kernel
theorem am_qNod_69 : am_pq 169 69 = some (0, 15, 1, 6) := by decide +kernel
theorem am_qNod_72 : am_pr 169 72 = some FieldType.int := by decide +kernel
theorem am_qNod_73 : am_pk 169 73 = some (.aload_n 0) := by decide +kernel
theorem am_qNod_74 : am_pk 169 74 = some (.getfield 49) := by decide +kernel
theorem am_qNod_77 : am_pk 169 77 = some (.iload_n 1) := by decide +kernel
theorem am_qNod_78 : am_pq 169 78 = some (0, 120, 1, 6) := by decide +kernel
theorem am_qNod_81 : am_pr 169 81 = some FieldType.int := by decide +kernel
theorem am_qNod_82 : am_pk 169 82 = some (.aload_n 0) := by decide +kernel
theorem am_qNod_83 : am_pk 169 83 = some (.getfield 49) := by decide +kernel
theorem am_qNod_86 : am_pk 169 86 = some (.iload_n 1) := by decide +kernel
theorem am_qNod_87 : am_pq 169 87 = some (0, 121, 1, 6) := by decide +kernel
theorem am_qNod_90 : am_pr 169 90 = some FieldType.int := by decide +kernel
theorem am_qNod_91 : am_pk 169 91 = some (.aload_n 0) := by decide +kernel
theorem am_qNod_92 : am_pk 169 92 = some (.getfield 49) := by decide +kernel
theorem am_qNod_95 : am_pk 169 95 = some (.iload_n 1) := by decide +kernel
theorem am_qNod_96 : am_pq 169 96 = some (0, 124, 1, 6) := by decide +kernel
theorem am_qNod_99 : am_pr 169 99 = some FieldType.int := by decide +kernel
theorem am_qNod_100 : am_pk 169 100 = some (.aload_n 0) := by decide +kernel
theorem am_qNod_101 : am_pk 169 101 = some (.getfield 49) := by decide +kernel
theorem am_qNod_104 : am_pk 169 104 = some (.iload_n 1) := by decide +kernel
theorem am_qNod_105 : am_pq 169 105 = some (0, 117, 1, 6) := by decide +kernel
theorem am_qNod_108 : am_pr 169 108 = some FieldType.int := by decide +kernel
theorem am_qNod_109 : am_pk 169 109 = some (.aload_n 0) := by decide +kernel
theorem am_qNod_110 : am_pk 169 110 = some (.getfield 49) := by decide +kernel
theorem am_qNod_113 : am_pk 169 113 = some (.iload_n 1) := by decide +kernel
theorem am_qNod_114 : am_pq 169 114 = some (0, 123, 1, 6) := by decide +kernel
theorem am_qNod_117 : am_pk 169 117 = some (.ifCond .eq 7) := by decide +kernel
theorem am_qNod_120 : am_pk 169 120 = some (.iconst 1) := by decide +kernel
theorem am_qNod_121 : am_pk 169 121 = some (.goto 4) := by decide +kernel
theorem am_qNod_124 : am_pk 169 124 = some (.iconst 0) := by decide +kernel
theorem am_qNod_125 : am_pr 169 125 = some FieldType.int := by decide +kernel
theorem am_qNod_126 : am_thr 169 126 = some 1 := by decide +kernel
/-! Thr: ScriptFrontModel.thrown()I -/
theorem am_FThr : am_co 171 = 9 ∧ am_mL 171 = 1 ∧ am_in 171 = false := by decide +kernel
theorem am_qThr_0 : am_pk 171 0 = some (.aload_n 0) := by decide +kernel
theorem am_qThr_1 : am_pk 171 1 = some (.getfield 167) := by decide +kernel
theorem am_qf9_167 : am_fl 9 167 = some (9, 3, .int, false) := by decide +kernel
theorem am_qThr_4 : am_pr 171 4 = some FieldType.int := by decide +kernel
/-! MTyp: ScriptFrontModel.type(JI)Z -/
theorem am_FMTyp : am_co 172 = 9 ∧ am_mL 172 = 6 ∧ am_in 172 = false := by decide +kernel
theorem am_qMTyp_0 : am_pk 172 0 = some (.aload_n 0) := by decide +kernel
theorem am_qMTyp_1 : am_pk 172 1 = some (.iconst 0) := by decide +kernel
theorem am_qMTyp_2 : am_pk 172 2 = some (.putfield 167) := by decide +kernel
theorem am_qMTyp_5 : am_pk 172 5 = some (.iload_n 3) := by decide +kernel
theorem am_qMTyp_6 : am_pk 172 6 = some (.iconst 1) := by decide +kernel
theorem am_qMTyp_7 : am_pk 172 7 = some (.if_icmp .lt 21) := by decide +kernel
theorem am_qMTyp_10 : am_pk 172 10 = some (.iload_n 3) := by decide +kernel
theorem am_qMTyp_11 : am_pk 172 11 = some (.bipush 8) := by decide +kernel
theorem am_qMTyp_13 : am_pk 172 13 = some (.if_icmp .gt 15) := by decide +kernel
theorem am_qMTyp_16 : am_pk 172 16 = some (.aload_n 0) := by decide +kernel
theorem am_qMTyp_17 : am_pk 172 17 = some (.getfield 170) := by decide +kernel
theorem am_qf9_170 : am_fl 9 170 = some (9, 6, .int, false) := by decide +kernel
theorem am_qMTyp_20 : am_pk 172 20 = some (.iload_n 3) := by decide +kernel
theorem am_qMTyp_21 : am_pk 172 21 = some (.iadd) := by decide +kernel
theorem am_qMTyp_22 : am_pk 172 22 = some (.sipush 480) := by decide +kernel
theorem am_qMTyp_25 : am_pk 172 25 = some (.if_icmp .le 5) := by decide +kernel
theorem am_qMTyp_28 : am_pk 172 28 = some (.iconst 0) := by decide +kernel
theorem am_qMTyp_29 : am_pr 172 29 = some FieldType.boolean := by decide +kernel
theorem am_qMTyp_30 : am_pk 172 30 = some (.iload_n 3) := by decide +kernel
theorem am_qMTyp_31 : am_pk 172 31 = some (.iconst 1) := by decide +kernel
theorem am_qMTyp_32 : am_pk 172 32 = some (.isub) := by decide +kernel
theorem am_qMTyp_33 : am_pk 172 33 = some (.istore 4) := by decide +kernel
theorem am_qMTyp_35 : am_pk 172 35 = some (.iload 4) := by decide +kernel
theorem am_qMTyp_37 : am_pk 172 37 = some (.ifCond .lt 47) := by decide +kernel
theorem am_qMTyp_40 : am_pk 172 40 = some (.lload_n 1) := by decide +kernel
theorem am_qMTyp_41 : am_pk 172 41 = some (.bipush 8) := by decide +kernel
theorem am_qMTyp_43 : am_pk 172 43 = some (.iload 4) := by decide +kernel
theorem am_qMTyp_45 : am_pk 172 45 = some (.imul) := by decide +kernel
theorem am_qMTyp_46 : am_pk 172 46 = some (.lshr) := by decide +kernel
theorem am_qMTyp_47 : am_pk 172 47 = some (.ldc2_w 173) := by decide +kernel
theorem am_qMTyp_50 : am_pk 172 50 = some (.land) := by decide +kernel
theorem am_qMTyp_51 : am_pk 172 51 = some (.l2i) := by decide +kernel
theorem am_qMTyp_52 : am_pk 172 52 = some (.istore 5) := by decide +kernel
theorem am_qMTyp_54 : am_pk 172 54 = some (.iload 5) := by decide +kernel
theorem am_qMTyp_56 : am_pq 172 56 = some (1, 173, 1, 9) := by decide +kernel
theorem am_qMTyp_59 : am_pk 172 59 = some (.ifCond .ne 19) := by decide +kernel
theorem am_qMTyp_62 : am_pk 172 62 = some (.iload 5) := by decide +kernel
theorem am_qMTyp_64 : am_pk 172 64 = some (.bipush 32) := by decide +kernel
theorem am_qMTyp_66 : am_pk 172 66 = some (.if_icmp .lt 10) := by decide +kernel
theorem am_qMTyp_69 : am_pk 172 69 = some (.iload 5) := by decide +kernel
theorem am_qMTyp_71 : am_pk 172 71 = some (.bipush 126) := by decide +kernel
theorem am_qMTyp_73 : am_pk 172 73 = some (.if_icmp .le 5) := by decide +kernel
theorem am_qMTyp_76 : am_pk 172 76 = some (.iconst 0) := by decide +kernel
theorem am_qMTyp_77 : am_pr 172 77 = some FieldType.boolean := by decide +kernel
theorem am_qMTyp_78 : am_pk 172 78 = some (.iinc 4 (-1)) := by decide +kernel
theorem am_qMTyp_81 : am_pk 172 81 = some (.goto (-46)) := by decide +kernel
theorem am_qMTyp_84 : am_pk 172 84 = some (.iload_n 3) := by decide +kernel
theorem am_qMTyp_85 : am_pk 172 85 = some (.iconst 1) := by decide +kernel
theorem am_qMTyp_86 : am_pk 172 86 = some (.isub) := by decide +kernel
theorem am_qMTyp_87 : am_pk 172 87 = some (.istore 4) := by decide +kernel
theorem am_qMTyp_89 : am_pk 172 89 = some (.iload 4) := by decide +kernel
theorem am_qMTyp_91 : am_pk 172 91 = some (.ifCond .lt 41) := by decide +kernel
theorem am_qMTyp_94 : am_pk 172 94 = some (.aload_n 0) := by decide +kernel
theorem am_qMTyp_95 : am_pk 172 95 = some (.getfield 80) := by decide +kernel
theorem am_qf9_80 : am_fl 9 80 = some (9, 4, .array (.byte), true) := by decide +kernel
theorem am_qMTyp_98 : am_pk 172 98 = some (.aload_n 0) := by decide +kernel
theorem am_qMTyp_99 : am_pk 172 99 = some (.getfield 170) := by decide +kernel
theorem am_qMTyp_102 : am_pk 172 102 = some (.lload_n 1) := by decide +kernel
theorem am_qMTyp_103 : am_pk 172 103 = some (.bipush 8) := by decide +kernel
theorem am_qMTyp_105 : am_pk 172 105 = some (.iload 4) := by decide +kernel
theorem am_qMTyp_107 : am_pk 172 107 = some (.imul) := by decide +kernel
theorem am_qMTyp_108 : am_pk 172 108 = some (.lshr) := by decide +kernel
theorem am_qMTyp_109 : am_pk 172 109 = some (.ldc2_w 173) := by decide +kernel
theorem am_qMTyp_112 : am_pk 172 112 = some (.land) := by decide +kernel
theorem am_qMTyp_113 : am_pk 172 113 = some (.l2i) := by decide +kernel
theorem am_qMTyp_114 : am_pk 172 114 = some (.i2b) := by decide +kernel
theorem am_qMTyp_115 : am_pk 172 115 = some (.bastore) := by decide +kernel
theorem am_qMTyp_116 : am_pk 172 116 = some (.aload_n 0) := by decide +kernel
theorem am_qMTyp_117 : am_pk 172 117 = some (.dup) := by decide +kernel
theorem am_qMTyp_118 : am_pk 172 118 = some (.getfield 170) := by decide +kernel
theorem am_qMTyp_121 : am_pk 172 121 = some (.iconst 1) := by decide +kernel
theorem am_qMTyp_122 : am_pk 172 122 = some (.iadd) := by decide +kernel
theorem am_qMTyp_123 : am_pk 172 123 = some (.putfield 170) := by decide +kernel
theorem am_qMTyp_126 : am_pk 172 126 = some (.iinc 4 (-1)) := by decide +kernel
theorem am_qMTyp_129 : am_pk 172 129 = some (.goto (-40)) := by decide +kernel
theorem am_qMTyp_132 : am_pk 172 132 = some (.iconst 1) := by decide +kernel
theorem am_qMTyp_133 : am_pr 172 133 = some FieldType.boolean := by decide +kernel
/-! MBl: ScriptFrontModel.isBlank(I)Z -/
theorem am_FMBl : am_co 173 = 9 ∧ am_mL 173 = 1 ∧ am_in 173 = false := by decide +kernel
theorem am_qMBl_0 : am_pk 173 0 = some (.iload_n 0) := by decide +kernel
theorem am_qMBl_1 : am_pk 173 1 = some (.bipush 9) := by decide +kernel
theorem am_qMBl_3 : am_pk 173 3 = some (.if_icmp .eq 21) := by decide +kernel
theorem am_qMBl_6 : am_pk 173 6 = some (.iload_n 0) := by decide +kernel
theorem am_qMBl_7 : am_pk 173 7 = some (.bipush 10) := by decide +kernel
theorem am_qMBl_9 : am_pk 173 9 = some (.if_icmp .eq 15) := by decide +kernel
theorem am_qMBl_12 : am_pk 173 12 = some (.iload_n 0) := by decide +kernel
theorem am_qMBl_13 : am_pk 173 13 = some (.bipush 13) := by decide +kernel
theorem am_qMBl_15 : am_pk 173 15 = some (.if_icmp .eq 9) := by decide +kernel
theorem am_qMBl_18 : am_pk 173 18 = some (.iload_n 0) := by decide +kernel
theorem am_qMBl_19 : am_pk 173 19 = some (.bipush 32) := by decide +kernel
theorem am_qMBl_21 : am_pk 173 21 = some (.if_icmp .ne 7) := by decide +kernel
theorem am_qMBl_24 : am_pk 173 24 = some (.iconst 1) := by decide +kernel
theorem am_qMBl_25 : am_pk 173 25 = some (.goto 4) := by decide +kernel
theorem am_qMBl_28 : am_pk 173 28 = some (.iconst 0) := by decide +kernel
theorem am_qMBl_29 : am_pr 173 29 = some FieldType.boolean := by decide +kernel
/-! MFlt: ScriptFrontModel.fault(I)I -/
theorem am_FMFlt : am_co 296 = 9 ∧ am_mL 296 = 2 ∧ am_in 296 = false := by decide +kernel
theorem am_qMFlt_0 : am_pk 296 0 = some (.aload_n 0) := by decide +kernel
theorem am_qMFlt_1 : am_pk 296 1 = some (.iconst 0) := by decide +kernel
theorem am_qMFlt_2 : am_pk 296 2 = some (.putfield 167) := by decide +kernel
theorem am_qMFlt_5 : am_pk 296 5 = some (.iload_n 1) := by decide +kernel
theorem am_qMFlt_6 : am_pk 296 6 = some (.ifCond .ne 10) := by decide +kernel
theorem am_qMFlt_9 : am_pk 296 9 = some (.aload_n 0) := by decide +kernel
theorem am_qMFlt_10 : am_pk 296 10 = some (.getfield 188) := by decide +kernel
theorem am_qf9_188 : am_fl 9 188 = some (9, 8, .int, false) := by decide +kernel
theorem am_qMFlt_13 : am_pk 296 13 = some (.goto 28) := by decide +kernel
theorem am_qMFlt_16 : am_pk 296 16 = some (.iload_n 1) := by decide +kernel
theorem am_qMFlt_17 : am_pk 296 17 = some (.iconst 1) := by decide +kernel
theorem am_qMFlt_18 : am_pk 296 18 = some (.if_icmp .ne 10) := by decide +kernel
theorem am_qMFlt_21 : am_pk 296 21 = some (.aload_n 0) := by decide +kernel
theorem am_qMFlt_22 : am_pk 296 22 = some (.getfield 87) := by decide +kernel
theorem am_qf9_87 : am_fl 9 87 = some (9, 9, .int, false) := by decide +kernel
theorem am_qMFlt_25 : am_pk 296 25 = some (.goto 16) := by decide +kernel
theorem am_qMFlt_28 : am_pk 296 28 = some (.iload_n 1) := by decide +kernel
theorem am_qMFlt_29 : am_pk 296 29 = some (.iconst 2) := by decide +kernel
theorem am_qMFlt_30 : am_pk 296 30 = some (.if_icmp .ne 10) := by decide +kernel
theorem am_qMFlt_33 : am_pk 296 33 = some (.aload_n 0) := by decide +kernel
theorem am_qMFlt_34 : am_pk 296 34 = some (.getfield 328) := by decide +kernel
theorem am_qf9_328 : am_fl 9 328 = some (9, 10, .int, false) := by decide +kernel
theorem am_qMFlt_37 : am_pk 296 37 = some (.goto 4) := by decide +kernel
theorem am_qMFlt_40 : am_pk 296 40 = some (.iconst (-1)) := by decide +kernel
theorem am_qMFlt_41 : am_pr 296 41 = some FieldType.int := by decide +kernel
/-! MNod: ScriptFrontModel.node(II)I -/
theorem am_FMNod : am_co 297 = 9 ∧ am_mL 297 = 3 ∧ am_in 297 = false := by decide +kernel
theorem am_qMNod_0 : am_pk 297 0 = some (.aload_n 0) := by decide +kernel
theorem am_qMNod_1 : am_pk 297 1 = some (.iload_n 1) := by decide +kernel
theorem am_qMNod_2 : am_pk 297 2 = some (.ifCond .lt 20) := by decide +kernel
theorem am_qMNod_5 : am_pk 297 5 = some (.iload_n 1) := by decide +kernel
theorem am_qMNod_6 : am_pk 297 6 = some (.aload_n 0) := by decide +kernel
theorem am_qMNod_7 : am_pk 297 7 = some (.getfield 623) := by decide +kernel
theorem am_qf9_623 : am_fl 9 623 = some (9, 43, .int, false) := by decide +kernel
theorem am_qMNod_10 : am_pk 297 10 = some (.if_icmp .ge 12) := by decide +kernel
theorem am_qMNod_13 : am_pk 297 13 = some (.iload_n 2) := by decide +kernel
theorem am_qMNod_14 : am_pk 297 14 = some (.ifCond .lt 8) := by decide +kernel
theorem am_qMNod_17 : am_pk 297 17 = some (.iload_n 2) := by decide +kernel
theorem am_qMNod_18 : am_pk 297 18 = some (.iconst 5) := by decide +kernel
theorem am_qMNod_19 : am_pk 297 19 = some (.if_icmp .le 7) := by decide +kernel
theorem am_qMNod_22 : am_pk 297 22 = some (.iconst 1) := by decide +kernel
theorem am_qMNod_23 : am_pk 297 23 = some (.goto 4) := by decide +kernel
theorem am_qMNod_26 : am_pk 297 26 = some (.iconst 0) := by decide +kernel
theorem am_qMNod_27 : am_pk 297 27 = some (.putfield 167) := by decide +kernel
theorem am_qMNod_30 : am_pk 297 30 = some (.aload_n 0) := by decide +kernel
theorem am_qMNod_31 : am_pk 297 31 = some (.getfield 167) := by decide +kernel
theorem am_qMNod_34 : am_pk 297 34 = some (.ifCond .le 7) := by decide +kernel
theorem am_qMNod_37 : am_pk 297 37 = some (.iconst 0) := by decide +kernel
theorem am_qMNod_38 : am_pk 297 38 = some (.goto 14) := by decide +kernel
theorem am_qMNod_41 : am_pk 297 41 = some (.aload_n 0) := by decide +kernel
theorem am_qMNod_42 : am_pk 297 42 = some (.getfield 152) := by decide +kernel
theorem am_qf9_152 : am_fl 9 152 = some (9, 46, .array (.int), true) := by decide +kernel
theorem am_qMNod_45 : am_pk 297 45 = some (.bipush 6) := by decide +kernel
theorem am_qMNod_47 : am_pk 297 47 = some (.iload_n 1) := by decide +kernel
theorem am_qMNod_48 : am_pk 297 48 = some (.imul) := by decide +kernel
theorem am_qMNod_49 : am_pk 297 49 = some (.iload_n 2) := by decide +kernel
theorem am_qMNod_50 : am_pk 297 50 = some (.iadd) := by decide +kernel
theorem am_qMNod_51 : am_pk 297 51 = some (.iaload) := by decide +kernel
theorem am_qMNod_52 : am_pr 297 52 = some FieldType.int := by decide +kernel
/-! MMny: ScriptFrontModel.many(I)I -/
theorem am_FMMny : am_co 298 = 9 ∧ am_mL 298 = 4 ∧ am_in 298 = false := by decide +kernel
theorem am_qMMny_0 : am_pk 298 0 = some (.aload_n 0) := by decide +kernel
theorem am_qMMny_1 : am_pk 298 1 = some (.iconst 0) := by decide +kernel
theorem am_qMMny_2 : am_pk 298 2 = some (.putfield 167) := by decide +kernel
theorem am_qMMny_5 : am_pk 298 5 = some (.iconst 0) := by decide +kernel
theorem am_qMMny_6 : am_pk 298 6 = some (.istore_n 2) := by decide +kernel
theorem am_qMMny_7 : am_pk 298 7 = some (.iconst 0) := by decide +kernel
theorem am_qMMny_8 : am_pk 298 8 = some (.istore_n 3) := by decide +kernel
theorem am_qMMny_9 : am_pk 298 9 = some (.iload_n 3) := by decide +kernel
theorem am_qMMny_10 : am_pk 298 10 = some (.aload_n 0) := by decide +kernel
theorem am_qMMny_11 : am_pk 298 11 = some (.getfield 623) := by decide +kernel
theorem am_qMMny_14 : am_pk 298 14 = some (.if_icmp .ge 30) := by decide +kernel
theorem am_qMMny_17 : am_pk 298 17 = some (.aload_n 0) := by decide +kernel
theorem am_qMMny_18 : am_pk 298 18 = some (.getfield 152) := by decide +kernel
theorem am_qMMny_21 : am_pk 298 21 = some (.bipush 6) := by decide +kernel
theorem am_qMMny_23 : am_pk 298 23 = some (.iload_n 3) := by decide +kernel
theorem am_qMMny_24 : am_pk 298 24 = some (.imul) := by decide +kernel
theorem am_qMMny_25 : am_pk 298 25 = some (.iaload) := by decide +kernel
theorem am_qMMny_26 : am_pk 298 26 = some (.iload_n 1) := by decide +kernel
theorem am_qMMny_27 : am_pk 298 27 = some (.if_icmp .ne 9) := by decide +kernel
theorem am_qMMny_30 : am_pk 298 30 = some (.iload_n 2) := by decide +kernel
theorem am_qMMny_31 : am_pk 298 31 = some (.iconst 1) := by decide +kernel
theorem am_qMMny_32 : am_pk 298 32 = some (.iadd) := by decide +kernel
theorem am_qMMny_33 : am_pk 298 33 = some (.goto 4) := by decide +kernel
theorem am_qMMny_36 : am_pk 298 36 = some (.iload_n 2) := by decide +kernel
theorem am_qMMny_37 : am_pk 298 37 = some (.istore_n 2) := by decide +kernel
theorem am_qMMny_38 : am_pk 298 38 = some (.iinc 3 1) := by decide +kernel
theorem am_qMMny_41 : am_pk 298 41 = some (.goto (-32)) := by decide +kernel
theorem am_qMMny_44 : am_pk 298 44 = some (.iload_n 2) := by decide +kernel
theorem am_qMMny_45 : am_pr 298 45 = some FieldType.int := by decide +kernel
/-! MPrt: ScriptFrontModel.printed(I)I -/
theorem am_FMPrt : am_co 299 = 9 ∧ am_mL 299 = 2 ∧ am_in 299 = false := by decide +kernel
theorem am_qMPrt_0 : am_pk 299 0 = some (.aload_n 0) := by decide +kernel
theorem am_qMPrt_1 : am_pk 299 1 = some (.iconst 0) := by decide +kernel
theorem am_qMPrt_2 : am_pk 299 2 = some (.putfield 167) := by decide +kernel
theorem am_qMPrt_5 : am_pk 299 5 = some (.iload_n 1) := by decide +kernel
theorem am_qMPrt_6 : am_pk 299 6 = some (.iconst (-1)) := by decide +kernel
theorem am_qMPrt_7 : am_pk 299 7 = some (.if_icmp .ne 10) := by decide +kernel
theorem am_qMPrt_10 : am_pk 299 10 = some (.aload_n 0) := by decide +kernel
theorem am_qMPrt_11 : am_pk 299 11 = some (.getfield 518) := by decide +kernel
theorem am_qf9_518 : am_fl 9 518 = some (9, 48, .int, false) := by decide +kernel
theorem am_qMPrt_14 : am_pk 299 14 = some (.goto 25) := by decide +kernel
theorem am_qMPrt_17 : am_pk 299 17 = some (.iload_n 1) := by decide +kernel
theorem am_qMPrt_18 : am_pk 299 18 = some (.ifCond .lt 20) := by decide +kernel
theorem am_qMPrt_21 : am_pk 299 21 = some (.iload_n 1) := by decide +kernel
theorem am_qMPrt_22 : am_pk 299 22 = some (.aload_n 0) := by decide +kernel
theorem am_qMPrt_23 : am_pk 299 23 = some (.getfield 518) := by decide +kernel
theorem am_qMPrt_26 : am_pk 299 26 = some (.if_icmp .ge 12) := by decide +kernel
theorem am_qMPrt_29 : am_pk 299 29 = some (.aload_n 0) := by decide +kernel
theorem am_qMPrt_30 : am_pk 299 30 = some (.getfield 155) := by decide +kernel
theorem am_qf9_155 : am_fl 9 155 = some (9, 47, .array (.byte), true) := by decide +kernel
theorem am_qMPrt_33 : am_pk 299 33 = some (.iload_n 1) := by decide +kernel
theorem am_qMPrt_34 : am_pk 299 34 = some (.baload) := by decide +kernel
theorem am_qMPrt_35 : am_pk 299 35 = some (.goto 4) := by decide +kernel
theorem am_qMPrt_38 : am_pk 299 38 = some (.iconst (-1)) := by decide +kernel
theorem am_qMPrt_39 : am_pr 299 39 = some FieldType.int := by decide +kernel
end
section
/-! ===== runs of the two sides' small methods ===== -/
section AM19
variable {y fuel d K pc : Nat} {lv : am_L} {st : List Value} {h : List va_E} {res : Option am_R}
theorem am_xj {off : Int} {t : Nat} (hp : am_pk y pc = some (.goto off)) (ht : am_to pc off = some t) (hn : am_go y fuel d K t lv st h res) : am_go y fuel d (K + 1) pc lv st h res := by
  refine am_x1 ⟨rfl, rfl, rfl⟩ hp ?_ hn
  show (am_to pc off).bind _ = _
  rw [ht]
  rfl
/-- a switch: outside, and at a number -/
theorem am_xo {dd lo hi : Int} {offs : Array Int} {x : Int32} {r : List Value} {t : Nat} (hp : am_pk y pc = some (.tableswitch dd lo hi offs)) (ho : (decide (x.toInt < lo) || decide (hi < x.toInt)) = true) (ht : am_to pc dd = some t) (hn : am_go y fuel d K t lv r h res) : am_go y fuel d (K + 1) pc lv (.int x :: r) h res := by
  refine am_x1 ⟨rfl, rfl, rfl⟩ hp ?_ hn
  show (am_to pc (if (decide (x.toInt < lo) || decide (hi < x.toInt)) = true then dd else _)).bind _ = _
  rw [if_pos ho, ht, Option.bind_some, if_pos]
  rw [ho]
  rfl
theorem am_xw {dd lo hi off : Int} {offs : Array Int} {x : Int32} {r : List Value} {t : Nat} (hp : am_pk y pc = some (.tableswitch dd lo hi offs)) (ho : (decide (x.toInt < lo) || decide (hi < x.toInt)) = false) (hf : offs[(x.toInt - lo).toNat]? = some off) (ht : am_to pc off = some t) (hn : am_go y fuel d K t lv r h res) : am_go y fuel d (K + 1) pc lv (.int x :: r) h res := by
  refine am_x1 ⟨rfl, rfl, rfl⟩ hp ?_ hn
  show (am_to pc (if (decide (x.toInt < lo) || decide (hi < x.toInt)) = true then dd else (offs[(x.toInt - lo).toNat]?).getD dd)).bind _ = _
  rw [ho, if_neg (by decide), hf, Option.getD_some, ht, Option.bind_some, if_pos]
  rfl
theorem am_at_set {a : Nat} {e e2 : va_E} (h1 : h[a]? = some e) : (h.set a e2)[a]? = some e2 := by
  rw [List.getElem?_set_self (List.getElem?_eq_some_iff.mp h1).1]
theorem am_at_other {a b : Nat} {e e2 : va_E} (h1 : h[b]? = some e) (hn : a ≠ b) : (h.set a e2)[b]? = some e := by
  rw [List.getElem?_set_ne hn]
  exact h1
theorem am_f_other {fs : List Value} {i j : Nat} {v w : Value} (h1 : fs[j]? = some v) (hn : i ≠ j) : (fs.set i w)[j]? = some v := by
  rw [List.getElem?_set_ne hn]
  exact h1
theorem am_f_set {fs : List Value} {i : Nat} {v w : Value} (h1 : fs[i]? = some v) : (fs.set i w)[i]? = some w := by
  rw [List.getElem?_set_self (List.getElem?_eq_some_iff.mp h1).1]
end AM19
def am_fv (n p s a : Int32) : Int32 := if a = 0 then n else if a = 1 then p else if a = 2 then s else -1
theorem am_fv_cases (n p s a : Int32) : (a = 0 ∧ am_fv n p s a = n) ∨ (a = 1 ∧ am_fv n p s a = p) ∨ (a = 2 ∧ am_fv n p s a = s) ∨ (a ≠ 0 ∧ a ≠ 1 ∧ a ≠ 2 ∧ am_fv n p s a = -1) := by
  unfold am_fv
  by_cases h0 : a = 0
  · exact Or.inl ⟨h0, if_pos h0⟩
  · by_cases h1 : a = 1
    · exact Or.inr (Or.inl ⟨h1, by rw [if_neg h0, if_pos h1]⟩)
    · by_cases h2 : a = 2
      · exact Or.inr (Or.inr (Or.inl ⟨h2, by rw [if_neg h0, if_neg h1, if_pos h2]⟩))
      · exact Or.inr (Or.inr (Or.inr ⟨h0, h1, h2, by rw [if_neg h0, if_neg h1, if_neg h2]⟩))
theorem am_out {a : Int32} {n : Nat} (hn : n < 1000) (h : ∀ k : Nat, k ≤ n → a ≠ Int32.ofNat k) : (decide (a.toInt < 0) || decide ((n : Int) < a.toInt)) = true := by
  rw [Bool.or_eq_true]
  by_cases h0 : a.toInt < 0
  · exact Or.inl (decide_eq_true h0)
  · by_cases h1 : (n : Int) < a.toInt
    · exact Or.inr (decide_eq_true h1)
    · exfalso
      refine h a.toInt.toNat (by omega) ?_
      apply Int32.toInt_inj.mp
      rw [Int32.toInt_ofNat_of_lt (by omega)]
      omega

theorem am_rFlt {d x a3 : Nat} {h : List va_E} {f0 : List Value} {n p s a : Int32} (h0 : h[x]? = some (.inr (0, f0))) (hf : f0[1]? = some (.ref a3)) (h3 : h[a3]? = some (.inr (2, [.int n, .int p, .int s]))) : am_all am_thr 3000 (d + 1) 13 [.ref x, .int a] h = some (.inl (some (.int (am_fv n p s a))), h, 0, 0) := by
  refine am_in_go (by rw [am_FFlt.2.1]; exact Nat.le_of_ble_eq_true rfl) ?_
  rcases am_fv_cases n p s a with ⟨rfl, e⟩ | ⟨rfl, e⟩ | ⟨rfl, e⟩ | ⟨n0, n1, n2, e⟩ <;> rw [e]
  · refine am_x1 am_FFlt am_qFlt_0 rfl ?_
    refine am_xw am_qFlt_1 (off := 27) (t := 28) (by decide) (by decide) (by decide) ?_
    refine am_x1 am_FFlt am_qFlt_28 rfl ?_
    refine am_xg am_FFlt am_qFlt_29 am_qf0_19 h0 hf ?_
    refine am_xg am_FFlt am_qFlt_32 am_qf0_114 h3 rfl ?_
    exact am_xr am_qFlt_35 rfl
  · refine am_x1 am_FFlt am_qFlt_0 rfl ?_
    refine am_xw am_qFlt_1 (off := 35) (t := 36) (by decide) (by decide) (by decide) ?_
    refine am_x1 am_FFlt am_qFlt_36 rfl ?_
    refine am_xg am_FFlt am_qFlt_37 am_qf0_19 h0 hf ?_
    refine am_xg am_FFlt am_qFlt_40 am_qf0_117 h3 rfl ?_
    exact am_xr am_qFlt_43 rfl
  · refine am_x1 am_FFlt am_qFlt_0 rfl ?_
    refine am_xw am_qFlt_1 (off := 43) (t := 44) (by decide) (by decide) (by decide) ?_
    refine am_x1 am_FFlt am_qFlt_44 rfl ?_
    refine am_xg am_FFlt am_qFlt_45 am_qf0_19 h0 hf ?_
    refine am_xg am_FFlt am_qFlt_48 am_qf0_99 h3 rfl ?_
    exact am_xr am_qFlt_51 rfl
  · refine am_x1 am_FFlt am_qFlt_0 rfl ?_
    refine am_xo am_qFlt_1 (t := 52) (am_out (n := 2) (by decide) (fun k hk => by
      match k, hk with
      | 0, _ => exact n0
      | 1, _ => exact n1
      | 2, _ => exact n2
      | k + 3, hk => omega)) (by decide) ?_
    refine am_x1 am_FFlt am_qFlt_52 rfl ?_
    exact am_xr am_qFlt_53 rfl

theorem am_ne_t {a b : Int32} (h : a ≠ b) : am_c .ne a b = true := decide_eq_true h
theorem am_rMFlt {d x : Nat} {h : List va_E} {f0 : List Value} {t n p s a : Int32} (h0 : h[x]? = some (.inr (9, f0))) (ht : f0[3]? = some (.int t)) (h8 : f0[8]? = some (.int n)) (h9 : f0[9]? = some (.int p)) (h10 : f0[10]? = some (.int s)) : am_all am_thr 3000 (d + 1) 296 [.ref x, .int a] h = some (.inl (some (.int (am_fv n p s a))), h.set x (.inr (9, f0.set 3 (.int 0))), 0, 0) := by
  refine am_in_go (by rw [am_FMFlt.2.1]; exact Nat.le_of_ble_eq_true rfl) ?_
  rcases am_fv_cases n p s a with ⟨rfl, e⟩ | ⟨rfl, e⟩ | ⟨rfl, e⟩ | ⟨n0, n1, n2, e⟩ <;> rw [e]
  · refine am_x1 am_FMFlt am_qMFlt_0 rfl ?_
    refine am_x1 am_FMFlt am_qMFlt_1 rfl ?_
    refine am_xp am_FMFlt am_qMFlt_2 am_qf9_167 h0 (List.getElem?_eq_some_iff.mp ht).1 rfl ?_
    refine am_x1 am_FMFlt am_qMFlt_5 rfl ?_
    refine am_xz am_qMFlt_6 (b := false) (t := 16) (by decide) (by decide) ?_
    refine am_x1 am_FMFlt am_qMFlt_9 rfl ?_
    refine am_xg am_FMFlt am_qMFlt_10 am_qf9_188 (am_at_set h0) (am_f_other h8 (by decide)) ?_
    refine am_xj am_qMFlt_13 (t := 41) (by decide) ?_
    exact am_xr am_qMFlt_41 rfl
  · refine am_x1 am_FMFlt am_qMFlt_0 rfl ?_
    refine am_x1 am_FMFlt am_qMFlt_1 rfl ?_
    refine am_xp am_FMFlt am_qMFlt_2 am_qf9_167 h0 (List.getElem?_eq_some_iff.mp ht).1 rfl ?_
    refine am_x1 am_FMFlt am_qMFlt_5 rfl ?_
    refine am_xz am_qMFlt_6 (b := true) (t := 16) (by decide) (by decide) ?_
    refine am_x1 am_FMFlt am_qMFlt_16 rfl ?_
    refine am_x1 am_FMFlt am_qMFlt_17 rfl ?_
    refine am_xi am_qMFlt_18 (b := false) (t := 28) (by decide) (by decide) ?_
    refine am_x1 am_FMFlt am_qMFlt_21 rfl ?_
    refine am_xg am_FMFlt am_qMFlt_22 am_qf9_87 (am_at_set h0) (am_f_other h9 (by decide)) ?_
    refine am_xj am_qMFlt_25 (t := 41) (by decide) ?_
    exact am_xr am_qMFlt_41 rfl
  · refine am_x1 am_FMFlt am_qMFlt_0 rfl ?_
    refine am_x1 am_FMFlt am_qMFlt_1 rfl ?_
    refine am_xp am_FMFlt am_qMFlt_2 am_qf9_167 h0 (List.getElem?_eq_some_iff.mp ht).1 rfl ?_
    refine am_x1 am_FMFlt am_qMFlt_5 rfl ?_
    refine am_xz am_qMFlt_6 (b := true) (t := 16) (by decide) (by decide) ?_
    refine am_x1 am_FMFlt am_qMFlt_16 rfl ?_
    refine am_x1 am_FMFlt am_qMFlt_17 rfl ?_
    refine am_xi am_qMFlt_18 (b := true) (t := 28) (by decide) (by decide) ?_
    refine am_x1 am_FMFlt am_qMFlt_28 rfl ?_
    refine am_x1 am_FMFlt am_qMFlt_29 rfl ?_
    refine am_xi am_qMFlt_30 (b := false) (t := 40) (by decide) (by decide) ?_
    refine am_x1 am_FMFlt am_qMFlt_33 rfl ?_
    refine am_xg am_FMFlt am_qMFlt_34 am_qf9_328 (am_at_set h0) (am_f_other h10 (by decide)) ?_
    refine am_xj am_qMFlt_37 (t := 41) (by decide) ?_
    exact am_xr am_qMFlt_41 rfl
  · refine am_x1 am_FMFlt am_qMFlt_0 rfl ?_
    refine am_x1 am_FMFlt am_qMFlt_1 rfl ?_
    refine am_xp am_FMFlt am_qMFlt_2 am_qf9_167 h0 (List.getElem?_eq_some_iff.mp ht).1 rfl ?_
    refine am_x1 am_FMFlt am_qMFlt_5 rfl ?_
    refine am_xz am_qMFlt_6 (b := true) (t := 16) (am_ne_t n0) (by decide) ?_
    refine am_x1 am_FMFlt am_qMFlt_16 rfl ?_
    refine am_x1 am_FMFlt am_qMFlt_17 rfl ?_
    refine am_xi am_qMFlt_18 (b := true) (t := 28) (am_ne_t n1) (by decide) ?_
    refine am_x1 am_FMFlt am_qMFlt_28 rfl ?_
    refine am_x1 am_FMFlt am_qMFlt_29 rfl ?_
    refine am_xi am_qMFlt_30 (b := true) (t := 40) (am_ne_t n2) (by decide) ?_
    refine am_x1 am_FMFlt am_qMFlt_40 rfl ?_
    exact am_xr am_qMFlt_41 rfl
end
section
/-! ===== runs on a tree of no node, a printed text of no character ===== -/
theorem am_b {c : ClassFile.Cond} {x z z2 : Int32} {b : Bool} (hz : z2 = z) (h : am_c c x z = b) : am_c c x z2 = b := by rw [hz]; exact h
theorem am_rMny0 {d x a6 : Nat} {h : List va_E} {f0 ft : List Value} {a : Int32} (h0 : h[x]? = some (.inr (0, f0))) (hf : f0[6]? = some (.ref a6)) (h6 : h[a6]? = some (.inr (6, ft))) (hs : ft[8]? = some (.int 0)) : am_all am_thr 3000 (d + 1) 14 [.ref x, .int a] h = some (.inl (some (.int 0)), h, 0, 0) := by
  refine am_in_go (by rw [am_FMny.2.1]; exact Nat.le_of_ble_eq_true rfl) ?_
  refine am_x1 am_FMny am_qMny_0 rfl ?_
  refine am_x1 am_FMny am_qMny_1 rfl ?_
  refine am_x1 am_FMny am_qMny_2 rfl ?_
  refine am_x1 am_FMny am_qMny_3 rfl ?_
  refine am_x1 am_FMny am_qMny_4 rfl ?_
  refine am_x1 am_FMny am_qMny_5 rfl ?_
  refine am_xg am_FMny am_qMny_6 am_qf0_49 h0 hf ?_
  refine am_xg am_FMny am_qMny_9 am_qf0_111 h6 hs ?_
  refine am_xi am_qMny_12 (b := true) (t := 36) (by decide) (by decide) ?_
  refine am_x1 am_FMny am_qMny_36 rfl ?_
  exact am_xr am_qMny_37 rfl

theorem am_rMMny0 {d x : Nat} {h : List va_E} {f0 : List Value} {t a : Int32} (h0 : h[x]? = some (.inr (9, f0))) (ht : f0[3]? = some (.int t)) (hs : f0[43]? = some (.int 0)) : am_all am_thr 3000 (d + 1) 298 [.ref x, .int a] h = some (.inl (some (.int 0)), h.set x (.inr (9, f0.set 3 (.int 0))), 0, 0) := by
  refine am_in_go (by rw [am_FMMny.2.1]; exact Nat.le_of_ble_eq_true rfl) ?_
  refine am_x1 am_FMMny am_qMMny_0 rfl ?_
  refine am_x1 am_FMMny am_qMMny_1 rfl ?_
  refine am_xp am_FMMny am_qMMny_2 am_qf9_167 h0 (List.getElem?_eq_some_iff.mp ht).1 rfl ?_
  refine am_x1 am_FMMny am_qMMny_5 rfl ?_
  refine am_x1 am_FMMny am_qMMny_6 rfl ?_
  refine am_x1 am_FMMny am_qMMny_7 rfl ?_
  refine am_x1 am_FMMny am_qMMny_8 rfl ?_
  refine am_x1 am_FMMny am_qMMny_9 rfl ?_
  refine am_x1 am_FMMny am_qMMny_10 rfl ?_
  refine am_xg am_FMMny am_qMMny_11 am_qf9_623 (am_at_set h0) (am_f_other hs (by decide)) ?_
  refine am_xi am_qMMny_14 (b := true) (t := 44) (by decide) (by decide) ?_
  refine am_x1 am_FMMny am_qMMny_44 rfl ?_
  exact am_xr am_qMMny_45 rfl

def am_pv0 (a : Int32) : Int32 := if a = -1 then 0 else -1
theorem am_lt_c {a : Int32} (h : a < 0) : am_c .lt a 0 = true := decide_eq_true h
theorem am_lt_n {a : Int32} (h : ¬ a < 0) : am_c .lt a 0 = false := decide_eq_false h
theorem am_ge_c {a : Int32} (h : ¬ a < 0) : am_c .ge a 0 = true := decide_eq_true (Int32.not_lt.mp h)
theorem am_ne_f {a b : Int32} (h : a = b) : am_c .ne a b = false := decide_eq_false (fun z => z h)
theorem am_rpAt0 {d x : Nat} {h : List va_E} {f0 : List Value} {a : Int32} (h0 : h[x]? = some (.inr (8, f0))) (hf : f0[6]? = some (.int 0)) : am_all am_thr 3000 (d + 1) 18 [.ref x, .int a] h = some (.inl (some (.int (-1))), h, 0, 0) := by
  refine am_in_go (by rw [am_FpAt.2.1]; exact Nat.le_of_ble_eq_true rfl) ?_
  by_cases hn : a < 0
  · refine am_x1 am_FpAt am_qpAt_0 rfl ?_
    refine am_xz am_qpAt_1 (b := true) (t := 19) (am_lt_c hn) (by decide) ?_
    refine am_x1 am_FpAt am_qpAt_19 rfl ?_
    refine am_xj am_qpAt_20 (t := 29) (by decide) ?_
    exact am_xr am_qpAt_29 rfl
  · refine am_x1 am_FpAt am_qpAt_0 rfl ?_
    refine am_xz am_qpAt_1 (b := false) (t := 19) (am_lt_n hn) (by decide) ?_
    refine am_x1 am_FpAt am_qpAt_4 rfl ?_
    refine am_x1 am_FpAt am_qpAt_5 rfl ?_
    refine am_xg am_FpAt am_qpAt_6 am_qf8_30 h0 hf ?_
    refine am_xi am_qpAt_9 (b := true) (t := 19) (am_ge_c hn) (by decide) ?_
    refine am_x1 am_FpAt am_qpAt_19 rfl ?_
    refine am_xj am_qpAt_20 (t := 29) (by decide) ?_
    exact am_xr am_qpAt_29 rfl

theorem am_rPrt0 {d x a5 : Nat} {h : List va_E} {f0 fp : List Value} {a : Int32} (h0 : h[x]? = some (.inr (0, f0))) (hf : f0[5]? = some (.ref a5)) (h5 : h[a5]? = some (.inr (8, fp))) (hs : fp[6]? = some (.int 0)) : am_all am_thr 3000 (d + 2) 17 [.ref x, .int a] h = some (.inl (some (.int (am_pv0 a))), h, 0, 0) := by
  refine am_in_go (by rw [am_FPrt.2.1]; exact Nat.le_of_ble_eq_true rfl) ?_
  by_cases hn : a = -1
  · rw [show am_pv0 a = 0 from if_pos hn]
    refine am_x1 am_FPrt am_qPrt_0 rfl ?_
    refine am_x1 am_FPrt am_qPrt_1 rfl ?_
    refine am_xi am_qPrt_2 (b := false) (t := 15) (am_ne_f hn) (by decide) ?_
    refine am_x1 am_FPrt am_qPrt_5 rfl ?_
    refine am_xg am_FPrt am_qPrt_6 am_qf0_70 h0 hf ?_
    refine am_xg am_FPrt am_qPrt_9 am_qf0_148 h5 hs ?_
    refine am_xj am_qPrt_12 (t := 23) (by decide) ?_
    exact am_xr am_qPrt_23 rfl
  · rw [show am_pv0 a = -1 from if_neg hn]
    refine am_x1 am_FPrt am_qPrt_0 rfl ?_
    refine am_x1 am_FPrt am_qPrt_1 rfl ?_
    refine am_xi am_qPrt_2 (b := true) (t := 15) (am_ne_t hn) (by decide) ?_
    refine am_x1 am_FPrt am_qPrt_15 rfl ?_
    refine am_xg am_FPrt am_qPrt_16 am_qf0_70 h0 hf ?_
    refine am_x1 am_FPrt am_qPrt_19 rfl ?_
    refine am_xc am_qPrt_20 (w := ([.ref a5, .int a], [])) rfl (by unfold am_rcv; simp only [h5]; rfl) (am_rpAt0 h5 hs) (Nat.le_refl _) ?_
    exact am_xr am_qPrt_23 rfl

theorem am_rMPrt0 {d x : Nat} {h : List va_E} {f0 : List Value} {t a : Int32} (h0 : h[x]? = some (.inr (9, f0))) (ht : f0[3]? = some (.int t)) (hs : f0[48]? = some (.int 0)) : am_all am_thr 3000 (d + 1) 299 [.ref x, .int a] h = some (.inl (some (.int (am_pv0 a))), h.set x (.inr (9, f0.set 3 (.int 0))), 0, 0) := by
  refine am_in_go (by rw [am_FMPrt.2.1]; exact Nat.le_of_ble_eq_true rfl) ?_
  by_cases hn : a = -1
  · rw [show am_pv0 a = 0 from if_pos hn]
    refine am_x1 am_FMPrt am_qMPrt_0 rfl ?_
    refine am_x1 am_FMPrt am_qMPrt_1 rfl ?_
    refine am_xp am_FMPrt am_qMPrt_2 am_qf9_167 h0 (List.getElem?_eq_some_iff.mp ht).1 rfl ?_
    refine am_x1 am_FMPrt am_qMPrt_5 rfl ?_
    refine am_x1 am_FMPrt am_qMPrt_6 rfl ?_
    refine am_xi am_qMPrt_7 (b := false) (t := 17) (am_ne_f hn) (by decide) ?_
    refine am_x1 am_FMPrt am_qMPrt_10 rfl ?_
    refine am_xg am_FMPrt am_qMPrt_11 am_qf9_518 (am_at_set h0) (am_f_other hs (by decide)) ?_
    refine am_xj am_qMPrt_14 (t := 39) (by decide) ?_
    exact am_xr am_qMPrt_39 rfl
  · rw [show am_pv0 a = -1 from if_neg hn]
    by_cases hz : a < 0
    · refine am_x1 am_FMPrt am_qMPrt_0 rfl ?_
      refine am_x1 am_FMPrt am_qMPrt_1 rfl ?_
      refine am_xp am_FMPrt am_qMPrt_2 am_qf9_167 h0 (List.getElem?_eq_some_iff.mp ht).1 rfl ?_
      refine am_x1 am_FMPrt am_qMPrt_5 rfl ?_
      refine am_x1 am_FMPrt am_qMPrt_6 rfl ?_
      refine am_xi am_qMPrt_7 (b := true) (t := 17) (am_ne_t hn) (by decide) ?_
      refine am_x1 am_FMPrt am_qMPrt_17 rfl ?_
      refine am_xz am_qMPrt_18 (b := true) (t := 38) (am_lt_c hz) (by decide) ?_
      refine am_x1 am_FMPrt am_qMPrt_38 rfl ?_
      exact am_xr am_qMPrt_39 rfl
    · refine am_x1 am_FMPrt am_qMPrt_0 rfl ?_
      refine am_x1 am_FMPrt am_qMPrt_1 rfl ?_
      refine am_xp am_FMPrt am_qMPrt_2 am_qf9_167 h0 (List.getElem?_eq_some_iff.mp ht).1 rfl ?_
      refine am_x1 am_FMPrt am_qMPrt_5 rfl ?_
      refine am_x1 am_FMPrt am_qMPrt_6 rfl ?_
      refine am_xi am_qMPrt_7 (b := true) (t := 17) (am_ne_t hn) (by decide) ?_
      refine am_x1 am_FMPrt am_qMPrt_17 rfl ?_
      refine am_xz am_qMPrt_18 (b := false) (t := 38) (am_lt_n hz) (by decide) ?_
      refine am_x1 am_FMPrt am_qMPrt_21 rfl ?_
      refine am_x1 am_FMPrt am_qMPrt_22 rfl ?_
      refine am_xg am_FMPrt am_qMPrt_23 am_qf9_518 (am_at_set h0) (am_f_other hs (by decide)) ?_
      refine am_xi am_qMPrt_26 (b := true) (t := 38) (am_ge_c hz) (by decide) ?_
      refine am_x1 am_FMPrt am_qMPrt_38 rfl ?_
      exact am_xr am_qMPrt_39 rfl

theorem am_lt_f {a : Int32} (h : ¬ a < 0) : am_c .lt a 0 = false := decide_eq_false h
theorem am_rNod0 {d x a6 : Nat} {h : List va_E} {f0 ft : List Value} {a b : Int32} (h0 : h[x]? = some (.inr (0, f0))) (hf : f0[6]? = some (.ref a6)) (h6 : h[a6]? = some (.inr (6, ft))) (hs : ft[8]? = some (.int 0)) : am_all am_thr 3000 (d + 1) 169 [.ref x, .int a, .int b] h = some (.inr 1, h, 1, 6) := by
  refine am_in_go (by rw [am_FNod.2.1]; exact Nat.le_of_ble_eq_true rfl) ?_
  by_cases hn : a < 0
  · refine am_x1 am_FNod am_qNod_0 rfl ?_
    refine am_xz am_qNod_1 (b := true) (t := 15) (am_lt_c hn) (by decide) ?_
    exact am_xt am_qNod_15 (Nat.le_of_ble_eq_true rfl)
  · refine am_x1 am_FNod am_qNod_0 rfl ?_
    refine am_xz am_qNod_1 (b := false) (t := 15) (am_lt_n hn) (by decide) ?_
    refine am_x1 am_FNod am_qNod_4 rfl ?_
    refine am_x1 am_FNod am_qNod_5 rfl ?_
    refine am_xg am_FNod am_qNod_6 am_qf0_49 h0 hf ?_
    refine am_xg am_FNod am_qNod_9 am_qf0_111 h6 hs ?_
    refine am_xi am_qNod_12 (b := false) (t := 25) (am_lt_f hn) (by decide) ?_
    exact am_xt am_qNod_15 (Nat.le_of_ble_eq_true rfl)

theorem am_rMNod0 {d x : Nat} {h : List va_E} {f0 : List Value} {t a b : Int32} (h0 : h[x]? = some (.inr (9, f0))) (ht : f0[3]? = some (.int t)) (hs : f0[43]? = some (.int 0)) : am_all am_thr 3000 (d + 1) 297 [.ref x, .int a, .int b] h = some (.inl (some (.int 0)), h.set x (.inr (9, f0.set 3 (.int 1))), 0, 0) := by
  refine am_in_go (by rw [am_FMNod.2.1]; exact Nat.le_of_ble_eq_true rfl) ?_
  by_cases hn : a < 0
  · refine am_x1 am_FMNod am_qMNod_0 rfl ?_
    refine am_x1 am_FMNod am_qMNod_1 rfl ?_
    refine am_xz am_qMNod_2 (b := true) (t := 22) (am_lt_c hn) (by decide) ?_
    refine am_x1 am_FMNod am_qMNod_22 rfl ?_
    refine am_xj am_qMNod_23 (t := 27) (by decide) ?_
    refine am_xp am_FMNod am_qMNod_27 am_qf9_167 h0 (List.getElem?_eq_some_iff.mp ht).1 rfl ?_
    refine am_x1 am_FMNod am_qMNod_30 rfl ?_
    refine am_xg am_FMNod am_qMNod_31 am_qf9_167 (am_at_set h0) (am_f_set ht) ?_
    refine am_xz am_qMNod_34 (b := false) (t := 41) (by decide) (by decide) ?_
    refine am_x1 am_FMNod am_qMNod_37 rfl ?_
    refine am_xj am_qMNod_38 (t := 52) (by decide) ?_
    exact am_xr am_qMNod_52 rfl
  · refine am_x1 am_FMNod am_qMNod_0 rfl ?_
    refine am_x1 am_FMNod am_qMNod_1 rfl ?_
    refine am_xz am_qMNod_2 (b := false) (t := 22) (am_lt_n hn) (by decide) ?_
    refine am_x1 am_FMNod am_qMNod_5 rfl ?_
    refine am_x1 am_FMNod am_qMNod_6 rfl ?_
    refine am_xg am_FMNod am_qMNod_7 am_qf9_623 h0 hs ?_
    refine am_xi am_qMNod_10 (b := true) (t := 22) (am_ge_c hn) (by decide) ?_
    refine am_x1 am_FMNod am_qMNod_22 rfl ?_
    refine am_xj am_qMNod_23 (t := 27) (by decide) ?_
    refine am_xp am_FMNod am_qMNod_27 am_qf9_167 h0 (List.getElem?_eq_some_iff.mp ht).1 rfl ?_
    refine am_x1 am_FMNod am_qMNod_30 rfl ?_
    refine am_xg am_FMNod am_qMNod_31 am_qf9_167 (am_at_set h0) (am_f_set ht) ?_
    refine am_xz am_qMNod_34 (b := false) (t := 41) (by decide) (by decide) ?_
    refine am_x1 am_FMNod am_qMNod_37 rfl ?_
    refine am_xj am_qMNod_38 (t := 52) (by decide) ?_
    exact am_xr am_qMNod_52 rfl

theorem am_rThr {d x : Nat} {h : List va_E} {f0 : List Value} {t : Int32} (h0 : h[x]? = some (.inr (9, f0))) (ht : f0[3]? = some (.int t)) : am_all am_thr 3000 (d + 1) 171 [.ref x] h = some (.inl (some (.int t)), h, 0, 0) := by
  refine am_in_go (by rw [am_FThr.2.1]; exact Nat.le_of_ble_eq_true rfl) ?_
  refine am_x1 am_FThr am_qThr_0 rfl ?_
  refine am_xg am_FThr am_qThr_1 am_qf9_167 h0 ht ?_
  exact am_xr am_qThr_4 rfl
end
section
theorem am_smod : ∀ s, s < 57 → ((BitVec.ofNat 64 s).smod 64#64).toNat = s := by decide +kernel
theorem am_255 : ∀ k, k < 32 → 8 ≤ k → (255#32).getLsbD k = false := by decide +kernel
theorem am_bits (w : Int64) (s : Nat) (hs : s ≤ 56) : (w.toUInt64 >>> UInt64.ofNat s).toInt64.toInt32 &&& 255 = ((w >>> Int64.ofNat s) &&& 255).toInt32 := by
  apply Int32.toBitVec_inj.mp
  apply BitVec.eq_of_getLsbD_eq
  intro k hk
  simp
  rw [am_smod s (by omega), Nat.mod_eq_of_lt (show s < 64 by omega)]
  by_cases h8 : k < 8
  · rw [BitVec.getLsbD_signExtend, BitVec.getLsbD_signExtend, BitVec.getLsbD_ushiftRight, BitVec.getLsbD_sshiftRight, if_pos (show k < 64 by omega), if_pos (show k < 64 by omega), if_pos (show s + k < 64 by omega)]
    simp [show ¬ 64 ≤ k by omega]
  · rw [am_255 k hk (by omega), Bool.and_false, Bool.and_false]

/-! ===== type ===== -/
/-- the loops' number: j - 1 -/
def am_lc (j : Nat) : Int32 := Int32.ofInt ((j : Int) - 1)
theorem am_lc_dec : ∀ j, j < 8 → am_lc (j + 1) + Int32.ofInt (-1) = am_lc j := by decide +kernel
theorem am_lc_lt0 : am_c .lt (am_lc 0) 0 = true := by decide +kernel
theorem am_lc_lt : ∀ j, j < 8 → am_c .lt (am_lc (j + 1)) 0 = false := by decide +kernel
theorem am_sh64 : ∀ j, j < 8 → ((Int8.ofInt 8).toInt32 * am_lc (j + 1)).toInt64.toUInt64 &&& Int64.toUInt64 63 = UInt64.ofNat (8 * j) ∧ ((Int8.ofInt 8).toInt32 * am_lc (j + 1)).toInt64 &&& 63 = Int64.ofNat (8 * j) := by decide +kernel
/-- the byte that the class takes, the byte that the reference takes -/
def am_cb (w : Int64) (i : Int32) : Int32 := (w.toUInt64 >>> (((Int8.ofInt 8).toInt32 * i).toInt64.toUInt64 &&& Int64.toUInt64 63)).toInt64.toInt32 &&& (Int16.ofInt 255).toInt32
def am_mb (w : Int64) (i : Int32) : Int32 := ((w >>> (((Int8.ofInt 8).toInt32 * i).toInt64 &&& 63)) &&& 255).toInt32
theorem am_cb_mb (w : Int64) {j : Nat} (hj : j < 8) : am_mb w (am_lc (j + 1)) = am_cb w (am_lc (j + 1)) := by
  unfold am_cb am_mb
  rw [(am_sh64 j hj).1, (am_sh64 j hj).2, show (Int16.ofInt 255).toInt32 = (255 : Int32) from by decide +kernel]
  exact (am_bits w (8 * j) (by omega)).symm
/-- a character that may be typed -/
def am_ty (c : Int32) : Bool := (!decide (c < 32) && decide (c ≤ 126)) || (decide (c = 9) || (decide (c = 10) || decide (c = 13)))
def am_zb (b : Bool) : Int32 := if b = true then 1 else 0
theorem am_b32 : (Int8.ofInt 32).toInt32 = (32 : Int32) := by decide +kernel
theorem am_b126 : (Int8.ofInt 126).toInt32 = (126 : Int32) := by decide +kernel
theorem am_b9 : (Int8.ofInt 9).toInt32 = (9 : Int32) := by decide +kernel
theorem am_b10 : (Int8.ofInt 10).toInt32 = (10 : Int32) := by decide +kernel
theorem am_b13 : (Int8.ofInt 13).toInt32 = (13 : Int32) := by decide +kernel
theorem am_b8 : (Int8.ofInt 8).toInt32 = (8 : Int32) := by decide +kernel
theorem am_s480 : (Int16.ofInt 480).toInt32 = (480 : Int32) := by decide +kernel
theorem am_zbn (b : Bool) : narrow FieldType.boolean (.int (am_zb b)) = .int (am_zb b) := by cases b <;> decide

theorem am_risLE {d : Nat} {h : List va_E} {c : Int32} : am_all am_thr 3000 (d + 1) 11 [.int c] h = some (.inl (some (.int (am_zb (decide (c = 10) || decide (c = 13))))), h, 0, 0) := by
  refine am_in_go (by rw [am_FisLE.2.1]; exact Nat.le_of_ble_eq_true rfl) ?_
  by_cases h1 : c = 10
  · rw [show am_zb (decide (c = 10) || decide (c = 13)) = 1 by simp [h1, am_zb]]
    refine am_x1 am_FisLE am_qisLE_0 rfl ?_
    refine am_x1 am_FisLE am_qisLE_1 rfl ?_
    refine am_xi am_qisLE_3 (b := true) (t := 12) (am_b am_b10 (decide_eq_true h1)) (by decide) ?_
    refine am_x1 am_FisLE am_qisLE_12 rfl ?_
    refine am_xj am_qisLE_13 (t := 17) (by decide) ?_
    exact am_xr am_qisLE_17 (by decide)
  · by_cases h2 : c = 13
    · rw [show am_zb (decide (c = 10) || decide (c = 13)) = 1 by simp [h2, am_zb]]
      refine am_x1 am_FisLE am_qisLE_0 rfl ?_
      refine am_x1 am_FisLE am_qisLE_1 rfl ?_
      refine am_xi am_qisLE_3 (b := false) (t := 12) (am_b am_b10 (decide_eq_false h1)) (by decide) ?_
      refine am_x1 am_FisLE am_qisLE_6 rfl ?_
      refine am_x1 am_FisLE am_qisLE_7 rfl ?_
      refine am_xi am_qisLE_9 (b := false) (t := 16) (am_b am_b13 (decide_eq_false (fun z => z h2))) (by decide) ?_
      refine am_x1 am_FisLE am_qisLE_12 rfl ?_
      refine am_xj am_qisLE_13 (t := 17) (by decide) ?_
      exact am_xr am_qisLE_17 (by decide)
    · rw [show am_zb (decide (c = 10) || decide (c = 13)) = 0 by simp [h1, h2, am_zb]]
      refine am_x1 am_FisLE am_qisLE_0 rfl ?_
      refine am_x1 am_FisLE am_qisLE_1 rfl ?_
      refine am_xi am_qisLE_3 (b := false) (t := 12) (am_b am_b10 (decide_eq_false h1)) (by decide) ?_
      refine am_x1 am_FisLE am_qisLE_6 rfl ?_
      refine am_x1 am_FisLE am_qisLE_7 rfl ?_
      refine am_xi am_qisLE_9 (b := true) (t := 16) (am_b am_b13 (decide_eq_true h2)) (by decide) ?_
      refine am_x1 am_FisLE am_qisLE_16 rfl ?_
      exact am_xr am_qisLE_17 (by decide)

theorem am_risTy {d : Nat} {h : List va_E} {c : Int32} : am_all am_thr 3000 (d + 2) 10 [.int c] h = some (.inl (some (.int (am_zb (am_ty c)))), h, 0, 0) := by
  refine am_in_go (by rw [am_FisTy.2.1]; exact Nat.le_of_ble_eq_true rfl) ?_
  by_cases h1 : c < 32
  · by_cases h3 : c = 9
    · rw [show am_ty c = true by simp [am_ty, h3], show am_zb true = 1 from rfl]
      refine am_x1 am_FisTy am_qisTy_0 rfl ?_
      refine am_x1 am_FisTy am_qisTy_1 rfl ?_
      refine am_xi am_qisTy_3 (b := true) (t := 12) (am_b am_b32 (decide_eq_true h1)) (by decide) ?_
      refine am_x1 am_FisTy am_qisTy_12 rfl ?_
      refine am_x1 am_FisTy am_qisTy_13 rfl ?_
      refine am_xi am_qisTy_15 (b := true) (t := 25) (am_b am_b9 (decide_eq_true h3)) (by decide) ?_
      refine am_x1 am_FisTy am_qisTy_25 rfl ?_
      refine am_xj am_qisTy_26 (t := 30) (by decide) ?_
      exact am_xr am_qisTy_30 (by decide)
    · by_cases h4 : (decide (c = 10) || decide (c = 13)) = true
      · rw [show am_ty c = true by unfold am_ty; rw [h4, Bool.or_true, Bool.or_true], show am_zb true = 1 from rfl]
        refine am_x1 am_FisTy am_qisTy_0 rfl ?_
        refine am_x1 am_FisTy am_qisTy_1 rfl ?_
        refine am_xi am_qisTy_3 (b := true) (t := 12) (am_b am_b32 (decide_eq_true h1)) (by decide) ?_
        refine am_x1 am_FisTy am_qisTy_12 rfl ?_
        refine am_x1 am_FisTy am_qisTy_13 rfl ?_
        refine am_xi am_qisTy_15 (b := false) (t := 25) (am_b am_b9 (decide_eq_false h3)) (by decide) ?_
        refine am_x1 am_FisTy am_qisTy_18 rfl ?_
        refine am_xc am_qisTy_19 (w := ([.int c], [])) rfl rfl am_risLE (Nat.le_refl _) ?_
        refine am_xz am_qisTy_22 (b := false) (t := 29) (by rw [h4]; decide) (by decide) ?_
        refine am_x1 am_FisTy am_qisTy_25 rfl ?_
        refine am_xj am_qisTy_26 (t := 30) (by decide) ?_
        exact am_xr am_qisTy_30 (by decide)
      · rw [Bool.not_eq_true] at h4
        rw [show am_ty c = false by unfold am_ty; rw [h4, decide_eq_false h3, decide_eq_true h1, Bool.not_true, Bool.false_and]; rfl, show am_zb false = 0 from rfl]
        refine am_x1 am_FisTy am_qisTy_0 rfl ?_
        refine am_x1 am_FisTy am_qisTy_1 rfl ?_
        refine am_xi am_qisTy_3 (b := true) (t := 12) (am_b am_b32 (decide_eq_true h1)) (by decide) ?_
        refine am_x1 am_FisTy am_qisTy_12 rfl ?_
        refine am_x1 am_FisTy am_qisTy_13 rfl ?_
        refine am_xi am_qisTy_15 (b := false) (t := 25) (am_b am_b9 (decide_eq_false h3)) (by decide) ?_
        refine am_x1 am_FisTy am_qisTy_18 rfl ?_
        refine am_xc am_qisTy_19 (w := ([.int c], [])) rfl rfl am_risLE (Nat.le_refl _) ?_
        refine am_xz am_qisTy_22 (b := true) (t := 29) (by rw [h4]; decide) (by decide) ?_
        refine am_x1 am_FisTy am_qisTy_29 rfl ?_
        exact am_xr am_qisTy_30 (by decide)
  · by_cases h2 : c ≤ 126
    · rw [show am_ty c = true by unfold am_ty; rw [decide_eq_false h1, decide_eq_true h2]; rfl, show am_zb true = 1 from rfl]
      refine am_x1 am_FisTy am_qisTy_0 rfl ?_
      refine am_x1 am_FisTy am_qisTy_1 rfl ?_
      refine am_xi am_qisTy_3 (b := false) (t := 12) (am_b am_b32 (decide_eq_false h1)) (by decide) ?_
      refine am_x1 am_FisTy am_qisTy_6 rfl ?_
      refine am_x1 am_FisTy am_qisTy_7 rfl ?_
      refine am_xi am_qisTy_9 (b := true) (t := 25) (am_b am_b126 (decide_eq_true h2)) (by decide) ?_
      refine am_x1 am_FisTy am_qisTy_25 rfl ?_
      refine am_xj am_qisTy_26 (t := 30) (by decide) ?_
      exact am_xr am_qisTy_30 (by decide)
    · by_cases h3 : c = 9
      · rw [show am_ty c = true by simp [am_ty, h3], show am_zb true = 1 from rfl]
        refine am_x1 am_FisTy am_qisTy_0 rfl ?_
        refine am_x1 am_FisTy am_qisTy_1 rfl ?_
        refine am_xi am_qisTy_3 (b := false) (t := 12) (am_b am_b32 (decide_eq_false h1)) (by decide) ?_
        refine am_x1 am_FisTy am_qisTy_6 rfl ?_
        refine am_x1 am_FisTy am_qisTy_7 rfl ?_
        refine am_xi am_qisTy_9 (b := false) (t := 25) (am_b am_b126 (decide_eq_false h2)) (by decide) ?_
        refine am_x1 am_FisTy am_qisTy_12 rfl ?_
        refine am_x1 am_FisTy am_qisTy_13 rfl ?_
        refine am_xi am_qisTy_15 (b := true) (t := 25) (am_b am_b9 (decide_eq_true h3)) (by decide) ?_
        refine am_x1 am_FisTy am_qisTy_25 rfl ?_
        refine am_xj am_qisTy_26 (t := 30) (by decide) ?_
        exact am_xr am_qisTy_30 (by decide)
      · by_cases h4 : (decide (c = 10) || decide (c = 13)) = true
        · rw [show am_ty c = true by unfold am_ty; rw [h4, Bool.or_true, Bool.or_true], show am_zb true = 1 from rfl]
          refine am_x1 am_FisTy am_qisTy_0 rfl ?_
          refine am_x1 am_FisTy am_qisTy_1 rfl ?_
          refine am_xi am_qisTy_3 (b := false) (t := 12) (am_b am_b32 (decide_eq_false h1)) (by decide) ?_
          refine am_x1 am_FisTy am_qisTy_6 rfl ?_
          refine am_x1 am_FisTy am_qisTy_7 rfl ?_
          refine am_xi am_qisTy_9 (b := false) (t := 25) (am_b am_b126 (decide_eq_false h2)) (by decide) ?_
          refine am_x1 am_FisTy am_qisTy_12 rfl ?_
          refine am_x1 am_FisTy am_qisTy_13 rfl ?_
          refine am_xi am_qisTy_15 (b := false) (t := 25) (am_b am_b9 (decide_eq_false h3)) (by decide) ?_
          refine am_x1 am_FisTy am_qisTy_18 rfl ?_
          refine am_xc am_qisTy_19 (w := ([.int c], [])) rfl rfl am_risLE (Nat.le_refl _) ?_
          refine am_xz am_qisTy_22 (b := false) (t := 29) (by rw [h4]; decide) (by decide) ?_
          refine am_x1 am_FisTy am_qisTy_25 rfl ?_
          refine am_xj am_qisTy_26 (t := 30) (by decide) ?_
          exact am_xr am_qisTy_30 (by decide)
        · rw [Bool.not_eq_true] at h4
          rw [show am_ty c = false by unfold am_ty; rw [h4, decide_eq_false h3, decide_eq_false h2, Bool.and_false]; rfl, show am_zb false = 0 from rfl]
          refine am_x1 am_FisTy am_qisTy_0 rfl ?_
          refine am_x1 am_FisTy am_qisTy_1 rfl ?_
          refine am_xi am_qisTy_3 (b := false) (t := 12) (am_b am_b32 (decide_eq_false h1)) (by decide) ?_
          refine am_x1 am_FisTy am_qisTy_6 rfl ?_
          refine am_x1 am_FisTy am_qisTy_7 rfl ?_
          refine am_xi am_qisTy_9 (b := false) (t := 25) (am_b am_b126 (decide_eq_false h2)) (by decide) ?_
          refine am_x1 am_FisTy am_qisTy_12 rfl ?_
          refine am_x1 am_FisTy am_qisTy_13 rfl ?_
          refine am_xi am_qisTy_15 (b := false) (t := 25) (am_b am_b9 (decide_eq_false h3)) (by decide) ?_
          refine am_x1 am_FisTy am_qisTy_18 rfl ?_
          refine am_xc am_qisTy_19 (w := ([.int c], [])) rfl rfl am_risLE (Nat.le_refl _) ?_
          refine am_xz am_qisTy_22 (b := true) (t := 29) (by rw [h4]; decide) (by decide) ?_
          refine am_x1 am_FisTy am_qisTy_29 rfl ?_
          exact am_xr am_qisTy_30 (by decide)

def am_bl (c : Int32) : Bool := decide (c = 9) || (decide (c = 10) || (decide (c = 13) || decide (c = 32)))
theorem am_rMBl {d : Nat} {h : List va_E} {c : Int32} : am_all am_thr 3000 (d + 1) 173 [.int c] h = some (.inl (some (.int (am_zb (am_bl c)))), h, 0, 0) := by
  refine am_in_go (by rw [am_FMBl.2.1]; exact Nat.le_of_ble_eq_true rfl) ?_
  by_cases h1 : c = 9
  · rw [show am_bl c = true by simp [am_bl, h1], show am_zb true = 1 from rfl]
    refine am_x1 am_FMBl am_qMBl_0 rfl ?_
    refine am_x1 am_FMBl am_qMBl_1 rfl ?_
    refine am_xi am_qMBl_3 (b := true) (t := 24) (am_b am_b9 (decide_eq_true h1)) (by decide) ?_
    refine am_x1 am_FMBl am_qMBl_24 rfl ?_
    refine am_xj am_qMBl_25 (t := 29) (by decide) ?_
    exact am_xr am_qMBl_29 (by decide)
  · by_cases h2 : c = 10
    · rw [show am_bl c = true by simp [am_bl, h2], show am_zb true = 1 from rfl]
      refine am_x1 am_FMBl am_qMBl_0 rfl ?_
      refine am_x1 am_FMBl am_qMBl_1 rfl ?_
      refine am_xi am_qMBl_3 (b := false) (t := 24) (am_b am_b9 (decide_eq_false h1)) (by decide) ?_
      refine am_x1 am_FMBl am_qMBl_6 rfl ?_
      refine am_x1 am_FMBl am_qMBl_7 rfl ?_
      refine am_xi am_qMBl_9 (b := true) (t := 24) (am_b am_b10 (decide_eq_true h2)) (by decide) ?_
      refine am_x1 am_FMBl am_qMBl_24 rfl ?_
      refine am_xj am_qMBl_25 (t := 29) (by decide) ?_
      exact am_xr am_qMBl_29 (by decide)
    · by_cases h3 : c = 13
      · rw [show am_bl c = true by simp [am_bl, h3], show am_zb true = 1 from rfl]
        refine am_x1 am_FMBl am_qMBl_0 rfl ?_
        refine am_x1 am_FMBl am_qMBl_1 rfl ?_
        refine am_xi am_qMBl_3 (b := false) (t := 24) (am_b am_b9 (decide_eq_false h1)) (by decide) ?_
        refine am_x1 am_FMBl am_qMBl_6 rfl ?_
        refine am_x1 am_FMBl am_qMBl_7 rfl ?_
        refine am_xi am_qMBl_9 (b := false) (t := 24) (am_b am_b10 (decide_eq_false h2)) (by decide) ?_
        refine am_x1 am_FMBl am_qMBl_12 rfl ?_
        refine am_x1 am_FMBl am_qMBl_13 rfl ?_
        refine am_xi am_qMBl_15 (b := true) (t := 24) (am_b am_b13 (decide_eq_true h3)) (by decide) ?_
        refine am_x1 am_FMBl am_qMBl_24 rfl ?_
        refine am_xj am_qMBl_25 (t := 29) (by decide) ?_
        exact am_xr am_qMBl_29 (by decide)
      · by_cases h4 : c = 32
        · rw [show am_bl c = true by simp [am_bl, h4], show am_zb true = 1 from rfl]
          refine am_x1 am_FMBl am_qMBl_0 rfl ?_
          refine am_x1 am_FMBl am_qMBl_1 rfl ?_
          refine am_xi am_qMBl_3 (b := false) (t := 24) (am_b am_b9 (decide_eq_false h1)) (by decide) ?_
          refine am_x1 am_FMBl am_qMBl_6 rfl ?_
          refine am_x1 am_FMBl am_qMBl_7 rfl ?_
          refine am_xi am_qMBl_9 (b := false) (t := 24) (am_b am_b10 (decide_eq_false h2)) (by decide) ?_
          refine am_x1 am_FMBl am_qMBl_12 rfl ?_
          refine am_x1 am_FMBl am_qMBl_13 rfl ?_
          refine am_xi am_qMBl_15 (b := false) (t := 24) (am_b am_b13 (decide_eq_false h3)) (by decide) ?_
          refine am_x1 am_FMBl am_qMBl_18 rfl ?_
          refine am_x1 am_FMBl am_qMBl_19 rfl ?_
          refine am_xi am_qMBl_21 (b := false) (t := 28) (am_b am_b32 (decide_eq_false (fun z => z h4))) (by decide) ?_
          refine am_x1 am_FMBl am_qMBl_24 rfl ?_
          refine am_xj am_qMBl_25 (t := 29) (by decide) ?_
          exact am_xr am_qMBl_29 (by decide)
        · rw [show am_bl c = false by simp [am_bl, h1, h2, h3, h4], show am_zb false = 0 from rfl]
          refine am_x1 am_FMBl am_qMBl_0 rfl ?_
          refine am_x1 am_FMBl am_qMBl_1 rfl ?_
          refine am_xi am_qMBl_3 (b := false) (t := 24) (am_b am_b9 (decide_eq_false h1)) (by decide) ?_
          refine am_x1 am_FMBl am_qMBl_6 rfl ?_
          refine am_x1 am_FMBl am_qMBl_7 rfl ?_
          refine am_xi am_qMBl_9 (b := false) (t := 24) (am_b am_b10 (decide_eq_false h2)) (by decide) ?_
          refine am_x1 am_FMBl am_qMBl_12 rfl ?_
          refine am_x1 am_FMBl am_qMBl_13 rfl ?_
          refine am_xi am_qMBl_15 (b := false) (t := 24) (am_b am_b13 (decide_eq_false h3)) (by decide) ?_
          refine am_x1 am_FMBl am_qMBl_18 rfl ?_
          refine am_x1 am_FMBl am_qMBl_19 rfl ?_
          refine am_xi am_qMBl_21 (b := true) (t := 28) (am_b am_b32 (decide_eq_true h4)) (by decide) ?_
          refine am_x1 am_FMBl am_qMBl_28 rfl ?_
          exact am_xr am_qMBl_29 (by decide)
end
section
/-! ===== type: its loops ===== -/
theorem am_go_le {y fuel d K K2 pc : Nat} {lv : am_L} {st : List Value} {h : List va_E} {res : Option am_R} (hk : K ≤ K2) (hg : am_go y fuel d K pc lv st h res) : am_go y fuel d K2 pc lv st h res := fun kk h => hg kk (Nat.le_trans hk h)
abbrev am_lvT (i : Int32) (x : Nat) (w : Int64) (n : Int32) : am_L := [(4, .int i), (0, .ref x), (1, .long w), (3, .int n)]
def am_ok8 (w : Int64) : Nat → Bool
  | 0 => true
  | j + 1 => am_ty (am_cb w (am_lc (j + 1))) && am_ok8 w j
theorem am_zb_ne {b : Bool} : am_c .ne (am_zb b) 0 = b := by cases b <;> decide
section AM20
variable {d x : Nat} {h : List va_E} {w : Int64} {n : Int32}

theorem am_vl1 {K : Nat} {o : am_O} {h2 : List va_E} {nc ns : Nat} (hn : am_go 9 3000 (d + 2) K 64 (am_lvT (am_lc 0) x w n) [] h (some (o, h2, nc, ns))) : ∀ j, j ≤ 8 → am_ok8 w j = true → am_go 9 3000 (d + 2) (K + 14 * j + 2) 33 (am_lvT (am_lc j) x w n) [] h (some (o, h2, nc, ns)) := by
  intro j
  induction j with
  | zero =>
    intro _ _
    refine am_go_le (K := K + 2) (by omega) ?_
    refine am_x1 am_FTyp am_qTyp_33 rfl ?_
    refine am_xz am_qTyp_35 (b := true) (t := 64) am_lc_lt0 (by decide) ?_
    exact hn
  | succ j ih =>
    intro hj hok
    have hok2 : am_ty (am_cb w (am_lc (j + 1))) = true ∧ am_ok8 w j = true := by
      have := hok
      unfold am_ok8 at this
      rwa [Bool.and_eq_true] at this
    have e := am_lc_dec j (by omega)
    refine am_go_le (K := K + 14 * j + 2 + 14) (by omega) ?_
    refine am_x1 am_FTyp am_qTyp_33 rfl ?_
    refine am_xz am_qTyp_35 (b := false) (t := 64) (am_lc_lt j (by omega)) (by decide) ?_
    refine am_x1 am_FTyp am_qTyp_38 rfl ?_
    refine am_x1 am_FTyp am_qTyp_39 rfl ?_
    refine am_x1 am_FTyp am_qTyp_41 rfl ?_
    refine am_x1 am_FTyp am_qTyp_43 rfl ?_
    refine am_x1 am_FTyp am_qTyp_44 rfl ?_
    refine am_x1 am_FTyp am_qTyp_45 rfl ?_
    refine am_x1 am_FTyp am_qTyp_46 rfl ?_
    refine am_x1 am_FTyp am_qTyp_49 rfl ?_
    refine am_xc am_qTyp_50 (w := ([.int (am_cb w (am_lc (j + 1)))], [])) rfl rfl am_risTy (Nat.le_refl _) ?_
    refine am_xz am_qTyp_53 (b := true) (t := 58) (by rw [hok2.1]; exact am_zb_ne) (by decide) ?_
    refine am_x1 am_FTyp am_qTyp_58 rfl ?_
    refine am_xj am_qTyp_61 (t := 33) (by decide) ?_
    show am_go 9 3000 (d + 2) _ 33 (am_lvT (am_lc (j + 1) + Int32.ofInt (-1)) x w n) [] h _
    rw [e]
    exact ih (by omega) hok2.2
theorem am_vl0 : ∀ j, j ≤ 8 → am_ok8 w j = false → am_go 9 3000 (d + 2) (14 * j + 2) 33 (am_lvT (am_lc j) x w n) [] h (some (.inl (some (.int 0)), h, 0, 0)) := by
  intro j
  induction j with
  | zero => intro _ hok; cases hok
  | succ j ih =>
    intro hj hok
    have e := am_lc_dec j (by omega)
    by_cases hty : am_ty (am_cb w (am_lc (j + 1))) = true
    · have hok2 : am_ok8 w j = false := by
        have := hok
        unfold am_ok8 at this
        rwa [hty, Bool.true_and] at this
      refine am_go_le (K := 14 * j + 2 + 14) (by omega) ?_
      refine am_x1 am_FTyp am_qTyp_33 rfl ?_
      refine am_xz am_qTyp_35 (b := false) (t := 64) (am_lc_lt j (by omega)) (by decide) ?_
      refine am_x1 am_FTyp am_qTyp_38 rfl ?_
      refine am_x1 am_FTyp am_qTyp_39 rfl ?_
      refine am_x1 am_FTyp am_qTyp_41 rfl ?_
      refine am_x1 am_FTyp am_qTyp_43 rfl ?_
      refine am_x1 am_FTyp am_qTyp_44 rfl ?_
      refine am_x1 am_FTyp am_qTyp_45 rfl ?_
      refine am_x1 am_FTyp am_qTyp_46 rfl ?_
      refine am_x1 am_FTyp am_qTyp_49 rfl ?_
      refine am_xc am_qTyp_50 (w := ([.int (am_cb w (am_lc (j + 1)))], [])) rfl rfl am_risTy (Nat.le_refl _) ?_
      refine am_xz am_qTyp_53 (b := true) (t := 58) (by rw [hty]; exact am_zb_ne) (by decide) ?_
      refine am_x1 am_FTyp am_qTyp_58 rfl ?_
      refine am_xj am_qTyp_61 (t := 33) (by decide) ?_
      show am_go 9 3000 (d + 2) _ 33 (am_lvT (am_lc (j + 1) + Int32.ofInt (-1)) x w n) [] h _
      rw [e]
      exact ih (by omega) hok2
    · rw [Bool.not_eq_true] at hty
      refine am_go_le (K := 2 + 14) (by omega) ?_
      refine am_x1 am_FTyp am_qTyp_33 rfl ?_
      refine am_xz am_qTyp_35 (b := false) (t := 64) (am_lc_lt j (by omega)) (by decide) ?_
      refine am_x1 am_FTyp am_qTyp_38 rfl ?_
      refine am_x1 am_FTyp am_qTyp_39 rfl ?_
      refine am_x1 am_FTyp am_qTyp_41 rfl ?_
      refine am_x1 am_FTyp am_qTyp_43 rfl ?_
      refine am_x1 am_FTyp am_qTyp_44 rfl ?_
      refine am_x1 am_FTyp am_qTyp_45 rfl ?_
      refine am_x1 am_FTyp am_qTyp_46 rfl ?_
      refine am_x1 am_FTyp am_qTyp_49 rfl ?_
      refine am_xc am_qTyp_50 (w := ([.int (am_cb w (am_lc (j + 1)))], [])) rfl rfl am_risTy (Nat.le_refl _) ?_
      refine am_xz am_qTyp_53 (b := false) (t := 58) (by rw [hty]; exact am_zb_ne) (by decide) ?_
      refine am_x1 am_FTyp am_qTyp_56 rfl ?_
      exact am_xr am_qTyp_57 (by decide)

end AM20
theorem am_t480 : ∀ t, t < 480 → am_c .lt (Int32.ofNat t) 0 = false ∧ am_c .ge (Int32.ofNat t) 480 = false ∧ am_ok (Int32.ofNat t) 480 = true ∧ (Int32.ofNat t).toNatClampNeg = t ∧ Int32.ofNat t + Int32.ofInt 1 = Int32.ofNat (t + 1) := by decide +kernel
theorem am_t481 : ∀ t, t < 481 → ∀ k, k < 8 → Int32.ofNat t + Int32.ofNat (k + 1) ≤ 480 → t + (k + 1) ≤ 480 := by decide +kernel
theorem am_n8 : ∀ k, k < 8 → Int32.ofNat (k + 1) - Int32.ofInt 1 = am_lc (k + 1) ∧ (Int32.ofNat (k + 1)).toNatClampNeg = k + 1 := by decide +kernel
theorem am_n18 {n : Int32} (h1 : ¬ n < 1) (h8 : ¬ 8 < n) : ∃ k, k < 8 ∧ n = Int32.ofNat (k + 1) := by
  have e1 : ¬ n.toInt < 1 := fun z => h1 (Int32.lt_iff_toInt_lt.mpr z)
  have e8 : ¬ 8 < n.toInt := fun z => h8 (Int32.lt_iff_toInt_lt.mpr z)
  refine ⟨n.toInt.toNat - 1, by omega, ?_⟩
  apply Int32.toInt_inj.mp
  rw [Int32.toInt_ofNat_of_lt (by omega)]
  omega
theorem am_wi (x : Int32) : ((!false || false) && (decide (narrow FieldType.int (.int x) = .int x) && fits FieldType.int (.int x))) = true := by
  have e : narrow FieldType.int (.int x) = .int x := rfl
  rw [decide_eq_true e]
  rfl
/-- a character, a byte is written into a row -/
theorem am_xca {y fuel d K pc a n : Nat} {lv : am_L} {r : List Value} {h : List va_E} {res : Option am_R} {g : Nat → Int32} {j z : Int32} (hp : am_pk y pc = some .castore) (hr : h[a]? = some (.inl (1, n, .inl g))) (hk : am_ok j n = true) (hn : am_go y fuel d K (pc + 1) lv r (h.set a (.inl (1, n, .inl (upd g j.toNatClampNeg (vp_nar .char z))))) res) : am_go y fuel d (K + 1) pc lv (.int z :: .int j :: .ref a :: r) h res := by
  refine am_x1 ⟨rfl, rfl, rfl⟩ hp ?_ hn
  show am_row h a _ = _
  unfold am_row
  rw [hr]
  show (if ((1 : Nat) == 1 && am_ok j n) = true then _ else _) = _
  rw [hk]
  rfl
theorem am_xba {y fuel d K pc a n : Nat} {lv : am_L} {r : List Value} {h : List va_E} {res : Option am_R} {g : Nat → Int32} {j z : Int32} (hp : am_pk y pc = some .bastore) (hr : h[a]? = some (.inl (3, n, .inl g))) (hk : am_ok j n = true) (hn : am_go y fuel d K (pc + 1) lv r (h.set a (.inl (3, n, .inl (upd g j.toNatClampNeg (vp_nar .byte z))))) res) : am_go y fuel d (K + 1) pc lv (.int z :: .int j :: .ref a :: r) h res := by
  refine am_x1 ⟨rfl, rfl, rfl⟩ hp ?_ hn
  show am_row h a _ = _
  unfold am_row
  rw [hr]
  show (if (((3 : Nat) == 2 || (3 : Nat) == 3) && am_ok j n) = true then _ else _) = _
  rw [hk]
  rfl

theorem am_rput {d tp cr t : Nat} {h : List va_E} {g : Nat → Int32} {len c : Int32} (h1 : h[tp]? = some (.inr (1, [.ref cr, .int (Int32.ofNat t), .int len]))) (h2 : h[cr]? = some (.inl (1, 480, .inl g))) (ht : t < 480) : am_all am_thr 3000 (d + 1) 12 [.ref tp, .int c] h = some (.inl none, (h.set cr (.inl (1, 480, .inl (upd g t (vp_nar .char (c.toUInt32 % 65536).toInt32))))).set tp (.inr (1, [.ref cr, .int (Int32.ofNat (t + 1)), .int len])), 0, 0) := by
  obtain ⟨q1, q2, q3, q4, q5⟩ := am_t480 t ht
  have hne : cr ≠ tp := by
    intro z
    rw [z, h1] at h2
    cases h2
  rw [← q5]
  refine am_in_go (by rw [am_Fput.2.1]; exact Nat.le_of_ble_eq_true rfl) ?_
  refine am_x1 am_Fput am_qput_0 rfl ?_
  refine am_xg am_Fput am_qput_1 am_qf1_15 h1 rfl ?_
  refine am_xz am_qput_4 (b := false) (t := 38) q1 (by decide) ?_
  refine am_x1 am_Fput am_qput_7 rfl ?_
  refine am_xg am_Fput am_qput_8 am_qf1_15 h1 rfl ?_
  refine am_x1 am_Fput am_qput_11 rfl ?_
  refine am_xi am_qput_14 (b := false) (t := 38) (am_b am_s480 q2) (by decide) ?_
  refine am_x1 am_Fput am_qput_17 rfl ?_
  refine am_xg am_Fput am_qput_18 am_qf1_9 h1 rfl ?_
  refine am_x1 am_Fput am_qput_21 rfl ?_
  refine am_xg am_Fput am_qput_22 am_qf1_15 h1 rfl ?_
  refine am_x1 am_Fput am_qput_25 rfl ?_
  refine am_x1 am_Fput am_qput_26 rfl ?_
  refine am_xca am_qput_27 h2 q3 ?_
  rw [q4]
  refine am_x1 am_Fput am_qput_28 rfl ?_
  refine am_x1 am_Fput am_qput_29 rfl ?_
  refine am_xg am_Fput am_qput_30 am_qf1_15 (am_at_other h1 hne) rfl ?_
  refine am_x1 am_Fput am_qput_33 rfl ?_
  refine am_x1 am_Fput am_qput_34 rfl ?_
  refine am_xp am_Fput am_qput_35 am_qf1_15 (am_at_other h1 hne) (Nat.le_of_ble_eq_true rfl) (am_wi _) ?_
  exact am_xv am_qput_38
end
section
/-! ===== type: both sides ===== -/
theorem am_pl {d x tp cr : Nat} {w : Int64} {n : Int32} {f0 : List Value} {len : Int32} (hf : f0[0]? = some (.ref tp)) : ∀ (j : Nat) (h : List va_E) (t : Nat) (g : Nat → Int32), j ≤ 8 → h[x]? = some (.inr (0, f0)) → h[tp]? = some (.inr (1, [.ref cr, .int (Int32.ofNat t), .int len])) → h[cr]? = some (.inl (1, 480, .inl g)) → t + j ≤ 480 →
    ∃ h', h'.length = h.length ∧ (∀ i, i ≠ tp → i ≠ cr → h'[i]? = h[i]?) ∧ am_go 9 3000 (d + 2) (15 * j + 4) 69 (am_lvT (am_lc j) x w n) [] h (some (.inl (some (.int 1)), h', 0, 0)) := by
  intro j
  induction j with
  | zero =>
    intro h t g _ h0 h1 h2 ht
    refine ⟨h, rfl, fun _ _ _ => rfl, ?_⟩
    refine am_x1 am_FTyp am_qTyp_69 rfl ?_
    refine am_xz am_qTyp_71 (b := true) (t := 99) am_lc_lt0 (by decide) ?_
    refine am_x1 am_FTyp am_qTyp_99 rfl ?_
    exact am_xr am_qTyp_100 (by decide)
  | succ j ih =>
    intro h t g hj h0 h1 h2 ht
    have e := am_lc_dec j (by omega)
    have n1 : cr ≠ tp := fun z => by rw [z, h1] at h2; cases h2
    have n2 : tp ≠ x := fun z => by rw [z, h0] at h1; cases h1
    have n3 : cr ≠ x := fun z => by rw [z, h0] at h2; cases h2
    obtain ⟨h', hl, hkp, hg⟩ := ih ((h.set cr (.inl (1, 480, .inl (upd g t (vp_nar .char ((am_cb w (am_lc (j + 1))).toUInt32 % 65536).toInt32))))).set tp (.inr (1, [.ref cr, .int (Int32.ofNat (t + 1)), .int len]))) (t + 1) _ (by omega) (am_at_other (am_at_other h0 n3) n2) (am_at_set (am_at_other h1 n1)) (am_at_other (am_at_set h2) (fun z => n1 z.symm)) (by omega)
    refine ⟨h', by rw [hl, List.length_set, List.length_set], fun i i1 i2 => by rw [hkp i i1 i2, List.getElem?_set_ne (fun z => i1 z.symm), List.getElem?_set_ne (fun z => i2 z.symm)], ?_⟩
    refine am_go_le (K := 15 * j + 4 + 15) (by omega) ?_
    refine am_x1 am_FTyp am_qTyp_69 rfl ?_
    refine am_xz am_qTyp_71 (b := false) (t := 99) (am_lc_lt j (by omega)) (by decide) ?_
    refine am_x1 am_FTyp am_qTyp_74 rfl ?_
    refine am_xg am_FTyp am_qTyp_75 am_qf0_10 h0 hf ?_
    refine am_x1 am_FTyp am_qTyp_78 rfl ?_
    refine am_x1 am_FTyp am_qTyp_79 rfl ?_
    refine am_x1 am_FTyp am_qTyp_81 rfl ?_
    refine am_x1 am_FTyp am_qTyp_83 rfl ?_
    refine am_x1 am_FTyp am_qTyp_84 rfl ?_
    refine am_x1 am_FTyp am_qTyp_85 rfl ?_
    refine am_x1 am_FTyp am_qTyp_86 rfl ?_
    refine am_x1 am_FTyp am_qTyp_89 rfl ?_
    refine am_xc am_qTyp_90 (w := ([.ref tp, .int (am_cb w (am_lc (j + 1)))], [])) rfl (by unfold am_rcv; simp only [h1]; rfl) (am_rput h1 h2 (by omega)) (by rw [List.length_set, List.length_set]; exact Nat.le_refl _) ?_
    refine am_x1 am_FTyp am_qTyp_93 rfl ?_
    refine am_xj am_qTyp_96 (t := 69) (by decide) ?_
    show am_go 9 3000 (d + 2) _ 69 (am_lvT (am_lc (j + 1) + Int32.ofInt (-1)) x w n) [] _ _
    rw [e]
    exact hg

def am_tyv (w : Int64) (n : Int32) (t : Nat) : Bool := !decide (n < 1) && (!decide (8 < n) && (decide (Int32.ofNat t + n ≤ 480) && am_ok8 w n.toNatClampNeg))
theorem am_rTyp {d x tp cr t : Nat} {h : List va_E} {f0 : List Value} {g : Nat → Int32} {w : Int64} {n len : Int32} (h0 : h[x]? = some (.inr (0, f0))) (hf : f0[0]? = some (.ref tp)) (h1 : h[tp]? = some (.inr (1, [.ref cr, .int (Int32.ofNat t), .int len]))) (h2 : h[cr]? = some (.inl (1, 480, .inl g))) (ht : t ≤ 480) :
    ∃ h', h'.length = h.length ∧ (∀ i, i ≠ tp → i ≠ cr → h'[i]? = h[i]?) ∧ am_all am_thr 3000 (d + 3) 9 [.ref x, .long w, .int n] h = some (.inl (some (.int (am_zb (am_tyv w n t)))), h', 0, 0) := by
  by_cases c1 : n < 1
  · rw [show am_tyv w n t = false by unfold am_tyv; rw [decide_eq_true c1]; rfl, show am_zb false = 0 from rfl]
    refine ⟨h, rfl, fun _ _ _ => rfl, am_in_go (by rw [am_FTyp.2.1]; exact Nat.le_of_ble_eq_true rfl) ?_⟩
    refine am_x1 am_FTyp am_qTyp_0 rfl ?_
    refine am_x1 am_FTyp am_qTyp_1 rfl ?_
    refine am_xi am_qTyp_2 (b := true) (t := 26) (decide_eq_true c1) (by decide) ?_
    refine am_x1 am_FTyp am_qTyp_26 rfl ?_
    exact am_xr am_qTyp_27 (by decide)
  · by_cases c2 : 8 < n
    · rw [show am_tyv w n t = false by unfold am_tyv; rw [decide_eq_true c2, Bool.not_true, Bool.false_and, Bool.and_false], show am_zb false = 0 from rfl]
      refine ⟨h, rfl, fun _ _ _ => rfl, am_in_go (by rw [am_FTyp.2.1]; exact Nat.le_of_ble_eq_true rfl) ?_⟩
      refine am_x1 am_FTyp am_qTyp_0 rfl ?_
      refine am_x1 am_FTyp am_qTyp_1 rfl ?_
      refine am_xi am_qTyp_2 (b := false) (t := 26) (decide_eq_false c1) (by decide) ?_
      refine am_x1 am_FTyp am_qTyp_5 rfl ?_
      refine am_x1 am_FTyp am_qTyp_6 rfl ?_
      refine am_xi am_qTyp_8 (b := true) (t := 26) (am_b am_b8 (decide_eq_true c2)) (by decide) ?_
      refine am_x1 am_FTyp am_qTyp_26 rfl ?_
      exact am_xr am_qTyp_27 (by decide)
    · by_cases c3 : Int32.ofNat t + n ≤ 480
      · obtain ⟨k, hk, rfl⟩ := am_n18 c1 c2
        have e3 := am_t481 t (by omega) k hk c3
        obtain ⟨e4, e5⟩ := am_n8 k hk
        by_cases c4 : am_ok8 w (k + 1) = true
        · rw [show am_tyv w (Int32.ofNat (k + 1)) t = true by unfold am_tyv; rw [e5, c4, decide_eq_false c1, decide_eq_false c2, decide_eq_true c3]; rfl, show am_zb true = 1 from rfl]
          obtain ⟨h', hl, hkp, hg⟩ := am_pl (d := d) (x := x) (w := w) (n := Int32.ofNat (k + 1)) hf (k + 1) h t g (by omega) h0 h1 h2 e3
          refine ⟨h', hl, hkp, am_in_go (by rw [am_FTyp.2.1]; exact Nat.le_of_ble_eq_true rfl) ?_⟩
          refine am_go_le (K := 15 * (k + 1) + 4 + 4 + 14 * (k + 1) + 2 + 17) (by omega) ?_
          refine am_x1 am_FTyp am_qTyp_0 rfl ?_
          refine am_x1 am_FTyp am_qTyp_1 rfl ?_
          refine am_xi am_qTyp_2 (b := false) (t := 26) (decide_eq_false c1) (by decide) ?_
          refine am_x1 am_FTyp am_qTyp_5 rfl ?_
          refine am_x1 am_FTyp am_qTyp_6 rfl ?_
          refine am_xi am_qTyp_8 (b := false) (t := 26) (am_b am_b8 (decide_eq_false c2)) (by decide) ?_
          refine am_x1 am_FTyp am_qTyp_11 rfl ?_
          refine am_xg am_FTyp am_qTyp_12 am_qf0_10 h0 hf ?_
          refine am_xg am_FTyp am_qTyp_15 am_qf0_74 h1 rfl ?_
          refine am_x1 am_FTyp am_qTyp_18 rfl ?_
          refine am_x1 am_FTyp am_qTyp_19 rfl ?_
          refine am_x1 am_FTyp am_qTyp_20 rfl ?_
          refine am_xi am_qTyp_23 (b := true) (t := 28) (am_b am_s480 (decide_eq_true c3)) (by decide) ?_
          refine am_x1 am_FTyp am_qTyp_28 rfl ?_
          refine am_x1 am_FTyp am_qTyp_29 rfl ?_
          refine am_x1 am_FTyp am_qTyp_30 rfl ?_
          refine am_x1 am_FTyp am_qTyp_31 rfl ?_
          show am_go 9 3000 (d + 2) _ 33 (am_lvT (Int32.ofNat (k + 1) - Int32.ofInt 1) x w (Int32.ofNat (k + 1))) [] h _
          rw [e4]
          refine am_vl1 (K := 15 * (k + 1) + 4 + 4) ?_ (k + 1) (by omega) c4
          refine am_x1 am_FTyp am_qTyp_64 rfl ?_
          refine am_x1 am_FTyp am_qTyp_65 rfl ?_
          refine am_x1 am_FTyp am_qTyp_66 rfl ?_
          refine am_x1 am_FTyp am_qTyp_67 rfl ?_
          show am_go 9 3000 (d + 2) _ 69 (am_lvT (Int32.ofNat (k + 1) - Int32.ofInt 1) x w (Int32.ofNat (k + 1))) [] h _
          rw [e4]
          exact hg
        · rw [Bool.not_eq_true] at c4
          rw [show am_tyv w (Int32.ofNat (k + 1)) t = false by unfold am_tyv; rw [e5, c4, Bool.and_false, Bool.and_false, Bool.and_false], show am_zb false = 0 from rfl]
          refine ⟨h, rfl, fun _ _ _ => rfl, am_in_go (by rw [am_FTyp.2.1]; exact Nat.le_of_ble_eq_true rfl) ?_⟩
          refine am_go_le (K := 14 * (k + 1) + 2 + 17) (by omega) ?_
          refine am_x1 am_FTyp am_qTyp_0 rfl ?_
          refine am_x1 am_FTyp am_qTyp_1 rfl ?_
          refine am_xi am_qTyp_2 (b := false) (t := 26) (decide_eq_false c1) (by decide) ?_
          refine am_x1 am_FTyp am_qTyp_5 rfl ?_
          refine am_x1 am_FTyp am_qTyp_6 rfl ?_
          refine am_xi am_qTyp_8 (b := false) (t := 26) (am_b am_b8 (decide_eq_false c2)) (by decide) ?_
          refine am_x1 am_FTyp am_qTyp_11 rfl ?_
          refine am_xg am_FTyp am_qTyp_12 am_qf0_10 h0 hf ?_
          refine am_xg am_FTyp am_qTyp_15 am_qf0_74 h1 rfl ?_
          refine am_x1 am_FTyp am_qTyp_18 rfl ?_
          refine am_x1 am_FTyp am_qTyp_19 rfl ?_
          refine am_x1 am_FTyp am_qTyp_20 rfl ?_
          refine am_xi am_qTyp_23 (b := true) (t := 28) (am_b am_s480 (decide_eq_true c3)) (by decide) ?_
          refine am_x1 am_FTyp am_qTyp_28 rfl ?_
          refine am_x1 am_FTyp am_qTyp_29 rfl ?_
          refine am_x1 am_FTyp am_qTyp_30 rfl ?_
          refine am_x1 am_FTyp am_qTyp_31 rfl ?_
          show am_go 9 3000 (d + 2) _ 33 (am_lvT (Int32.ofNat (k + 1) - Int32.ofInt 1) x w (Int32.ofNat (k + 1))) [] h _
          rw [e4]
          exact am_vl0 (k + 1) (by omega) c4
      · rw [show am_tyv w n t = false by unfold am_tyv; rw [decide_eq_false c3, Bool.false_and, Bool.and_false, Bool.and_false], show am_zb false = 0 from rfl]
        refine ⟨h, rfl, fun _ _ _ => rfl, am_in_go (by rw [am_FTyp.2.1]; exact Nat.le_of_ble_eq_true rfl) ?_⟩
        refine am_x1 am_FTyp am_qTyp_0 rfl ?_
        refine am_x1 am_FTyp am_qTyp_1 rfl ?_
        refine am_xi am_qTyp_2 (b := false) (t := 26) (decide_eq_false c1) (by decide) ?_
        refine am_x1 am_FTyp am_qTyp_5 rfl ?_
        refine am_x1 am_FTyp am_qTyp_6 rfl ?_
        refine am_xi am_qTyp_8 (b := false) (t := 26) (am_b am_b8 (decide_eq_false c2)) (by decide) ?_
        refine am_x1 am_FTyp am_qTyp_11 rfl ?_
        refine am_xg am_FTyp am_qTyp_12 am_qf0_10 h0 hf ?_
        refine am_xg am_FTyp am_qTyp_15 am_qf0_74 h1 rfl ?_
        refine am_x1 am_FTyp am_qTyp_18 rfl ?_
        refine am_x1 am_FTyp am_qTyp_19 rfl ?_
        refine am_x1 am_FTyp am_qTyp_20 rfl ?_
        refine am_xi am_qTyp_23 (b := false) (t := 28) (am_b am_s480 (decide_eq_false c3)) (by decide) ?_
        refine am_x1 am_FTyp am_qTyp_26 rfl ?_
        exact am_xr am_qTyp_27 (by decide)
end
section
/-! ===== type: the reference's side ===== -/
theorem am_kl9 : am_kl 9 173 = some 255 := by decide +kernel
theorem am_xk {y fuel d K pc c nL k : Nat} {ini : Bool} {lv : am_L} {st : List Value} {h : List va_E} {res : Option am_R} (hF : am_co y = c ∧ am_mL y = nL ∧ am_in y = ini) {v : Int64} (hp : am_pk y pc = some (.ldc2_w k)) (hk : am_kl c k = some v) (hn : am_go y fuel d K (pc + 3) lv (.long v :: st) h res) : am_go y fuel d (K + 1) pc lv st h res := by
  refine am_x1 hF hp ?_ hn
  show (am_kl c k).bind _ = _
  rw [hk]
  rfl
abbrev am_lvM (i c : Int32) (x : Nat) (w : Int64) (n : Int32) : am_L := [(4, .int i), (5, .int c), (0, .ref x), (1, .long w), (3, .int n)]
def am_mty (c : Int32) : Bool := am_bl c || (!decide (c < 32) && decide (c ≤ 126))
theorem am_mty_eq (c : Int32) : am_mty c = am_ty c := by
  unfold am_mty am_ty am_bl
  by_cases h1 : c = 9
  · subst h1; decide
  · by_cases h2 : c = 10
    · subst h2; decide
    · by_cases h3 : c = 13
      · subst h3; decide
      · by_cases h4 : c = 32
        · subst h4; decide
        · rw [decide_eq_false h1, decide_eq_false h2, decide_eq_false h3, decide_eq_false h4]
          simp
section AM21
variable {d x : Nat} {h : List va_E} {w : Int64} {n : Int32}

/-- one turn: a character that may be typed -/
theorem am_mt_1 {j K : Nat} {c5 : Int32} {o : am_O} {h2 : List va_E} {nc ns : Nat} (hj : j < 8) (hty : am_ty (am_cb w (am_lc (j + 1))) = true) (hn : am_go 172 3000 (d + 1) K 35 (am_lvM (am_lc j) (am_cb w (am_lc (j + 1))) x w n) [] h (some (o, h2, nc, ns))) : am_go 172 3000 (d + 1) (K + 22) 35 (am_lvM (am_lc (j + 1)) c5 x w n) [] h (some (o, h2, nc, ns)) := by
  have e := am_lc_dec j hj
  have ecb := am_cb_mb w hj
  rw [← am_mty_eq, ← ecb] at hty
  rw [← ecb, ← e] at hn
  by_cases b1 : am_bl (am_mb w (am_lc (j + 1))) = true
  · refine am_go_le (K := K + 16) (by omega) ?_
    refine am_x1 am_FMTyp am_qMTyp_35 rfl ?_
    refine am_xz am_qMTyp_37 (b := false) (t := 84) (am_lc_lt j (by omega)) (by decide) ?_
    refine am_x1 am_FMTyp am_qMTyp_40 rfl ?_
    refine am_x1 am_FMTyp am_qMTyp_41 rfl ?_
    refine am_x1 am_FMTyp am_qMTyp_43 rfl ?_
    refine am_x1 am_FMTyp am_qMTyp_45 rfl ?_
    refine am_x1 am_FMTyp am_qMTyp_46 rfl ?_
    refine am_xk am_FMTyp am_qMTyp_47 am_kl9 ?_
    refine am_x1 am_FMTyp am_qMTyp_50 rfl ?_
    refine am_x1 am_FMTyp am_qMTyp_51 rfl ?_
    refine am_x1 am_FMTyp am_qMTyp_52 rfl ?_
    refine am_x1 am_FMTyp am_qMTyp_54 rfl ?_
    refine am_xc am_qMTyp_56 (w := ([.int (am_mb w (am_lc (j + 1)))], [])) rfl rfl am_rMBl (Nat.le_refl _) ?_
    refine am_xz am_qMTyp_59 (b := true) (t := 78) (by rw [b1]; exact am_zb_ne) (by decide) ?_
    refine am_x1 am_FMTyp am_qMTyp_78 rfl ?_
    refine am_xj am_qMTyp_81 (t := 35) (by decide) ?_
    exact hn
  · rw [Bool.not_eq_true] at b1
    unfold am_mty at hty
    rw [b1, Bool.false_or, Bool.and_eq_true, Bool.not_eq_true', decide_eq_false_iff_not, decide_eq_true_eq] at hty
    obtain ⟨b2, b3⟩ := hty
    refine am_go_le (K := K + 22) (by omega) ?_
    refine am_x1 am_FMTyp am_qMTyp_35 rfl ?_
    refine am_xz am_qMTyp_37 (b := false) (t := 84) (am_lc_lt j (by omega)) (by decide) ?_
    refine am_x1 am_FMTyp am_qMTyp_40 rfl ?_
    refine am_x1 am_FMTyp am_qMTyp_41 rfl ?_
    refine am_x1 am_FMTyp am_qMTyp_43 rfl ?_
    refine am_x1 am_FMTyp am_qMTyp_45 rfl ?_
    refine am_x1 am_FMTyp am_qMTyp_46 rfl ?_
    refine am_xk am_FMTyp am_qMTyp_47 am_kl9 ?_
    refine am_x1 am_FMTyp am_qMTyp_50 rfl ?_
    refine am_x1 am_FMTyp am_qMTyp_51 rfl ?_
    refine am_x1 am_FMTyp am_qMTyp_52 rfl ?_
    refine am_x1 am_FMTyp am_qMTyp_54 rfl ?_
    refine am_xc am_qMTyp_56 (w := ([.int (am_mb w (am_lc (j + 1)))], [])) rfl rfl am_rMBl (Nat.le_refl _) ?_
    refine am_xz am_qMTyp_59 (b := false) (t := 78) (by rw [b1]; exact am_zb_ne) (by decide) ?_
    refine am_x1 am_FMTyp am_qMTyp_62 rfl ?_
    refine am_x1 am_FMTyp am_qMTyp_64 rfl ?_
    refine am_xi am_qMTyp_66 (b := false) (t := 76) (am_b am_b32 (decide_eq_false b2)) (by decide) ?_
    refine am_x1 am_FMTyp am_qMTyp_69 rfl ?_
    refine am_x1 am_FMTyp am_qMTyp_71 rfl ?_
    refine am_xi am_qMTyp_73 (b := true) (t := 78) (am_b am_b126 (decide_eq_true b3)) (by decide) ?_
    refine am_x1 am_FMTyp am_qMTyp_78 rfl ?_
    refine am_xj am_qMTyp_81 (t := 35) (by decide) ?_
    exact hn
theorem am_mt_0 {j K : Nat} {c5 : Int32} (hj : j < 8) (hty : am_ty (am_cb w (am_lc (j + 1))) = false) : am_go 172 3000 (d + 1) (K + 22) 35 (am_lvM (am_lc (j + 1)) c5 x w n) [] h (some (.inl (some (.int 0)), h, 0, 0)) := by
  have ecb := am_cb_mb w hj
  rw [← am_mty_eq, ← ecb] at hty
  unfold am_mty at hty
  rw [Bool.or_eq_false_iff] at hty
  obtain ⟨b1, b4⟩ := hty
  by_cases b2 : am_mb w (am_lc (j + 1)) < 32
  · refine am_go_le (K := K + 22) (by omega) ?_
    refine am_x1 am_FMTyp am_qMTyp_35 rfl ?_
    refine am_xz am_qMTyp_37 (b := false) (t := 84) (am_lc_lt j (by omega)) (by decide) ?_
    refine am_x1 am_FMTyp am_qMTyp_40 rfl ?_
    refine am_x1 am_FMTyp am_qMTyp_41 rfl ?_
    refine am_x1 am_FMTyp am_qMTyp_43 rfl ?_
    refine am_x1 am_FMTyp am_qMTyp_45 rfl ?_
    refine am_x1 am_FMTyp am_qMTyp_46 rfl ?_
    refine am_xk am_FMTyp am_qMTyp_47 am_kl9 ?_
    refine am_x1 am_FMTyp am_qMTyp_50 rfl ?_
    refine am_x1 am_FMTyp am_qMTyp_51 rfl ?_
    refine am_x1 am_FMTyp am_qMTyp_52 rfl ?_
    refine am_x1 am_FMTyp am_qMTyp_54 rfl ?_
    refine am_xc am_qMTyp_56 (w := ([.int (am_mb w (am_lc (j + 1)))], [])) rfl rfl am_rMBl (Nat.le_refl _) ?_
    refine am_xz am_qMTyp_59 (b := false) (t := 78) (by rw [b1]; exact am_zb_ne) (by decide) ?_
    refine am_x1 am_FMTyp am_qMTyp_62 rfl ?_
    refine am_x1 am_FMTyp am_qMTyp_64 rfl ?_
    refine am_xi am_qMTyp_66 (b := true) (t := 76) (am_b am_b32 (decide_eq_true b2)) (by decide) ?_
    refine am_x1 am_FMTyp am_qMTyp_76 rfl ?_
    exact am_xr am_qMTyp_77 (by decide)
  · rw [decide_eq_false b2, Bool.not_false, Bool.true_and, decide_eq_false_iff_not] at b4
    have b3 := b4
    refine am_go_le (K := K + 22) (by omega) ?_
    refine am_x1 am_FMTyp am_qMTyp_35 rfl ?_
    refine am_xz am_qMTyp_37 (b := false) (t := 84) (am_lc_lt j (by omega)) (by decide) ?_
    refine am_x1 am_FMTyp am_qMTyp_40 rfl ?_
    refine am_x1 am_FMTyp am_qMTyp_41 rfl ?_
    refine am_x1 am_FMTyp am_qMTyp_43 rfl ?_
    refine am_x1 am_FMTyp am_qMTyp_45 rfl ?_
    refine am_x1 am_FMTyp am_qMTyp_46 rfl ?_
    refine am_xk am_FMTyp am_qMTyp_47 am_kl9 ?_
    refine am_x1 am_FMTyp am_qMTyp_50 rfl ?_
    refine am_x1 am_FMTyp am_qMTyp_51 rfl ?_
    refine am_x1 am_FMTyp am_qMTyp_52 rfl ?_
    refine am_x1 am_FMTyp am_qMTyp_54 rfl ?_
    refine am_xc am_qMTyp_56 (w := ([.int (am_mb w (am_lc (j + 1)))], [])) rfl rfl am_rMBl (Nat.le_refl _) ?_
    refine am_xz am_qMTyp_59 (b := false) (t := 78) (by rw [b1]; exact am_zb_ne) (by decide) ?_
    refine am_x1 am_FMTyp am_qMTyp_62 rfl ?_
    refine am_x1 am_FMTyp am_qMTyp_64 rfl ?_
    refine am_xi am_qMTyp_66 (b := false) (t := 76) (am_b am_b32 (decide_eq_false b2)) (by decide) ?_
    refine am_x1 am_FMTyp am_qMTyp_69 rfl ?_
    refine am_x1 am_FMTyp am_qMTyp_71 rfl ?_
    refine am_xi am_qMTyp_73 (b := false) (t := 78) (am_b am_b126 (decide_eq_false b3)) (by decide) ?_
    refine am_x1 am_FMTyp am_qMTyp_76 rfl ?_
    exact am_xr am_qMTyp_77 (by decide)

/-- one turn, the first: a character that may be typed -/
theorem am_mf_1 {j K : Nat} {o : am_O} {h2 : List va_E} {nc ns : Nat} (hj : j < 8) (hty : am_ty (am_cb w (am_lc (j + 1))) = true) (hn : am_go 172 3000 (d + 1) K 35 (am_lvM (am_lc j) (am_cb w (am_lc (j + 1))) x w n) [] h (some (o, h2, nc, ns))) : am_go 172 3000 (d + 1) (K + 22) 35 (am_lvT (am_lc (j + 1)) x w n) [] h (some (o, h2, nc, ns)) := by
  have e := am_lc_dec j hj
  have ecb := am_cb_mb w hj
  rw [← am_mty_eq, ← ecb] at hty
  rw [← ecb, ← e] at hn
  by_cases b1 : am_bl (am_mb w (am_lc (j + 1))) = true
  · refine am_go_le (K := K + 16) (by omega) ?_
    refine am_x1 am_FMTyp am_qMTyp_35 rfl ?_
    refine am_xz am_qMTyp_37 (b := false) (t := 84) (am_lc_lt j (by omega)) (by decide) ?_
    refine am_x1 am_FMTyp am_qMTyp_40 rfl ?_
    refine am_x1 am_FMTyp am_qMTyp_41 rfl ?_
    refine am_x1 am_FMTyp am_qMTyp_43 rfl ?_
    refine am_x1 am_FMTyp am_qMTyp_45 rfl ?_
    refine am_x1 am_FMTyp am_qMTyp_46 rfl ?_
    refine am_xk am_FMTyp am_qMTyp_47 am_kl9 ?_
    refine am_x1 am_FMTyp am_qMTyp_50 rfl ?_
    refine am_x1 am_FMTyp am_qMTyp_51 rfl ?_
    refine am_x1 am_FMTyp am_qMTyp_52 rfl ?_
    refine am_x1 am_FMTyp am_qMTyp_54 rfl ?_
    refine am_xc am_qMTyp_56 (w := ([.int (am_mb w (am_lc (j + 1)))], [])) rfl rfl am_rMBl (Nat.le_refl _) ?_
    refine am_xz am_qMTyp_59 (b := true) (t := 78) (by rw [b1]; exact am_zb_ne) (by decide) ?_
    refine am_x1 am_FMTyp am_qMTyp_78 rfl ?_
    refine am_xj am_qMTyp_81 (t := 35) (by decide) ?_
    exact hn
  · rw [Bool.not_eq_true] at b1
    unfold am_mty at hty
    rw [b1, Bool.false_or, Bool.and_eq_true, Bool.not_eq_true', decide_eq_false_iff_not, decide_eq_true_eq] at hty
    obtain ⟨b2, b3⟩ := hty
    refine am_go_le (K := K + 22) (by omega) ?_
    refine am_x1 am_FMTyp am_qMTyp_35 rfl ?_
    refine am_xz am_qMTyp_37 (b := false) (t := 84) (am_lc_lt j (by omega)) (by decide) ?_
    refine am_x1 am_FMTyp am_qMTyp_40 rfl ?_
    refine am_x1 am_FMTyp am_qMTyp_41 rfl ?_
    refine am_x1 am_FMTyp am_qMTyp_43 rfl ?_
    refine am_x1 am_FMTyp am_qMTyp_45 rfl ?_
    refine am_x1 am_FMTyp am_qMTyp_46 rfl ?_
    refine am_xk am_FMTyp am_qMTyp_47 am_kl9 ?_
    refine am_x1 am_FMTyp am_qMTyp_50 rfl ?_
    refine am_x1 am_FMTyp am_qMTyp_51 rfl ?_
    refine am_x1 am_FMTyp am_qMTyp_52 rfl ?_
    refine am_x1 am_FMTyp am_qMTyp_54 rfl ?_
    refine am_xc am_qMTyp_56 (w := ([.int (am_mb w (am_lc (j + 1)))], [])) rfl rfl am_rMBl (Nat.le_refl _) ?_
    refine am_xz am_qMTyp_59 (b := false) (t := 78) (by rw [b1]; exact am_zb_ne) (by decide) ?_
    refine am_x1 am_FMTyp am_qMTyp_62 rfl ?_
    refine am_x1 am_FMTyp am_qMTyp_64 rfl ?_
    refine am_xi am_qMTyp_66 (b := false) (t := 76) (am_b am_b32 (decide_eq_false b2)) (by decide) ?_
    refine am_x1 am_FMTyp am_qMTyp_69 rfl ?_
    refine am_x1 am_FMTyp am_qMTyp_71 rfl ?_
    refine am_xi am_qMTyp_73 (b := true) (t := 78) (am_b am_b126 (decide_eq_true b3)) (by decide) ?_
    refine am_x1 am_FMTyp am_qMTyp_78 rfl ?_
    refine am_xj am_qMTyp_81 (t := 35) (by decide) ?_
    exact hn
theorem am_mf_0 {j K : Nat} (hj : j < 8) (hty : am_ty (am_cb w (am_lc (j + 1))) = false) : am_go 172 3000 (d + 1) (K + 22) 35 (am_lvT (am_lc (j + 1)) x w n) [] h (some (.inl (some (.int 0)), h, 0, 0)) := by
  have ecb := am_cb_mb w hj
  rw [← am_mty_eq, ← ecb] at hty
  unfold am_mty at hty
  rw [Bool.or_eq_false_iff] at hty
  obtain ⟨b1, b4⟩ := hty
  by_cases b2 : am_mb w (am_lc (j + 1)) < 32
  · refine am_go_le (K := K + 22) (by omega) ?_
    refine am_x1 am_FMTyp am_qMTyp_35 rfl ?_
    refine am_xz am_qMTyp_37 (b := false) (t := 84) (am_lc_lt j (by omega)) (by decide) ?_
    refine am_x1 am_FMTyp am_qMTyp_40 rfl ?_
    refine am_x1 am_FMTyp am_qMTyp_41 rfl ?_
    refine am_x1 am_FMTyp am_qMTyp_43 rfl ?_
    refine am_x1 am_FMTyp am_qMTyp_45 rfl ?_
    refine am_x1 am_FMTyp am_qMTyp_46 rfl ?_
    refine am_xk am_FMTyp am_qMTyp_47 am_kl9 ?_
    refine am_x1 am_FMTyp am_qMTyp_50 rfl ?_
    refine am_x1 am_FMTyp am_qMTyp_51 rfl ?_
    refine am_x1 am_FMTyp am_qMTyp_52 rfl ?_
    refine am_x1 am_FMTyp am_qMTyp_54 rfl ?_
    refine am_xc am_qMTyp_56 (w := ([.int (am_mb w (am_lc (j + 1)))], [])) rfl rfl am_rMBl (Nat.le_refl _) ?_
    refine am_xz am_qMTyp_59 (b := false) (t := 78) (by rw [b1]; exact am_zb_ne) (by decide) ?_
    refine am_x1 am_FMTyp am_qMTyp_62 rfl ?_
    refine am_x1 am_FMTyp am_qMTyp_64 rfl ?_
    refine am_xi am_qMTyp_66 (b := true) (t := 76) (am_b am_b32 (decide_eq_true b2)) (by decide) ?_
    refine am_x1 am_FMTyp am_qMTyp_76 rfl ?_
    exact am_xr am_qMTyp_77 (by decide)
  · rw [decide_eq_false b2, Bool.not_false, Bool.true_and, decide_eq_false_iff_not] at b4
    have b3 := b4
    refine am_go_le (K := K + 22) (by omega) ?_
    refine am_x1 am_FMTyp am_qMTyp_35 rfl ?_
    refine am_xz am_qMTyp_37 (b := false) (t := 84) (am_lc_lt j (by omega)) (by decide) ?_
    refine am_x1 am_FMTyp am_qMTyp_40 rfl ?_
    refine am_x1 am_FMTyp am_qMTyp_41 rfl ?_
    refine am_x1 am_FMTyp am_qMTyp_43 rfl ?_
    refine am_x1 am_FMTyp am_qMTyp_45 rfl ?_
    refine am_x1 am_FMTyp am_qMTyp_46 rfl ?_
    refine am_xk am_FMTyp am_qMTyp_47 am_kl9 ?_
    refine am_x1 am_FMTyp am_qMTyp_50 rfl ?_
    refine am_x1 am_FMTyp am_qMTyp_51 rfl ?_
    refine am_x1 am_FMTyp am_qMTyp_52 rfl ?_
    refine am_x1 am_FMTyp am_qMTyp_54 rfl ?_
    refine am_xc am_qMTyp_56 (w := ([.int (am_mb w (am_lc (j + 1)))], [])) rfl rfl am_rMBl (Nat.le_refl _) ?_
    refine am_xz am_qMTyp_59 (b := false) (t := 78) (by rw [b1]; exact am_zb_ne) (by decide) ?_
    refine am_x1 am_FMTyp am_qMTyp_62 rfl ?_
    refine am_x1 am_FMTyp am_qMTyp_64 rfl ?_
    refine am_xi am_qMTyp_66 (b := false) (t := 76) (am_b am_b32 (decide_eq_false b2)) (by decide) ?_
    refine am_x1 am_FMTyp am_qMTyp_69 rfl ?_
    refine am_x1 am_FMTyp am_qMTyp_71 rfl ?_
    refine am_xi am_qMTyp_73 (b := false) (t := 78) (am_b am_b126 (decide_eq_false b3)) (by decide) ?_
    refine am_x1 am_FMTyp am_qMTyp_76 rfl ?_
    exact am_xr am_qMTyp_77 (by decide)

theorem am_mvl1 {K : Nat} {o : am_O} {h2 : List va_E} {nc ns : Nat} (hn : ∀ c, am_go 172 3000 (d + 1) K 84 (am_lvM (am_lc 0) c x w n) [] h (some (o, h2, nc, ns))) : ∀ j c, j ≤ 8 → am_ok8 w j = true → am_go 172 3000 (d + 1) (K + 22 * j + 2) 35 (am_lvM (am_lc j) c x w n) [] h (some (o, h2, nc, ns)) := by
  intro j
  induction j with
  | zero =>
    intro c _ _
    refine am_go_le (K := K + 2) (by omega) ?_
    refine am_x1 am_FMTyp am_qMTyp_35 rfl ?_
    refine am_xz am_qMTyp_37 (b := true) (t := 84) am_lc_lt0 (by decide) ?_
    exact hn c
  | succ j ih =>
    intro c hj hok
    have hok2 : am_ty (am_cb w (am_lc (j + 1))) = true ∧ am_ok8 w j = true := by
      have := hok
      unfold am_ok8 at this
      rwa [Bool.and_eq_true] at this
    exact am_go_le (by omega) (am_mt_1 (by omega) hok2.1 (ih (am_cb w (am_lc (j + 1))) (by omega) hok2.2))
theorem am_mvl0 : ∀ j c, j ≤ 8 → am_ok8 w j = false → am_go 172 3000 (d + 1) (22 * j + 2) 35 (am_lvM (am_lc j) c x w n) [] h (some (.inl (some (.int 0)), h, 0, 0)) := by
  intro j
  induction j with
  | zero => intro _ _ hok; cases hok
  | succ j ih =>
    intro c hj hok
    by_cases hty : am_ty (am_cb w (am_lc (j + 1))) = true
    · have hok2 : am_ok8 w j = false := by
        have := hok
        unfold am_ok8 at this
        rwa [hty, Bool.true_and] at this
      exact am_go_le (by omega) (am_mt_1 (by omega) hty (ih (am_cb w (am_lc (j + 1))) (by omega) hok2))
    · rw [Bool.not_eq_true] at hty
      exact am_go_le (K := 0 + 22) (by omega) (am_mt_0 (by omega) hty)
end AM21

theorem am_mpl {d x tr : Nat} {w : Int64} {n : Int32} : ∀ (j : Nat) (h : List va_E) (f : List Value) (t : Nat) (g : Nat → Int32), j ≤ 8 → h[x]? = some (.inr (9, f)) → f[4]? = some (.ref tr) → f[6]? = some (.int (Int32.ofNat t)) → h[tr]? = some (.inl (3, 480, .inl g)) → t + j ≤ 480 →
    ∃ h', h'.length = h.length ∧ ∀ c, am_go 172 3000 (d + 1) (25 * j + 4) 89 (am_lvM (am_lc j) c x w n) [] h (some (.inl (some (.int 1)), h', 0, 0)) := by
  intro j
  induction j with
  | zero =>
    intro h f t g _ h0 f4 f6 h2 ht
    refine ⟨h, rfl, fun c => ?_⟩
    refine am_x1 am_FMTyp am_qMTyp_89 rfl ?_
    refine am_xz am_qMTyp_91 (b := true) (t := 132) am_lc_lt0 (by decide) ?_
    refine am_x1 am_FMTyp am_qMTyp_132 rfl ?_
    exact am_xr am_qMTyp_133 (by decide)
  | succ j ih =>
    intro h f t g hj h0 f4 f6 h2 ht
    have e := am_lc_dec j (by omega)
    obtain ⟨q1, q2, q3, q4, q5⟩ := am_t480 t (by omega)
    have n1 : tr ≠ x := fun z => by rw [z, h0] at h2; cases h2
    obtain ⟨h', hl, hg⟩ := ih ((h.set tr (.inl (3, 480, .inl (upd g (Int32.ofNat t).toNatClampNeg (vp_nar .byte (am_mb w (am_lc (j + 1))).toInt8.toInt32))))).set x (.inr (9, f.set 6 (.int (Int32.ofNat t + Int32.ofInt 1))))) (f.set 6 (.int (Int32.ofNat t + Int32.ofInt 1))) (t + 1) _ (by omega) (am_at_set (am_at_other h0 n1)) (am_f_other f4 (by decide)) (by rw [q5]; exact am_f_set f6) (am_at_other (am_at_set h2) (fun z => n1 z.symm)) (by omega)
    refine ⟨h', by rw [hl, List.length_set, List.length_set], fun c => ?_⟩
    refine am_go_le (K := 25 * j + 4 + 25) (by omega) ?_
    refine am_x1 am_FMTyp am_qMTyp_89 rfl ?_
    refine am_xz am_qMTyp_91 (b := false) (t := 132) (am_lc_lt j (by omega)) (by decide) ?_
    refine am_x1 am_FMTyp am_qMTyp_94 rfl ?_
    refine am_xg am_FMTyp am_qMTyp_95 am_qf9_80 h0 f4 ?_
    refine am_x1 am_FMTyp am_qMTyp_98 rfl ?_
    refine am_xg am_FMTyp am_qMTyp_99 am_qf9_170 h0 f6 ?_
    refine am_x1 am_FMTyp am_qMTyp_102 rfl ?_
    refine am_x1 am_FMTyp am_qMTyp_103 rfl ?_
    refine am_x1 am_FMTyp am_qMTyp_105 rfl ?_
    refine am_x1 am_FMTyp am_qMTyp_107 rfl ?_
    refine am_x1 am_FMTyp am_qMTyp_108 rfl ?_
    refine am_xk am_FMTyp am_qMTyp_109 am_kl9 ?_
    refine am_x1 am_FMTyp am_qMTyp_112 rfl ?_
    refine am_x1 am_FMTyp am_qMTyp_113 rfl ?_
    refine am_x1 am_FMTyp am_qMTyp_114 rfl ?_
    refine am_xba am_qMTyp_115 h2 q3 ?_
    refine am_x1 am_FMTyp am_qMTyp_116 rfl ?_
    refine am_x1 am_FMTyp am_qMTyp_117 rfl ?_
    refine am_xg am_FMTyp am_qMTyp_118 am_qf9_170 (am_at_other h0 n1) f6 ?_
    refine am_x1 am_FMTyp am_qMTyp_121 rfl ?_
    refine am_x1 am_FMTyp am_qMTyp_122 rfl ?_
    refine am_xp am_FMTyp am_qMTyp_123 am_qf9_170 (am_at_other h0 n1) (List.getElem?_eq_some_iff.mp f6).1 (am_wi _) ?_
    refine am_x1 am_FMTyp am_qMTyp_126 rfl ?_
    refine am_xj am_qMTyp_129 (t := 89) (by decide) ?_
    show am_go 172 3000 (d + 1) _ 89 (am_lvM (am_lc (j + 1) + Int32.ofInt (-1)) c x w n) [] _ _
    rw [e]
    exact am_go_le (by omega) (hg c)

theorem am_rMTyp {d x tr t : Nat} {h : List va_E} {f : List Value} {g : Nat → Int32} {w : Int64} {n v3 : Int32} (h0 : h[x]? = some (.inr (9, f))) (f3 : f[3]? = some (.int v3)) (f4 : f[4]? = some (.ref tr)) (f6 : f[6]? = some (.int (Int32.ofNat t))) (h2 : h[tr]? = some (.inl (3, 480, .inl g))) (ht : t ≤ 480) :
    ∃ h', h'.length = h.length ∧ am_all am_thr 3000 (d + 2) 172 [.ref x, .long w, .int n] h = some (.inl (some (.int (am_zb (am_tyv w n t)))), h', 0, 0) := by
  have g0 : (h.set x (.inr (9, f.set 3 (.int 0))))[x]? = some (.inr (9, f.set 3 (.int 0))) := am_at_set h0
  have g6 : (f.set 3 (.int 0))[6]? = some (.int (Int32.ofNat t)) := am_f_other f6 (by decide)
  by_cases c1 : n < 1
  · rw [show am_tyv w n t = false by unfold am_tyv; rw [decide_eq_true c1]; rfl, show am_zb false = 0 from rfl]
    refine ⟨h.set x (.inr (9, f.set 3 (.int 0))), by rw [List.length_set], am_in_go (by rw [am_FMTyp.2.1]; exact Nat.le_of_ble_eq_true rfl) ?_⟩
    refine am_x1 am_FMTyp am_qMTyp_0 rfl ?_
    refine am_x1 am_FMTyp am_qMTyp_1 rfl ?_
    refine am_xp am_FMTyp am_qMTyp_2 am_qf9_167 h0 (List.getElem?_eq_some_iff.mp f3).1 rfl ?_
    refine am_x1 am_FMTyp am_qMTyp_5 rfl ?_
    refine am_x1 am_FMTyp am_qMTyp_6 rfl ?_
    refine am_xi am_qMTyp_7 (b := true) (t := 28) (decide_eq_true c1) (by decide) ?_
    refine am_x1 am_FMTyp am_qMTyp_28 rfl ?_
    exact am_xr am_qMTyp_29 (by decide)
  · by_cases c2 : 8 < n
    · rw [show am_tyv w n t = false by unfold am_tyv; rw [decide_eq_true c2, Bool.not_true, Bool.false_and, Bool.and_false], show am_zb false = 0 from rfl]
      refine ⟨h.set x (.inr (9, f.set 3 (.int 0))), by rw [List.length_set], am_in_go (by rw [am_FMTyp.2.1]; exact Nat.le_of_ble_eq_true rfl) ?_⟩
      refine am_x1 am_FMTyp am_qMTyp_0 rfl ?_
      refine am_x1 am_FMTyp am_qMTyp_1 rfl ?_
      refine am_xp am_FMTyp am_qMTyp_2 am_qf9_167 h0 (List.getElem?_eq_some_iff.mp f3).1 rfl ?_
      refine am_x1 am_FMTyp am_qMTyp_5 rfl ?_
      refine am_x1 am_FMTyp am_qMTyp_6 rfl ?_
      refine am_xi am_qMTyp_7 (b := false) (t := 28) (decide_eq_false c1) (by decide) ?_
      refine am_x1 am_FMTyp am_qMTyp_10 rfl ?_
      refine am_x1 am_FMTyp am_qMTyp_11 rfl ?_
      refine am_xi am_qMTyp_13 (b := true) (t := 28) (am_b am_b8 (decide_eq_true c2)) (by decide) ?_
      refine am_x1 am_FMTyp am_qMTyp_28 rfl ?_
      exact am_xr am_qMTyp_29 (by decide)
    · by_cases c3 : Int32.ofNat t + n ≤ 480
      · obtain ⟨k, hk, rfl⟩ := am_n18 c1 c2
        have e3 := am_t481 t (by omega) k hk c3
        obtain ⟨e4, e5⟩ := am_n8 k hk
        by_cases c4 : am_ok8 w (k + 1) = true
        · rw [show am_tyv w (Int32.ofNat (k + 1)) t = true by unfold am_tyv; rw [e5, c4, decide_eq_false c1, decide_eq_false c2, decide_eq_true c3]; rfl, show am_zb true = 1 from rfl]
          have hok2 : am_ty (am_cb w (am_lc (k + 1))) = true ∧ am_ok8 w k = true := by
            have := c4
            unfold am_ok8 at this
            rwa [Bool.and_eq_true] at this
          have n1 : x ≠ tr := fun z => by rw [← z, h0] at h2; cases h2
          obtain ⟨h', hl, hg⟩ := am_mpl (d := d) (x := x) (w := w) (n := Int32.ofNat (k + 1)) (k + 1) (h.set x (.inr (9, f.set 3 (.int 0)))) (f.set 3 (.int 0)) t g (by omega) g0 (am_f_other f4 (by decide)) g6 (am_at_other h2 n1) e3
          refine ⟨h', by rw [hl, List.length_set], am_in_go (by rw [am_FMTyp.2.1]; exact Nat.le_of_ble_eq_true rfl) ?_⟩
          refine am_go_le (K := 25 * (k + 1) + 4 + 4 + 22 * k + 2 + 22 + 20) (by omega) ?_
          refine am_x1 am_FMTyp am_qMTyp_0 rfl ?_
          refine am_x1 am_FMTyp am_qMTyp_1 rfl ?_
          refine am_xp am_FMTyp am_qMTyp_2 am_qf9_167 h0 (List.getElem?_eq_some_iff.mp f3).1 rfl ?_
          refine am_x1 am_FMTyp am_qMTyp_5 rfl ?_
          refine am_x1 am_FMTyp am_qMTyp_6 rfl ?_
          refine am_xi am_qMTyp_7 (b := false) (t := 28) (decide_eq_false c1) (by decide) ?_
          refine am_x1 am_FMTyp am_qMTyp_10 rfl ?_
          refine am_x1 am_FMTyp am_qMTyp_11 rfl ?_
          refine am_xi am_qMTyp_13 (b := false) (t := 28) (am_b am_b8 (decide_eq_false c2)) (by decide) ?_
          refine am_x1 am_FMTyp am_qMTyp_16 rfl ?_
          refine am_xg am_FMTyp am_qMTyp_17 am_qf9_170 g0 g6 ?_
          refine am_x1 am_FMTyp am_qMTyp_20 rfl ?_
          refine am_x1 am_FMTyp am_qMTyp_21 rfl ?_
          refine am_x1 am_FMTyp am_qMTyp_22 rfl ?_
          refine am_xi am_qMTyp_25 (b := true) (t := 30) (am_b am_s480 (decide_eq_true c3)) (by decide) ?_
          refine am_x1 am_FMTyp am_qMTyp_30 rfl ?_
          refine am_x1 am_FMTyp am_qMTyp_31 rfl ?_
          refine am_x1 am_FMTyp am_qMTyp_32 rfl ?_
          refine am_x1 am_FMTyp am_qMTyp_33 rfl ?_
          show am_go 172 3000 (d + 1) _ 35 (am_lvT (Int32.ofNat (k + 1) - Int32.ofInt 1) x w (Int32.ofNat (k + 1))) [] _ _
          rw [e4]
          refine am_go_le (K := 25 * (k + 1) + 4 + 4 + 22 * k + 2 + 22) (by omega) (am_mf_1 hk hok2.1 (am_mvl1 (K := 25 * (k + 1) + 4 + 4) (fun c => ?_) k _ (by omega) hok2.2))
          refine am_x1 am_FMTyp am_qMTyp_84 rfl ?_
          refine am_x1 am_FMTyp am_qMTyp_85 rfl ?_
          refine am_x1 am_FMTyp am_qMTyp_86 rfl ?_
          refine am_x1 am_FMTyp am_qMTyp_87 rfl ?_
          show am_go 172 3000 (d + 1) _ 89 (am_lvM (Int32.ofNat (k + 1) - Int32.ofInt 1) c x w (Int32.ofNat (k + 1))) [] _ _
          rw [e4]
          exact hg c
        · rw [Bool.not_eq_true] at c4
          rw [show am_tyv w (Int32.ofNat (k + 1)) t = false by unfold am_tyv; rw [e5, c4, Bool.and_false, Bool.and_false, Bool.and_false], show am_zb false = 0 from rfl]
          refine ⟨h.set x (.inr (9, f.set 3 (.int 0))), by rw [List.length_set], am_in_go (by rw [am_FMTyp.2.1]; exact Nat.le_of_ble_eq_true rfl) ?_⟩
          refine am_go_le (K := 22 * k + 2 + 22 + 20) (by omega) ?_
          refine am_x1 am_FMTyp am_qMTyp_0 rfl ?_
          refine am_x1 am_FMTyp am_qMTyp_1 rfl ?_
          refine am_xp am_FMTyp am_qMTyp_2 am_qf9_167 h0 (List.getElem?_eq_some_iff.mp f3).1 rfl ?_
          refine am_x1 am_FMTyp am_qMTyp_5 rfl ?_
          refine am_x1 am_FMTyp am_qMTyp_6 rfl ?_
          refine am_xi am_qMTyp_7 (b := false) (t := 28) (decide_eq_false c1) (by decide) ?_
          refine am_x1 am_FMTyp am_qMTyp_10 rfl ?_
          refine am_x1 am_FMTyp am_qMTyp_11 rfl ?_
          refine am_xi am_qMTyp_13 (b := false) (t := 28) (am_b am_b8 (decide_eq_false c2)) (by decide) ?_
          refine am_x1 am_FMTyp am_qMTyp_16 rfl ?_
          refine am_xg am_FMTyp am_qMTyp_17 am_qf9_170 g0 g6 ?_
          refine am_x1 am_FMTyp am_qMTyp_20 rfl ?_
          refine am_x1 am_FMTyp am_qMTyp_21 rfl ?_
          refine am_x1 am_FMTyp am_qMTyp_22 rfl ?_
          refine am_xi am_qMTyp_25 (b := true) (t := 30) (am_b am_s480 (decide_eq_true c3)) (by decide) ?_
          refine am_x1 am_FMTyp am_qMTyp_30 rfl ?_
          refine am_x1 am_FMTyp am_qMTyp_31 rfl ?_
          refine am_x1 am_FMTyp am_qMTyp_32 rfl ?_
          refine am_x1 am_FMTyp am_qMTyp_33 rfl ?_
          show am_go 172 3000 (d + 1) _ 35 (am_lvT (Int32.ofNat (k + 1) - Int32.ofInt 1) x w (Int32.ofNat (k + 1))) [] _ _
          rw [e4]
          by_cases hty : am_ty (am_cb w (am_lc (k + 1))) = true
          · have hok2 : am_ok8 w k = false := by
              have := c4
              unfold am_ok8 at this
              rwa [hty, Bool.true_and] at this
            exact am_go_le (K := 22 * k + 2 + 22) (by omega) (am_mf_1 hk hty (am_mvl0 k _ (by omega) hok2))
          · rw [Bool.not_eq_true] at hty
            exact am_go_le (K := 0 + 22) (by omega) (am_mf_0 hk hty)
      · rw [show am_tyv w n t = false by unfold am_tyv; rw [decide_eq_false c3, Bool.false_and, Bool.and_false, Bool.and_false], show am_zb false = 0 from rfl]
        refine ⟨h.set x (.inr (9, f.set 3 (.int 0))), by rw [List.length_set], am_in_go (by rw [am_FMTyp.2.1]; exact Nat.le_of_ble_eq_true rfl) ?_⟩
        refine am_x1 am_FMTyp am_qMTyp_0 rfl ?_
        refine am_x1 am_FMTyp am_qMTyp_1 rfl ?_
        refine am_xp am_FMTyp am_qMTyp_2 am_qf9_167 h0 (List.getElem?_eq_some_iff.mp f3).1 rfl ?_
        refine am_x1 am_FMTyp am_qMTyp_5 rfl ?_
        refine am_x1 am_FMTyp am_qMTyp_6 rfl ?_
        refine am_xi am_qMTyp_7 (b := false) (t := 28) (decide_eq_false c1) (by decide) ?_
        refine am_x1 am_FMTyp am_qMTyp_10 rfl ?_
        refine am_x1 am_FMTyp am_qMTyp_11 rfl ?_
        refine am_xi am_qMTyp_13 (b := false) (t := 28) (am_b am_b8 (decide_eq_false c2)) (by decide) ?_
        refine am_x1 am_FMTyp am_qMTyp_16 rfl ?_
        refine am_xg am_FMTyp am_qMTyp_17 am_qf9_170 g0 g6 ?_
        refine am_x1 am_FMTyp am_qMTyp_20 rfl ?_
        refine am_x1 am_FMTyp am_qMTyp_21 rfl ?_
        refine am_x1 am_FMTyp am_qMTyp_22 rfl ?_
        refine am_xi am_qMTyp_25 (b := false) (t := 30) (am_b am_s480 (decide_eq_false c3)) (by decide) ?_
        refine am_x1 am_FMTyp am_qMTyp_28 rfl ?_
        exact am_xr am_qMTyp_29 (by decide)
end
section
/-! ===== the law's roads ===== -/
def am_lgo (ro : Nat → Option (Nat × (Nat → Int32))) (pc : Nat) (lv : am_L) (st : List Value) (h : List va_E) (r : am_F × Nat × Nat) : Prop := ∃ n, am_lg ro n pc lv st h = some r
def am_lp (pc : Nat) : Option Instr := match am_fL0.lookup pc with
  | none => none
  | some i => if (am_plain i && (!(am_iso (am_oi 12) i) && (am_cal 12 i).isNone)) = true then some i else none
def am_lq (pc : Nat) : Option (Nat × Nat × Nat × Nat) := match am_fL0.lookup pc with
  | none => none
  | some i => if (am_plain i && !(am_iso (am_oi 12) i)) = true then am_cal 12 i else none
section AM22
variable {ro : Nat → Option (Nat × (Nat → Int32))} {pc : Nat} {lv : am_L} {st : List Value} {h : List va_E} {r : am_F × Nat × Nat}
theorem am_lz0 : am_lgo ro pc lv st h ((pc, lv, st, h), 0, 0) := ⟨0, rfl⟩
theorem am_lz1 {i : Instr} {pc' : Nat} {lv' : am_L} {st' : List Value} {h' : List va_E} (hp : am_lp pc = some i) (hst : am_step (am_fl 12) (am_kc 12) (am_kl 12) (fun _ => none) ro false 7 i pc lv st h = some (pc', lv', st', h')) (hn : am_lgo ro pc' lv' st' h' r) : am_lgo ro pc lv st h r := by
  obtain ⟨n, hn⟩ := hn
  refine ⟨n + 1, ?_⟩
  unfold am_lp at hp
  split at hp
  · cases hp
  · next j h2 =>
    split at hp
    · next h3 =>
      cases hp
      simp only [Bool.and_eq_true, Bool.not_eq_true', Option.isNone_iff_eq_none] at h3
      obtain ⟨h3, h4, h5⟩ := h3
      show (am_one _ _ _ _ _ _ pc lv st h).bind _ = _
      have e1 : am_one (fun pc => am_fL0.lookup pc) (am_step (am_fl 12) (am_kc 12) (am_kl 12) (fun _ => none) ro false 7) (am_cal 12) (am_oi 12) (am_nw 12) (am_all am_thr 3000 40) pc lv st h = some ((pc', lv', st', h'), 0, 0) := by
        unfold am_one
        simp only [h2]
        split
        · cases h3
        · cases h3
        · show (match am_iso (am_oi 12) i with
            | true => _
            | false => _) = _
          rw [h4]
          simp only [h5, hst, Option.bind_some]
      rw [e1, Option.bind_some]
      show (am_seg _ _ _ _ _ _ n pc' lv' st' h').bind _ = _
      rw [show am_seg _ _ _ _ _ _ n pc' lv' st' h' = _ from hn]
      simp
    · cases hp
theorem am_lzc {q : Nat × Nat × Nat × Nat} (hp : am_lq pc = some q) {w : List Value × List Value} {v : Option Value} {h' : List va_E} (h6 : am_pop (am_vir q.1) q.2.2.1 st = some w) (h7 : (decide ((w.2.map fun v => v.category).sum ≤ 8) && ((q.1 != 0) || am_rcv w.1 h q.2.2.2)) = true) (h8 : am_all am_thr 3000 40 q.2.1 w.1 h = some (.inl v, h', 0, 0)) (h9 : h.length ≤ h'.length) (hn : am_lgo ro (pc + 3) lv (v.toList ++ w.2) h' r) : am_lgo ro pc lv st h r := by
  obtain ⟨n, hn⟩ := hn
  refine ⟨n + 1, ?_⟩
  unfold am_lq at hp
  split at hp
  · cases hp
  · next j h2 =>
    split at hp
    · next h3 =>
      simp only [Bool.and_eq_true, Bool.not_eq_true'] at h3
      obtain ⟨h3, h4⟩ := h3
      show (am_one _ _ _ _ _ _ pc lv st h).bind _ = _
      have e1 : am_one (fun pc => am_fL0.lookup pc) (am_step (am_fl 12) (am_kc 12) (am_kl 12) (fun _ => none) ro false 7) (am_cal 12) (am_oi 12) (am_nw 12) (am_all am_thr 3000 40) pc lv st h = some ((pc + 3, lv, v.toList ++ w.2, h'), 0, 0) := by
        unfold am_one
        simp only [h2]
        split
        · cases h3
        · cases h3
        · show (match am_iso (am_oi 12) j with
            | true => _
            | false => _) = _
          rw [h4]
          simp only [hp, h6, Option.bind_some]
          rw [if_pos h7, h8]
          simp only [Option.bind_some]
          rw [if_pos]
          rw [Bool.and_eq_true]
          exact ⟨decide_eq_true h9, rfl⟩
      rw [e1, Option.bind_some]
      show (am_seg _ _ _ _ _ _ n (pc + 3) lv (v.toList ++ w.2) h').bind _ = _
      rw [show am_seg _ _ _ _ _ _ n (pc + 3) lv (v.toList ++ w.2) h' = _ from hn]
      simp
    · cases hp
theorem am_lzj {off : Int} {t : Nat} (hp : am_lp pc = some (.goto off)) (ht : am_to pc off = some t) (hn : am_lgo ro t lv st h r) : am_lgo ro pc lv st h r := by
  refine am_lz1 hp ?_ hn
  show (am_to pc off).bind _ = _
  rw [ht]
  rfl
theorem am_lzi {c : ClassFile.Cond} {off : Int} {x z : Int32} {r0 : List Value} {b : Bool} {t : Nat} (hp : am_lp pc = some (.if_icmp c off)) (hc : am_c c x z = b) (ht : am_to pc off = some t) (hn : am_lgo ro (cond b t (pc + 3)) lv r0 h r) : am_lgo ro pc lv (.int z :: .int x :: r0) h r := by
  refine am_lz1 hp ?_ hn
  show (am_to pc off).bind _ = _
  rw [ht, Option.bind_some, hc]
  cases b <;> rfl
theorem am_lzz {c : ClassFile.Cond} {off : Int} {x : Int32} {r0 : List Value} {b : Bool} {t : Nat} (hp : am_lp pc = some (.ifCond c off)) (hc : am_c c x 0 = b) (ht : am_to pc off = some t) (hn : am_lgo ro (cond b t (pc + 3)) lv r0 h r) : am_lgo ro pc lv (.int x :: r0) h r := by
  refine am_lz1 hp ?_ hn
  show (am_to pc off).bind _ = _
  rw [ht, Option.bind_some, hc]
  cases b <;> rfl
theorem am_lzo {dd lo hi : Int} {offs : Array Int} {x : Int32} {r0 : List Value} {t : Nat} (hp : am_lp pc = some (.tableswitch dd lo hi offs)) (ho : (decide (x.toInt < lo) || decide (hi < x.toInt)) = true) (ht : am_to pc dd = some t) (hn : am_lgo ro t lv r0 h r) : am_lgo ro pc lv (.int x :: r0) h r := by
  refine am_lz1 hp ?_ hn
  show (am_to pc (if (decide (x.toInt < lo) || decide (hi < x.toInt)) = true then dd else _)).bind _ = _
  rw [if_pos ho, ht, Option.bind_some, if_pos]
  rw [ho]
  rfl
theorem am_lzw {dd lo hi off : Int} {offs : Array Int} {x : Int32} {r0 : List Value} {t : Nat} (hp : am_lp pc = some (.tableswitch dd lo hi offs)) (ho : (decide (x.toInt < lo) || decide (hi < x.toInt)) = false) (hf : offs[(x.toInt - lo).toNat]? = some off) (ht : am_to pc off = some t) (hn : am_lgo ro t lv r0 h r) : am_lgo ro pc lv (.int x :: r0) h r := by
  refine am_lz1 hp ?_ hn
  show (am_to pc (if (decide (x.toInt < lo) || decide (hi < x.toInt)) = true then dd else (offs[(x.toInt - lo).toNat]?).getD dd)).bind _ = _
  rw [ho, if_neg (by decide), hf, Option.getD_some, ht, Option.bind_some, if_pos]
  rfl
/-- the script -/
theorem am_lza {a n k : Nat} {xs : Nat → Int32} {j : Int32} {r0 : List Value} (hp : am_lp pc = some .iaload) (hr : ro a = some (n, xs)) (hk : am_ok j n = true) (hi : j.toNatClampNeg = k) (hn : am_lgo ro (pc + 1) lv (.int (xs k) :: r0) h r) : am_lgo ro pc lv (.int j :: .ref a :: r0) h r := by
  refine am_lz1 hp ?_ hn
  show (match ro a with
    | some q => _
    | none => _) = _
  rw [hr]
  simp only
  rw [if_pos hk, hi]
theorem am_lzl {a n : Nat} {xs : Nat → Int32} {r0 : List Value} (hp : am_lp pc = some .arraylength) (hr : ro a = some (n, xs)) (hn : am_lgo ro (pc + 1) lv (.int (Int32.ofNat n) :: r0) h r) : am_lgo ro pc lv (.ref a :: r0) h r := by
  refine am_lz1 hp ?_ hn
  show (match ro a with
    | some q => _
    | none => _) = _
  rw [hr]
theorem am_lzk {k : Nat} {v : Int64} (hp : am_lp pc = some (.ldc2_w k)) (hk : am_kl 12 k = some v) (hn : am_lgo ro (pc + 3) lv (.long v :: st) h r) : am_lgo ro pc lv st h r := by
  refine am_lz1 hp ?_ hn
  show (am_kl 12 k).bind _ = _
  rw [hk]
  rfl
end AM22
theorem am_kl12 : am_kl 12 25 = some 4294967295 := by decide +kernel

theorem am_qL_3 : am_lp 3 = some (.dup) := by decide +kernel
theorem am_qL_4 : am_lq 4 = some (2, 0, 0, 0) := by decide +kernel
theorem am_qL_7 : am_lp 7 = some (.astore_n 1) := by decide +kernel
theorem am_qL_11 : am_lp 11 = some (.dup) := by decide +kernel
theorem am_qL_12 : am_lq 12 = some (2, 170, 0, 9) := by decide +kernel
theorem am_qL_15 : am_lp 15 = some (.astore_n 2) := by decide +kernel
theorem am_qL_16 : am_lp 16 = some (.iconst 1) := by decide +kernel
theorem am_qL_19 : am_lp 19 = some (.astore_n 3) := by decide +kernel
theorem am_qL_20 : am_lp 20 = some (.iconst 0) := by decide +kernel
theorem am_qL_21 : am_lp 21 = some (.istore 4) := by decide +kernel
theorem am_qL_23 : am_lp 23 = some (.iload 4) := by decide +kernel
theorem am_qL_25 : am_lp 25 = some (.aload_n 0) := by decide +kernel
theorem am_qL_26 : am_lp 26 = some (.arraylength) := by decide +kernel
theorem am_qL_27 : am_lp 27 = some (.iconst 4) := by decide +kernel
theorem am_qL_28 : am_lp 28 = some (.isub) := by decide +kernel
theorem am_qL_29 : am_lp 29 = some (.if_icmp .gt 326) := by decide +kernel
theorem am_qL_32 : am_lp 32 = some (.aload_n 0) := by decide +kernel
theorem am_qL_33 : am_lp 33 = some (.iload 4) := by decide +kernel
theorem am_qL_35 : am_lp 35 = some (.iaload) := by decide +kernel
theorem am_qL_36 : am_lp 36 = some (.bipush 7) := by decide +kernel
theorem am_qL_38 : am_lp 38 = some (.iand) := by decide +kernel
theorem am_qL_39 : am_lp 39 = some (.tableswitch 310 0 6 #[41, 110, 154, 179, 247, 272, 297]) := by decide +kernel
theorem am_qL_80 : am_lp 80 = some (.aload_n 1) := by decide +kernel
theorem am_qL_81 : am_lp 81 = some (.aload_n 0) := by decide +kernel
theorem am_qL_82 : am_lp 82 = some (.iload 4) := by decide +kernel
theorem am_qL_84 : am_lp 84 = some (.iconst 1) := by decide +kernel
theorem am_qL_85 : am_lp 85 = some (.iadd) := by decide +kernel
theorem am_qL_86 : am_lp 86 = some (.iaload) := by decide +kernel
theorem am_qL_87 : am_lp 87 = some (.i2l) := by decide +kernel
theorem am_qL_88 : am_lp 88 = some (.bipush 32) := by decide +kernel
theorem am_qL_90 : am_lp 90 = some (.lshl) := by decide +kernel
theorem am_qL_91 : am_lp 91 = some (.aload_n 0) := by decide +kernel
theorem am_qL_92 : am_lp 92 = some (.iload 4) := by decide +kernel
theorem am_qL_94 : am_lp 94 = some (.iconst 2) := by decide +kernel
theorem am_qL_95 : am_lp 95 = some (.iadd) := by decide +kernel
theorem am_qL_96 : am_lp 96 = some (.iaload) := by decide +kernel
theorem am_qL_97 : am_lp 97 = some (.i2l) := by decide +kernel
theorem am_qL_98 : am_lp 98 = some (.ldc2_w 25) := by decide +kernel
theorem am_qL_101 : am_lp 101 = some (.land) := by decide +kernel
theorem am_qL_102 : am_lp 102 = some (.lor) := by decide +kernel
theorem am_qL_103 : am_lp 103 = some (.aload_n 0) := by decide +kernel
theorem am_qL_104 : am_lp 104 = some (.iload 4) := by decide +kernel
theorem am_qL_106 : am_lp 106 = some (.iconst 3) := by decide +kernel
theorem am_qL_107 : am_lp 107 = some (.iadd) := by decide +kernel
theorem am_qL_108 : am_lp 108 = some (.iaload) := by decide +kernel
theorem am_qL_109 : am_lq 109 = some (0, 9, 2, 0) := by decide +kernel
theorem am_qL_112 : am_lp 112 = some (.aload_n 2) := by decide +kernel
theorem am_qL_113 : am_lp 113 = some (.aload_n 0) := by decide +kernel
theorem am_qL_114 : am_lp 114 = some (.iload 4) := by decide +kernel
theorem am_qL_116 : am_lp 116 = some (.iconst 1) := by decide +kernel
theorem am_qL_117 : am_lp 117 = some (.iadd) := by decide +kernel
theorem am_qL_118 : am_lp 118 = some (.iaload) := by decide +kernel
theorem am_qL_119 : am_lp 119 = some (.i2l) := by decide +kernel
theorem am_qL_120 : am_lp 120 = some (.bipush 32) := by decide +kernel
theorem am_qL_122 : am_lp 122 = some (.lshl) := by decide +kernel
theorem am_qL_123 : am_lp 123 = some (.aload_n 0) := by decide +kernel
theorem am_qL_124 : am_lp 124 = some (.iload 4) := by decide +kernel
theorem am_qL_126 : am_lp 126 = some (.iconst 2) := by decide +kernel
theorem am_qL_127 : am_lp 127 = some (.iadd) := by decide +kernel
theorem am_qL_128 : am_lp 128 = some (.iaload) := by decide +kernel
theorem am_qL_129 : am_lp 129 = some (.i2l) := by decide +kernel
theorem am_qL_130 : am_lp 130 = some (.ldc2_w 25) := by decide +kernel
theorem am_qL_133 : am_lp 133 = some (.land) := by decide +kernel
theorem am_qL_134 : am_lp 134 = some (.lor) := by decide +kernel
theorem am_qL_135 : am_lp 135 = some (.aload_n 0) := by decide +kernel
theorem am_qL_136 : am_lp 136 = some (.iload 4) := by decide +kernel
theorem am_qL_138 : am_lp 138 = some (.iconst 3) := by decide +kernel
theorem am_qL_139 : am_lp 139 = some (.iadd) := by decide +kernel
theorem am_qL_140 : am_lp 140 = some (.iaload) := by decide +kernel
theorem am_qL_141 : am_lq 141 = some (0, 172, 2, 9) := by decide +kernel
theorem am_qL_144 : am_lp 144 = some (.if_icmp .eq 205) := by decide +kernel
theorem am_qL_147 : am_lp 147 = some (.iconst 0) := by decide +kernel
theorem am_qL_149 : am_lp 149 = some (.aload_n 1) := by decide +kernel
theorem am_qL_150 : am_lp 150 = some (.aload_n 3) := by decide +kernel
theorem am_qL_154 : am_lp 154 = some (.istore 5) := by decide +kernel
theorem am_qL_156 : am_lp 156 = some (.aload_n 2) := by decide +kernel
theorem am_qL_157 : am_lq 157 = some (0, 174, 0, 9) := by decide +kernel
theorem am_qL_160 : am_lp 160 = some (.istore 6) := by decide +kernel
theorem am_qL_162 : am_lp 162 = some (.aload_n 2) := by decide +kernel
theorem am_qL_163 : am_lq 163 = some (0, 171, 0, 9) := by decide +kernel
theorem am_qL_166 : am_lp 166 = some (.iload 5) := by decide +kernel
theorem am_qL_168 : am_lp 168 = some (.if_icmp .eq 5) := by decide +kernel
theorem am_qL_171 : am_lp 171 = some (.iconst 0) := by decide +kernel
theorem am_qL_173 : am_lp 173 = some (.iload 5) := by decide +kernel
theorem am_qL_175 : am_lp 175 = some (.ifCond .ne 15) := by decide +kernel
theorem am_qL_178 : am_lp 178 = some (.aload_n 3) := by decide +kernel
theorem am_qL_179 : am_lp 179 = some (.iconst 0) := by decide +kernel
theorem am_qL_180 : am_lp 180 = some (.laload) := by decide +kernel
theorem am_qL_181 : am_lp 181 = some (.iload 6) := by decide +kernel
theorem am_qL_183 : am_lp 183 = some (.i2l) := by decide +kernel
theorem am_qL_184 : am_lp 184 = some (.lcmp) := by decide +kernel
theorem am_qL_185 : am_lp 185 = some (.ifCond .eq 5) := by decide +kernel
theorem am_qL_188 : am_lp 188 = some (.iconst 0) := by decide +kernel
theorem am_qL_190 : am_lp 190 = some (.goto 159) := by decide +kernel
theorem am_qL_193 : am_lp 193 = some (.aload_n 1) := by decide +kernel
theorem am_qL_194 : am_lp 194 = some (.aload_n 0) := by decide +kernel
theorem am_qL_195 : am_lp 195 = some (.iload 4) := by decide +kernel
theorem am_qL_197 : am_lp 197 = some (.iconst 1) := by decide +kernel
theorem am_qL_198 : am_lp 198 = some (.iadd) := by decide +kernel
theorem am_qL_199 : am_lp 199 = some (.iaload) := by decide +kernel
theorem am_qL_200 : am_lq 200 = some (0, 13, 1, 0) := by decide +kernel
theorem am_qL_203 : am_lp 203 = some (.aload_n 2) := by decide +kernel
theorem am_qL_204 : am_lp 204 = some (.aload_n 0) := by decide +kernel
theorem am_qL_205 : am_lp 205 = some (.iload 4) := by decide +kernel
theorem am_qL_207 : am_lp 207 = some (.iconst 1) := by decide +kernel
theorem am_qL_208 : am_lp 208 = some (.iadd) := by decide +kernel
theorem am_qL_209 : am_lp 209 = some (.iaload) := by decide +kernel
theorem am_qL_210 : am_lq 210 = some (0, 296, 1, 9) := by decide +kernel
theorem am_qL_213 : am_lp 213 = some (.if_icmp .eq 136) := by decide +kernel
theorem am_qL_216 : am_lp 216 = some (.iconst 0) := by decide +kernel
theorem am_qL_218 : am_lp 218 = some (.aload_n 1) := by decide +kernel
theorem am_qL_219 : am_lp 219 = some (.aload_n 0) := by decide +kernel
theorem am_qL_220 : am_lp 220 = some (.iload 4) := by decide +kernel
theorem am_qL_222 : am_lp 222 = some (.iconst 1) := by decide +kernel
theorem am_qL_223 : am_lp 223 = some (.iadd) := by decide +kernel
theorem am_qL_224 : am_lp 224 = some (.iaload) := by decide +kernel
theorem am_qL_225 : am_lp 225 = some (.aload_n 0) := by decide +kernel
theorem am_qL_226 : am_lp 226 = some (.iload 4) := by decide +kernel
theorem am_qL_228 : am_lp 228 = some (.iconst 2) := by decide +kernel
theorem am_qL_229 : am_lp 229 = some (.iadd) := by decide +kernel
theorem am_qL_230 : am_lp 230 = some (.iaload) := by decide +kernel
theorem am_qL_231 : am_lp 231 = some (.aload_n 3) := by decide +kernel
theorem am_qL_235 : am_lp 235 = some (.istore 5) := by decide +kernel
theorem am_qL_237 : am_lp 237 = some (.aload_n 2) := by decide +kernel
theorem am_qL_238 : am_lp 238 = some (.aload_n 0) := by decide +kernel
theorem am_qL_239 : am_lp 239 = some (.iload 4) := by decide +kernel
theorem am_qL_241 : am_lp 241 = some (.iconst 1) := by decide +kernel
theorem am_qL_242 : am_lp 242 = some (.iadd) := by decide +kernel
theorem am_qL_243 : am_lp 243 = some (.iaload) := by decide +kernel
theorem am_qL_244 : am_lp 244 = some (.aload_n 0) := by decide +kernel
theorem am_qL_245 : am_lp 245 = some (.iload 4) := by decide +kernel
theorem am_qL_247 : am_lp 247 = some (.iconst 2) := by decide +kernel
theorem am_qL_248 : am_lp 248 = some (.iadd) := by decide +kernel
theorem am_qL_249 : am_lp 249 = some (.iaload) := by decide +kernel
theorem am_qL_250 : am_lq 250 = some (0, 297, 2, 9) := by decide +kernel
theorem am_qL_253 : am_lp 253 = some (.istore 6) := by decide +kernel
theorem am_qL_255 : am_lp 255 = some (.aload_n 2) := by decide +kernel
theorem am_qL_256 : am_lq 256 = some (0, 171, 0, 9) := by decide +kernel
theorem am_qL_259 : am_lp 259 = some (.iload 5) := by decide +kernel
theorem am_qL_261 : am_lp 261 = some (.if_icmp .eq 5) := by decide +kernel
theorem am_qL_264 : am_lp 264 = some (.iconst 0) := by decide +kernel
theorem am_qL_266 : am_lp 266 = some (.iload 5) := by decide +kernel
theorem am_qL_268 : am_lp 268 = some (.ifCond .ne 15) := by decide +kernel
theorem am_qL_271 : am_lp 271 = some (.aload_n 3) := by decide +kernel
theorem am_qL_272 : am_lp 272 = some (.iconst 0) := by decide +kernel
theorem am_qL_273 : am_lp 273 = some (.laload) := by decide +kernel
theorem am_qL_274 : am_lp 274 = some (.iload 6) := by decide +kernel
theorem am_qL_276 : am_lp 276 = some (.i2l) := by decide +kernel
theorem am_qL_277 : am_lp 277 = some (.lcmp) := by decide +kernel
theorem am_qL_278 : am_lp 278 = some (.ifCond .eq 5) := by decide +kernel
theorem am_qL_281 : am_lp 281 = some (.iconst 0) := by decide +kernel
theorem am_qL_283 : am_lp 283 = some (.goto 66) := by decide +kernel
theorem am_qL_286 : am_lp 286 = some (.aload_n 1) := by decide +kernel
theorem am_qL_287 : am_lp 287 = some (.aload_n 0) := by decide +kernel
theorem am_qL_288 : am_lp 288 = some (.iload 4) := by decide +kernel
theorem am_qL_290 : am_lp 290 = some (.iconst 1) := by decide +kernel
theorem am_qL_291 : am_lp 291 = some (.iadd) := by decide +kernel
theorem am_qL_292 : am_lp 292 = some (.iaload) := by decide +kernel
theorem am_qL_293 : am_lq 293 = some (0, 14, 1, 0) := by decide +kernel
theorem am_qL_296 : am_lp 296 = some (.aload_n 2) := by decide +kernel
theorem am_qL_297 : am_lp 297 = some (.aload_n 0) := by decide +kernel
theorem am_qL_298 : am_lp 298 = some (.iload 4) := by decide +kernel
theorem am_qL_300 : am_lp 300 = some (.iconst 1) := by decide +kernel
theorem am_qL_301 : am_lp 301 = some (.iadd) := by decide +kernel
theorem am_qL_302 : am_lp 302 = some (.iaload) := by decide +kernel
theorem am_qL_303 : am_lq 303 = some (0, 298, 1, 9) := by decide +kernel
theorem am_qL_306 : am_lp 306 = some (.if_icmp .eq 43) := by decide +kernel
theorem am_qL_309 : am_lp 309 = some (.iconst 0) := by decide +kernel
theorem am_qL_311 : am_lp 311 = some (.aload_n 1) := by decide +kernel
theorem am_qL_312 : am_lp 312 = some (.aload_n 0) := by decide +kernel
theorem am_qL_313 : am_lp 313 = some (.iload 4) := by decide +kernel
theorem am_qL_315 : am_lp 315 = some (.iconst 1) := by decide +kernel
theorem am_qL_316 : am_lp 316 = some (.iadd) := by decide +kernel
theorem am_qL_317 : am_lp 317 = some (.iaload) := by decide +kernel
theorem am_qL_318 : am_lq 318 = some (0, 17, 1, 0) := by decide +kernel
theorem am_qL_321 : am_lp 321 = some (.aload_n 2) := by decide +kernel
theorem am_qL_322 : am_lp 322 = some (.aload_n 0) := by decide +kernel
theorem am_qL_323 : am_lp 323 = some (.iload 4) := by decide +kernel
theorem am_qL_325 : am_lp 325 = some (.iconst 1) := by decide +kernel
theorem am_qL_326 : am_lp 326 = some (.iadd) := by decide +kernel
theorem am_qL_327 : am_lp 327 = some (.iaload) := by decide +kernel
theorem am_qL_328 : am_lq 328 = some (0, 299, 1, 9) := by decide +kernel
theorem am_qL_331 : am_lp 331 = some (.if_icmp .eq 18) := by decide +kernel
theorem am_qL_334 : am_lp 334 = some (.iconst 0) := by decide +kernel
theorem am_qL_336 : am_lp 336 = some (.aload_n 1) := by decide +kernel
theorem am_qL_337 : am_lq 337 = some (0, 19, 0, 0) := by decide +kernel
theorem am_qL_340 : am_lp 340 = some (.aload_n 2) := by decide +kernel
theorem am_qL_341 : am_lq 341 = some (0, 300, 0, 9) := by decide +kernel
theorem am_qL_344 : am_lp 344 = some (.if_icmp .eq 5) := by decide +kernel
theorem am_qL_347 : am_lp 347 = some (.iconst 0) := by decide +kernel
theorem am_qL_349 : am_lp 349 = some (.iinc 4 4) := by decide +kernel
theorem am_qL_352 : am_lp 352 = some (.goto (-329)) := by decide +kernel
theorem am_qL_355 : am_lp 355 = some (.iconst 1) := by decide +kernel
end
section
/-! ===== what lies there when both objects are made ===== -/
abbrev am_lv1 : am_L := [(4, .int 0), (3, .ref 72), (2, .ref 41), (1, .ref 0), (0, .ref 2000)]
def am_isO (h : List va_E) (i c : Nat) (fs : List (Nat × Value)) : Bool := match h[i]? with
  | some (.inr o) => decide (o.1 = c) && fs.all (fun q => decide (o.2[q.1]? = some q.2))
  | _ => false
def am_isA (h : List va_E) (i t n : Nat) (l : Bool) : Bool := match h[i]? with
  | some (.inl (t2, n2, .inl _)) => !l && (decide (t2 = t) && decide (n2 = n))
  | some (.inl (t2, n2, .inr (.inl _))) => l && (decide (t2 = t) && decide (n2 = n))
  | _ => false
theorem am_isO_eq {h : List va_E} {i c : Nat} {fs : List (Nat × Value)} (h1 : am_isO h i c fs = true) : ∃ f, h[i]? = some (.inr (c, f)) ∧ ∀ q ∈ fs, f[q.1]? = some q.2 := by
  unfold am_isO at h1
  split at h1
  · next o ho =>
    rw [Bool.and_eq_true, decide_eq_true_eq, List.all_eq_true] at h1
    obtain ⟨c2, f⟩ := o
    obtain ⟨h2, h3⟩ := h1
    cases h2
    exact ⟨f, ho, fun q hq => of_decide_eq_true (h3 q hq)⟩
  · cases h1
theorem am_isA_eq {h : List va_E} {i t n : Nat} (h1 : am_isA h i t n false = true) : ∃ g, h[i]? = some (.inl (t, n, .inl g)) := by
  unfold am_isA at h1
  split at h1
  · next t2 n2 g hg =>
    simp only [Bool.not_false, Bool.true_and, Bool.and_eq_true, decide_eq_true_eq] at h1
    obtain ⟨rfl, rfl⟩ := h1
    exact ⟨g, hg⟩
  · simp at h1
  · cases h1
def am_ckH (h : List va_E) : Bool := decide (h.length = 73) && (am_isO h 0 0 [(0, .ref 1), (1, .ref 3), (5, .ref 37), (6, .ref 18)] && (am_isO h 3 2 [(0, .int 0), (1, .int (-1)), (2, .int 0)] && (am_isO h 18 6 [(8, .int 0)] && (am_isO h 37 8 [(6, .int 0)] && (am_isO h 41 9 [(3, .int 0), (4, .ref 45), (6, .int 0), (8, .int 0), (9, .int (-1)), (10, .int 0), (43, .int 0), (48, .int 0)] && (am_isA h 2 1 480 false && (am_isA h 45 3 480 false && (decide (am_ob h 1 = some (1, [.ref 2, .int 0, .int 0])) && decide (am_ob h 3 = some (2, [.int 0, .int (-1), .int 0]))))))))))
set_option maxRecDepth 1000000 in
theorem am_s1d : (match am_s1r with
    | some r => decide (r.1.1 = 23) && (decide (r.1.2.1 = am_lv1) && (decide (r.1.2.2.1 = []) && (decide (r.2 = (73, 35900)) && am_ckH r.1.2.2.2)))
    | none => false) = true := by decide +kernel
theorem am_s1e : ∃ H, am_s1r = some ((23, am_lv1, [], H), 73, 35900) ∧ am_ckH H = true := by
  have h := am_s1d
  generalize am_s1r = o at h
  match o, h with
  | some ((a, b, c, d), e), h =>
    simp only [Bool.and_eq_true, decide_eq_true_eq] at h
    obtain ⟨rfl, rfl, rfl, rfl, h5⟩ := h
    exact ⟨d, rfl, h5⟩
theorem am_Hx {P : List va_E → Bool} {H : List va_E} (e : am_s1r = some ((23, am_lv1, [], H), 73, 35900)) (h : (match am_s1r with
    | some r => P r.1.2.2.2
    | none => false) = true) : P H = true := by
  generalize am_s1r = o at e h
  subst e
  exact h
end
section
/-! ===== the law's roads behind its switch, one call on new objects ===== -/
theorem am_H1f {H : List va_E} (hH : am_ckH H = true) : ∃ (f0 f6 f8 f9 : List Value) (g2 g45 : Nat → Int32), H.length = 73 ∧ H[0]? = some (.inr (0, f0)) ∧ f0[0]? = some (.ref 1) ∧ f0[1]? = some (.ref 3) ∧ f0[5]? = some (.ref 37) ∧ f0[6]? = some (.ref 18) ∧ H[3]? = some (.inr (2, [.int 0, .int (-1), .int 0])) ∧ H[18]? = some (.inr (6, f6)) ∧ f6[8]? = some (.int 0) ∧ H[37]? = some (.inr (8, f8)) ∧ f8[6]? = some (.int 0) ∧ H[41]? = some (.inr (9, f9)) ∧ f9[3]? = some (.int 0) ∧ f9[4]? = some (.ref 45) ∧ f9[6]? = some (.int (Int32.ofNat 0)) ∧ f9[8]? = some (.int 0) ∧ f9[9]? = some (.int (-1)) ∧ f9[10]? = some (.int 0) ∧ f9[43]? = some (.int 0) ∧ f9[48]? = some (.int 0) ∧ H[2]? = some (.inl (1, 480, .inl g2)) ∧ H[45]? = some (.inl (3, 480, .inl g45)) ∧ H[1]? = some (.inr (1, [.ref 2, .int (Int32.ofNat 0), .int 0])) := by
  have h := hH
  unfold am_ckH at h
  simp only [Bool.and_eq_true, decide_eq_true_eq] at h
  obtain ⟨h1, h2, h3, h4, h5, h6, h7, h8, h9, h10⟩ := h
  obtain ⟨f0, a0, b0⟩ := am_isO_eq h2
  obtain ⟨f6, a6, b6⟩ := am_isO_eq h4
  obtain ⟨f8, a8, b8⟩ := am_isO_eq h5
  obtain ⟨f9, a9, b9⟩ := am_isO_eq h6
  obtain ⟨g2, c2⟩ := am_isA_eq h7
  obtain ⟨g45, c45⟩ := am_isA_eq h8
  have ob : ∀ {i : Nat} {o : Nat × List Value}, am_ob H i = some o → H[i]? = some (.inr o) := by
    intro i o ho
    unfold am_ob at ho
    split at ho
    · next o2 hz => cases ho; exact hz
    · cases ho
  exact ⟨f0, f6, f8, f9, g2, g45, h1, a0, b0 (0, .ref 1) (by simp), b0 (1, .ref 3) (by simp), b0 (5, .ref 37) (by simp), b0 (6, .ref 18) (by simp), ob h10, a6, b6 (8, .int 0) (by simp), a8, b8 (6, .int 0) (by simp), a9, b9 (3, .int 0) (by simp), b9 (4, .ref 45) (by simp), b9 (6, .int 0) (by simp), b9 (8, .int 0) (by simp), b9 (9, .int (-1)) (by simp), b9 (10, .int 0) (by simp), b9 (43, .int 0) (by simp), b9 (48, .int 0) (by simp), c2, c45, ob h9⟩
section AM23
variable {xs : Nat → Int32}
/-- out of the loop -/
theorem am_lexit {h : List va_E} (lr : am_L) (hlr : lr = [] ∨ ∃ a b : Int32, lr = [(6, .int a), (5, .int b)]) : ∃ lv', am_lgo (am_roL 4 xs) 349 (lr ++ am_lv1) [] h ((356, lv', [.int 1], h), 0, 0) := by
  rcases hlr with rfl | ⟨a, b, rfl⟩
  · apply Exists.intro
    refine am_lz1 am_qL_349 rfl ?_
    refine am_lzj am_qL_352 (t := 23) (by decide) ?_
    refine am_lz1 am_qL_23 rfl ?_
    refine am_lz1 am_qL_25 rfl ?_
    refine am_lzl am_qL_26 rfl ?_
    refine am_lz1 am_qL_27 rfl ?_
    refine am_lz1 am_qL_28 rfl ?_
    refine am_lzi am_qL_29 (b := true) (t := 355) (by decide) (by decide) ?_
    refine am_lz1 am_qL_355 rfl ?_
    exact am_lz0
  · apply Exists.intro
    refine am_lz1 am_qL_349 rfl ?_
    refine am_lzj am_qL_352 (t := 23) (by decide) ?_
    refine am_lz1 am_qL_23 rfl ?_
    refine am_lz1 am_qL_25 rfl ?_
    refine am_lzl am_qL_26 rfl ?_
    refine am_lz1 am_qL_27 rfl ?_
    refine am_lz1 am_qL_28 rfl ?_
    refine am_lzi am_qL_29 (b := true) (t := 355) (by decide) (by decide) ?_
    refine am_lz1 am_qL_355 rfl ?_
    exact am_lz0

theorem am_k2 {H : List va_E} (hH : am_ckH H = true) : ∃ h', h'.length = 73 ∧ am_lgo (am_roL 4 xs) 193 am_lv1 [] H ((349, am_lv1, [], h'), 0, 0) := by
  obtain ⟨f0, f6, f8, f9, g2, g45, hln, o0, p0, p1, p5, p6, o3, o18, q8, o37, r6, o41, s3, s4, s6, s8, s9, s10, s43, s48, o2, o45, o1⟩ := am_H1f hH
  refine ⟨H.set 41 (.inr (9, f9.set 3 (.int 0))), by rw [List.length_set]; exact hln, ?_⟩
  refine am_lz1 am_qL_193 rfl ?_
  refine am_lz1 am_qL_194 rfl ?_
  refine am_lz1 am_qL_195 rfl ?_
  refine am_lz1 am_qL_197 rfl ?_
  refine am_lz1 am_qL_198 rfl ?_
  refine am_lza am_qL_199 rfl (by decide) (k := 1) (by decide) ?_
  refine am_lzc am_qL_200 (w := ([.ref 0, .int (xs 1)], [])) rfl (by unfold am_rcv; simp only [o0]; rfl) (am_rFlt o0 p1 o3) (Nat.le_refl _) ?_
  refine am_lz1 am_qL_203 rfl ?_
  refine am_lz1 am_qL_204 rfl ?_
  refine am_lz1 am_qL_205 rfl ?_
  refine am_lz1 am_qL_207 rfl ?_
  refine am_lz1 am_qL_208 rfl ?_
  refine am_lza am_qL_209 rfl (by decide) (k := 1) (by decide) ?_
  refine am_lzc am_qL_210 (w := ([.ref 41, .int (xs 1)], [.int (am_fv 0 (-1) 0 (xs 1))])) rfl (by unfold am_rcv; simp only [o41]; rfl) (am_rMFlt o41 s3 s8 s9 s10) (by rw [List.length_set]; exact Nat.le_refl _) ?_
  refine am_lzi am_qL_213 (b := true) (t := 349) (decide_eq_true rfl) (by decide) ?_
  exact am_lz0

theorem am_k4 {H : List va_E} (hH : am_ckH H = true) : ∃ h', h'.length = 73 ∧ am_lgo (am_roL 4 xs) 286 am_lv1 [] H ((349, am_lv1, [], h'), 0, 0) := by
  obtain ⟨f0, f6, f8, f9, g2, g45, hln, o0, p0, p1, p5, p6, o3, o18, q8, o37, r6, o41, s3, s4, s6, s8, s9, s10, s43, s48, o2, o45, o1⟩ := am_H1f hH
  refine ⟨H.set 41 (.inr (9, f9.set 3 (.int 0))), by rw [List.length_set]; exact hln, ?_⟩
  refine am_lz1 am_qL_286 rfl ?_
  refine am_lz1 am_qL_287 rfl ?_
  refine am_lz1 am_qL_288 rfl ?_
  refine am_lz1 am_qL_290 rfl ?_
  refine am_lz1 am_qL_291 rfl ?_
  refine am_lza am_qL_292 rfl (by decide) (k := 1) (by decide) ?_
  refine am_lzc am_qL_293 (w := ([.ref 0, .int (xs 1)], [])) rfl (by unfold am_rcv; simp only [o0]; rfl) (am_rMny0 o0 p6 o18 q8) (Nat.le_refl _) ?_
  refine am_lz1 am_qL_296 rfl ?_
  refine am_lz1 am_qL_297 rfl ?_
  refine am_lz1 am_qL_298 rfl ?_
  refine am_lz1 am_qL_300 rfl ?_
  refine am_lz1 am_qL_301 rfl ?_
  refine am_lza am_qL_302 rfl (by decide) (k := 1) (by decide) ?_
  refine am_lzc am_qL_303 (w := ([.ref 41, .int (xs 1)], [.int 0])) rfl (by unfold am_rcv; simp only [o41]; rfl) (am_rMMny0 o41 s3 s43) (by rw [List.length_set]; exact Nat.le_refl _) ?_
  refine am_lzi am_qL_306 (b := true) (t := 349) (by decide) (by decide) ?_
  exact am_lz0

theorem am_k5 {H : List va_E} (hH : am_ckH H = true) : ∃ h', h'.length = 73 ∧ am_lgo (am_roL 4 xs) 311 am_lv1 [] H ((349, am_lv1, [], h'), 0, 0) := by
  obtain ⟨f0, f6, f8, f9, g2, g45, hln, o0, p0, p1, p5, p6, o3, o18, q8, o37, r6, o41, s3, s4, s6, s8, s9, s10, s43, s48, o2, o45, o1⟩ := am_H1f hH
  refine ⟨H.set 41 (.inr (9, f9.set 3 (.int 0))), by rw [List.length_set]; exact hln, ?_⟩
  refine am_lz1 am_qL_311 rfl ?_
  refine am_lz1 am_qL_312 rfl ?_
  refine am_lz1 am_qL_313 rfl ?_
  refine am_lz1 am_qL_315 rfl ?_
  refine am_lz1 am_qL_316 rfl ?_
  refine am_lza am_qL_317 rfl (by decide) (k := 1) (by decide) ?_
  refine am_lzc am_qL_318 (w := ([.ref 0, .int (xs 1)], [])) rfl (by unfold am_rcv; simp only [o0]; rfl) (am_rPrt0 o0 p5 o37 r6) (Nat.le_refl _) ?_
  refine am_lz1 am_qL_321 rfl ?_
  refine am_lz1 am_qL_322 rfl ?_
  refine am_lz1 am_qL_323 rfl ?_
  refine am_lz1 am_qL_325 rfl ?_
  refine am_lz1 am_qL_326 rfl ?_
  refine am_lza am_qL_327 rfl (by decide) (k := 1) (by decide) ?_
  refine am_lzc am_qL_328 (w := ([.ref 41, .int (xs 1)], [.int (am_pv0 (xs 1))])) rfl (by unfold am_rcv; simp only [o41]; rfl) (am_rMPrt0 o41 s3 s48) (by rw [List.length_set]; exact Nat.le_refl _) ?_
  refine am_lzi am_qL_331 (b := true) (t := 349) (decide_eq_true rfl) (by decide) ?_
  exact am_lz0

theorem am_rcv_keep {h' : List va_E} {x c : Nat} {f : List Value} {as : List Value} (h0 : h'[x]? = some (.inr (c, f))) : am_rcv (.ref x :: as) h' c = true := by
  unfold am_rcv
  simp only [h0]
  exact beq_self_eq_true c
theorem am_h7 {h : List va_E} {x c : Nat} {f as rest : List Value} (h0 : h[x]? = some (.inr (c, f))) (h8 : (rest.map fun v => v.category).sum ≤ 8) : (decide ((rest.map fun v => v.category).sum ≤ 8) && (((0 : Nat) != 0) || am_rcv (.ref x :: as) h c)) = true := by
  rw [am_rcv_keep h0, decide_eq_true h8]
  rfl

end AM23
end
section
/-! ===== type, node, again, parse ===== -/
section AM24
variable {xs : Nat → Int32}

theorem am_k0 {H : List va_E} (hH : am_ckH H = true) : ∃ h', h'.length = 73 ∧ am_lgo (am_roL 4 xs) 80 am_lv1 [] H ((349, am_lv1, [], h'), 0, 0) := by
  obtain ⟨f0, f6, f8, f9, g2, g45, hln, o0, p0, p1, p5, p6, o3, o18, q8, o37, r6, o41, s3, s4, s6, s8, s9, s10, s43, s48, o2, o45, o1⟩ := am_H1f hH
  obtain ⟨h1, l1, kp, r1⟩ := am_rTyp (d := 37) (w := (xs 1).toInt64 <<< ((Int8.ofInt 32).toInt32.toInt64 &&& 63) ||| ((xs 2).toInt64 &&& 4294967295)) (n := xs 3) o0 p0 o1 o2 (by decide)
  have o41b : h1[41]? = some (.inr (9, f9)) := (kp 41 (by decide) (by decide)).trans o41
  obtain ⟨h2, l2, r2⟩ := am_rMTyp (d := 38) (w := (xs 1).toInt64 <<< ((Int8.ofInt 32).toInt32.toInt64 &&& 63) ||| ((xs 2).toInt64 &&& 4294967295)) (n := xs 3) o41b s3 s4 s6 ((kp 45 (by decide) (by decide)).trans o45) (by decide)
  refine ⟨h2, by rw [l2, l1]; exact hln, ?_⟩
  refine am_lz1 am_qL_80 rfl ?_
  refine am_lz1 am_qL_81 rfl ?_
  refine am_lz1 am_qL_82 rfl ?_
  refine am_lz1 am_qL_84 rfl ?_
  refine am_lz1 am_qL_85 rfl ?_
  refine am_lza am_qL_86 rfl (by decide) (k := 1) (by decide) ?_
  refine am_lz1 am_qL_87 rfl ?_
  refine am_lz1 am_qL_88 rfl ?_
  refine am_lz1 am_qL_90 rfl ?_
  refine am_lz1 am_qL_91 rfl ?_
  refine am_lz1 am_qL_92 rfl ?_
  refine am_lz1 am_qL_94 rfl ?_
  refine am_lz1 am_qL_95 rfl ?_
  refine am_lza am_qL_96 rfl (by decide) (k := 2) (by decide) ?_
  refine am_lz1 am_qL_97 rfl ?_
  refine am_lzk am_qL_98 am_kl12 ?_
  refine am_lz1 am_qL_101 rfl ?_
  refine am_lz1 am_qL_102 rfl ?_
  refine am_lz1 am_qL_103 rfl ?_
  refine am_lz1 am_qL_104 rfl ?_
  refine am_lz1 am_qL_106 rfl ?_
  refine am_lz1 am_qL_107 rfl ?_
  refine am_lza am_qL_108 rfl (by decide) (k := 3) (by decide) ?_
  refine am_lzc am_qL_109 (w := ([.ref 0, .long ((xs 1).toInt64 <<< ((Int8.ofInt 32).toInt32.toInt64 &&& 63) ||| ((xs 2).toInt64 &&& 4294967295)), .int (xs 3)], [])) rfl (am_h7 o0 (Nat.le_of_ble_eq_true rfl)) r1 (by rw [l1]; exact Nat.le_refl _) ?_
  refine am_lz1 am_qL_112 rfl ?_
  refine am_lz1 am_qL_113 rfl ?_
  refine am_lz1 am_qL_114 rfl ?_
  refine am_lz1 am_qL_116 rfl ?_
  refine am_lz1 am_qL_117 rfl ?_
  refine am_lza am_qL_118 rfl (by decide) (k := 1) (by decide) ?_
  refine am_lz1 am_qL_119 rfl ?_
  refine am_lz1 am_qL_120 rfl ?_
  refine am_lz1 am_qL_122 rfl ?_
  refine am_lz1 am_qL_123 rfl ?_
  refine am_lz1 am_qL_124 rfl ?_
  refine am_lz1 am_qL_126 rfl ?_
  refine am_lz1 am_qL_127 rfl ?_
  refine am_lza am_qL_128 rfl (by decide) (k := 2) (by decide) ?_
  refine am_lz1 am_qL_129 rfl ?_
  refine am_lzk am_qL_130 am_kl12 ?_
  refine am_lz1 am_qL_133 rfl ?_
  refine am_lz1 am_qL_134 rfl ?_
  refine am_lz1 am_qL_135 rfl ?_
  refine am_lz1 am_qL_136 rfl ?_
  refine am_lz1 am_qL_138 rfl ?_
  refine am_lz1 am_qL_139 rfl ?_
  refine am_lza am_qL_140 rfl (by decide) (k := 3) (by decide) ?_
  refine am_lzc am_qL_141 (w := ([.ref 41, .long ((xs 1).toInt64 <<< ((Int8.ofInt 32).toInt32.toInt64 &&& 63) ||| ((xs 2).toInt64 &&& 4294967295)), .int (xs 3)], [.int (am_zb (am_tyv ((xs 1).toInt64 <<< ((Int8.ofInt 32).toInt32.toInt64 &&& 63) ||| ((xs 2).toInt64 &&& 4294967295)) (xs 3) 0))])) rfl (am_h7 o41b (Nat.le_of_ble_eq_true rfl)) r2 (by rw [l2]; exact Nat.le_refl _) ?_
  refine am_lzi am_qL_144 (b := true) (t := 349) (decide_eq_true rfl) (by decide) ?_
  exact am_lz0

/-- node: up to the call, and behind it -/
theorem am_k3a {H : List va_E} : am_lgo (am_roL 4 xs) 218 am_lv1 [] H ((232, am_lv1, [.ref 72, .int (xs 2), .int (xs 1), .ref 0], H), 0, 0) := by
  refine am_lz1 am_qL_218 rfl ?_
  refine am_lz1 am_qL_219 rfl ?_
  refine am_lz1 am_qL_220 rfl ?_
  refine am_lz1 am_qL_222 rfl ?_
  refine am_lz1 am_qL_223 rfl ?_
  refine am_lza am_qL_224 rfl (by decide) (k := 1) (by decide) ?_
  refine am_lz1 am_qL_225 rfl ?_
  refine am_lz1 am_qL_226 rfl ?_
  refine am_lz1 am_qL_228 rfl ?_
  refine am_lz1 am_qL_229 rfl ?_
  refine am_lza am_qL_230 rfl (by decide) (k := 2) (by decide) ?_
  refine am_lz1 am_qL_231 rfl ?_
  exact am_lz0
theorem am_k3b {H : List va_E} (hH : am_ckH H = true) : ∃ h', am_lgo (am_roL 4 xs) 235 am_lv1 [.int 1] H ((349, [(6, .int 0), (5, .int 1)] ++ am_lv1, [], h'), 0, 0) := by
  obtain ⟨f0, f6, f8, f9, g2, g45, hln, o0, p0, p1, p5, p6, o3, o18, q8, o37, r6, o41, s3, s4, s6, s8, s9, s10, s43, s48, o2, o45, o1⟩ := am_H1f hH
  refine ⟨H.set 41 (.inr (9, f9.set 3 (.int 1))), ?_⟩
  refine am_lz1 am_qL_235 rfl ?_
  refine am_lz1 am_qL_237 rfl ?_
  refine am_lz1 am_qL_238 rfl ?_
  refine am_lz1 am_qL_239 rfl ?_
  refine am_lz1 am_qL_241 rfl ?_
  refine am_lz1 am_qL_242 rfl ?_
  refine am_lza am_qL_243 rfl (by decide) (k := 1) (by decide) ?_
  refine am_lz1 am_qL_244 rfl ?_
  refine am_lz1 am_qL_245 rfl ?_
  refine am_lz1 am_qL_247 rfl ?_
  refine am_lz1 am_qL_248 rfl ?_
  refine am_lza am_qL_249 rfl (by decide) (k := 2) (by decide) ?_
  refine am_lzc am_qL_250 (w := ([.ref 41, .int (xs 1), .int (xs 2)], [])) rfl (am_h7 o41 (Nat.le_of_ble_eq_true rfl)) (am_rMNod0 o41 s3 s43) (by rw [List.length_set]; exact Nat.le_refl _) ?_
  refine am_lz1 am_qL_253 rfl ?_
  refine am_lz1 am_qL_255 rfl ?_
  refine am_lzc am_qL_256 (w := ([.ref 41], [])) rfl (am_h7 (am_at_set o41) (Nat.le_of_ble_eq_true rfl)) (am_rThr (am_at_set o41) (am_f_set s3)) (Nat.le_refl _) ?_
  refine am_lz1 am_qL_259 rfl ?_
  refine am_lzi am_qL_261 (b := true) (t := 266) (by decide) (by decide) ?_
  refine am_lz1 am_qL_266 rfl ?_
  refine am_lzz am_qL_268 (b := true) (t := 283) (by decide) (by decide) ?_
  refine am_lzj am_qL_283 (t := 349) (by decide) ?_
  exact am_lz0
theorem am_k3c {H : List va_E} (hH : am_ckH H = true) : am_rcv [.ref 0, .int (xs 1), .int (xs 2)] H 0 = true ∧ am_all am_thr 3000 40 169 [.ref 0, .int (xs 1), .int (xs 2)] H = some (.inr 1, H, 1, 6) := by
  obtain ⟨f0, f6, f8, f9, g2, g45, hln, o0, p0, p1, p5, p6, o3, o18, q8, o37, r6, o41, s3, s4, s6, s8, s9, s10, s43, s48, o2, o45, o1⟩ := am_H1f hH
  exact ⟨am_rcv_keep o0, am_rNod0 o0 p6 o18 q8⟩
/-- parse: up to the call -/
theorem am_k1a {H : List va_E} : am_lgo (am_roL 4 xs) 149 am_lv1 [] H ((151, am_lv1, [.ref 72, .ref 0], H), 0, 0) := by
  refine am_lz1 am_qL_149 rfl ?_
  refine am_lz1 am_qL_150 rfl ?_
  exact am_lz0
end AM24
def am_ckG (H : List va_E) : Bool := match am_all am_thr 3000 40 19 [.ref 0] H with
  | some (.inl (some (.int x)), h1, nc, ns) => decide (x = 0) && (decide (nc = 0) && (decide (ns = 0) && (decide (h1.length = 73) && (am_isO h1 41 9 [] && (match am_all am_thr 3000 40 300 [.ref 41] h1 with
    | some (.inl (some (.int y)), h2, nc2, ns2) => decide (y = 0) && (decide (nc2 = 0) && (decide (ns2 = 0) && decide (h2.length = 73)))
    | _ => false)))))
  | _ => false
set_option maxRecDepth 1000000 in
theorem am_ckGd : (match am_s1r with
    | some r => am_ckG r.1.2.2.2
    | none => false) = true := by decide +kernel
theorem am_k6 {xs : Nat → Int32} {H : List va_E} (hH : am_ckH H = true) (hG : am_ckG H = true) : ∃ h', h'.length = 73 ∧ am_lgo (am_roL 4 xs) 336 am_lv1 [] H ((349, am_lv1, [], h'), 0, 0) := by
  obtain ⟨f0, f6, f8, f9, g2, g45, hln, o0, p0, p1, p5, p6, o3, o18, q8, o37, r6, o41, s3, s4, s6, s8, s9, s10, s43, s48, o2, o45, o1⟩ := am_H1f hH
  unfold am_ckG at hG
  split at hG
  · next x h1 nc ns e1 =>
    simp only [Bool.and_eq_true, decide_eq_true_eq] at hG
    obtain ⟨rfl, rfl, rfl, l1, i1, hG⟩ := hG
    obtain ⟨f, o41b, -⟩ := am_isO_eq i1
    split at hG
    · next y h2 nc2 ns2 e2 =>
      simp only [Bool.and_eq_true, decide_eq_true_eq] at hG
      obtain ⟨rfl, rfl, rfl, l2⟩ := hG
      refine ⟨h2, l2, ?_⟩
      refine am_lz1 am_qL_336 rfl ?_
      refine am_lzc am_qL_337 (w := ([.ref 0], [])) rfl (am_h7 o0 (Nat.le_of_ble_eq_true rfl)) e1 (by rw [l1, hln]; exact Nat.le_refl _) ?_
      refine am_lz1 am_qL_340 rfl ?_
      refine am_lzc am_qL_341 (w := ([.ref 41], [.int 0])) rfl (am_h7 o41b (Nat.le_of_ble_eq_true rfl)) e2 (by rw [l1, l2]; exact Nat.le_refl _) ?_
      refine am_lzi am_qL_344 (b := true) (t := 349) (by decide) (by decide) ?_
      exact am_lz0
    · cases hG
  · cases hG
def am_ckP (H : List va_E) : Bool := match am_lr am_fL3 3 3000 40 [.ref 0, .ref 72] H with
  | some (.inl (some (.int k)), h1, nc, ns) => decide (k = 0) && (decide (nc = 0) && (decide (ns = 0) && (decide (h1.length = 73) && (match am_lg (fun _ => none) 18 154 am_lv1 [.int 0] h1 with
    | some ((pc, lv, st, h2), nc2, ns2) => decide (pc = 349) && (decide (lv = [(6, .int 1), (5, .int 0)] ++ am_lv1) && (decide (st = []) && (decide (nc2 = 0) && decide (ns2 = 0))))
    | none => false))))
  | _ => false
set_option maxRecDepth 1000000 in
theorem am_ckPd : (match am_s1r with
    | some r => am_ckP r.1.2.2.2
    | none => false) = true := by decide +kernel
theorem am_k1 {H : List va_E} (hP : am_ckP H = true) : ∃ h1 h2, am_lr am_fL3 3 3000 40 [.ref 0, .ref 72] H = some (.inl (some (.int 0)), h1, 0, 0) ∧ am_lg (fun _ => none) 18 154 am_lv1 [.int 0] h1 = some ((349, [(6, .int 1), (5, .int 0)] ++ am_lv1, [], h2), 0, 0) := by
  unfold am_ckP at hP
  split at hP
  · next x h1 nc ns e1 =>
    simp only [Bool.and_eq_true, decide_eq_true_eq] at hP
    obtain ⟨rfl, rfl, rfl, l1, hP⟩ := hP
    split at hP
    · next pc lv st h2 nc2 ns2 e2 =>
      simp only [Bool.and_eq_true, decide_eq_true_eq] at hP
      obtain ⟨rfl, rfl, rfl, rfl, rfl⟩ := hP
      exact ⟨h1, h2, e1, e2⟩
    · cases hP
  · cases hP
end
section
/-! THE CLAIM OUT OF ONE WALK OF THE LAW'S BODY. Your part is whole_start (and what it stands on); all else here is the same for every law, but numbers. -/
def R_law : String := "ScriptFrontLaw"
def lw_P (b : Addr) (xs : List Int32) (args : Array Value) (s : State) : Prop := args = #[.ref b] ∧ s.IntsAt b xs ∧ xs.length ≤ 4 ∧ (Jvm.Cond.and given_1 narrow_1).before args s = true
def lw_Q (_ : Array Value) (s : State) (o : Outcome) (t : State) : Prop := o = .returned (some (.int 1)) ∧ Framed s o t [] 600002 7302232
def lw_Z (below : List Frame) (a : Array Value) (s : State) : State → Prop := fun t => ∃ o, t.status = .running ∧ Ended t below o ∧ lw_Q a s o t
/-- the law's own end, with 1 on the stack, nothing written that was there before, its room as the claim has it -/
theorem lw_ret {p : Program} {l : Launch} {e : Env} {s : State} {m : MethodId} {below : List Frame} {meth : Method} {c : Code} {b : Nat} (hx : p.tables.exec = Jvm.exec) (hb : c.code = code) (hr : meth.sig.returnType = ret) (hlocks : meth.locks = false) {pc : Nat} {H : Heap} {ls : Array Slot} (hdg : decode code pc = .ok (.ireturn, 1)) : W p l e room_1 s m #[Value.ref b] below meth c H [] 600002 7302232 (lw_Z below #[Value.ref b] s) (F0 m pc ls [.int 1]) := by
  intro T hT X
  obtain ⟨fs, hret, hrun, hended, hW, hframe⟩ := X.leave (v := some (.int 1)) (hlocks := hlocks) (fun h => by rw [hr] at h; cases h)
  have hmeth' : T.vm.method? m = some meth := X.method'
  refine ⟨T.setFrames fs, ?_, .returned (some (.int 1)), hrun, hended, rfl, ⟨_, rfl⟩, hW, hframe⟩
  jvm_step X.here [X.here.top, hx, hb, hdg, hmeth', hr, ret, narrow_b1]
  (try refine ⟨rfl, ?_⟩); (try refine ⟨rfl, ?_⟩)
  first | (intro acts; rw [hret _ acts rfl rfl rfl]) | rw [hret _ _ rfl rfl rfl]
  exact Steps.refl _
/-- what holds at the law's entry: the machine, the code, the tables' words (any of lw_tbl by 'hts w (by decide +kernel)'), the script of L ints xs at the cell b, what the Statement gives of the start (any of its parts by flat_of_before) -/
def lw_At (p : Program) (s : State) (m : MethodId) (meth : Method) (c : Code) (b L : Nat) (xs : Nat → Int32) : Prop :=
  p.tables.exec = Jvm.exec ∧ c.code = code ∧ meth.sig.returnType = ret ∧ c.maxLocals = 7 ∧ s.vm.findClass R_law = some m.cls ∧ (∀ w ∈ lw_tbl, w.before #[Value.ref b] s = true) ∧ va_X b L xs s s.heap ∧ b < s.heap.size ∧ meth.locks = false ∧ (Jvm.Cond.and given_1 narrow_1).before #[Value.ref b] s = true
end
section
/-! ===== one call: from the law's entry to its end ===== -/
section AM25
variable {ro : Nat → Option (Nat × (Nat → Int32))}
theorem am_lg_tr {pc1 : Nat} {lv1 : am_L} {st1 : List Value} {h1 : List va_E} {r : am_F × Nat × Nat} {n2 : Nat} (h2 : am_lg ro n2 pc1 lv1 st1 h1 = some r) : ∀ (n pc : Nat) (lv : am_L) (st : List Value) (h : List va_E), am_lg ro n pc lv st h = some ((pc1, lv1, st1, h1), 0, 0) → am_lg ro (n2 + n) pc lv st h = some r := by
  intro n
  induction n with
  | zero => intro pc lv st h e; cases e; exact h2
  | succ n ih =>
    intro pc lv st h e
    obtain ⟨q, hq, e2⟩ := Option.bind_eq_some_iff.mp e
    obtain ⟨q2, hq2, e3⟩ := Option.bind_eq_some_iff.mp e2
    obtain ⟨f, a, b⟩ := q
    obtain ⟨f2, a2, b2⟩ := q2
    simp only [Option.some.injEq, Prod.mk.injEq, Nat.add_eq_zero_iff] at e3
    obtain ⟨rfl, ⟨rfl, rfl⟩, rfl, rfl⟩ := e3
    have := ih _ _ _ _ hq2
    show (am_one _ _ _ _ _ _ pc lv st h).bind _ = _
    rw [show am_one _ _ _ _ _ _ pc lv st h = _ from hq, Option.bind_some]
    show (am_seg _ _ _ _ _ _ (n2 + n) f.1 f.2.1 f.2.2.1 f.2.2.2).bind _ = _
    rw [show am_seg _ _ _ _ _ _ (n2 + n) f.1 f.2.1 f.2.2.1 f.2.2.2 = _ from this]
    simp
theorem am_lgo_tr {pc pc1 : Nat} {lv lv1 : am_L} {st st1 : List Value} {h h1 : List va_E} {r : am_F × Nat × Nat} (e1 : am_lgo ro pc lv st h ((pc1, lv1, st1, h1), 0, 0)) (e2 : am_lgo ro pc1 lv1 st1 h1 r) : am_lgo ro pc lv st h r := by
  obtain ⟨n, e1⟩ := e1
  obtain ⟨n2, e2⟩ := e2
  exact ⟨n2 + n, am_lg_tr e2 n pc lv st h e1⟩
end AM25
theorem am_and7 (v : Int32) : ∃ k, k < 8 ∧ v &&& (Int8.ofInt 7).toInt32 = Int32.ofNat k := by
  rw [show (Int8.ofInt 7).toInt32 = (7 : Int32) from by decide +kernel]
  refine ⟨(v &&& 7).toBitVec.toNat, ?_, ?_⟩
  · rw [Int32.toBitVec_and, BitVec.toNat_and]
    exact Nat.lt_succ_of_le (Nat.and_le_right (n := v.toBitVec.toNat) (m := 7))
  · apply Int32.toBitVec_inj.mp
    rw [Int32.toBitVec_ofNat', BitVec.ofNat_toNat, BitVec.setWidth_eq]
section AM26
variable {xs : Nat → Int32} {H : List va_E}
theorem am_short {L : Nat} (hL : L < 4) : am_lgo (am_roL L xs) 23 am_lv1 [] H ((356, am_lv1, [.int 1], H), 0, 0) := by
  match L, hL with

  | 0, _ =>
    refine am_lz1 am_qL_23 rfl ?_
    refine am_lz1 am_qL_25 rfl ?_
    refine am_lzl am_qL_26 rfl ?_
    refine am_lz1 am_qL_27 rfl ?_
    refine am_lz1 am_qL_28 rfl ?_
    refine am_lzi am_qL_29 (b := true) (t := 355) (by decide) (by decide) ?_
    refine am_lz1 am_qL_355 rfl ?_
    exact am_lz0
  | 1, _ =>
    refine am_lz1 am_qL_23 rfl ?_
    refine am_lz1 am_qL_25 rfl ?_
    refine am_lzl am_qL_26 rfl ?_
    refine am_lz1 am_qL_27 rfl ?_
    refine am_lz1 am_qL_28 rfl ?_
    refine am_lzi am_qL_29 (b := true) (t := 355) (by decide) (by decide) ?_
    refine am_lz1 am_qL_355 rfl ?_
    exact am_lz0
  | 2, _ =>
    refine am_lz1 am_qL_23 rfl ?_
    refine am_lz1 am_qL_25 rfl ?_
    refine am_lzl am_qL_26 rfl ?_
    refine am_lz1 am_qL_27 rfl ?_
    refine am_lz1 am_qL_28 rfl ?_
    refine am_lzi am_qL_29 (b := true) (t := 355) (by decide) (by decide) ?_
    refine am_lz1 am_qL_355 rfl ?_
    exact am_lz0
  | 3, _ =>
    refine am_lz1 am_qL_23 rfl ?_
    refine am_lz1 am_qL_25 rfl ?_
    refine am_lzl am_qL_26 rfl ?_
    refine am_lz1 am_qL_27 rfl ?_
    refine am_lz1 am_qL_28 rfl ?_
    refine am_lzi am_qL_29 (b := true) (t := 355) (by decide) (by decide) ?_
    refine am_lz1 am_qL_355 rfl ?_
    exact am_lz0
theorem am_full : am_lgo (am_roL 4 xs) 23 am_lv1 [] H ((39, am_lv1, [.int (xs 0 &&& (Int8.ofInt 7).toInt32)], H), 0, 0) := by
  refine am_lz1 am_qL_23 rfl ?_
  refine am_lz1 am_qL_25 rfl ?_
  refine am_lzl am_qL_26 rfl ?_
  refine am_lz1 am_qL_27 rfl ?_
  refine am_lz1 am_qL_28 rfl ?_
  refine am_lzi am_qL_29 (b := false) (t := 355) (by decide) (by decide) ?_
  refine am_lz1 am_qL_32 rfl ?_
  refine am_lz1 am_qL_33 rfl ?_
  refine am_lza am_qL_35 rfl (by decide) (k := 0) (by decide) ?_
  refine am_lz1 am_qL_36 rfl ?_
  refine am_lz1 am_qL_38 rfl ?_
  exact am_lz0

theorem am_sw {v : Int32} {k : Nat} (hk : k < 8) (e : v = Int32.ofNat k) : am_lgo (am_roL 4 xs) 39 am_lv1 [.int v] H (([80, 149, 193, 218, 286, 311, 336, 349].getD k 0, am_lv1, [], H), 0, 0) := by
  subst e
  match k, hk with
  | 0, _ =>
    refine am_lzw am_qL_39 (off := 41) (t := 80) (by decide) (by decide) (by decide) ?_
    exact am_lz0
  | 1, _ =>
    refine am_lzw am_qL_39 (off := 110) (t := 149) (by decide) (by decide) (by decide) ?_
    exact am_lz0
  | 2, _ =>
    refine am_lzw am_qL_39 (off := 154) (t := 193) (by decide) (by decide) (by decide) ?_
    exact am_lz0
  | 3, _ =>
    refine am_lzw am_qL_39 (off := 179) (t := 218) (by decide) (by decide) (by decide) ?_
    exact am_lz0
  | 4, _ =>
    refine am_lzw am_qL_39 (off := 247) (t := 286) (by decide) (by decide) (by decide) ?_
    exact am_lz0
  | 5, _ =>
    refine am_lzw am_qL_39 (off := 272) (t := 311) (by decide) (by decide) (by decide) ?_
    exact am_lz0
  | 6, _ =>
    refine am_lzw am_qL_39 (off := 297) (t := 336) (by decide) (by decide) (by decide) ?_
    exact am_lz0
  | 7, _ =>
    refine am_lzo am_qL_39 (t := 349) (by decide) (by decide) ?_
    exact am_lz0
end AM26
end
section
theorem am_ws_nil (ad ct : Nat → Nat) : am_ws ad ct [] = [] := rfl
set_option maxHeartbeats 4000000 in
set_option maxRecDepth 100000 in
/-- ONE CALL: from the law's entry, for every script of at most four ints, to its end with true -/
theorem am_one_call {p : Program} {e : Env} {s : State} {m : MethodId} {below : List Frame} {meth : Method} {c : Code} (l : Launch) (hfl : ∀ e : Env, l.admits e → e.platform.stackTraces = false) {b L : Nat} {xs : Nat → Int32} (hL : L ≤ 4) (C0 : lw_At p s m meth c b L xs) : W p l e room_1 s m #[Value.ref b] below meth c s.heap [] 0 0 (lw_Z below #[Value.ref b] s) (entryFrame m ([Value.ref b] : List Value).toArray 7) := by
  obtain ⟨hx, hb, hr, hml, hown, hts, hX, hbl, hlocks, hgv⟩ := id C0
  obtain ⟨D, tys, ct, hTY, hK⟩ := am_startK hts
  obtain ⟨ak, hKX, hak0⟩ := am_startX b hts hgv
  have hA : ∀ q : Nat, s.heap.size ≤ q → (fun q : Nat => s.heap.size ≤ q) q := fun _ h => h
  have hT : ∀ w ∈ am_Ts, w.before #[Value.ref b] s = true := fun w hw => hts w (am_Ts_tbl hw)
  have hown2 : s.vm.findClass "ScriptFrontLaw" = some m.cls := hown
  have hfe : ∀ pc i, (fun pc => am_fL0.lookup pc) pc = some i → ∃ n, decode code pc = .ok (i, n) ∧ (am_len i ≠ 0 → n = am_len i) := fun pc i hi => am_chk_ok am_kL0 hi
  have hRO : ∀ ad : Nat → Nat, (∀ i, 1000 ≤ i → ad i = ak i) → am_RO (am_roL L xs) ad (fun q => s.heap.size ≤ q) s := by
    intro ad ha a n f hro
    unfold am_roL at hro
    split at hro
    · next ea =>
      cases hro
      subst ea
      rw [ha 2000 (by decide), hak0]
      obtain ⟨scr, x1, x2, x3, x4, x5⟩ := hX
      exact ⟨scr, x1, x2, x3, by rw [x4]; exact Nat.le_refl _, by rw [x4], x5, Nat.not_le.mpr hbl⟩
    · cases hro
  have hmN := am_ML (l := l) (R := room_1) (meth := meth) (d := 40) (ro := fun _ => none) (fetch := fun pc => am_fL0.lookup pc) (A := fun q => s.heap.size ≤ q) (fun w h => h) hTY hx hb hml hT hown2 hlocks hr hK hKX hA (fun _ _ _ _ _ z => (by cases z)) hfe (by decide) (by decide)
  have hmL := am_ML (l := l) (R := room_1) (meth := meth) (d := 40) (ro := am_roL L xs) (fetch := fun pc => am_fL0.lookup pc) (A := fun q => s.heap.size ≤ q) (fun w h => h) hTY hx hb hml hT hown2 hlocks hr hK hKX hA hRO hfe (by decide) (by decide)
  have hrun : ∀ y as h v h' nc ns, am_all am_thr 3000 40 y as h = some (.inl v, h', nc, ns) → ∀ (ad : Nat → Nat) (sz : Nat), Met l (am_nm y) (am_wM y) (am_rm 40 nc ns) (am_Pre D am_cl ct tys ak (am_KX ak) ad h sz as) (am_Post D am_cl ct tys (am_X am_xn) ad h.length (va_A (am_ws ad ct h) sz) (.inl v) h' nc) nc ns (va_A (am_ws ad ct h) sz) := fun y as h v h' nc ns hr ad sz => am_meetsB hTY hr ad sz
  obtain ⟨H1, e1, hH⟩ := am_s1e
  have hG := am_Hx e1 am_ckGd
  have hPp := am_Hx e1 am_ckPd
  have hlen : H1.length = 73 := by
    obtain ⟨_, _, _, _, _, _, hln, -⟩ := am_H1f hH
    exact hln
  -- the end
  have fin : ∀ (Hh : Heap) (locs : List Loc) (cells slots : Nat) (ls : Array Slot), va_S (fun q => s.heap.size ≤ q) s.heap Hh locs → cells ≤ 600002 → slots ≤ 7302232 → W p l e room_1 s m #[Value.ref b] below meth c Hh locs cells slots (lw_Z below #[Value.ref b] s) (F0 m 356 ls [.int 1]) := fun Hh locs cells slots ls hS h1 h2 => va_forget (fun q hq => hS.2.2 q hq) (W.widen (k := 600002) (n := 7302232) h1 h2 (lw_ret hx hb hr hlocks (by decide +kernel)))
  -- a road to the end
  have road : ∀ {pc : Nat} {lv lv' : am_L} {st : List Value} {h h' : List va_E}, am_lgo (am_roL L xs) pc lv st h ((356, lv', [.int 1], h'), 0, 0) → ∀ (ad : Nat → Nat) (Hh : Heap) (locs : List Loc) (cells slots : Nat) (ls : Array Slot), cells ≤ 600002 → slots ≤ 7302232 → va_P D am_cl (am_ws ad ct h) Hh → va_D (fun q => s.heap.size ≤ q) (am_ws ad ct h) → va_S (fun q => s.heap.size ≤ q) s.heap Hh locs → lv_has ls 7 (am_lv ad lv) → (∀ i, 1000 ≤ i → ad i = ak i) → W p l e room_1 s m #[Value.ref b] below meth c Hh locs cells slots (lw_Z below #[Value.ref b] s) (F0 m pc ls (st.map (am_tv ad))) := by
    intro pc lv lv' st h h' hg ad Hh locs cells slots ls hc hs hP hD hS hl hak
    obtain ⟨n, hg⟩ := hg
    exact am_seg_W (X := am_X am_xn) hmL hrun n pc lv st h 0 0 hg ad Hh locs cells slots ls hc hs hP hD hS hl hak (fun ad1 H2 locs1 ls1 _ _ _ _ _ hS1 _ _ => fin H2 locs1 cells slots ls1 hS1 hc hs)
  have hl := lv_entry [Value.ref b] (n := 7) (Nat.le_of_ble_eq_true rfl)
  rw [lg_entry_eq]
  generalize (lg_sl [Value.ref b] ++ List.replicate (7 - (lg_sl [Value.ref b]).length) Slot.unset).toArray = ls at hl ⊢
  have hl0 : lv_has ls 7 (am_lv ak [(0, .ref 2000)]) := by
    have e0 : am_lv ak [(0, .ref 2000)] = lv_args 0 [Value.ref b] := by
      show [(0, Value.ref (ak 2000))] = _
      rw [hak0]
      rfl
    rw [e0]
    exact hl
  refine am_seg_W (X := am_X am_xn) hmN hrun 13 0 [(0, .ref 2000)] [] [] 73 35900 e1 ak s.heap [] 0 0 ls (by decide) (by decide) (fun k q hq => by rw [am_ws_nil] at hq; cases hq) ⟨fun i j x y hx => (by rw [am_ws_nil] at hx; cases hx), fun k q hq => by rw [am_ws_nil] at hq; cases hq⟩ va_S.rf hl0 (fun _ _ => rfl) (fun ad1 Hh locs1 ls1 ha hz hle hP1 hD1 hS1 hl1 hak1 => ?_)
  rw [Nat.zero_add, Nat.zero_add]
  rcases Nat.lt_or_ge L 4 with h4 | h4
  · exact road (am_short h4) ad1 Hh locs1 73 35900 ls1 (by decide) (by decide) hP1 hD1 hS1 hl1 hak1
  · have hL4 : L = 4 := by omega
    subst hL4
    obtain ⟨k, hk, ek⟩ := am_and7 (xs 0)
    have hsw := am_lgo_tr (am_full (xs := xs) (H := H1)) (am_sw (xs := xs) (H := H1) hk ek)
    match k, hk, hsw with
    | 0, _, hsw =>
      obtain ⟨h', -, hg⟩ := am_k0 (xs := xs) hH
      obtain ⟨lv', hx2⟩ := am_lexit (xs := xs) (h := h') [] (Or.inl rfl)
      exact road (am_lgo_tr hsw (am_lgo_tr hg hx2)) ad1 Hh locs1 73 35900 ls1 (by decide) (by decide) hP1 hD1 hS1 hl1 hak1
    | 2, _, hsw =>
      obtain ⟨h', -, hg⟩ := am_k2 (xs := xs) hH
      obtain ⟨lv', hx2⟩ := am_lexit (xs := xs) (h := h') [] (Or.inl rfl)
      exact road (am_lgo_tr hsw (am_lgo_tr hg hx2)) ad1 Hh locs1 73 35900 ls1 (by decide) (by decide) hP1 hD1 hS1 hl1 hak1
    | 4, _, hsw =>
      obtain ⟨h', -, hg⟩ := am_k4 (xs := xs) hH
      obtain ⟨lv', hx2⟩ := am_lexit (xs := xs) (h := h') [] (Or.inl rfl)
      exact road (am_lgo_tr hsw (am_lgo_tr hg hx2)) ad1 Hh locs1 73 35900 ls1 (by decide) (by decide) hP1 hD1 hS1 hl1 hak1
    | 5, _, hsw =>
      obtain ⟨h', -, hg⟩ := am_k5 (xs := xs) hH
      obtain ⟨lv', hx2⟩ := am_lexit (xs := xs) (h := h') [] (Or.inl rfl)
      exact road (am_lgo_tr hsw (am_lgo_tr hg hx2)) ad1 Hh locs1 73 35900 ls1 (by decide) (by decide) hP1 hD1 hS1 hl1 hak1
    | 6, _, hsw =>
      obtain ⟨h', -, hg⟩ := am_k6 (xs := xs) hH hG
      obtain ⟨lv', hx2⟩ := am_lexit (xs := xs) (h := h') [] (Or.inl rfl)
      exact road (am_lgo_tr hsw (am_lgo_tr hg hx2)) ad1 Hh locs1 73 35900 ls1 (by decide) (by decide) hP1 hD1 hS1 hl1 hak1
    | 7, _, hsw =>
      obtain ⟨lv', hx2⟩ := am_lexit (xs := xs) (h := H1) [] (Or.inl rfl)
      exact road (am_lgo_tr hsw hx2) ad1 Hh locs1 73 35900 ls1 (by decide) (by decide) hP1 hD1 hS1 hl1 hak1
    | 1, _, hsw =>
      obtain ⟨h1, h2, g1, g2⟩ := am_k1 hPp
      obtain ⟨n1, hg⟩ := am_lgo_tr hsw (am_k1a (xs := xs))
      refine am_seg_W (X := am_X am_xn) hmL hrun n1 23 am_lv1 [] H1 0 0 hg ad1 Hh locs1 73 35900 ls1 (by decide) (by decide) hP1 hD1 hS1 hl1 hak1 (fun ad2 Hh2 locs2 ls2 ha2 hz2 hle2 hP2 hD2 hS2 hl2 hak2 => ?_)
      refine am_callW (X := am_X am_xn) (y := am_yL3) (index := 32) (n := 2) (w := ([.ref 0, .ref 72], [])) hx hb hml hT hown2 hK (am_KX_ok ak) rfl am_gL3 (by decide +kernel) (by decide) rfl (by decide) (am_c3R hTY g1 ad2 Hh2.size) (by decide) (by decide) (by decide) (by decide +kernel) hl2.1 hP2 hD2 hS2 hA hak2 hKX (fun ad3 Hh3 locs3 ha3 hz3 hP3 hD3 hS3 => ?_)
      have ez := hz3 rfl
      subst ez
      refine am_seg_W (X := am_X am_xn) hmN hrun 18 154 am_lv1 [.int 0] h1 0 0 g2 ad3 Hh3 locs3 73 35900 ls2 (by decide) (by decide) hP3 hD3 hS3 hl2 hak2 (fun ad4 Hh4 locs4 ls4 ha4 hz4 hle4 hP4 hD4 hS4 hl4 hak4 => ?_)
      obtain ⟨lv', hx2⟩ := am_lexit (xs := xs) (h := h2) [(6, .int 1), (5, .int 0)] (Or.inr ⟨1, 0, rfl⟩)
      exact road hx2 ad4 Hh4 locs4 73 35900 ls4 (by decide) (by decide) hP4 hD4 hS4 hl4 hak4
    | 3, _, hsw =>
      obtain ⟨r1, r2⟩ := am_k3c (xs := xs) hH
      obtain ⟨n1, hg⟩ := am_lgo_tr hsw (am_k3a (xs := xs))
      refine am_seg_W (X := am_X am_xn) hmL hrun n1 23 am_lv1 [] H1 0 0 hg ad1 Hh locs1 73 35900 ls1 (by decide) (by decide) hP1 hD1 hS1 hl1 hak1 (fun ad2 Hh2 locs2 ls2 ha2 hz2 hle2 hP2 hD2 hS2 hl2 hak2 => ?_)
      refine am_callW (X := am_X am_xn) (y := am_yL4) (index := 46) (n := 4) (w := ([.ref 0, .int (xs 1), .int (xs 2), .ref 72], [])) hx hb hml hT hown2 hK (am_KX_ok ak) rfl am_gL4 (by decide +kernel) (by decide) rfl (Nat.le_of_ble_eq_true rfl) (am_c4T hfl hTY r1 r2 ad2 Hh2.size) (by decide) (by decide) (by decide) (by decide +kernel) hl2.1 hP2 hD2 hS2 hA hak2 hKX (fun ad3 Hh3 locs3 ha3 hz3 hP3 hD3 hS3 => ?_)
      have hlv : am_lv ad3 am_lv1 = am_lv ad2 am_lv1 := am_lv_old ha3 (by rw [hlen]; decide)
      obtain ⟨h', hg2⟩ := am_k3b (xs := xs) hH
      obtain ⟨lv', hx2⟩ := am_lexit (xs := xs) (h := h') [(6, .int 0), (5, .int 1)] (Or.inr ⟨0, 1, rfl⟩)
      exact road (am_lgo_tr hg2 hx2) ad3 Hh3 locs3 74 35906 ls2 (by decide) (by decide) hP3 hD3 hS3 (by rw [hlv]; exact hl2) (fun i hi => (ha3 i (Or.inr hi)).trans (hak2 i hi))
end
section
set_option maxHeartbeats 4000000 in
theorem lw_walk (l : Launch) (hfl : ∀ e : Env, l.admits e → e.platform.stackTraces = false) (b : Addr) (xs : List Int32) : MetFree l x (headSpec (Jvm.Cond.code x code maxLocals ret :: tables_1) room_1) (lw_P b xs) (fun _ _ _ _ _ => True) lw_Q := by
  refine MetFree.of_bodyS (code := code) (maxLocals := maxLocals) (ret := ret) (by decide) ?_ ?_
  · intro args s m h hn
    obtain ⟨meth, c, h1, h2, h3, h4, h5, h6, -, -⟩ := Cond.code_spec hn (atoms_spec (ws := Jvm.Cond.code x code maxLocals ret :: tables_1) h _ List.mem_cons_self)
    exact ⟨meth, c, h1, h2, h3, h4, h5, h6⟩
  · intro p e s m args below meth c s₁ B hml0 hP _
    obtain ⟨rfl, hx, hbd, hgv⟩ := hP
    obtain ⟨scr, harrAt, hlist, hof, hsmall⟩ := hx
    obtain ⟨hcb, hkn, -, -⟩ := State.arrayAt?_spec harrAt
    have hown : s.vm.findClass R_law = some m.cls := findClass_of_methodNamed B.named
    have hts0 : ∀ c ∈ (Jvm.Cond.code x code maxLocals ret :: tables_1), c.before #[Value.ref b] s = true := atoms_spec (ws := Jvm.Cond.code x code maxLocals ret :: tables_1) B.pre
    have hts : ∀ w ∈ lw_tbl, w.before #[Value.ref b] s = true := k2_hts_sels lw_privs (fun w hw => hts0 w (List.mem_cons_of_mem _ hw)) lw_privs_ok
    have hml : c.maxLocals = 7 := B.maxLocals_eq (hts0 _ List.mem_cons_self)
    have X₀ : Stand p l e room_1 s m #[Value.ref b] below meth c s₁ [] 0 0 := Stand.of_body B
    have hh0 : s₁.heap = s.heap := by rw [B.state]; rfl
    have hsz : scr.slots.size = xs.length := by rw [← Array.length_toList, hlist, List.length_map]
    have hval : ∀ j : Nat, j < xs.length → scr.slots[j]? = some (.int (xs.getD j 0)) := fun j hj => by
      rw [← Array.getElem?_toList, hlist]
      simp [hj]
    have hbl : b < s.heap.size := (Array.getElem?_eq_some_iff.mp hcb).1
    have hX : va_X b xs.length (fun j => xs.getD j 0) s s.heap := ⟨scr, hcb, hof, hkn, hsz, hval⟩
    have K : W p l e room_1 s m #[Value.ref b] below meth c s₁.heap [] 0 0 (lw_Z below #[Value.ref b] s) (entryFrame m ([Value.ref b] : List Value).toArray 7) := by
      rw [hh0]
      exact am_one_call l hfl hbd ⟨B.exec, B.bytes, B.returns, hml, hown, hts, hX, hbl, B.notSynchronized, hgv⟩
    obtain ⟨t, a1, o, b1, b2, b3⟩ := K s₁ rfl X₀
    exact ⟨t, o, a1, b1, b2, b3⟩
theorem lw_pre_spec {args : Array Value} {s : State} (h : (Jvm.Cond.and given_1 narrow_1).before args s = true) (hr : rest_1_c.before args s = true) : ∃ (b : Addr) (xs : List Int32), lw_P b xs args s := by
  have hs := flat_of_before _ h
  have hq := flat_of_before _ hr
  have hc : (Cond.count 1).before args s = true := hs _ (by decide +kernel)
  have harr : (Cond.arrayOf (.arg 0) .int).before args s = true := hs _ (by decide +kernel)
  have hle : (Cond.le (.length (.arg 0)) (.int 4)).before args s = true := hs _ (by decide +kernel)
  have hlen : (Cond.isInt (.length (.arg 0))).before args s = true := hq _ (by decide +kernel)
  have hall : (Cond.all (.arg 0) (.isInt (.elem (.arg 0) (.index 0)))).before args s = true := hq _ (by decide +kernel)
  obtain ⟨b, xs, hb, hx⟩ := State.ints_of_pre rfl harr hlen hall
  have hsm : xs.length < 2 ^ 31 := hx.choose_spec.2.2.2
  have hev : (Term.length (.arg 0)).eval args s none [] s = some (.int xs.length.toInt32) := hx.length_eval hb
  have hv := Cond.le_ints hev (show (Term.int 4).eval args s none [] s = some (.int 4) from rfl)
  have hd : xs.length.toInt32 ≤ 4 := by
    simpa [Cond.before, Cond.holds, hv] using hle
  have hN : xs.length ≤ 4 := (Int32.ofNat_le_ofNat hsm (by decide)).mp (show Int32.ofNat xs.length ≤ Int32.ofNat 4 from hd)
  exact ⟨b, xs, Cond.one_arg hc (show args[0]? = some (.ref b) from hb), hx, hN, h⟩
theorem lw_comes (l : Launch) (hfl : ∀ e : Env, l.admits e → e.platform.stackTraces = false) : Comes l x (Jvm.Cond.code x code maxLocals ret :: tables_1) room_1 (fun tb e args s => Calls_1 tb e args s ∧ rest_1 tb e args s ∧ Pre_1 tb e args s)
    (fun _ _ args s o t => lw_Q args s o t) := by
  intro p e ha hc hk s m args below hf hfit hheap happ hpre
  obtain ⟨b, xs, hP⟩ := lw_pre_spec hpre.2.2 hpre.2.1
  obtain ⟨k, o, h1, h2, h3, hQ⟩ := lw_walk l hfl b xs p e ha hc hk s m args below hf ((Spec.applies_iff_loose hf).mp happ).1 hP trivial
  exact ⟨k, o, h1, h2, h3, hQ⟩
theorem lw_frame {s t : State} {o : Outcome} {args : Array Value} (h : Framed s o t [] 600002 7302232) :
    Framed s o t (fieldLocs frame_1_writes args s ++ arrayLocs frame_1_arrays args s ++ staticLocs frame_1_statics s) 600002 7302232 := h
theorem lw_limb (L : Cond) (hL : ∀ (args : Array Value) (s t : State), L.after args s (.returned (some (.int 1))) t = true) :
    ArmFor flags0 classFile x code maxLocals ret World_1 tables_1 room_1 Calls_1 rest_1 Pre_1
      (fun tb e a s o t => postC L tb e a s o t ∧ Framed s o t (fieldLocs frame_1_writes a s ++ arrayLocs frame_1_arrays a s ++ staticLocs frame_1_statics s) 600002 7302232) := by
  intro l hfg _ _ p e ha hc hk s m args below hf hfit hheap happ hpre
  obtain ⟨k, o, h1, h2, h3, rfl, hF⟩ := lw_comes l (fun e ha => Launch.traces_off hfg ha) p e ha hc hk s m args below hf hfit hheap happ hpre
  exact ⟨k, _, h1, h2, h3, hL args s _, lw_frame hF⟩
theorem i_vc : Claimed_1_1 ∧ Claimed_1_2 := ⟨lw_limb limb_1_1 (fun args s t => by simp [limb_1_1, Cond.after, Cond.holds, Cond.value]), lw_limb limb_1_2 (fun args s t => Cond.after_iff.mpr (by
  first | (rw [show limb_1_2 = Cond.eq .result (.int 1) from rfl, Cond.eq_ints (x := 1) (y := 1) rfl rfl]; simp; done) | (simp [limb_1_2, Cond.value, Term.eval]; done)))⟩
end
