section
-- ===== PART A: goes FIRST, ahead of the names: the tables' words, and 'selects' of the private methods out of them =====
/-- a private method of a class that the tables say can be made, by its rows of tables_1 -/
def lw_okq (q : MethodName × Nat) : Prop := (q.1.cls ≠ "java/lang/invoke/MethodHandle" ∧ q.1.cls ≠ "java/lang/invoke/VarHandle") ∧ Cond.instantiable q.1.cls q.2 ∈ tables_1 ∧ Cond.privateMethod q.1 ∈ tables_1 ∧ Cond.instanceMethod q.1 ∈ tables_1
theorem lw_p0 : lw_okq (⟨"ScriptFront$Tree", "has", "(I)Z"⟩, 9) := ⟨⟨by decide +kernel, by decide +kernel⟩, List.mem_of_getElem? (i := 176) (by decide +kernel), List.mem_of_getElem? (i := 310) (by decide +kernel), List.mem_of_getElem? (i := 311) (by decide +kernel)⟩
theorem lw_p1 : lw_okq (⟨"ScriptFront$Scanner", "behindBlanks", "(I)I"⟩, 8) := ⟨⟨by decide +kernel, by decide +kernel⟩, List.mem_of_getElem? (i := 111) (by decide +kernel), List.mem_of_getElem? (i := 358) (by decide +kernel), List.mem_of_getElem? (i := 359) (by decide +kernel)⟩
theorem lw_p2 : lw_okq (⟨"ScriptFront$Scanner", "behindLine", "(I)I"⟩, 8) := ⟨⟨by decide +kernel, by decide +kernel⟩, List.mem_of_getElem? (i := 111) (by decide +kernel), List.mem_of_getElem? (i := 367) (by decide +kernel), List.mem_of_getElem? (i := 368) (by decide +kernel)⟩
theorem lw_p3 : lw_okq (⟨"ScriptFront$Scanner", "behindComment", "(I)I"⟩, 8) := ⟨⟨by decide +kernel, by decide +kernel⟩, List.mem_of_getElem? (i := 111) (by decide +kernel), List.mem_of_getElem? (i := 371) (by decide +kernel), List.mem_of_getElem? (i := 372) (by decide +kernel)⟩
theorem lw_p4 : lw_okq (⟨"ScriptFront$Scanner", "readNumber", "()V"⟩, 8) := ⟨⟨by decide +kernel, by decide +kernel⟩, List.mem_of_getElem? (i := 111) (by decide +kernel), List.mem_of_getElem? (i := 378) (by decide +kernel), List.mem_of_getElem? (i := 379) (by decide +kernel)⟩
theorem lw_p5 : lw_okq (⟨"ScriptFront$Scanner", "refuseIf", "(Z)V"⟩, 8) := ⟨⟨by decide +kernel, by decide +kernel⟩, List.mem_of_getElem? (i := 111) (by decide +kernel), List.mem_of_getElem? (i := 382) (by decide +kernel), List.mem_of_getElem? (i := 383) (by decide +kernel)⟩
theorem lw_p6 : lw_okq (⟨"java/lang/Throwable", "fillInStackTrace", "(I)Ljava/lang/Throwable;"⟩, 6) := ⟨⟨by decide +kernel, by decide +kernel⟩, List.mem_of_getElem? (i := 427) (by decide +kernel), List.mem_of_getElem? (i := 425) (by decide +kernel), List.mem_of_getElem? (i := 426) (by decide +kernel)⟩
theorem lw_p7 : lw_okq (⟨"ScriptFront$Scanner", "behindDigits", "(IZ)I"⟩, 8) := ⟨⟨by decide +kernel, by decide +kernel⟩, List.mem_of_getElem? (i := 111) (by decide +kernel), List.mem_of_getElem? (i := 457) (by decide +kernel), List.mem_of_getElem? (i := 458) (by decide +kernel)⟩
theorem lw_p8 : lw_okq (⟨"ScriptFront$Scanner", "exponentPlace", "(I)I"⟩, 8) := ⟨⟨by decide +kernel, by decide +kernel⟩, List.mem_of_getElem? (i := 111) (by decide +kernel), List.mem_of_getElem? (i := 461) (by decide +kernel), List.mem_of_getElem? (i := 462) (by decide +kernel)⟩
theorem lw_p9 : lw_okq (⟨"ScriptFront$Scanner", "readName", "()V"⟩, 8) := ⟨⟨by decide +kernel, by decide +kernel⟩, List.mem_of_getElem? (i := 111) (by decide +kernel), List.mem_of_getElem? (i := 468) (by decide +kernel), List.mem_of_getElem? (i := 469) (by decide +kernel)⟩
theorem lw_p10 : lw_okq (⟨"ScriptFront$Scanner", "wordCode", "()I"⟩, 8) := ⟨⟨by decide +kernel, by decide +kernel⟩, List.mem_of_getElem? (i := 111) (by decide +kernel), List.mem_of_getElem? (i := 472) (by decide +kernel), List.mem_of_getElem? (i := 473) (by decide +kernel)⟩
theorem lw_p11 : lw_okq (⟨"ScriptFront$Scanner", "readString", "(I)V"⟩, 8) := ⟨⟨by decide +kernel, by decide +kernel⟩, List.mem_of_getElem? (i := 111) (by decide +kernel), List.mem_of_getElem? (i := 529) (by decide +kernel), List.mem_of_getElem? (i := 530) (by decide +kernel)⟩
theorem lw_p12 : lw_okq (⟨"ScriptFront$Scanner", "readSign", "()V"⟩, 8) := ⟨⟨by decide +kernel, by decide +kernel⟩, List.mem_of_getElem? (i := 111) (by decide +kernel), List.mem_of_getElem? (i := 533) (by decide +kernel), List.mem_of_getElem? (i := 534) (by decide +kernel)⟩
theorem lw_p13 : lw_okq (⟨"ScriptFront$Parser", "element", "(I)I"⟩, 8) := ⟨⟨by decide +kernel, by decide +kernel⟩, List.mem_of_getElem? (i := 109) (by decide +kernel), List.mem_of_getElem? (i := 547) (by decide +kernel), List.mem_of_getElem? (i := 548) (by decide +kernel)⟩
theorem lw_p14 : lw_okq (⟨"ScriptFront$Parser", "statement", "(I)I"⟩, 8) := ⟨⟨by decide +kernel, by decide +kernel⟩, List.mem_of_getElem? (i := 109) (by decide +kernel), List.mem_of_getElem? (i := 551) (by decide +kernel), List.mem_of_getElem? (i := 552) (by decide +kernel)⟩
theorem lw_p15 : lw_okq (⟨"ScriptFront$Parser", "beginWithin", "(I)V"⟩, 8) := ⟨⟨by decide +kernel, by decide +kernel⟩, List.mem_of_getElem? (i := 109) (by decide +kernel), List.mem_of_getElem? (i := 555) (by decide +kernel), List.mem_of_getElem? (i := 556) (by decide +kernel)⟩
def lw_privs_1 : List (MethodName × Nat) := [(⟨"ScriptFront$Tree", "has", "(I)Z"⟩, 9), (⟨"ScriptFront$Scanner", "behindBlanks", "(I)I"⟩, 8), (⟨"ScriptFront$Scanner", "behindLine", "(I)I"⟩, 8), (⟨"ScriptFront$Scanner", "behindComment", "(I)I"⟩, 8), (⟨"ScriptFront$Scanner", "readNumber", "()V"⟩, 8), (⟨"ScriptFront$Scanner", "refuseIf", "(Z)V"⟩, 8), (⟨"java/lang/Throwable", "fillInStackTrace", "(I)Ljava/lang/Throwable;"⟩, 6), (⟨"ScriptFront$Scanner", "behindDigits", "(IZ)I"⟩, 8), (⟨"ScriptFront$Scanner", "exponentPlace", "(I)I"⟩, 8), (⟨"ScriptFront$Scanner", "readName", "()V"⟩, 8), (⟨"ScriptFront$Scanner", "wordCode", "()I"⟩, 8), (⟨"ScriptFront$Scanner", "readString", "(I)V"⟩, 8), (⟨"ScriptFront$Scanner", "readSign", "()V"⟩, 8), (⟨"ScriptFront$Parser", "element", "(I)I"⟩, 8), (⟨"ScriptFront$Parser", "statement", "(I)I"⟩, 8), (⟨"ScriptFront$Parser", "beginWithin", "(I)V"⟩, 8)]
theorem lw_r1 : ∀ q ∈ lw_privs_1, lw_okq q := List.forall_mem_cons.mpr ⟨lw_p0, List.forall_mem_cons.mpr ⟨lw_p1, List.forall_mem_cons.mpr ⟨lw_p2, List.forall_mem_cons.mpr ⟨lw_p3, List.forall_mem_cons.mpr ⟨lw_p4, List.forall_mem_cons.mpr ⟨lw_p5, List.forall_mem_cons.mpr ⟨lw_p6, List.forall_mem_cons.mpr ⟨lw_p7, List.forall_mem_cons.mpr ⟨lw_p8, List.forall_mem_cons.mpr ⟨lw_p9, List.forall_mem_cons.mpr ⟨lw_p10, List.forall_mem_cons.mpr ⟨lw_p11, List.forall_mem_cons.mpr ⟨lw_p12, List.forall_mem_cons.mpr ⟨lw_p13, List.forall_mem_cons.mpr ⟨lw_p14, List.forall_mem_cons.mpr ⟨lw_p15, fun _ h => absurd h List.not_mem_nil⟩⟩⟩⟩⟩⟩⟩⟩⟩⟩⟩⟩⟩⟩⟩⟩
theorem lw_p16 : lw_okq (⟨"ScriptFront$Scanner", "readPattern", "()V"⟩, 8) := ⟨⟨by decide +kernel, by decide +kernel⟩, List.mem_of_getElem? (i := 111) (by decide +kernel), List.mem_of_getElem? (i := 563) (by decide +kernel), List.mem_of_getElem? (i := 564) (by decide +kernel)⟩
theorem lw_p17 : lw_okq (⟨"ScriptFront$Scanner", "behindFlags", "(I)I"⟩, 8) := ⟨⟨by decide +kernel, by decide +kernel⟩, List.mem_of_getElem? (i := 111) (by decide +kernel), List.mem_of_getElem? (i := 567) (by decide +kernel), List.mem_of_getElem? (i := 568) (by decide +kernel)⟩
theorem lw_p18 : lw_okq (⟨"ScriptFront$Parser", "unended", "(I)I"⟩, 8) := ⟨⟨by decide +kernel, by decide +kernel⟩, List.mem_of_getElem? (i := 109) (by decide +kernel), List.mem_of_getElem? (i := 572) (by decide +kernel), List.mem_of_getElem? (i := 573) (by decide +kernel)⟩
theorem lw_p19 : lw_okq (⟨"ScriptFront$Parser", "block", "(I)I"⟩, 8) := ⟨⟨by decide +kernel, by decide +kernel⟩, List.mem_of_getElem? (i := 109) (by decide +kernel), List.mem_of_getElem? (i := 576) (by decide +kernel), List.mem_of_getElem? (i := 577) (by decide +kernel)⟩
theorem lw_p20 : lw_okq (⟨"ScriptFront$Parser", "demand", "(I)V"⟩, 8) := ⟨⟨by decide +kernel, by decide +kernel⟩, List.mem_of_getElem? (i := 109) (by decide +kernel), List.mem_of_getElem? (i := 580) (by decide +kernel), List.mem_of_getElem? (i := 581) (by decide +kernel)⟩
theorem lw_p21 : lw_okq (⟨"ScriptFront$Parser", "refuse", "()V"⟩, 8) := ⟨⟨by decide +kernel, by decide +kernel⟩, List.mem_of_getElem? (i := 109) (by decide +kernel), List.mem_of_getElem? (i := 584) (by decide +kernel), List.mem_of_getElem? (i := 585) (by decide +kernel)⟩
theorem lw_p22 : lw_okq (⟨"ScriptFront$Parser", "makeFirst", "(I)I"⟩, 8) := ⟨⟨by decide +kernel, by decide +kernel⟩, List.mem_of_getElem? (i := 109) (by decide +kernel), List.mem_of_getElem? (i := 588) (by decide +kernel), List.mem_of_getElem? (i := 589) (by decide +kernel)⟩
theorem lw_p23 : lw_okq (⟨"ScriptFront$Parser", "listGoesOn", "()Z"⟩, 8) := ⟨⟨by decide +kernel, by decide +kernel⟩, List.mem_of_getElem? (i := 109) (by decide +kernel), List.mem_of_getElem? (i := 593) (by decide +kernel), List.mem_of_getElem? (i := 594) (by decide +kernel)⟩
theorem lw_p24 : lw_okq (⟨"ScriptFront$Draft", "has", "(I)Z"⟩, 11) := ⟨⟨by decide +kernel, by decide +kernel⟩, List.mem_of_getElem? (i := 68) (by decide +kernel), List.mem_of_getElem? (i := 601) (by decide +kernel), List.mem_of_getElem? (i := 602) (by decide +kernel)⟩
theorem lw_p25 : lw_okq (⟨"ScriptFront$Parser", "pass", "(I)V"⟩, 8) := ⟨⟨by decide +kernel, by decide +kernel⟩, List.mem_of_getElem? (i := 109) (by decide +kernel), List.mem_of_getElem? (i := 605) (by decide +kernel), List.mem_of_getElem? (i := 606) (by decide +kernel)⟩
theorem lw_p26 : lw_okq (⟨"ScriptFront$Parser", "declarators", "(IZ)I"⟩, 8) := ⟨⟨by decide +kernel, by decide +kernel⟩, List.mem_of_getElem? (i := 109) (by decide +kernel), List.mem_of_getElem? (i := 609) (by decide +kernel), List.mem_of_getElem? (i := 610) (by decide +kernel)⟩
theorem lw_p27 : lw_okq (⟨"ScriptFront$Parser", "declarator", "(IZ)I"⟩, 8) := ⟨⟨by decide +kernel, by decide +kernel⟩, List.mem_of_getElem? (i := 109) (by decide +kernel), List.mem_of_getElem? (i := 613) (by decide +kernel), List.mem_of_getElem? (i := 614) (by decide +kernel)⟩
theorem lw_p28 : lw_okq (⟨"ScriptFront$Parser", "demandName", "()V"⟩, 8) := ⟨⟨by decide +kernel, by decide +kernel⟩, List.mem_of_getElem? (i := 109) (by decide +kernel), List.mem_of_getElem? (i := 617) (by decide +kernel), List.mem_of_getElem? (i := 618) (by decide +kernel)⟩
theorem lw_p29 : lw_okq (⟨"ScriptFront$Parser", "makeOf", "(I)I"⟩, 8) := ⟨⟨by decide +kernel, by decide +kernel⟩, List.mem_of_getElem? (i := 109) (by decide +kernel), List.mem_of_getElem? (i := 621) (by decide +kernel), List.mem_of_getElem? (i := 622) (by decide +kernel)⟩
theorem lw_p30 : lw_okq (⟨"ScriptFront$Parser", "x", "(IZ)I"⟩, 8) := ⟨⟨by decide +kernel, by decide +kernel⟩, List.mem_of_getElem? (i := 109) (by decide +kernel), List.mem_of_getElem? (i := 626) (by decide +kernel), List.mem_of_getElem? (i := 627) (by decide +kernel)⟩
theorem lw_p31 : lw_okq (⟨"ScriptFront$Parser", "choice", "(IZ)I"⟩, 8) := ⟨⟨by decide +kernel, by decide +kernel⟩, List.mem_of_getElem? (i := 109) (by decide +kernel), List.mem_of_getElem? (i := 630) (by decide +kernel), List.mem_of_getElem? (i := 631) (by decide +kernel)⟩
def lw_privs_2 : List (MethodName × Nat) := [(⟨"ScriptFront$Scanner", "readPattern", "()V"⟩, 8), (⟨"ScriptFront$Scanner", "behindFlags", "(I)I"⟩, 8), (⟨"ScriptFront$Parser", "unended", "(I)I"⟩, 8), (⟨"ScriptFront$Parser", "block", "(I)I"⟩, 8), (⟨"ScriptFront$Parser", "demand", "(I)V"⟩, 8), (⟨"ScriptFront$Parser", "refuse", "()V"⟩, 8), (⟨"ScriptFront$Parser", "makeFirst", "(I)I"⟩, 8), (⟨"ScriptFront$Parser", "listGoesOn", "()Z"⟩, 8), (⟨"ScriptFront$Draft", "has", "(I)Z"⟩, 11), (⟨"ScriptFront$Parser", "pass", "(I)V"⟩, 8), (⟨"ScriptFront$Parser", "declarators", "(IZ)I"⟩, 8), (⟨"ScriptFront$Parser", "declarator", "(IZ)I"⟩, 8), (⟨"ScriptFront$Parser", "demandName", "()V"⟩, 8), (⟨"ScriptFront$Parser", "makeOf", "(I)I"⟩, 8), (⟨"ScriptFront$Parser", "x", "(IZ)I"⟩, 8), (⟨"ScriptFront$Parser", "choice", "(IZ)I"⟩, 8)]
theorem lw_r2 : ∀ q ∈ lw_privs_2, lw_okq q := List.forall_mem_cons.mpr ⟨lw_p16, List.forall_mem_cons.mpr ⟨lw_p17, List.forall_mem_cons.mpr ⟨lw_p18, List.forall_mem_cons.mpr ⟨lw_p19, List.forall_mem_cons.mpr ⟨lw_p20, List.forall_mem_cons.mpr ⟨lw_p21, List.forall_mem_cons.mpr ⟨lw_p22, List.forall_mem_cons.mpr ⟨lw_p23, List.forall_mem_cons.mpr ⟨lw_p24, List.forall_mem_cons.mpr ⟨lw_p25, List.forall_mem_cons.mpr ⟨lw_p26, List.forall_mem_cons.mpr ⟨lw_p27, List.forall_mem_cons.mpr ⟨lw_p28, List.forall_mem_cons.mpr ⟨lw_p29, List.forall_mem_cons.mpr ⟨lw_p30, List.forall_mem_cons.mpr ⟨lw_p31, fun _ h => absurd h List.not_mem_nil⟩⟩⟩⟩⟩⟩⟩⟩⟩⟩⟩⟩⟩⟩⟩⟩
theorem lw_p32 : lw_okq (⟨"ScriptFront$Parser", "binary", "(IZ)I"⟩, 8) := ⟨⟨by decide +kernel, by decide +kernel⟩, List.mem_of_getElem? (i := 109) (by decide +kernel), List.mem_of_getElem? (i := 634) (by decide +kernel), List.mem_of_getElem? (i := 635) (by decide +kernel)⟩
theorem lw_p33 : lw_okq (⟨"ScriptFront$Parser", "unary", "(I)I"⟩, 8) := ⟨⟨by decide +kernel, by decide +kernel⟩, List.mem_of_getElem? (i := 109) (by decide +kernel), List.mem_of_getElem? (i := 638) (by decide +kernel), List.mem_of_getElem? (i := 639) (by decide +kernel)⟩
theorem lw_p34 : lw_okq (⟨"ScriptFront$Parser", "left", "(I)I"⟩, 8) := ⟨⟨by decide +kernel, by decide +kernel⟩, List.mem_of_getElem? (i := 109) (by decide +kernel), List.mem_of_getElem? (i := 645) (by decide +kernel), List.mem_of_getElem? (i := 646) (by decide +kernel)⟩
theorem lw_p35 : lw_okq (⟨"ScriptFront$Parser", "head", "(I)I"⟩, 8) := ⟨⟨by decide +kernel, by decide +kernel⟩, List.mem_of_getElem? (i := 109) (by decide +kernel), List.mem_of_getElem? (i := 649) (by decide +kernel), List.mem_of_getElem? (i := 650) (by decide +kernel)⟩
theorem lw_p36 : lw_okq (⟨"ScriptFront$Parser", "creation", "(I)I"⟩, 8) := ⟨⟨by decide +kernel, by decide +kernel⟩, List.mem_of_getElem? (i := 109) (by decide +kernel), List.mem_of_getElem? (i := 653) (by decide +kernel), List.mem_of_getElem? (i := 654) (by decide +kernel)⟩
theorem lw_p37 : lw_okq (⟨"ScriptFront$Parser", "member", "(I)I"⟩, 8) := ⟨⟨by decide +kernel, by decide +kernel⟩, List.mem_of_getElem? (i := 109) (by decide +kernel), List.mem_of_getElem? (i := 657) (by decide +kernel), List.mem_of_getElem? (i := 658) (by decide +kernel)⟩
theorem lw_p38 : lw_okq (⟨"ScriptFront$Parser", "access", "(II)I"⟩, 8) := ⟨⟨by decide +kernel, by decide +kernel⟩, List.mem_of_getElem? (i := 109) (by decide +kernel), List.mem_of_getElem? (i := 661) (by decide +kernel), List.mem_of_getElem? (i := 662) (by decide +kernel)⟩
theorem lw_p39 : lw_okq (⟨"ScriptFront$Parser", "makeHere", "(I)I"⟩, 8) := ⟨⟨by decide +kernel, by decide +kernel⟩, List.mem_of_getElem? (i := 109) (by decide +kernel), List.mem_of_getElem? (i := 665) (by decide +kernel), List.mem_of_getElem? (i := 666) (by decide +kernel)⟩
theorem lw_p40 : lw_okq (⟨"ScriptFront$Parser", "sequence", "(IZ)I"⟩, 8) := ⟨⟨by decide +kernel, by decide +kernel⟩, List.mem_of_getElem? (i := 109) (by decide +kernel), List.mem_of_getElem? (i := 669) (by decide +kernel), List.mem_of_getElem? (i := 670) (by decide +kernel)⟩
theorem lw_p41 : lw_okq (⟨"ScriptFront$Parser", "arguments", "(II)V"⟩, 8) := ⟨⟨by decide +kernel, by decide +kernel⟩, List.mem_of_getElem? (i := 109) (by decide +kernel), List.mem_of_getElem? (i := 673) (by decide +kernel), List.mem_of_getElem? (i := 674) (by decide +kernel)⟩
theorem lw_p42 : lw_okq (⟨"ScriptFront$Parser", "operand", "(I)I"⟩, 8) := ⟨⟨by decide +kernel, by decide +kernel⟩, List.mem_of_getElem? (i := 109) (by decide +kernel), List.mem_of_getElem? (i := 677) (by decide +kernel), List.mem_of_getElem? (i := 678) (by decide +kernel)⟩
theorem lw_p43 : lw_okq (⟨"ScriptFront$Parser", "codedOperand", "(I)I"⟩, 8) := ⟨⟨by decide +kernel, by decide +kernel⟩, List.mem_of_getElem? (i := 109) (by decide +kernel), List.mem_of_getElem? (i := 681) (by decide +kernel), List.mem_of_getElem? (i := 682) (by decide +kernel)⟩
theorem lw_p44 : lw_okq (⟨"ScriptFront$Parser", "function", "(II)I"⟩, 8) := ⟨⟨by decide +kernel, by decide +kernel⟩, List.mem_of_getElem? (i := 109) (by decide +kernel), List.mem_of_getElem? (i := 685) (by decide +kernel), List.mem_of_getElem? (i := 686) (by decide +kernel)⟩
theorem lw_p45 : lw_okq (⟨"ScriptFront$Parser", "body", "(I)I"⟩, 8) := ⟨⟨by decide +kernel, by decide +kernel⟩, List.mem_of_getElem? (i := 109) (by decide +kernel), List.mem_of_getElem? (i := 689) (by decide +kernel), List.mem_of_getElem? (i := 690) (by decide +kernel)⟩
theorem lw_p46 : lw_okq (⟨"ScriptFront$Parser", "array", "(I)I"⟩, 8) := ⟨⟨by decide +kernel, by decide +kernel⟩, List.mem_of_getElem? (i := 109) (by decide +kernel), List.mem_of_getElem? (i := 693) (by decide +kernel), List.mem_of_getElem? (i := 694) (by decide +kernel)⟩
theorem lw_p47 : lw_okq (⟨"ScriptFront$Parser", "nothing", "()I"⟩, 8) := ⟨⟨by decide +kernel, by decide +kernel⟩, List.mem_of_getElem? (i := 109) (by decide +kernel), List.mem_of_getElem? (i := 697) (by decide +kernel), List.mem_of_getElem? (i := 698) (by decide +kernel)⟩
def lw_privs_3 : List (MethodName × Nat) := [(⟨"ScriptFront$Parser", "binary", "(IZ)I"⟩, 8), (⟨"ScriptFront$Parser", "unary", "(I)I"⟩, 8), (⟨"ScriptFront$Parser", "left", "(I)I"⟩, 8), (⟨"ScriptFront$Parser", "head", "(I)I"⟩, 8), (⟨"ScriptFront$Parser", "creation", "(I)I"⟩, 8), (⟨"ScriptFront$Parser", "member", "(I)I"⟩, 8), (⟨"ScriptFront$Parser", "access", "(II)I"⟩, 8), (⟨"ScriptFront$Parser", "makeHere", "(I)I"⟩, 8), (⟨"ScriptFront$Parser", "sequence", "(IZ)I"⟩, 8), (⟨"ScriptFront$Parser", "arguments", "(II)V"⟩, 8), (⟨"ScriptFront$Parser", "operand", "(I)I"⟩, 8), (⟨"ScriptFront$Parser", "codedOperand", "(I)I"⟩, 8), (⟨"ScriptFront$Parser", "function", "(II)I"⟩, 8), (⟨"ScriptFront$Parser", "body", "(I)I"⟩, 8), (⟨"ScriptFront$Parser", "array", "(I)I"⟩, 8), (⟨"ScriptFront$Parser", "nothing", "()I"⟩, 8)]
theorem lw_r3 : ∀ q ∈ lw_privs_3, lw_okq q := List.forall_mem_cons.mpr ⟨lw_p32, List.forall_mem_cons.mpr ⟨lw_p33, List.forall_mem_cons.mpr ⟨lw_p34, List.forall_mem_cons.mpr ⟨lw_p35, List.forall_mem_cons.mpr ⟨lw_p36, List.forall_mem_cons.mpr ⟨lw_p37, List.forall_mem_cons.mpr ⟨lw_p38, List.forall_mem_cons.mpr ⟨lw_p39, List.forall_mem_cons.mpr ⟨lw_p40, List.forall_mem_cons.mpr ⟨lw_p41, List.forall_mem_cons.mpr ⟨lw_p42, List.forall_mem_cons.mpr ⟨lw_p43, List.forall_mem_cons.mpr ⟨lw_p44, List.forall_mem_cons.mpr ⟨lw_p45, List.forall_mem_cons.mpr ⟨lw_p46, List.forall_mem_cons.mpr ⟨lw_p47, fun _ h => absurd h List.not_mem_nil⟩⟩⟩⟩⟩⟩⟩⟩⟩⟩⟩⟩⟩⟩⟩⟩
theorem lw_p48 : lw_okq (⟨"ScriptFront$Parser", "object", "(I)I"⟩, 8) := ⟨⟨by decide +kernel, by decide +kernel⟩, List.mem_of_getElem? (i := 109) (by decide +kernel), List.mem_of_getElem? (i := 701) (by decide +kernel), List.mem_of_getElem? (i := 702) (by decide +kernel)⟩
theorem lw_p49 : lw_okq (⟨"ScriptFront$Parser", "property", "(I)I"⟩, 8) := ⟨⟨by decide +kernel, by decide +kernel⟩, List.mem_of_getElem? (i := 109) (by decide +kernel), List.mem_of_getElem? (i := 705) (by decide +kernel), List.mem_of_getElem? (i := 706) (by decide +kernel)⟩
theorem lw_p50 : lw_okq (⟨"ScriptFront$Parser", "call", "(II)I"⟩, 8) := ⟨⟨by decide +kernel, by decide +kernel⟩, List.mem_of_getElem? (i := 109) (by decide +kernel), List.mem_of_getElem? (i := 709) (by decide +kernel), List.mem_of_getElem? (i := 710) (by decide +kernel)⟩
theorem lw_p51 : lw_okq (⟨"ScriptFront$Parser", "closeWaiting", "(III)I"⟩, 8) := ⟨⟨by decide +kernel, by decide +kernel⟩, List.mem_of_getElem? (i := 109) (by decide +kernel), List.mem_of_getElem? (i := 716) (by decide +kernel), List.mem_of_getElem? (i := 717) (by decide +kernel)⟩
theorem lw_p52 : lw_okq (⟨"ScriptFront$Parser", "hold", "(II)V"⟩, 8) := ⟨⟨by decide +kernel, by decide +kernel⟩, List.mem_of_getElem? (i := 109) (by decide +kernel), List.mem_of_getElem? (i := 720) (by decide +kernel), List.mem_of_getElem? (i := 721) (by decide +kernel)⟩
theorem lw_p53 : lw_okq (⟨"ScriptFront$Parser", "ifStatement", "(I)I"⟩, 8) := ⟨⟨by decide +kernel, by decide +kernel⟩, List.mem_of_getElem? (i := 109) (by decide +kernel), List.mem_of_getElem? (i := 727) (by decide +kernel), List.mem_of_getElem? (i := 728) (by decide +kernel)⟩
theorem lw_p54 : lw_okq (⟨"ScriptFront$Parser", "condition", "(II)V"⟩, 8) := ⟨⟨by decide +kernel, by decide +kernel⟩, List.mem_of_getElem? (i := 109) (by decide +kernel), List.mem_of_getElem? (i := 731) (by decide +kernel), List.mem_of_getElem? (i := 732) (by decide +kernel)⟩
theorem lw_p55 : lw_okq (⟨"ScriptFront$Parser", "doStatement", "(I)I"⟩, 8) := ⟨⟨by decide +kernel, by decide +kernel⟩, List.mem_of_getElem? (i := 109) (by decide +kernel), List.mem_of_getElem? (i := 735) (by decide +kernel), List.mem_of_getElem? (i := 736) (by decide +kernel)⟩
theorem lw_p56 : lw_okq (⟨"ScriptFront$Parser", "whileStatement", "(I)I"⟩, 8) := ⟨⟨by decide +kernel, by decide +kernel⟩, List.mem_of_getElem? (i := 109) (by decide +kernel), List.mem_of_getElem? (i := 739) (by decide +kernel), List.mem_of_getElem? (i := 740) (by decide +kernel)⟩
theorem lw_p57 : lw_okq (⟨"ScriptFront$Parser", "forStatement", "(I)I"⟩, 8) := ⟨⟨by decide +kernel, by decide +kernel⟩, List.mem_of_getElem? (i := 109) (by decide +kernel), List.mem_of_getElem? (i := 743) (by decide +kernel), List.mem_of_getElem? (i := 744) (by decide +kernel)⟩
theorem lw_p58 : lw_okq (⟨"ScriptFront$Parser", "forParts", "(III)I"⟩, 8) := ⟨⟨by decide +kernel, by decide +kernel⟩, List.mem_of_getElem? (i := 109) (by decide +kernel), List.mem_of_getElem? (i := 747) (by decide +kernel), List.mem_of_getElem? (i := 748) (by decide +kernel)⟩
theorem lw_p59 : lw_okq (⟨"ScriptFront$Parser", "forIn", "(III)I"⟩, 8) := ⟨⟨by decide +kernel, by decide +kernel⟩, List.mem_of_getElem? (i := 109) (by decide +kernel), List.mem_of_getElem? (i := 755) (by decide +kernel), List.mem_of_getElem? (i := 756) (by decide +kernel)⟩
theorem lw_p60 : lw_okq (⟨"ScriptFront$Parser", "jump", "(I)I"⟩, 8) := ⟨⟨by decide +kernel, by decide +kernel⟩, List.mem_of_getElem? (i := 109) (by decide +kernel), List.mem_of_getElem? (i := 759) (by decide +kernel), List.mem_of_getElem? (i := 760) (by decide +kernel)⟩
theorem lw_p61 : lw_okq (⟨"ScriptFront$Parser", "returnStatement", "(I)I"⟩, 8) := ⟨⟨by decide +kernel, by decide +kernel⟩, List.mem_of_getElem? (i := 109) (by decide +kernel), List.mem_of_getElem? (i := 763) (by decide +kernel), List.mem_of_getElem? (i := 764) (by decide +kernel)⟩
theorem lw_p62 : lw_okq (⟨"ScriptFront$Parser", "switchStatement", "(I)I"⟩, 8) := ⟨⟨by decide +kernel, by decide +kernel⟩, List.mem_of_getElem? (i := 109) (by decide +kernel), List.mem_of_getElem? (i := 767) (by decide +kernel), List.mem_of_getElem? (i := 768) (by decide +kernel)⟩
theorem lw_p63 : lw_okq (⟨"ScriptFront$Parser", "switchCase", "(I)I"⟩, 8) := ⟨⟨by decide +kernel, by decide +kernel⟩, List.mem_of_getElem? (i := 109) (by decide +kernel), List.mem_of_getElem? (i := 771) (by decide +kernel), List.mem_of_getElem? (i := 772) (by decide +kernel)⟩
def lw_privs_4 : List (MethodName × Nat) := [(⟨"ScriptFront$Parser", "object", "(I)I"⟩, 8), (⟨"ScriptFront$Parser", "property", "(I)I"⟩, 8), (⟨"ScriptFront$Parser", "call", "(II)I"⟩, 8), (⟨"ScriptFront$Parser", "closeWaiting", "(III)I"⟩, 8), (⟨"ScriptFront$Parser", "hold", "(II)V"⟩, 8), (⟨"ScriptFront$Parser", "ifStatement", "(I)I"⟩, 8), (⟨"ScriptFront$Parser", "condition", "(II)V"⟩, 8), (⟨"ScriptFront$Parser", "doStatement", "(I)I"⟩, 8), (⟨"ScriptFront$Parser", "whileStatement", "(I)I"⟩, 8), (⟨"ScriptFront$Parser", "forStatement", "(I)I"⟩, 8), (⟨"ScriptFront$Parser", "forParts", "(III)I"⟩, 8), (⟨"ScriptFront$Parser", "forIn", "(III)I"⟩, 8), (⟨"ScriptFront$Parser", "jump", "(I)I"⟩, 8), (⟨"ScriptFront$Parser", "returnStatement", "(I)I"⟩, 8), (⟨"ScriptFront$Parser", "switchStatement", "(I)I"⟩, 8), (⟨"ScriptFront$Parser", "switchCase", "(I)I"⟩, 8)]
theorem lw_r4 : ∀ q ∈ lw_privs_4, lw_okq q := List.forall_mem_cons.mpr ⟨lw_p48, List.forall_mem_cons.mpr ⟨lw_p49, List.forall_mem_cons.mpr ⟨lw_p50, List.forall_mem_cons.mpr ⟨lw_p51, List.forall_mem_cons.mpr ⟨lw_p52, List.forall_mem_cons.mpr ⟨lw_p53, List.forall_mem_cons.mpr ⟨lw_p54, List.forall_mem_cons.mpr ⟨lw_p55, List.forall_mem_cons.mpr ⟨lw_p56, List.forall_mem_cons.mpr ⟨lw_p57, List.forall_mem_cons.mpr ⟨lw_p58, List.forall_mem_cons.mpr ⟨lw_p59, List.forall_mem_cons.mpr ⟨lw_p60, List.forall_mem_cons.mpr ⟨lw_p61, List.forall_mem_cons.mpr ⟨lw_p62, List.forall_mem_cons.mpr ⟨lw_p63, fun _ h => absurd h List.not_mem_nil⟩⟩⟩⟩⟩⟩⟩⟩⟩⟩⟩⟩⟩⟩⟩⟩
theorem lw_p64 : lw_okq (⟨"ScriptFront$Parser", "throwStatement", "(I)I"⟩, 8) := ⟨⟨by decide +kernel, by decide +kernel⟩, List.mem_of_getElem? (i := 109) (by decide +kernel), List.mem_of_getElem? (i := 775) (by decide +kernel), List.mem_of_getElem? (i := 776) (by decide +kernel)⟩
theorem lw_p65 : lw_okq (⟨"ScriptFront$Parser", "tryStatement", "(I)I"⟩, 8) := ⟨⟨by decide +kernel, by decide +kernel⟩, List.mem_of_getElem? (i := 109) (by decide +kernel), List.mem_of_getElem? (i := 779) (by decide +kernel), List.mem_of_getElem? (i := 780) (by decide +kernel)⟩
theorem lw_p66 : lw_okq (⟨"ScriptFront$Parser", "catchPart", "(I)I"⟩, 8) := ⟨⟨by decide +kernel, by decide +kernel⟩, List.mem_of_getElem? (i := 109) (by decide +kernel), List.mem_of_getElem? (i := 783) (by decide +kernel), List.mem_of_getElem? (i := 784) (by decide +kernel)⟩
theorem lw_p67 : lw_okq (⟨"ScriptFront$Parser", "nameOrExpression", "(I)I"⟩, 8) := ⟨⟨by decide +kernel, by decide +kernel⟩, List.mem_of_getElem? (i := 109) (by decide +kernel), List.mem_of_getElem? (i := 787) (by decide +kernel), List.mem_of_getElem? (i := 788) (by decide +kernel)⟩
theorem lw_p68 : lw_okq (⟨"ScriptFront$Parser", "endStatement", "()V"⟩, 8) := ⟨⟨by decide +kernel, by decide +kernel⟩, List.mem_of_getElem? (i := 109) (by decide +kernel), List.mem_of_getElem? (i := 802) (by decide +kernel), List.mem_of_getElem? (i := 803) (by decide +kernel)⟩
theorem lw_p69 : lw_okq (⟨"ScriptFront$Draft", "behind", "(I)I"⟩, 11) := ⟨⟨by decide +kernel, by decide +kernel⟩, List.mem_of_getElem? (i := 68) (by decide +kernel), List.mem_of_getElem? (i := 818) (by decide +kernel), List.mem_of_getElem? (i := 819) (by decide +kernel)⟩
theorem lw_p70 : lw_okq (⟨"ScriptFront$Judge", "strictness", "(I)Z"⟩, 3) := ⟨⟨by decide +kernel, by decide +kernel⟩, List.mem_of_getElem? (i := 214) (by decide +kernel), List.mem_of_getElem? (i := 826) (by decide +kernel), List.mem_of_getElem? (i := 827) (by decide +kernel)⟩
theorem lw_p71 : lw_okq (⟨"ScriptFront$Judge", "hasDirective", "(I)Z"⟩, 3) := ⟨⟨by decide +kernel, by decide +kernel⟩, List.mem_of_getElem? (i := 214) (by decide +kernel), List.mem_of_getElem? (i := 835) (by decide +kernel), List.mem_of_getElem? (i := 836) (by decide +kernel)⟩
theorem lw_p72 : lw_okq (⟨"ScriptFront$Judge", "isLoneString", "(I)Z"⟩, 3) := ⟨⟨by decide +kernel, by decide +kernel⟩, List.mem_of_getElem? (i := 214) (by decide +kernel), List.mem_of_getElem? (i := 839) (by decide +kernel), List.mem_of_getElem? (i := 840) (by decide +kernel)⟩
theorem lw_p73 : lw_okq (⟨"ScriptFront$Judge", "isWrongTarget", "(I)Z"⟩, 3) := ⟨⟨by decide +kernel, by decide +kernel⟩, List.mem_of_getElem? (i := 214) (by decide +kernel), List.mem_of_getElem? (i := 871) (by decide +kernel), List.mem_of_getElem? (i := 872) (by decide +kernel)⟩
theorem lw_p74 : lw_okq (⟨"ScriptFront$Judge", "hasTarget", "(I)Z"⟩, 3) := ⟨⟨by decide +kernel, by decide +kernel⟩, List.mem_of_getElem? (i := 214) (by decide +kernel), List.mem_of_getElem? (i := 875) (by decide +kernel), List.mem_of_getElem? (i := 876) (by decide +kernel)⟩
theorem lw_p75 : lw_okq (⟨"ScriptFront$Judge", "refuseIf", "(ZII)V"⟩, 3) := ⟨⟨by decide +kernel, by decide +kernel⟩, List.mem_of_getElem? (i := 214) (by decide +kernel), List.mem_of_getElem? (i := 883) (by decide +kernel), List.mem_of_getElem? (i := 884) (by decide +kernel)⟩
theorem lw_p76 : lw_okq (⟨"ScriptFront$Judge", "isWrongInStrictCode", "(I)Z"⟩, 3) := ⟨⟨by decide +kernel, by decide +kernel⟩, List.mem_of_getElem? (i := 214) (by decide +kernel), List.mem_of_getElem? (i := 888) (by decide +kernel), List.mem_of_getElem? (i := 889) (by decide +kernel)⟩
theorem lw_p77 : lw_okq (⟨"ScriptFront$Judge", "isGuarded", "(I)Z"⟩, 3) := ⟨⟨by decide +kernel, by decide +kernel⟩, List.mem_of_getElem? (i := 214) (by decide +kernel), List.mem_of_getElem? (i := 892) (by decide +kernel), List.mem_of_getElem? (i := 893) (by decide +kernel)⟩
theorem lw_p78 : lw_okq (⟨"ScriptFront$Judge", "isRepeated", "(I)Z"⟩, 3) := ⟨⟨by decide +kernel, by decide +kernel⟩, List.mem_of_getElem? (i := 214) (by decide +kernel), List.mem_of_getElem? (i := 898) (by decide +kernel), List.mem_of_getElem? (i := 899) (by decide +kernel)⟩
theorem lw_p79 : lw_okq (⟨"ScriptFront$Judge", "areAlike", "(II)Z"⟩, 3) := ⟨⟨by decide +kernel, by decide +kernel⟩, List.mem_of_getElem? (i := 214) (by decide +kernel), List.mem_of_getElem? (i := 902) (by decide +kernel), List.mem_of_getElem? (i := 903) (by decide +kernel)⟩
def lw_privs_5 : List (MethodName × Nat) := [(⟨"ScriptFront$Parser", "throwStatement", "(I)I"⟩, 8), (⟨"ScriptFront$Parser", "tryStatement", "(I)I"⟩, 8), (⟨"ScriptFront$Parser", "catchPart", "(I)I"⟩, 8), (⟨"ScriptFront$Parser", "nameOrExpression", "(I)I"⟩, 8), (⟨"ScriptFront$Parser", "endStatement", "()V"⟩, 8), (⟨"ScriptFront$Draft", "behind", "(I)I"⟩, 11), (⟨"ScriptFront$Judge", "strictness", "(I)Z"⟩, 3), (⟨"ScriptFront$Judge", "hasDirective", "(I)Z"⟩, 3), (⟨"ScriptFront$Judge", "isLoneString", "(I)Z"⟩, 3), (⟨"ScriptFront$Judge", "isWrongTarget", "(I)Z"⟩, 3), (⟨"ScriptFront$Judge", "hasTarget", "(I)Z"⟩, 3), (⟨"ScriptFront$Judge", "refuseIf", "(ZII)V"⟩, 3), (⟨"ScriptFront$Judge", "isWrongInStrictCode", "(I)Z"⟩, 3), (⟨"ScriptFront$Judge", "isGuarded", "(I)Z"⟩, 3), (⟨"ScriptFront$Judge", "isRepeated", "(I)Z"⟩, 3), (⟨"ScriptFront$Judge", "areAlike", "(II)Z"⟩, 3)]
theorem lw_r5 : ∀ q ∈ lw_privs_5, lw_okq q := List.forall_mem_cons.mpr ⟨lw_p64, List.forall_mem_cons.mpr ⟨lw_p65, List.forall_mem_cons.mpr ⟨lw_p66, List.forall_mem_cons.mpr ⟨lw_p67, List.forall_mem_cons.mpr ⟨lw_p68, List.forall_mem_cons.mpr ⟨lw_p69, List.forall_mem_cons.mpr ⟨lw_p70, List.forall_mem_cons.mpr ⟨lw_p71, List.forall_mem_cons.mpr ⟨lw_p72, List.forall_mem_cons.mpr ⟨lw_p73, List.forall_mem_cons.mpr ⟨lw_p74, List.forall_mem_cons.mpr ⟨lw_p75, List.forall_mem_cons.mpr ⟨lw_p76, List.forall_mem_cons.mpr ⟨lw_p77, List.forall_mem_cons.mpr ⟨lw_p78, List.forall_mem_cons.mpr ⟨lw_p79, fun _ h => absurd h List.not_mem_nil⟩⟩⟩⟩⟩⟩⟩⟩⟩⟩⟩⟩⟩⟩⟩⟩
theorem lw_p80 : lw_okq (⟨"ScriptFront$Judge", "isGuardedTarget", "(I)Z"⟩, 3) := ⟨⟨by decide +kernel, by decide +kernel⟩, List.mem_of_getElem? (i := 214) (by decide +kernel), List.mem_of_getElem? (i := 907) (by decide +kernel), List.mem_of_getElem? (i := 908) (by decide +kernel)⟩
theorem lw_p81 : lw_okq (⟨"ScriptFront$Judge", "isDeletedName", "(I)Z"⟩, 3) := ⟨⟨by decide +kernel, by decide +kernel⟩, List.mem_of_getElem? (i := 214) (by decide +kernel), List.mem_of_getElem? (i := 911) (by decide +kernel), List.mem_of_getElem? (i := 912) (by decide +kernel)⟩
theorem lw_p82 : lw_okq (⟨"ScriptFront$Judge", "isWrongJump", "(I)Z"⟩, 3) := ⟨⟨by decide +kernel, by decide +kernel⟩, List.mem_of_getElem? (i := 214) (by decide +kernel), List.mem_of_getElem? (i := 915) (by decide +kernel), List.mem_of_getElem? (i := 916) (by decide +kernel)⟩
theorem lw_p83 : lw_okq (⟨"ScriptFront$Judge", "isSecondDefault", "(I)Z"⟩, 3) := ⟨⟨by decide +kernel, by decide +kernel⟩, List.mem_of_getElem? (i := 214) (by decide +kernel), List.mem_of_getElem? (i := 919) (by decide +kernel), List.mem_of_getElem? (i := 920) (by decide +kernel)⟩
theorem lw_p84 : lw_okq (⟨"ScriptFront$Judge", "isInFunction", "(I)Z"⟩, 3) := ⟨⟨by decide +kernel, by decide +kernel⟩, List.mem_of_getElem? (i := 214) (by decide +kernel), List.mem_of_getElem? (i := 923) (by decide +kernel), List.mem_of_getElem? (i := 924) (by decide +kernel)⟩
theorem lw_p85 : lw_okq (⟨"ScriptFront$Judge", "labelAround", "(I)I"⟩, 3) := ⟨⟨by decide +kernel, by decide +kernel⟩, List.mem_of_getElem? (i := 214) (by decide +kernel), List.mem_of_getElem? (i := 927) (by decide +kernel), List.mem_of_getElem? (i := 928) (by decide +kernel)⟩
theorem lw_p86 : lw_okq (⟨"ScriptFront$Judge", "isInLoop", "(IZ)Z"⟩, 3) := ⟨⟨by decide +kernel, by decide +kernel⟩, List.mem_of_getElem? (i := 214) (by decide +kernel), List.mem_of_getElem? (i := 931) (by decide +kernel), List.mem_of_getElem? (i := 932) (by decide +kernel)⟩
theorem lw_p87 : lw_okq (⟨"ScriptFront$Judge", "isLoopLabel", "(I)Z"⟩, 3) := ⟨⟨by decide +kernel, by decide +kernel⟩, List.mem_of_getElem? (i := 214) (by decide +kernel), List.mem_of_getElem? (i := 938) (by decide +kernel), List.mem_of_getElem? (i := 939) (by decide +kernel)⟩
theorem lw_p88 : lw_okq (⟨"ScriptFront$Printer", "isHeading", "(I)Z"⟩, 7) := ⟨⟨by decide +kernel, by decide +kernel⟩, List.mem_of_getElem? (i := 230) (by decide +kernel), List.mem_of_getElem? (i := 946) (by decide +kernel), List.mem_of_getElem? (i := 947) (by decide +kernel)⟩
theorem lw_p89 : lw_okq (⟨"ScriptFront$Printer", "bindsLess", "(I)Z"⟩, 7) := ⟨⟨by decide +kernel, by decide +kernel⟩, List.mem_of_getElem? (i := 230) (by decide +kernel), List.mem_of_getElem? (i := 956) (by decide +kernel), List.mem_of_getElem? (i := 957) (by decide +kernel)⟩
theorem lw_p90 : lw_okq (⟨"ScriptFront$Printer", "levelOf", "(I)I"⟩, 7) := ⟨⟨by decide +kernel, by decide +kernel⟩, List.mem_of_getElem? (i := 230) (by decide +kernel), List.mem_of_getElem? (i := 960) (by decide +kernel), List.mem_of_getElem? (i := 961) (by decide +kernel)⟩
theorem lw_p91 : lw_okq (⟨"ScriptFront$Printer", "isMisread", "(I)Z"⟩, 7) := ⟨⟨by decide +kernel, by decide +kernel⟩, List.mem_of_getElem? (i := 230) (by decide +kernel), List.mem_of_getElem? (i := 966) (by decide +kernel), List.mem_of_getElem? (i := 967) (by decide +kernel)⟩
theorem lw_p92 : lw_okq (⟨"ScriptFront$Printer", "hasCall", "(I)Z"⟩, 7) := ⟨⟨by decide +kernel, by decide +kernel⟩, List.mem_of_getElem? (i := 230) (by decide +kernel), List.mem_of_getElem? (i := 970) (by decide +kernel), List.mem_of_getElem? (i := 971) (by decide +kernel)⟩
theorem lw_p93 : lw_okq (⟨"ScriptFront$Printer", "beginsLikeAnother", "(I)Z"⟩, 7) := ⟨⟨by decide +kernel, by decide +kernel⟩, List.mem_of_getElem? (i := 230) (by decide +kernel), List.mem_of_getElem? (i := 974) (by decide +kernel), List.mem_of_getElem? (i := 975) (by decide +kernel)⟩
theorem lw_p94 : lw_okq (⟨"ScriptFront$Printer", "hasBrackets", "(I)Z"⟩, 7) := ⟨⟨by decide +kernel, by decide +kernel⟩, List.mem_of_getElem? (i := 230) (by decide +kernel), List.mem_of_getElem? (i := 978) (by decide +kernel), List.mem_of_getElem? (i := 979) (by decide +kernel)⟩
theorem lw_p95 : lw_okq (⟨"ScriptFront$Printer", "hadBrackets", "(I)Z"⟩, 7) := ⟨⟨by decide +kernel, by decide +kernel⟩, List.mem_of_getElem? (i := 230) (by decide +kernel), List.mem_of_getElem? (i := 982) (by decide +kernel), List.mem_of_getElem? (i := 983) (by decide +kernel)⟩
def lw_privs_6 : List (MethodName × Nat) := [(⟨"ScriptFront$Judge", "isGuardedTarget", "(I)Z"⟩, 3), (⟨"ScriptFront$Judge", "isDeletedName", "(I)Z"⟩, 3), (⟨"ScriptFront$Judge", "isWrongJump", "(I)Z"⟩, 3), (⟨"ScriptFront$Judge", "isSecondDefault", "(I)Z"⟩, 3), (⟨"ScriptFront$Judge", "isInFunction", "(I)Z"⟩, 3), (⟨"ScriptFront$Judge", "labelAround", "(I)I"⟩, 3), (⟨"ScriptFront$Judge", "isInLoop", "(IZ)Z"⟩, 3), (⟨"ScriptFront$Judge", "isLoopLabel", "(I)Z"⟩, 3), (⟨"ScriptFront$Printer", "isHeading", "(I)Z"⟩, 7), (⟨"ScriptFront$Printer", "bindsLess", "(I)Z"⟩, 7), (⟨"ScriptFront$Printer", "levelOf", "(I)I"⟩, 7), (⟨"ScriptFront$Printer", "isMisread", "(I)Z"⟩, 7), (⟨"ScriptFront$Printer", "hasCall", "(I)Z"⟩, 7), (⟨"ScriptFront$Printer", "beginsLikeAnother", "(I)Z"⟩, 7), (⟨"ScriptFront$Printer", "hasBrackets", "(I)Z"⟩, 7), (⟨"ScriptFront$Printer", "hadBrackets", "(I)Z"⟩, 7)]
theorem lw_r6 : ∀ q ∈ lw_privs_6, lw_okq q := List.forall_mem_cons.mpr ⟨lw_p80, List.forall_mem_cons.mpr ⟨lw_p81, List.forall_mem_cons.mpr ⟨lw_p82, List.forall_mem_cons.mpr ⟨lw_p83, List.forall_mem_cons.mpr ⟨lw_p84, List.forall_mem_cons.mpr ⟨lw_p85, List.forall_mem_cons.mpr ⟨lw_p86, List.forall_mem_cons.mpr ⟨lw_p87, List.forall_mem_cons.mpr ⟨lw_p88, List.forall_mem_cons.mpr ⟨lw_p89, List.forall_mem_cons.mpr ⟨lw_p90, List.forall_mem_cons.mpr ⟨lw_p91, List.forall_mem_cons.mpr ⟨lw_p92, List.forall_mem_cons.mpr ⟨lw_p93, List.forall_mem_cons.mpr ⟨lw_p94, List.forall_mem_cons.mpr ⟨lw_p95, fun _ h => absurd h List.not_mem_nil⟩⟩⟩⟩⟩⟩⟩⟩⟩⟩⟩⟩⟩⟩⟩⟩
theorem lw_p96 : lw_okq (⟨"ScriptFront$Printer", "closeUpTo", "(II)V"⟩, 7) := ⟨⟨by decide +kernel, by decide +kernel⟩, List.mem_of_getElem? (i := 230) (by decide +kernel), List.mem_of_getElem? (i := 987) (by decide +kernel), List.mem_of_getElem? (i := 988) (by decide +kernel)⟩
theorem lw_p97 : lw_okq (⟨"ScriptFront$Printer", "closeExpression", "(II)V"⟩, 7) := ⟨⟨by decide +kernel, by decide +kernel⟩, List.mem_of_getElem? (i := 230) (by decide +kernel), List.mem_of_getElem? (i := 991) (by decide +kernel), List.mem_of_getElem? (i := 992) (by decide +kernel)⟩
theorem lw_p98 : lw_okq (⟨"ScriptFront$Printer", "putIf", "(ZLjava/lang/String;)V"⟩, 7) := ⟨⟨by decide +kernel, by decide +kernel⟩, List.mem_of_getElem? (i := 230) (by decide +kernel), List.mem_of_getElem? (i := 997) (by decide +kernel), List.mem_of_getElem? (i := 998) (by decide +kernel)⟩
theorem lw_p99 : lw_okq (⟨"ScriptFront$Printer", "put", "(Ljava/lang/String;)V"⟩, 7) := ⟨⟨by decide +kernel, by decide +kernel⟩, List.mem_of_getElem? (i := 230) (by decide +kernel), List.mem_of_getElem? (i := 1001) (by decide +kernel), List.mem_of_getElem? (i := 1002) (by decide +kernel)⟩
theorem lw_p100 : lw_okq (⟨"ScriptFront$Printer", "separateFrom", "(I)V"⟩, 7) := ⟨⟨by decide +kernel, by decide +kernel⟩, List.mem_of_getElem? (i := 230) (by decide +kernel), List.mem_of_getElem? (i := 1010) (by decide +kernel), List.mem_of_getElem? (i := 1011) (by decide +kernel)⟩
theorem lw_p101 : lw_okq (⟨"ScriptFront$Printer", "append", "(I)V"⟩, 7) := ⟨⟨by decide +kernel, by decide +kernel⟩, List.mem_of_getElem? (i := 230) (by decide +kernel), List.mem_of_getElem? (i := 1016) (by decide +kernel), List.mem_of_getElem? (i := 1017) (by decide +kernel)⟩
theorem lw_p102 : lw_okq (⟨"ScriptFront$Printer", "putText", "(I)V"⟩, 7) := ⟨⟨by decide +kernel, by decide +kernel⟩, List.mem_of_getElem? (i := 230) (by decide +kernel), List.mem_of_getElem? (i := 1024) (by decide +kernel), List.mem_of_getElem? (i := 1025) (by decide +kernel)⟩
theorem lw_p103 : lw_okq (⟨"ScriptFront$Printer", "closeStatement", "(I)V"⟩, 7) := ⟨⟨by decide +kernel, by decide +kernel⟩, List.mem_of_getElem? (i := 230) (by decide +kernel), List.mem_of_getElem? (i := 1032) (by decide +kernel), List.mem_of_getElem? (i := 1033) (by decide +kernel)⟩
theorem lw_p104 : lw_okq (⟨"ScriptFront$Printer", "isForPart", "(I)Z"⟩, 7) := ⟨⟨by decide +kernel, by decide +kernel⟩, List.mem_of_getElem? (i := 230) (by decide +kernel), List.mem_of_getElem? (i := 1038) (by decide +kernel), List.mem_of_getElem? (i := 1039) (by decide +kernel)⟩
theorem lw_p105 : lw_okq (⟨"ScriptFront$Printer", "putAhead", "(I)V"⟩, 7) := ⟨⟨by decide +kernel, by decide +kernel⟩, List.mem_of_getElem? (i := 230) (by decide +kernel), List.mem_of_getElem? (i := 1043) (by decide +kernel), List.mem_of_getElem? (i := 1044) (by decide +kernel)⟩
theorem lw_p106 : lw_okq (⟨"ScriptFront$Printer", "putAheadInHead", "(II)V"⟩, 7) := ⟨⟨by decide +kernel, by decide +kernel⟩, List.mem_of_getElem? (i := 230) (by decide +kernel), List.mem_of_getElem? (i := 1051) (by decide +kernel), List.mem_of_getElem? (i := 1052) (by decide +kernel)⟩
theorem lw_p107 : lw_okq (⟨"ScriptFront$Printer", "open", "(I)V"⟩, 7) := ⟨⟨by decide +kernel, by decide +kernel⟩, List.mem_of_getElem? (i := 230) (by decide +kernel), List.mem_of_getElem? (i := 1058) (by decide +kernel), List.mem_of_getElem? (i := 1059) (by decide +kernel)⟩
theorem lw_p108 : lw_okq (⟨"ScriptFront$Printer", "openExpression", "(II)V"⟩, 7) := ⟨⟨by decide +kernel, by decide +kernel⟩, List.mem_of_getElem? (i := 230) (by decide +kernel), List.mem_of_getElem? (i := 1062) (by decide +kernel), List.mem_of_getElem? (i := 1063) (by decide +kernel)⟩
theorem lw_p109 : lw_okq (⟨"ScriptFront$Printer", "openFunction", "(I)V"⟩, 7) := ⟨⟨by decide +kernel, by decide +kernel⟩, List.mem_of_getElem? (i := 230) (by decide +kernel), List.mem_of_getElem? (i := 1067) (by decide +kernel), List.mem_of_getElem? (i := 1068) (by decide +kernel)⟩
theorem lw_p110 : lw_okq (⟨"ScriptFront$Printer", "openStatement", "(II)V"⟩, 7) := ⟨⟨by decide +kernel, by decide +kernel⟩, List.mem_of_getElem? (i := 230) (by decide +kernel), List.mem_of_getElem? (i := 1073) (by decide +kernel), List.mem_of_getElem? (i := 1074) (by decide +kernel)⟩
theorem lw_p111 : lw_okq (⟨"ScriptFront$Printer", "openHead", "(II)V"⟩, 7) := ⟨⟨by decide +kernel, by decide +kernel⟩, List.mem_of_getElem? (i := 230) (by decide +kernel), List.mem_of_getElem? (i := 1085) (by decide +kernel), List.mem_of_getElem? (i := 1086) (by decide +kernel)⟩
def lw_privs_7 : List (MethodName × Nat) := [(⟨"ScriptFront$Printer", "closeUpTo", "(II)V"⟩, 7), (⟨"ScriptFront$Printer", "closeExpression", "(II)V"⟩, 7), (⟨"ScriptFront$Printer", "putIf", "(ZLjava/lang/String;)V"⟩, 7), (⟨"ScriptFront$Printer", "put", "(Ljava/lang/String;)V"⟩, 7), (⟨"ScriptFront$Printer", "separateFrom", "(I)V"⟩, 7), (⟨"ScriptFront$Printer", "append", "(I)V"⟩, 7), (⟨"ScriptFront$Printer", "putText", "(I)V"⟩, 7), (⟨"ScriptFront$Printer", "closeStatement", "(I)V"⟩, 7), (⟨"ScriptFront$Printer", "isForPart", "(I)Z"⟩, 7), (⟨"ScriptFront$Printer", "putAhead", "(I)V"⟩, 7), (⟨"ScriptFront$Printer", "putAheadInHead", "(II)V"⟩, 7), (⟨"ScriptFront$Printer", "open", "(I)V"⟩, 7), (⟨"ScriptFront$Printer", "openExpression", "(II)V"⟩, 7), (⟨"ScriptFront$Printer", "openFunction", "(I)V"⟩, 7), (⟨"ScriptFront$Printer", "openStatement", "(II)V"⟩, 7), (⟨"ScriptFront$Printer", "openHead", "(II)V"⟩, 7)]
theorem lw_r7 : ∀ q ∈ lw_privs_7, lw_okq q := List.forall_mem_cons.mpr ⟨lw_p96, List.forall_mem_cons.mpr ⟨lw_p97, List.forall_mem_cons.mpr ⟨lw_p98, List.forall_mem_cons.mpr ⟨lw_p99, List.forall_mem_cons.mpr ⟨lw_p100, List.forall_mem_cons.mpr ⟨lw_p101, List.forall_mem_cons.mpr ⟨lw_p102, List.forall_mem_cons.mpr ⟨lw_p103, List.forall_mem_cons.mpr ⟨lw_p104, List.forall_mem_cons.mpr ⟨lw_p105, List.forall_mem_cons.mpr ⟨lw_p106, List.forall_mem_cons.mpr ⟨lw_p107, List.forall_mem_cons.mpr ⟨lw_p108, List.forall_mem_cons.mpr ⟨lw_p109, List.forall_mem_cons.mpr ⟨lw_p110, List.forall_mem_cons.mpr ⟨lw_p111, fun _ h => absurd h List.not_mem_nil⟩⟩⟩⟩⟩⟩⟩⟩⟩⟩⟩⟩⟩⟩⟩⟩
theorem lw_p112 : lw_okq (⟨"ScriptFrontModel", "readAll", "()I"⟩, 55) := ⟨⟨by decide +kernel, by decide +kernel⟩, List.mem_of_getElem? (i := 1124) (by decide +kernel), List.mem_of_getElem? (i := 1346) (by decide +kernel), List.mem_of_getElem? (i := 1347) (by decide +kernel)⟩
theorem lw_p113 : lw_okq (⟨"ScriptFrontModel", "push", "(IIIII)V"⟩, 55) := ⟨⟨by decide +kernel, by decide +kernel⟩, List.mem_of_getElem? (i := 1124) (by decide +kernel), List.mem_of_getElem? (i := 1350) (by decide +kernel), List.mem_of_getElem? (i := 1351) (by decide +kernel)⟩
theorem lw_p114 : lw_okq (⟨"ScriptFrontModel", "later", "(II)V"⟩, 55) := ⟨⟨by decide +kernel, by decide +kernel⟩, List.mem_of_getElem? (i := 1124) (by decide +kernel), List.mem_of_getElem? (i := 1354) (by decide +kernel), List.mem_of_getElem? (i := 1355) (by decide +kernel)⟩
theorem lw_p115 : lw_okq (⟨"ScriptFrontModel", "step", "()V"⟩, 55) := ⟨⟨by decide +kernel, by decide +kernel⟩, List.mem_of_getElem? (i := 1124) (by decide +kernel), List.mem_of_getElem? (i := 1358) (by decide +kernel), List.mem_of_getElem? (i := 1359) (by decide +kernel)⟩
theorem lw_p116 : lw_okq (⟨"ScriptFrontModel", "statements", "(I)V"⟩, 55) := ⟨⟨by decide +kernel, by decide +kernel⟩, List.mem_of_getElem? (i := 1124) (by decide +kernel), List.mem_of_getElem? (i := 1362) (by decide +kernel), List.mem_of_getElem? (i := 1363) (by decide +kernel)⟩
theorem lw_p117 : lw_okq (⟨"ScriptFrontModel", "look", "(Z)V"⟩, 55) := ⟨⟨by decide +kernel, by decide +kernel⟩, List.mem_of_getElem? (i := 1124) (by decide +kernel), List.mem_of_getElem? (i := 1366) (by decide +kernel), List.mem_of_getElem? (i := 1367) (by decide +kernel)⟩
theorem lw_p118 : lw_okq (⟨"ScriptFrontModel", "here", "(I)I"⟩, 55) := ⟨⟨by decide +kernel, by decide +kernel⟩, List.mem_of_getElem? (i := 1124) (by decide +kernel), List.mem_of_getElem? (i := 1370) (by decide +kernel), List.mem_of_getElem? (i := 1371) (by decide +kernel)⟩
theorem lw_p119 : lw_okq (⟨"ScriptFrontModel", "skip", "()V"⟩, 55) := ⟨⟨by decide +kernel, by decide +kernel⟩, List.mem_of_getElem? (i := 1124) (by decide +kernel), List.mem_of_getElem? (i := 1374) (by decide +kernel), List.mem_of_getElem? (i := 1375) (by decide +kernel)⟩
theorem lw_p120 : lw_okq (⟨"ScriptFrontModel", "commentEnd", "(I)I"⟩, 55) := ⟨⟨by decide +kernel, by decide +kernel⟩, List.mem_of_getElem? (i := 1124) (by decide +kernel), List.mem_of_getElem? (i := 1381) (by decide +kernel), List.mem_of_getElem? (i := 1382) (by decide +kernel)⟩
theorem lw_p121 : lw_okq (⟨"ScriptFrontModel", "wrong", "(II)V"⟩, 55) := ⟨⟨by decide +kernel, by decide +kernel⟩, List.mem_of_getElem? (i := 1124) (by decide +kernel), List.mem_of_getElem? (i := 1385) (by decide +kernel), List.mem_of_getElem? (i := 1386) (by decide +kernel)⟩
theorem lw_p122 : lw_okq (⟨"ScriptFrontModel", "wordOf", "(II)I"⟩, 55) := ⟨⟨by decide +kernel, by decide +kernel⟩, List.mem_of_getElem? (i := 1124) (by decide +kernel), List.mem_of_getElem? (i := 1398) (by decide +kernel), List.mem_of_getElem? (i := 1399) (by decide +kernel)⟩
theorem lw_p123 : lw_okq (⟨"ScriptFrontModel", "numberEnd", "(I)I"⟩, 55) := ⟨⟨by decide +kernel, by decide +kernel⟩, List.mem_of_getElem? (i := 1124) (by decide +kernel), List.mem_of_getElem? (i := 1404) (by decide +kernel), List.mem_of_getElem? (i := 1405) (by decide +kernel)⟩
theorem lw_p124 : lw_okq (⟨"ScriptFrontModel", "digits", "(I)I"⟩, 55) := ⟨⟨by decide +kernel, by decide +kernel⟩, List.mem_of_getElem? (i := 1124) (by decide +kernel), List.mem_of_getElem? (i := 1411) (by decide +kernel), List.mem_of_getElem? (i := 1412) (by decide +kernel)⟩
theorem lw_p125 : lw_okq (⟨"ScriptFrontModel", "stringEnd", "(I)I"⟩, 55) := ⟨⟨by decide +kernel, by decide +kernel⟩, List.mem_of_getElem? (i := 1124) (by decide +kernel), List.mem_of_getElem? (i := 1415) (by decide +kernel), List.mem_of_getElem? (i := 1416) (by decide +kernel)⟩
theorem lw_p126 : lw_okq (⟨"ScriptFrontModel", "patternEnd", "(I)I"⟩, 55) := ⟨⟨by decide +kernel, by decide +kernel⟩, List.mem_of_getElem? (i := 1124) (by decide +kernel), List.mem_of_getElem? (i := 1419) (by decide +kernel), List.mem_of_getElem? (i := 1420) (by decide +kernel)⟩
theorem lw_p127 : lw_okq (⟨"ScriptFrontModel", "flagsEnd", "(I)I"⟩, 55) := ⟨⟨by decide +kernel, by decide +kernel⟩, List.mem_of_getElem? (i := 1124) (by decide +kernel), List.mem_of_getElem? (i := 1423) (by decide +kernel), List.mem_of_getElem? (i := 1424) (by decide +kernel)⟩
def lw_privs_8 : List (MethodName × Nat) := [(⟨"ScriptFrontModel", "readAll", "()I"⟩, 55), (⟨"ScriptFrontModel", "push", "(IIIII)V"⟩, 55), (⟨"ScriptFrontModel", "later", "(II)V"⟩, 55), (⟨"ScriptFrontModel", "step", "()V"⟩, 55), (⟨"ScriptFrontModel", "statements", "(I)V"⟩, 55), (⟨"ScriptFrontModel", "look", "(Z)V"⟩, 55), (⟨"ScriptFrontModel", "here", "(I)I"⟩, 55), (⟨"ScriptFrontModel", "skip", "()V"⟩, 55), (⟨"ScriptFrontModel", "commentEnd", "(I)I"⟩, 55), (⟨"ScriptFrontModel", "wrong", "(II)V"⟩, 55), (⟨"ScriptFrontModel", "wordOf", "(II)I"⟩, 55), (⟨"ScriptFrontModel", "numberEnd", "(I)I"⟩, 55), (⟨"ScriptFrontModel", "digits", "(I)I"⟩, 55), (⟨"ScriptFrontModel", "stringEnd", "(I)I"⟩, 55), (⟨"ScriptFrontModel", "patternEnd", "(I)I"⟩, 55), (⟨"ScriptFrontModel", "flagsEnd", "(I)I"⟩, 55)]
theorem lw_r8 : ∀ q ∈ lw_privs_8, lw_okq q := List.forall_mem_cons.mpr ⟨lw_p112, List.forall_mem_cons.mpr ⟨lw_p113, List.forall_mem_cons.mpr ⟨lw_p114, List.forall_mem_cons.mpr ⟨lw_p115, List.forall_mem_cons.mpr ⟨lw_p116, List.forall_mem_cons.mpr ⟨lw_p117, List.forall_mem_cons.mpr ⟨lw_p118, List.forall_mem_cons.mpr ⟨lw_p119, List.forall_mem_cons.mpr ⟨lw_p120, List.forall_mem_cons.mpr ⟨lw_p121, List.forall_mem_cons.mpr ⟨lw_p122, List.forall_mem_cons.mpr ⟨lw_p123, List.forall_mem_cons.mpr ⟨lw_p124, List.forall_mem_cons.mpr ⟨lw_p125, List.forall_mem_cons.mpr ⟨lw_p126, List.forall_mem_cons.mpr ⟨lw_p127, fun _ h => absurd h List.not_mem_nil⟩⟩⟩⟩⟩⟩⟩⟩⟩⟩⟩⟩⟩⟩⟩⟩
theorem lw_p128 : lw_okq (⟨"ScriptFrontModel", "signAt", "(I)I"⟩, 55) := ⟨⟨by decide +kernel, by decide +kernel⟩, List.mem_of_getElem? (i := 1124) (by decide +kernel), List.mem_of_getElem? (i := 1427) (by decide +kernel), List.mem_of_getElem? (i := 1428) (by decide +kernel)⟩
theorem lw_p129 : lw_okq (⟨"ScriptFrontModel", "take", "()V"⟩, 55) := ⟨⟨by decide +kernel, by decide +kernel⟩, List.mem_of_getElem? (i := 1124) (by decide +kernel), List.mem_of_getElem? (i := 1436) (by decide +kernel), List.mem_of_getElem? (i := 1437) (by decide +kernel)⟩
theorem lw_p130 : lw_okq (⟨"ScriptFrontModel", "statement", "(Z)V"⟩, 55) := ⟨⟨by decide +kernel, by decide +kernel⟩, List.mem_of_getElem? (i := 1124) (by decide +kernel), List.mem_of_getElem? (i := 1440) (by decide +kernel), List.mem_of_getElem? (i := 1441) (by decide +kernel)⟩
theorem lw_p131 : lw_okq (⟨"ScriptFrontModel", "enters", "()Z"⟩, 55) := ⟨⟨by decide +kernel, by decide +kernel⟩, List.mem_of_getElem? (i := 1124) (by decide +kernel), List.mem_of_getElem? (i := 1444) (by decide +kernel), List.mem_of_getElem? (i := 1445) (by decide +kernel)⟩
theorem lw_p132 : lw_okq (⟨"ScriptFrontModel", "leaf", "(II)V"⟩, 55) := ⟨⟨by decide +kernel, by decide +kernel⟩, List.mem_of_getElem? (i := 1124) (by decide +kernel), List.mem_of_getElem? (i := 1448) (by decide +kernel), List.mem_of_getElem? (i := 1449) (by decide +kernel)⟩
theorem lw_p133 : lw_okq (⟨"ScriptFrontModel", "reduce", "(IIII)V"⟩, 55) := ⟨⟨by decide +kernel, by decide +kernel⟩, List.mem_of_getElem? (i := 1124) (by decide +kernel), List.mem_of_getElem? (i := 1452) (by decide +kernel), List.mem_of_getElem? (i := 1453) (by decide +kernel)⟩
theorem lw_p134 : lw_okq (⟨"ScriptFrontModel", "labels", "()Z"⟩, 55) := ⟨⟨by decide +kernel, by decide +kernel⟩, List.mem_of_getElem? (i := 1124) (by decide +kernel), List.mem_of_getElem? (i := 1456) (by decide +kernel), List.mem_of_getElem? (i := 1457) (by decide +kernel)⟩
theorem lw_p135 : lw_okq (⟨"ScriptFrontModel", "function", "(I)V"⟩, 55) := ⟨⟨by decide +kernel, by decide +kernel⟩, List.mem_of_getElem? (i := 1124) (by decide +kernel), List.mem_of_getElem? (i := 1460) (by decide +kernel), List.mem_of_getElem? (i := 1461) (by decide +kernel)⟩
theorem lw_p136 : lw_okq (⟨"ScriptFrontModel", "bad", "()V"⟩, 55) := ⟨⟨by decide +kernel, by decide +kernel⟩, List.mem_of_getElem? (i := 1124) (by decide +kernel), List.mem_of_getElem? (i := 1464) (by decide +kernel), List.mem_of_getElem? (i := 1465) (by decide +kernel)⟩
theorem lw_p137 : lw_okq (⟨"ScriptFrontModel", "line", "(II)V"⟩, 55) := ⟨⟨by decide +kernel, by decide +kernel⟩, List.mem_of_getElem? (i := 1124) (by decide +kernel), List.mem_of_getElem? (i := 1468) (by decide +kernel), List.mem_of_getElem? (i := 1469) (by decide +kernel)⟩
theorem lw_p138 : lw_okq (⟨"ScriptFrontModel", "isHead", "()Z"⟩, 55) := ⟨⟨by decide +kernel, by decide +kernel⟩, List.mem_of_getElem? (i := 1124) (by decide +kernel), List.mem_of_getElem? (i := 1472) (by decide +kernel), List.mem_of_getElem? (i := 1473) (by decide +kernel)⟩
theorem lw_p139 : lw_okq (⟨"ScriptFrontModel", "head", "(II)V"⟩, 55) := ⟨⟨by decide +kernel, by decide +kernel⟩, List.mem_of_getElem? (i := 1124) (by decide +kernel), List.mem_of_getElem? (i := 1476) (by decide +kernel), List.mem_of_getElem? (i := 1477) (by decide +kernel)⟩
theorem lw_p140 : lw_okq (⟨"ScriptFrontModel", "condition", "()V"⟩, 55) := ⟨⟨by decide +kernel, by decide +kernel⟩, List.mem_of_getElem? (i := 1124) (by decide +kernel), List.mem_of_getElem? (i := 1480) (by decide +kernel), List.mem_of_getElem? (i := 1481) (by decide +kernel)⟩
theorem lw_p141 : lw_okq (⟨"ScriptFrontModel", "need", "(I)V"⟩, 55) := ⟨⟨by decide +kernel, by decide +kernel⟩, List.mem_of_getElem? (i := 1124) (by decide +kernel), List.mem_of_getElem? (i := 1484) (by decide +kernel), List.mem_of_getElem? (i := 1485) (by decide +kernel)⟩
theorem lw_p142 : lw_okq (⟨"ScriptFrontModel", "semicolon", "()V"⟩, 55) := ⟨⟨by decide +kernel, by decide +kernel⟩, List.mem_of_getElem? (i := 1124) (by decide +kernel), List.mem_of_getElem? (i := 1488) (by decide +kernel), List.mem_of_getElem? (i := 1489) (by decide +kernel)⟩
theorem lw_p143 : lw_okq (⟨"ScriptFrontModel", "elsePart", "()V"⟩, 55) := ⟨⟨by decide +kernel, by decide +kernel⟩, List.mem_of_getElem? (i := 1124) (by decide +kernel), List.mem_of_getElem? (i := 1492) (by decide +kernel), List.mem_of_getElem? (i := 1493) (by decide +kernel)⟩
def lw_privs_9 : List (MethodName × Nat) := [(⟨"ScriptFrontModel", "signAt", "(I)I"⟩, 55), (⟨"ScriptFrontModel", "take", "()V"⟩, 55), (⟨"ScriptFrontModel", "statement", "(Z)V"⟩, 55), (⟨"ScriptFrontModel", "enters", "()Z"⟩, 55), (⟨"ScriptFrontModel", "leaf", "(II)V"⟩, 55), (⟨"ScriptFrontModel", "reduce", "(IIII)V"⟩, 55), (⟨"ScriptFrontModel", "labels", "()Z"⟩, 55), (⟨"ScriptFrontModel", "function", "(I)V"⟩, 55), (⟨"ScriptFrontModel", "bad", "()V"⟩, 55), (⟨"ScriptFrontModel", "line", "(II)V"⟩, 55), (⟨"ScriptFrontModel", "isHead", "()Z"⟩, 55), (⟨"ScriptFrontModel", "head", "(II)V"⟩, 55), (⟨"ScriptFrontModel", "condition", "()V"⟩, 55), (⟨"ScriptFrontModel", "need", "(I)V"⟩, 55), (⟨"ScriptFrontModel", "semicolon", "()V"⟩, 55), (⟨"ScriptFrontModel", "elsePart", "()V"⟩, 55)]
theorem lw_r9 : ∀ q ∈ lw_privs_9, lw_okq q := List.forall_mem_cons.mpr ⟨lw_p128, List.forall_mem_cons.mpr ⟨lw_p129, List.forall_mem_cons.mpr ⟨lw_p130, List.forall_mem_cons.mpr ⟨lw_p131, List.forall_mem_cons.mpr ⟨lw_p132, List.forall_mem_cons.mpr ⟨lw_p133, List.forall_mem_cons.mpr ⟨lw_p134, List.forall_mem_cons.mpr ⟨lw_p135, List.forall_mem_cons.mpr ⟨lw_p136, List.forall_mem_cons.mpr ⟨lw_p137, List.forall_mem_cons.mpr ⟨lw_p138, List.forall_mem_cons.mpr ⟨lw_p139, List.forall_mem_cons.mpr ⟨lw_p140, List.forall_mem_cons.mpr ⟨lw_p141, List.forall_mem_cons.mpr ⟨lw_p142, List.forall_mem_cons.mpr ⟨lw_p143, fun _ h => absurd h List.not_mem_nil⟩⟩⟩⟩⟩⟩⟩⟩⟩⟩⟩⟩⟩⟩⟩⟩
theorem lw_p144 : lw_okq (⟨"ScriptFrontModel", "forHead", "(II)V"⟩, 55) := ⟨⟨by decide +kernel, by decide +kernel⟩, List.mem_of_getElem? (i := 1124) (by decide +kernel), List.mem_of_getElem? (i := 1496) (by decide +kernel), List.mem_of_getElem? (i := 1497) (by decide +kernel)⟩
theorem lw_p145 : lw_okq (⟨"ScriptFrontModel", "nothing", "()V"⟩, 55) := ⟨⟨by decide +kernel, by decide +kernel⟩, List.mem_of_getElem? (i := 1124) (by decide +kernel), List.mem_of_getElem? (i := 1500) (by decide +kernel), List.mem_of_getElem? (i := 1501) (by decide +kernel)⟩
theorem lw_p146 : lw_okq (⟨"ScriptFrontModel", "forRest", "(II)V"⟩, 55) := ⟨⟨by decide +kernel, by decide +kernel⟩, List.mem_of_getElem? (i := 1124) (by decide +kernel), List.mem_of_getElem? (i := 1504) (by decide +kernel), List.mem_of_getElem? (i := 1505) (by decide +kernel)⟩
theorem lw_p147 : lw_okq (⟨"ScriptFrontModel", "forVariables", "(IIII)V"⟩, 55) := ⟨⟨by decide +kernel, by decide +kernel⟩, List.mem_of_getElem? (i := 1124) (by decide +kernel), List.mem_of_getElem? (i := 1508) (by decide +kernel), List.mem_of_getElem? (i := 1509) (by decide +kernel)⟩
theorem lw_p148 : lw_okq (⟨"ScriptFrontModel", "forMore", "(IIZ)V"⟩, 55) := ⟨⟨by decide +kernel, by decide +kernel⟩, List.mem_of_getElem? (i := 1124) (by decide +kernel), List.mem_of_getElem? (i := 1512) (by decide +kernel), List.mem_of_getElem? (i := 1513) (by decide +kernel)⟩
theorem lw_p149 : lw_okq (⟨"ScriptFrontModel", "forIn", "(II)V"⟩, 55) := ⟨⟨by decide +kernel, by decide +kernel⟩, List.mem_of_getElem? (i := 1124) (by decide +kernel), List.mem_of_getElem? (i := 1516) (by decide +kernel), List.mem_of_getElem? (i := 1517) (by decide +kernel)⟩
theorem lw_p150 : lw_okq (⟨"ScriptFrontModel", "optional", "(I)V"⟩, 55) := ⟨⟨by decide +kernel, by decide +kernel⟩, List.mem_of_getElem? (i := 1124) (by decide +kernel), List.mem_of_getElem? (i := 1520) (by decide +kernel), List.mem_of_getElem? (i := 1521) (by decide +kernel)⟩
theorem lw_p151 : lw_okq (⟨"ScriptFrontModel", "cases", "()V"⟩, 55) := ⟨⟨by decide +kernel, by decide +kernel⟩, List.mem_of_getElem? (i := 1124) (by decide +kernel), List.mem_of_getElem? (i := 1524) (by decide +kernel), List.mem_of_getElem? (i := 1525) (by decide +kernel)⟩
theorem lw_p152 : lw_okq (⟨"ScriptFrontModel", "block", "()V"⟩, 55) := ⟨⟨by decide +kernel, by decide +kernel⟩, List.mem_of_getElem? (i := 1124) (by decide +kernel), List.mem_of_getElem? (i := 1528) (by decide +kernel), List.mem_of_getElem? (i := 1529) (by decide +kernel)⟩
theorem lw_p153 : lw_okq (⟨"ScriptFrontModel", "catchPart", "(II)V"⟩, 55) := ⟨⟨by decide +kernel, by decide +kernel⟩, List.mem_of_getElem? (i := 1124) (by decide +kernel), List.mem_of_getElem? (i := 1532) (by decide +kernel), List.mem_of_getElem? (i := 1533) (by decide +kernel)⟩
theorem lw_p154 : lw_okq (⟨"ScriptFrontModel", "catchName", "()V"⟩, 55) := ⟨⟨by decide +kernel, by decide +kernel⟩, List.mem_of_getElem? (i := 1124) (by decide +kernel), List.mem_of_getElem? (i := 1536) (by decide +kernel), List.mem_of_getElem? (i := 1537) (by decide +kernel)⟩
theorem lw_p155 : lw_okq (⟨"ScriptFrontModel", "finalPart", "(IIZ)V"⟩, 55) := ⟨⟨by decide +kernel, by decide +kernel⟩, List.mem_of_getElem? (i := 1124) (by decide +kernel), List.mem_of_getElem? (i := 1540) (by decide +kernel), List.mem_of_getElem? (i := 1541) (by decide +kernel)⟩
theorem lw_p156 : lw_okq (⟨"ScriptFrontModel", "variable", "(I)V"⟩, 55) := ⟨⟨by decide +kernel, by decide +kernel⟩, List.mem_of_getElem? (i := 1124) (by decide +kernel), List.mem_of_getElem? (i := 1544) (by decide +kernel), List.mem_of_getElem? (i := 1545) (by decide +kernel)⟩
theorem lw_p157 : lw_okq (⟨"ScriptFrontModel", "initial", "(I)V"⟩, 55) := ⟨⟨by decide +kernel, by decide +kernel⟩, List.mem_of_getElem? (i := 1124) (by decide +kernel), List.mem_of_getElem? (i := 1548) (by decide +kernel), List.mem_of_getElem? (i := 1549) (by decide +kernel)⟩
theorem lw_p158 : lw_okq (⟨"ScriptFrontModel", "variableMore", "(I)V"⟩, 55) := ⟨⟨by decide +kernel, by decide +kernel⟩, List.mem_of_getElem? (i := 1124) (by decide +kernel), List.mem_of_getElem? (i := 1552) (by decide +kernel), List.mem_of_getElem? (i := 1553) (by decide +kernel)⟩
theorem lw_p159 : lw_okq (⟨"ScriptFrontModel", "parameters", "(Z)V"⟩, 55) := ⟨⟨by decide +kernel, by decide +kernel⟩, List.mem_of_getElem? (i := 1124) (by decide +kernel), List.mem_of_getElem? (i := 1556) (by decide +kernel), List.mem_of_getElem? (i := 1557) (by decide +kernel)⟩
def lw_privs_10 : List (MethodName × Nat) := [(⟨"ScriptFrontModel", "forHead", "(II)V"⟩, 55), (⟨"ScriptFrontModel", "nothing", "()V"⟩, 55), (⟨"ScriptFrontModel", "forRest", "(II)V"⟩, 55), (⟨"ScriptFrontModel", "forVariables", "(IIII)V"⟩, 55), (⟨"ScriptFrontModel", "forMore", "(IIZ)V"⟩, 55), (⟨"ScriptFrontModel", "forIn", "(II)V"⟩, 55), (⟨"ScriptFrontModel", "optional", "(I)V"⟩, 55), (⟨"ScriptFrontModel", "cases", "()V"⟩, 55), (⟨"ScriptFrontModel", "block", "()V"⟩, 55), (⟨"ScriptFrontModel", "catchPart", "(II)V"⟩, 55), (⟨"ScriptFrontModel", "catchName", "()V"⟩, 55), (⟨"ScriptFrontModel", "finalPart", "(IIZ)V"⟩, 55), (⟨"ScriptFrontModel", "variable", "(I)V"⟩, 55), (⟨"ScriptFrontModel", "initial", "(I)V"⟩, 55), (⟨"ScriptFrontModel", "variableMore", "(I)V"⟩, 55), (⟨"ScriptFrontModel", "parameters", "(Z)V"⟩, 55)]
theorem lw_r10 : ∀ q ∈ lw_privs_10, lw_okq q := List.forall_mem_cons.mpr ⟨lw_p144, List.forall_mem_cons.mpr ⟨lw_p145, List.forall_mem_cons.mpr ⟨lw_p146, List.forall_mem_cons.mpr ⟨lw_p147, List.forall_mem_cons.mpr ⟨lw_p148, List.forall_mem_cons.mpr ⟨lw_p149, List.forall_mem_cons.mpr ⟨lw_p150, List.forall_mem_cons.mpr ⟨lw_p151, List.forall_mem_cons.mpr ⟨lw_p152, List.forall_mem_cons.mpr ⟨lw_p153, List.forall_mem_cons.mpr ⟨lw_p154, List.forall_mem_cons.mpr ⟨lw_p155, List.forall_mem_cons.mpr ⟨lw_p156, List.forall_mem_cons.mpr ⟨lw_p157, List.forall_mem_cons.mpr ⟨lw_p158, List.forall_mem_cons.mpr ⟨lw_p159, fun _ h => absurd h List.not_mem_nil⟩⟩⟩⟩⟩⟩⟩⟩⟩⟩⟩⟩⟩⟩⟩⟩
theorem lw_p160 : lw_okq (⟨"ScriptFrontModel", "parameterMore", "()V"⟩, 55) := ⟨⟨by decide +kernel, by decide +kernel⟩, List.mem_of_getElem? (i := 1124) (by decide +kernel), List.mem_of_getElem? (i := 1560) (by decide +kernel), List.mem_of_getElem? (i := 1561) (by decide +kernel)⟩
theorem lw_p161 : lw_okq (⟨"ScriptFrontModel", "body", "()V"⟩, 55) := ⟨⟨by decide +kernel, by decide +kernel⟩, List.mem_of_getElem? (i := 1124) (by decide +kernel), List.mem_of_getElem? (i := 1564) (by decide +kernel), List.mem_of_getElem? (i := 1565) (by decide +kernel)⟩
theorem lw_p162 : lw_okq (⟨"ScriptFrontModel", "expression", "(IIII)V"⟩, 55) := ⟨⟨by decide +kernel, by decide +kernel⟩, List.mem_of_getElem? (i := 1124) (by decide +kernel), List.mem_of_getElem? (i := 1568) (by decide +kernel), List.mem_of_getElem? (i := 1569) (by decide +kernel)⟩
theorem lw_p163 : lw_okq (⟨"ScriptFrontModel", "comma", "(III)V"⟩, 55) := ⟨⟨by decide +kernel, by decide +kernel⟩, List.mem_of_getElem? (i := 1124) (by decide +kernel), List.mem_of_getElem? (i := 1572) (by decide +kernel), List.mem_of_getElem? (i := 1573) (by decide +kernel)⟩
theorem lw_p164 : lw_okq (⟨"ScriptFrontModel", "one", "(I)V"⟩, 55) := ⟨⟨by decide +kernel, by decide +kernel⟩, List.mem_of_getElem? (i := 1124) (by decide +kernel), List.mem_of_getElem? (i := 1576) (by decide +kernel), List.mem_of_getElem? (i := 1577) (by decide +kernel)⟩
theorem lw_p165 : lw_okq (⟨"ScriptFrontModel", "behind", "(I)V"⟩, 55) := ⟨⟨by decide +kernel, by decide +kernel⟩, List.mem_of_getElem? (i := 1124) (by decide +kernel), List.mem_of_getElem? (i := 1580) (by decide +kernel), List.mem_of_getElem? (i := 1581) (by decide +kernel)⟩
theorem lw_p166 : lw_okq (⟨"ScriptFrontModel", "between", "(II)V"⟩, 55) := ⟨⟨by decide +kernel, by decide +kernel⟩, List.mem_of_getElem? (i := 1124) (by decide +kernel), List.mem_of_getElem? (i := 1587) (by decide +kernel), List.mem_of_getElem? (i := 1588) (by decide +kernel)⟩
theorem lw_p167 : lw_okq (⟨"ScriptFrontModel", "join", "()V"⟩, 55) := ⟨⟨by decide +kernel, by decide +kernel⟩, List.mem_of_getElem? (i := 1124) (by decide +kernel), List.mem_of_getElem? (i := 1594) (by decide +kernel), List.mem_of_getElem? (i := 1595) (by decide +kernel)⟩
theorem lw_p168 : lw_okq (⟨"ScriptFrontModel", "unary", "(Z)V"⟩, 55) := ⟨⟨by decide +kernel, by decide +kernel⟩, List.mem_of_getElem? (i := 1124) (by decide +kernel), List.mem_of_getElem? (i := 1598) (by decide +kernel), List.mem_of_getElem? (i := 1599) (by decide +kernel)⟩
theorem lw_p169 : lw_okq (⟨"ScriptFrontModel", "postfix", "()V"⟩, 55) := ⟨⟨by decide +kernel, by decide +kernel⟩, List.mem_of_getElem? (i := 1124) (by decide +kernel), List.mem_of_getElem? (i := 1602) (by decide +kernel), List.mem_of_getElem? (i := 1603) (by decide +kernel)⟩
theorem lw_p170 : lw_okq (⟨"ScriptFrontModel", "operandOrNew", "(I)V"⟩, 55) := ⟨⟨by decide +kernel, by decide +kernel⟩, List.mem_of_getElem? (i := 1124) (by decide +kernel), List.mem_of_getElem? (i := 1606) (by decide +kernel), List.mem_of_getElem? (i := 1607) (by decide +kernel)⟩
theorem lw_p171 : lw_okq (⟨"ScriptFrontModel", "member", "()V"⟩, 55) := ⟨⟨by decide +kernel, by decide +kernel⟩, List.mem_of_getElem? (i := 1124) (by decide +kernel), List.mem_of_getElem? (i := 1610) (by decide +kernel), List.mem_of_getElem? (i := 1611) (by decide +kernel)⟩
theorem lw_p172 : lw_okq (⟨"ScriptFrontModel", "tail", "(I)V"⟩, 55) := ⟨⟨by decide +kernel, by decide +kernel⟩, List.mem_of_getElem? (i := 1124) (by decide +kernel), List.mem_of_getElem? (i := 1614) (by decide +kernel), List.mem_of_getElem? (i := 1615) (by decide +kernel)⟩
theorem lw_p173 : lw_okq (⟨"ScriptFrontModel", "newArguments", "(II)V"⟩, 55) := ⟨⟨by decide +kernel, by decide +kernel⟩, List.mem_of_getElem? (i := 1124) (by decide +kernel), List.mem_of_getElem? (i := 1618) (by decide +kernel), List.mem_of_getElem? (i := 1619) (by decide +kernel)⟩
theorem lw_p174 : lw_okq (⟨"ScriptFrontModel", "arguments", "(III)V"⟩, 55) := ⟨⟨by decide +kernel, by decide +kernel⟩, List.mem_of_getElem? (i := 1124) (by decide +kernel), List.mem_of_getElem? (i := 1622) (by decide +kernel), List.mem_of_getElem? (i := 1623) (by decide +kernel)⟩
theorem lw_p175 : lw_okq (⟨"ScriptFrontModel", "argumentMore", "(III)V"⟩, 55) := ⟨⟨by decide +kernel, by decide +kernel⟩, List.mem_of_getElem? (i := 1124) (by decide +kernel), List.mem_of_getElem? (i := 1626) (by decide +kernel), List.mem_of_getElem? (i := 1627) (by decide +kernel)⟩
def lw_privs_11 : List (MethodName × Nat) := [(⟨"ScriptFrontModel", "parameterMore", "()V"⟩, 55), (⟨"ScriptFrontModel", "body", "()V"⟩, 55), (⟨"ScriptFrontModel", "expression", "(IIII)V"⟩, 55), (⟨"ScriptFrontModel", "comma", "(III)V"⟩, 55), (⟨"ScriptFrontModel", "one", "(I)V"⟩, 55), (⟨"ScriptFrontModel", "behind", "(I)V"⟩, 55), (⟨"ScriptFrontModel", "between", "(II)V"⟩, 55), (⟨"ScriptFrontModel", "join", "()V"⟩, 55), (⟨"ScriptFrontModel", "unary", "(Z)V"⟩, 55), (⟨"ScriptFrontModel", "postfix", "()V"⟩, 55), (⟨"ScriptFrontModel", "operandOrNew", "(I)V"⟩, 55), (⟨"ScriptFrontModel", "member", "()V"⟩, 55), (⟨"ScriptFrontModel", "tail", "(I)V"⟩, 55), (⟨"ScriptFrontModel", "newArguments", "(II)V"⟩, 55), (⟨"ScriptFrontModel", "arguments", "(III)V"⟩, 55), (⟨"ScriptFrontModel", "argumentMore", "(III)V"⟩, 55)]
theorem lw_r11 : ∀ q ∈ lw_privs_11, lw_okq q := List.forall_mem_cons.mpr ⟨lw_p160, List.forall_mem_cons.mpr ⟨lw_p161, List.forall_mem_cons.mpr ⟨lw_p162, List.forall_mem_cons.mpr ⟨lw_p163, List.forall_mem_cons.mpr ⟨lw_p164, List.forall_mem_cons.mpr ⟨lw_p165, List.forall_mem_cons.mpr ⟨lw_p166, List.forall_mem_cons.mpr ⟨lw_p167, List.forall_mem_cons.mpr ⟨lw_p168, List.forall_mem_cons.mpr ⟨lw_p169, List.forall_mem_cons.mpr ⟨lw_p170, List.forall_mem_cons.mpr ⟨lw_p171, List.forall_mem_cons.mpr ⟨lw_p172, List.forall_mem_cons.mpr ⟨lw_p173, List.forall_mem_cons.mpr ⟨lw_p174, List.forall_mem_cons.mpr ⟨lw_p175, fun _ h => absurd h List.not_mem_nil⟩⟩⟩⟩⟩⟩⟩⟩⟩⟩⟩⟩⟩⟩⟩⟩
theorem lw_p176 : lw_okq (⟨"ScriptFrontModel", "operand", "()V"⟩, 55) := ⟨⟨by decide +kernel, by decide +kernel⟩, List.mem_of_getElem? (i := 1124) (by decide +kernel), List.mem_of_getElem? (i := 1630) (by decide +kernel), List.mem_of_getElem? (i := 1631) (by decide +kernel)⟩
theorem lw_p177 : lw_okq (⟨"ScriptFrontModel", "elements", "(II)V"⟩, 55) := ⟨⟨by decide +kernel, by decide +kernel⟩, List.mem_of_getElem? (i := 1124) (by decide +kernel), List.mem_of_getElem? (i := 1634) (by decide +kernel), List.mem_of_getElem? (i := 1635) (by decide +kernel)⟩
theorem lw_p178 : lw_okq (⟨"ScriptFrontModel", "elementMore", "(II)V"⟩, 55) := ⟨⟨by decide +kernel, by decide +kernel⟩, List.mem_of_getElem? (i := 1124) (by decide +kernel), List.mem_of_getElem? (i := 1638) (by decide +kernel), List.mem_of_getElem? (i := 1639) (by decide +kernel)⟩
theorem lw_p179 : lw_okq (⟨"ScriptFrontModel", "properties", "(II)V"⟩, 55) := ⟨⟨by decide +kernel, by decide +kernel⟩, List.mem_of_getElem? (i := 1124) (by decide +kernel), List.mem_of_getElem? (i := 1642) (by decide +kernel), List.mem_of_getElem? (i := 1643) (by decide +kernel)⟩
theorem lw_p180 : lw_okq (⟨"ScriptFrontModel", "propertyMore", "(II)V"⟩, 55) := ⟨⟨by decide +kernel, by decide +kernel⟩, List.mem_of_getElem? (i := 1124) (by decide +kernel), List.mem_of_getElem? (i := 1646) (by decide +kernel), List.mem_of_getElem? (i := 1647) (by decide +kernel)⟩
theorem lw_p181 : lw_okq (⟨"ScriptFrontModel", "closeParen", "()V"⟩, 55) := ⟨⟨by decide +kernel, by decide +kernel⟩, List.mem_of_getElem? (i := 1124) (by decide +kernel), List.mem_of_getElem? (i := 1650) (by decide +kernel), List.mem_of_getElem? (i := 1651) (by decide +kernel)⟩
theorem lw_p182 : lw_okq (⟨"ScriptFrontModel", "arrange", "(I)I"⟩, 55) := ⟨⟨by decide +kernel, by decide +kernel⟩, List.mem_of_getElem? (i := 1124) (by decide +kernel), List.mem_of_getElem? (i := 1654) (by decide +kernel), List.mem_of_getElem? (i := 1655) (by decide +kernel)⟩
theorem lw_p183 : lw_okq (⟨"ScriptFrontModel", "settle", "(I)V"⟩, 55) := ⟨⟨by decide +kernel, by decide +kernel⟩, List.mem_of_getElem? (i := 1124) (by decide +kernel), List.mem_of_getElem? (i := 1658) (by decide +kernel), List.mem_of_getElem? (i := 1659) (by decide +kernel)⟩
theorem lw_p184 : lw_okq (⟨"ScriptFrontModel", "begins", "(I)Z"⟩, 55) := ⟨⟨by decide +kernel, by decide +kernel⟩, List.mem_of_getElem? (i := 1124) (by decide +kernel), List.mem_of_getElem? (i := 1662) (by decide +kernel), List.mem_of_getElem? (i := 1663) (by decide +kernel)⟩
theorem lw_p185 : lw_okq (⟨"ScriptFrontModel", "isPlainString", "(I)Z"⟩, 55) := ⟨⟨by decide +kernel, by decide +kernel⟩, List.mem_of_getElem? (i := 1124) (by decide +kernel), List.mem_of_getElem? (i := 1666) (by decide +kernel), List.mem_of_getElem? (i := 1667) (by decide +kernel)⟩
theorem lw_p186 : lw_okq (⟨"ScriptFrontModel", "saysStrict", "(I)Z"⟩, 55) := ⟨⟨by decide +kernel, by decide +kernel⟩, List.mem_of_getElem? (i := 1124) (by decide +kernel), List.mem_of_getElem? (i := 1670) (by decide +kernel), List.mem_of_getElem? (i := 1671) (by decide +kernel)⟩
theorem lw_p187 : lw_okq (⟨"ScriptFrontModel", "last", "(I)I"⟩, 55) := ⟨⟨by decide +kernel, by decide +kernel⟩, List.mem_of_getElem? (i := 1124) (by decide +kernel), List.mem_of_getElem? (i := 1674) (by decide +kernel), List.mem_of_getElem? (i := 1675) (by decide +kernel)⟩
theorem lw_p188 : lw_okq (⟨"ScriptFrontModel", "child", "(II)I"⟩, 55) := ⟨⟨by decide +kernel, by decide +kernel⟩, List.mem_of_getElem? (i := 1124) (by decide +kernel), List.mem_of_getElem? (i := 1678) (by decide +kernel), List.mem_of_getElem? (i := 1679) (by decide +kernel)⟩
theorem lw_p189 : lw_okq (⟨"ScriptFrontModel", "judge", "(I)V"⟩, 55) := ⟨⟨by decide +kernel, by decide +kernel⟩, List.mem_of_getElem? (i := 1124) (by decide +kernel), List.mem_of_getElem? (i := 1682) (by decide +kernel), List.mem_of_getElem? (i := 1683) (by decide +kernel)⟩
theorem lw_p190 : lw_okq (⟨"ScriptFrontModel", "hasTarget", "(I)Z"⟩, 55) := ⟨⟨by decide +kernel, by decide +kernel⟩, List.mem_of_getElem? (i := 1124) (by decide +kernel), List.mem_of_getElem? (i := 1686) (by decide +kernel), List.mem_of_getElem? (i := 1687) (by decide +kernel)⟩
theorem lw_p191 : lw_okq (⟨"ScriptFrontModel", "breaksStrict", "(I)Z"⟩, 55) := ⟨⟨by decide +kernel, by decide +kernel⟩, List.mem_of_getElem? (i := 1124) (by decide +kernel), List.mem_of_getElem? (i := 1690) (by decide +kernel), List.mem_of_getElem? (i := 1691) (by decide +kernel)⟩
def lw_privs_12 : List (MethodName × Nat) := [(⟨"ScriptFrontModel", "operand", "()V"⟩, 55), (⟨"ScriptFrontModel", "elements", "(II)V"⟩, 55), (⟨"ScriptFrontModel", "elementMore", "(II)V"⟩, 55), (⟨"ScriptFrontModel", "properties", "(II)V"⟩, 55), (⟨"ScriptFrontModel", "propertyMore", "(II)V"⟩, 55), (⟨"ScriptFrontModel", "closeParen", "()V"⟩, 55), (⟨"ScriptFrontModel", "arrange", "(I)I"⟩, 55), (⟨"ScriptFrontModel", "settle", "(I)V"⟩, 55), (⟨"ScriptFrontModel", "begins", "(I)Z"⟩, 55), (⟨"ScriptFrontModel", "isPlainString", "(I)Z"⟩, 55), (⟨"ScriptFrontModel", "saysStrict", "(I)Z"⟩, 55), (⟨"ScriptFrontModel", "last", "(I)I"⟩, 55), (⟨"ScriptFrontModel", "child", "(II)I"⟩, 55), (⟨"ScriptFrontModel", "judge", "(I)V"⟩, 55), (⟨"ScriptFrontModel", "hasTarget", "(I)Z"⟩, 55), (⟨"ScriptFrontModel", "breaksStrict", "(I)Z"⟩, 55)]
theorem lw_r12 : ∀ q ∈ lw_privs_12, lw_okq q := List.forall_mem_cons.mpr ⟨lw_p176, List.forall_mem_cons.mpr ⟨lw_p177, List.forall_mem_cons.mpr ⟨lw_p178, List.forall_mem_cons.mpr ⟨lw_p179, List.forall_mem_cons.mpr ⟨lw_p180, List.forall_mem_cons.mpr ⟨lw_p181, List.forall_mem_cons.mpr ⟨lw_p182, List.forall_mem_cons.mpr ⟨lw_p183, List.forall_mem_cons.mpr ⟨lw_p184, List.forall_mem_cons.mpr ⟨lw_p185, List.forall_mem_cons.mpr ⟨lw_p186, List.forall_mem_cons.mpr ⟨lw_p187, List.forall_mem_cons.mpr ⟨lw_p188, List.forall_mem_cons.mpr ⟨lw_p189, List.forall_mem_cons.mpr ⟨lw_p190, List.forall_mem_cons.mpr ⟨lw_p191, fun _ h => absurd h List.not_mem_nil⟩⟩⟩⟩⟩⟩⟩⟩⟩⟩⟩⟩⟩⟩⟩⟩
theorem lw_p192 : lw_okq (⟨"ScriptFrontModel", "isSpecial", "(I)Z"⟩, 55) := ⟨⟨by decide +kernel, by decide +kernel⟩, List.mem_of_getElem? (i := 1124) (by decide +kernel), List.mem_of_getElem? (i := 1694) (by decide +kernel), List.mem_of_getElem? (i := 1695) (by decide +kernel)⟩
theorem lw_p193 : lw_okq (⟨"ScriptFrontModel", "isDelete", "(I)Z"⟩, 55) := ⟨⟨by decide +kernel, by decide +kernel⟩, List.mem_of_getElem? (i := 1124) (by decide +kernel), List.mem_of_getElem? (i := 1700) (by decide +kernel), List.mem_of_getElem? (i := 1701) (by decide +kernel)⟩
theorem lw_p194 : lw_okq (⟨"ScriptFrontModel", "isTwice", "(I)Z"⟩, 55) := ⟨⟨by decide +kernel, by decide +kernel⟩, List.mem_of_getElem? (i := 1124) (by decide +kernel), List.mem_of_getElem? (i := 1704) (by decide +kernel), List.mem_of_getElem? (i := 1705) (by decide +kernel)⟩
theorem lw_p195 : lw_okq (⟨"ScriptFrontModel", "alike", "(II)Z"⟩, 55) := ⟨⟨by decide +kernel, by decide +kernel⟩, List.mem_of_getElem? (i := 1124) (by decide +kernel), List.mem_of_getElem? (i := 1708) (by decide +kernel), List.mem_of_getElem? (i := 1709) (by decide +kernel)⟩
theorem lw_p196 : lw_okq (⟨"ScriptFrontModel", "jumpsWrong", "(I)Z"⟩, 55) := ⟨⟨by decide +kernel, by decide +kernel⟩, List.mem_of_getElem? (i := 1124) (by decide +kernel), List.mem_of_getElem? (i := 1712) (by decide +kernel), List.mem_of_getElem? (i := 1713) (by decide +kernel)⟩
theorem lw_p197 : lw_okq (⟨"ScriptFrontModel", "lands", "(I)Z"⟩, 55) := ⟨⟨by decide +kernel, by decide +kernel⟩, List.mem_of_getElem? (i := 1124) (by decide +kernel), List.mem_of_getElem? (i := 1716) (by decide +kernel), List.mem_of_getElem? (i := 1717) (by decide +kernel)⟩
theorem lw_p198 : lw_okq (⟨"ScriptFrontModel", "print", "(I)V"⟩, 55) := ⟨⟨by decide +kernel, by decide +kernel⟩, List.mem_of_getElem? (i := 1124) (by decide +kernel), List.mem_of_getElem? (i := 1723) (by decide +kernel), List.mem_of_getElem? (i := 1724) (by decide +kernel)⟩
theorem lw_p199 : lw_okq (⟨"ScriptFrontModel", "plan", "(III)V"⟩, 55) := ⟨⟨by decide +kernel, by decide +kernel⟩, List.mem_of_getElem? (i := 1124) (by decide +kernel), List.mem_of_getElem? (i := 1727) (by decide +kernel), List.mem_of_getElem? (i := 1728) (by decide +kernel)⟩
theorem lw_p200 : lw_okq (⟨"ScriptFrontModel", "printSign", "(I)V"⟩, 55) := ⟨⟨by decide +kernel, by decide +kernel⟩, List.mem_of_getElem? (i := 1124) (by decide +kernel), List.mem_of_getElem? (i := 1731) (by decide +kernel), List.mem_of_getElem? (i := 1732) (by decide +kernel)⟩
theorem lw_p201 : lw_okq (⟨"ScriptFrontModel", "part", "(I)V"⟩, 55) := ⟨⟨by decide +kernel, by decide +kernel⟩, List.mem_of_getElem? (i := 1124) (by decide +kernel), List.mem_of_getElem? (i := 1735) (by decide +kernel), List.mem_of_getElem? (i := 1736) (by decide +kernel)⟩
theorem lw_p202 : lw_okq (⟨"ScriptFrontModel", "letter", "(I)V"⟩, 55) := ⟨⟨by decide +kernel, by decide +kernel⟩, List.mem_of_getElem? (i := 1124) (by decide +kernel), List.mem_of_getElem? (i := 1739) (by decide +kernel), List.mem_of_getElem? (i := 1740) (by decide +kernel)⟩
theorem lw_p203 : lw_okq (⟨"ScriptFrontModel", "printWord", "(I)V"⟩, 55) := ⟨⟨by decide +kernel, by decide +kernel⟩, List.mem_of_getElem? (i := 1124) (by decide +kernel), List.mem_of_getElem? (i := 1743) (by decide +kernel), List.mem_of_getElem? (i := 1744) (by decide +kernel)⟩
theorem lw_p204 : lw_okq (⟨"ScriptFrontModel", "printValue", "(II)V"⟩, 55) := ⟨⟨by decide +kernel, by decide +kernel⟩, List.mem_of_getElem? (i := 1124) (by decide +kernel), List.mem_of_getElem? (i := 1748) (by decide +kernel), List.mem_of_getElem? (i := 1749) (by decide +kernel)⟩
theorem lw_p205 : lw_okq (⟨"ScriptFrontModel", "bind", "(I)I"⟩, 55) := ⟨⟨by decide +kernel, by decide +kernel⟩, List.mem_of_getElem? (i := 1124) (by decide +kernel), List.mem_of_getElem? (i := 1752) (by decide +kernel), List.mem_of_getElem? (i := 1753) (by decide +kernel)⟩
theorem lw_p206 : lw_okq (⟨"ScriptFrontModel", "signOf", "(I)I"⟩, 55) := ⟨⟨by decide +kernel, by decide +kernel⟩, List.mem_of_getElem? (i := 1124) (by decide +kernel), List.mem_of_getElem? (i := 1756) (by decide +kernel), List.mem_of_getElem? (i := 1757) (by decide +kernel)⟩
theorem lw_p207 : lw_okq (⟨"ScriptFrontModel", "isIn", "(I)Z"⟩, 55) := ⟨⟨by decide +kernel, by decide +kernel⟩, List.mem_of_getElem? (i := 1124) (by decide +kernel), List.mem_of_getElem? (i := 1760) (by decide +kernel), List.mem_of_getElem? (i := 1761) (by decide +kernel)⟩
def lw_privs_13 : List (MethodName × Nat) := [(⟨"ScriptFrontModel", "isSpecial", "(I)Z"⟩, 55), (⟨"ScriptFrontModel", "isDelete", "(I)Z"⟩, 55), (⟨"ScriptFrontModel", "isTwice", "(I)Z"⟩, 55), (⟨"ScriptFrontModel", "alike", "(II)Z"⟩, 55), (⟨"ScriptFrontModel", "jumpsWrong", "(I)Z"⟩, 55), (⟨"ScriptFrontModel", "lands", "(I)Z"⟩, 55), (⟨"ScriptFrontModel", "print", "(I)V"⟩, 55), (⟨"ScriptFrontModel", "plan", "(III)V"⟩, 55), (⟨"ScriptFrontModel", "printSign", "(I)V"⟩, 55), (⟨"ScriptFrontModel", "part", "(I)V"⟩, 55), (⟨"ScriptFrontModel", "letter", "(I)V"⟩, 55), (⟨"ScriptFrontModel", "printWord", "(I)V"⟩, 55), (⟨"ScriptFrontModel", "printValue", "(II)V"⟩, 55), (⟨"ScriptFrontModel", "bind", "(I)I"⟩, 55), (⟨"ScriptFrontModel", "signOf", "(I)I"⟩, 55), (⟨"ScriptFrontModel", "isIn", "(I)Z"⟩, 55)]
theorem lw_r13 : ∀ q ∈ lw_privs_13, lw_okq q := List.forall_mem_cons.mpr ⟨lw_p192, List.forall_mem_cons.mpr ⟨lw_p193, List.forall_mem_cons.mpr ⟨lw_p194, List.forall_mem_cons.mpr ⟨lw_p195, List.forall_mem_cons.mpr ⟨lw_p196, List.forall_mem_cons.mpr ⟨lw_p197, List.forall_mem_cons.mpr ⟨lw_p198, List.forall_mem_cons.mpr ⟨lw_p199, List.forall_mem_cons.mpr ⟨lw_p200, List.forall_mem_cons.mpr ⟨lw_p201, List.forall_mem_cons.mpr ⟨lw_p202, List.forall_mem_cons.mpr ⟨lw_p203, List.forall_mem_cons.mpr ⟨lw_p204, List.forall_mem_cons.mpr ⟨lw_p205, List.forall_mem_cons.mpr ⟨lw_p206, List.forall_mem_cons.mpr ⟨lw_p207, fun _ h => absurd h List.not_mem_nil⟩⟩⟩⟩⟩⟩⟩⟩⟩⟩⟩⟩⟩⟩⟩⟩
theorem lw_p208 : lw_okq (⟨"ScriptFrontModel", "printOperand", "(I)V"⟩, 55) := ⟨⟨by decide +kernel, by decide +kernel⟩, List.mem_of_getElem? (i := 1124) (by decide +kernel), List.mem_of_getElem? (i := 1764) (by decide +kernel), List.mem_of_getElem? (i := 1765) (by decide +kernel)⟩
theorem lw_p209 : lw_okq (⟨"ScriptFrontModel", "printFunction", "(I)V"⟩, 55) := ⟨⟨by decide +kernel, by decide +kernel⟩, List.mem_of_getElem? (i := 1124) (by decide +kernel), List.mem_of_getElem? (i := 1768) (by decide +kernel), List.mem_of_getElem? (i := 1769) (by decide +kernel)⟩
theorem lw_p210 : lw_okq (⟨"ScriptFrontModel", "printToken", "(I)V"⟩, 55) := ⟨⟨by decide +kernel, by decide +kernel⟩, List.mem_of_getElem? (i := 1124) (by decide +kernel), List.mem_of_getElem? (i := 1772) (by decide +kernel), List.mem_of_getElem? (i := 1773) (by decide +kernel)⟩
theorem lw_p211 : lw_okq (⟨"ScriptFrontModel", "hasCall", "(I)Z"⟩, 55) := ⟨⟨by decide +kernel, by decide +kernel⟩, List.mem_of_getElem? (i := 1124) (by decide +kernel), List.mem_of_getElem? (i := 1776) (by decide +kernel), List.mem_of_getElem? (i := 1777) (by decide +kernel)⟩
theorem lw_p212 : lw_okq (⟨"ScriptFrontModel", "printJoined", "(II)V"⟩, 55) := ⟨⟨by decide +kernel, by decide +kernel⟩, List.mem_of_getElem? (i := 1124) (by decide +kernel), List.mem_of_getElem? (i := 1780) (by decide +kernel), List.mem_of_getElem? (i := 1781) (by decide +kernel)⟩
theorem lw_p213 : lw_okq (⟨"ScriptFrontModel", "printAct", "(I)V"⟩, 55) := ⟨⟨by decide +kernel, by decide +kernel⟩, List.mem_of_getElem? (i := 1124) (by decide +kernel), List.mem_of_getElem? (i := 1784) (by decide +kernel), List.mem_of_getElem? (i := 1785) (by decide +kernel)⟩
theorem lw_p214 : lw_okq (⟨"ScriptFrontModel", "braces", "(I)V"⟩, 55) := ⟨⟨by decide +kernel, by decide +kernel⟩, List.mem_of_getElem? (i := 1124) (by decide +kernel), List.mem_of_getElem? (i := 1788) (by decide +kernel), List.mem_of_getElem? (i := 1789) (by decide +kernel)⟩
theorem lw_p215 : lw_okq (⟨"ScriptFrontModel", "startsBadly", "(I)Z"⟩, 55) := ⟨⟨by decide +kernel, by decide +kernel⟩, List.mem_of_getElem? (i := 1124) (by decide +kernel), List.mem_of_getElem? (i := 1792) (by decide +kernel), List.mem_of_getElem? (i := 1793) (by decide +kernel)⟩
theorem lw_p216 : lw_okq (⟨"ScriptFrontModel", "wanted", "(I)I"⟩, 55) := ⟨⟨by decide +kernel, by decide +kernel⟩, List.mem_of_getElem? (i := 1124) (by decide +kernel), List.mem_of_getElem? (i := 1796) (by decide +kernel), List.mem_of_getElem? (i := 1797) (by decide +kernel)⟩
theorem lw_p217 : lw_okq (⟨"ScriptFrontModel", "printHead", "(II)V"⟩, 55) := ⟨⟨by decide +kernel, by decide +kernel⟩, List.mem_of_getElem? (i := 1124) (by decide +kernel), List.mem_of_getElem? (i := 1800) (by decide +kernel), List.mem_of_getElem? (i := 1801) (by decide +kernel)⟩
theorem lw_p218 : lw_okq (⟨"ScriptFrontModel", "inBrackets", "(I)V"⟩, 55) := ⟨⟨by decide +kernel, by decide +kernel⟩, List.mem_of_getElem? (i := 1124) (by decide +kernel), List.mem_of_getElem? (i := 1804) (by decide +kernel), List.mem_of_getElem? (i := 1805) (by decide +kernel)⟩
theorem lw_p219 : lw_okq (⟨"ScriptFrontModel", "printFor", "(II)V"⟩, 55) := ⟨⟨by decide +kernel, by decide +kernel⟩, List.mem_of_getElem? (i := 1124) (by decide +kernel), List.mem_of_getElem? (i := 1808) (by decide +kernel), List.mem_of_getElem? (i := 1809) (by decide +kernel)⟩
theorem lw_p220 : lw_okq (⟨"ScriptFrontModel", "planFirst", "(I)V"⟩, 55) := ⟨⟨by decide +kernel, by decide +kernel⟩, List.mem_of_getElem? (i := 1124) (by decide +kernel), List.mem_of_getElem? (i := 1812) (by decide +kernel), List.mem_of_getElem? (i := 1813) (by decide +kernel)⟩
theorem lw_p221 : lw_okq (⟨"ScriptFrontModel", "printTry", "(III)V"⟩, 55) := ⟨⟨by decide +kernel, by decide +kernel⟩, List.mem_of_getElem? (i := 1124) (by decide +kernel), List.mem_of_getElem? (i := 1816) (by decide +kernel), List.mem_of_getElem? (i := 1817) (by decide +kernel)⟩
theorem lw_p222 : lw_okq (⟨"ScriptFrontModel", "printChoice", "(I)V"⟩, 55) := ⟨⟨by decide +kernel, by decide +kernel⟩, List.mem_of_getElem? (i := 1124) (by decide +kernel), List.mem_of_getElem? (i := 1820) (by decide +kernel), List.mem_of_getElem? (i := 1821) (by decide +kernel)⟩
theorem lw_p223 : lw_okq (⟨"ScriptFrontModel", "printRow", "(III)V"⟩, 55) := ⟨⟨by decide +kernel, by decide +kernel⟩, List.mem_of_getElem? (i := 1124) (by decide +kernel), List.mem_of_getElem? (i := 1824) (by decide +kernel), List.mem_of_getElem? (i := 1825) (by decide +kernel)⟩
def lw_privs_14 : List (MethodName × Nat) := [(⟨"ScriptFrontModel", "printOperand", "(I)V"⟩, 55), (⟨"ScriptFrontModel", "printFunction", "(I)V"⟩, 55), (⟨"ScriptFrontModel", "printToken", "(I)V"⟩, 55), (⟨"ScriptFrontModel", "hasCall", "(I)Z"⟩, 55), (⟨"ScriptFrontModel", "printJoined", "(II)V"⟩, 55), (⟨"ScriptFrontModel", "printAct", "(I)V"⟩, 55), (⟨"ScriptFrontModel", "braces", "(I)V"⟩, 55), (⟨"ScriptFrontModel", "startsBadly", "(I)Z"⟩, 55), (⟨"ScriptFrontModel", "wanted", "(I)I"⟩, 55), (⟨"ScriptFrontModel", "printHead", "(II)V"⟩, 55), (⟨"ScriptFrontModel", "inBrackets", "(I)V"⟩, 55), (⟨"ScriptFrontModel", "printFor", "(II)V"⟩, 55), (⟨"ScriptFrontModel", "planFirst", "(I)V"⟩, 55), (⟨"ScriptFrontModel", "printTry", "(III)V"⟩, 55), (⟨"ScriptFrontModel", "printChoice", "(I)V"⟩, 55), (⟨"ScriptFrontModel", "printRow", "(III)V"⟩, 55)]
theorem lw_r14 : ∀ q ∈ lw_privs_14, lw_okq q := List.forall_mem_cons.mpr ⟨lw_p208, List.forall_mem_cons.mpr ⟨lw_p209, List.forall_mem_cons.mpr ⟨lw_p210, List.forall_mem_cons.mpr ⟨lw_p211, List.forall_mem_cons.mpr ⟨lw_p212, List.forall_mem_cons.mpr ⟨lw_p213, List.forall_mem_cons.mpr ⟨lw_p214, List.forall_mem_cons.mpr ⟨lw_p215, List.forall_mem_cons.mpr ⟨lw_p216, List.forall_mem_cons.mpr ⟨lw_p217, List.forall_mem_cons.mpr ⟨lw_p218, List.forall_mem_cons.mpr ⟨lw_p219, List.forall_mem_cons.mpr ⟨lw_p220, List.forall_mem_cons.mpr ⟨lw_p221, List.forall_mem_cons.mpr ⟨lw_p222, List.forall_mem_cons.mpr ⟨lw_p223, fun _ h => absurd h List.not_mem_nil⟩⟩⟩⟩⟩⟩⟩⟩⟩⟩⟩⟩⟩⟩⟩⟩
def lw_privs : List (MethodName × Nat) := lw_privs_1 ++ (lw_privs_2 ++ (lw_privs_3 ++ (lw_privs_4 ++ (lw_privs_5 ++ (lw_privs_6 ++ (lw_privs_7 ++ (lw_privs_8 ++ (lw_privs_9 ++ (lw_privs_10 ++ (lw_privs_11 ++ (lw_privs_12 ++ (lw_privs_13 ++ (lw_privs_14)))))))))))))
def lw_tbl : List Cond := k2_sels lw_privs ++ tables_1
theorem lw_privs_ok : ∀ q ∈ lw_privs, lw_okq q := by
  show ∀ q ∈ lw_privs_1 ++ (lw_privs_2 ++ (lw_privs_3 ++ (lw_privs_4 ++ (lw_privs_5 ++ (lw_privs_6 ++ (lw_privs_7 ++ (lw_privs_8 ++ (lw_privs_9 ++ (lw_privs_10 ++ (lw_privs_11 ++ (lw_privs_12 ++ (lw_privs_13 ++ (lw_privs_14))))))))))))), lw_okq q
  exact List.forall_mem_append.mpr ⟨lw_r1, List.forall_mem_append.mpr ⟨lw_r2, List.forall_mem_append.mpr ⟨lw_r3, List.forall_mem_append.mpr ⟨lw_r4, List.forall_mem_append.mpr ⟨lw_r5, List.forall_mem_append.mpr ⟨lw_r6, List.forall_mem_append.mpr ⟨lw_r7, List.forall_mem_append.mpr ⟨lw_r8, List.forall_mem_append.mpr ⟨lw_r9, List.forall_mem_append.mpr ⟨lw_r10, List.forall_mem_append.mpr ⟨lw_r11, List.forall_mem_append.mpr ⟨lw_r12, List.forall_mem_append.mpr ⟨lw_r13, lw_r14⟩⟩⟩⟩⟩⟩⟩⟩⟩⟩⟩⟩⟩
end
section
/-! ===== AN ABSTRACT MACHINE: values and cells by places (a place's address is ad's); one walk for every method ===== -/
def am_tv (ad : Nat → Nat) (v : Value) : Value := match v with
  | .ref i => .ref (ad i)
  | .int x => .int x
  | .long x => .long x
  | .float x => .float x
  | .double x => .double x
  | .null => .null
  | .retAddr x => .retAddr x
def am_te (ad ct : Nat → Nat) (e : va_E) : va_E := match e with
  | .inl x => .inl (ct x.1, x.2)
  | .inr o => .inr (o.1, o.2.map (am_tv ad))
def am_ws (ad ct : Nat → Nat) (h : List va_E) : va_W := h.mapIdx (fun i e => (ad i, am_te ad ct e))
def am_lv (ad : Nat → Nat) (lv : List (Nat × Value)) : List (Nat × Value) := lv.map (fun q => (q.1, am_tv ad q.2))
theorem am_tv_cat (ad : Nat → Nat) (v : Value) : (am_tv ad v).category = v.category := by cases v <;> rfl
theorem am_ws_at {ad ct : Nat → Nat} {h : List va_E} {i : Nat} {e : va_E} (hi : h[i]? = some e) : (am_ws ad ct h)[i]? = some (ad i, am_te ad ct e) := by
  simp [am_ws, List.getElem?_mapIdx, hi]
theorem am_ws_set (ad ct : Nat → Nat) (h : List va_E) (i : Nat) (e : va_E) : am_ws ad ct (h.set i e) = (am_ws ad ct h).set i (ad i, am_te ad ct e) := by
  simp [am_ws, List.mapIdx_set]
theorem am_look {ad : Nat → Nat} {lv : List (Nat × Value)} {i : Nat} {v : Value} (h : lv.lookup i = some v) : ∃ k : Nat, (am_lv ad lv)[k]? = some (i, am_tv ad v) := by
  induction lv with
  | nil => cases h
  | cons q r ih =>
    obtain ⟨j, w⟩ := q
    rw [List.lookup_cons] at h
    by_cases e : (i == j) = true
    · rw [e] at h
      cases h
      have e2 : i = j := by simpa using e
      subst e2
      exact ⟨0, rfl⟩
    · rw [Bool.not_eq_true] at e
      rw [e] at h
      obtain ⟨k, hk⟩ := ih h
      exact ⟨k + 1, by simpa [am_lv] using hk⟩
/-- a local of one word is written -/
def am_sto (lv : List (Nat × Value)) (i : Nat) (v : Value) : List (Nat × Value) := (i, v) :: lv.filter (fun q => !(q.1 == i) && !(q.1 + 1 == i && q.2.category == 2))
/-- a local of two words is written -/
def am_sto2 (lv : List (Nat × Value)) (i : Nat) (v : Value) : List (Nat × Value) := (i, v) :: lv.filter (fun q => !(q.1 == i) && (!(q.1 == i + 1) && !(q.1 + 1 == i && q.2.category == 2)))
theorem am_sto_lv (ad : Nat → Nat) (lv : List (Nat × Value)) (i : Nat) (v : Value) : (i, am_tv ad v) :: (am_lv ad lv).filter (fun q => !(q.1 == i) && !(q.1 + 1 == i && q.2.category == 2)) = am_lv ad (am_sto lv i v) := by
  unfold am_sto am_lv
  rw [List.map_cons, List.filter_map]
  congr 2
  apply List.filter_congr
  intro q _
  simp only [Function.comp, am_tv_cat]
theorem am_sto2_lv (ad : Nat → Nat) (lv : List (Nat × Value)) (i : Nat) (v : Value) : (i, am_tv ad v) :: (am_lv ad lv).filter (fun q => !(q.1 == i) && (!(q.1 == i + 1) && !(q.1 + 1 == i && q.2.category == 2))) = am_lv ad (am_sto2 lv i v) := by
  unfold am_sto2 am_lv
  rw [List.map_cons, List.filter_map]
  congr 2
  apply List.filter_congr
  intro q _
  simp only [Function.comp, am_tv_cat]
/-- a state of one frame: pc, locals, stack, cells -/
abbrev am_F : Type := Nat × List (Nat × Value) × List Value × List va_E
def am_c (c : ClassFile.Cond) (x y : Int32) : Bool := match c with
  | .eq => decide (x = y)
  | .ne => decide (¬ x = y)
  | .lt => decide (x < y)
  | .ge => decide (y ≤ x)
  | .gt => decide (y < x)
  | .le => decide (x ≤ y)
def am_to (pc : Nat) (off : Int) : Option Nat := match (pc : Int) + off with
  | .ofNat t => some t
  | .negSucc _ => none
theorem am_to_eq {pc t : Nat} {off : Int} (h : am_to pc off = some t) : (pc : Int) + off = (t : Int) := by
  unfold am_to at h
  split at h
  · next e => cases h; exact e
  · cases h
def am_ok (i : Int32) (n : Nat) : Bool := !(decide (i < 0) || decide (n ≤ i.toNatClampNeg))
theorem am_ok_eq {i : Int32} {n : Nat} (h : am_ok i n = true) : vp_in i n := by
  intro q
  unfold am_ok at h
  rcases q with q | q <;> simp [q] at h
/-- an int on the stack, two, a long .. -/
def am_i1 {α : Type} (st : List Value) (f : Int32 → List Value → Option α) : Option α := match st with
  | .int x :: r => f x r
  | _ => none
def am_i2 {α : Type} (st : List Value) (f : Int32 → Int32 → List Value → Option α) : Option α := match st with
  | .int y :: .int x :: r => f x y r
  | _ => none
def am_l1 {α : Type} (st : List Value) (f : Int64 → List Value → Option α) : Option α := match st with
  | .long x :: r => f x r
  | _ => none
def am_l2 {α : Type} (st : List Value) (f : Int64 → Int64 → List Value → Option α) : Option α := match st with
  | .long y :: .long x :: r => f x y r
  | _ => none
def am_li {α : Type} (st : List Value) (f : Int64 → Int32 → List Value → Option α) : Option α := match st with
  | .int y :: .long x :: r => f x y r
  | _ => none
def am_r1 {α : Type} (st : List Value) (f : Nat → List Value → Option α) : Option α := match st with
  | .ref a :: r => f a r
  | _ => none
def am_ri {α : Type} (st : List Value) (f : Nat → Int32 → List Value → Option α) : Option α := match st with
  | .int i :: .ref a :: r => f a i r
  | _ => none
def am_rii {α : Type} (st : List Value) (f : Nat → Int32 → Int32 → List Value → Option α) : Option α := match st with
  | .int x :: .int i :: .ref a :: r => f a i x r
  | _ => none
def am_ril {α : Type} (st : List Value) (f : Nat → Int32 → Int64 → List Value → Option α) : Option α := match st with
  | .long x :: .int i :: .ref a :: r => f a i x r
  | _ => none
theorem am_i1_eq {α : Type} {st : List Value} {f : Int32 → List Value → Option α} {z : α} (h : am_i1 st f = some z) : ∃ x r, st = .int x :: r ∧ f x r = some z := by
  unfold am_i1 at h; split at h
  · exact ⟨_, _, rfl, h⟩
  · cases h
theorem am_i2_eq {α : Type} {st : List Value} {f : Int32 → Int32 → List Value → Option α} {z : α} (h : am_i2 st f = some z) : ∃ x y r, st = .int y :: .int x :: r ∧ f x y r = some z := by
  unfold am_i2 at h; split at h
  · exact ⟨_, _, _, rfl, h⟩
  · cases h
theorem am_l1_eq {α : Type} {st : List Value} {f : Int64 → List Value → Option α} {z : α} (h : am_l1 st f = some z) : ∃ x r, st = .long x :: r ∧ f x r = some z := by
  unfold am_l1 at h; split at h
  · exact ⟨_, _, rfl, h⟩
  · cases h
theorem am_l2_eq {α : Type} {st : List Value} {f : Int64 → Int64 → List Value → Option α} {z : α} (h : am_l2 st f = some z) : ∃ x y r, st = .long y :: .long x :: r ∧ f x y r = some z := by
  unfold am_l2 at h; split at h
  · exact ⟨_, _, _, rfl, h⟩
  · cases h
theorem am_li_eq {α : Type} {st : List Value} {f : Int64 → Int32 → List Value → Option α} {z : α} (h : am_li st f = some z) : ∃ x y r, st = .int y :: .long x :: r ∧ f x y r = some z := by
  unfold am_li at h; split at h
  · exact ⟨_, _, _, rfl, h⟩
  · cases h
theorem am_r1_eq {α : Type} {st : List Value} {f : Nat → List Value → Option α} {z : α} (h : am_r1 st f = some z) : ∃ a r, st = .ref a :: r ∧ f a r = some z := by
  unfold am_r1 at h; split at h
  · exact ⟨_, _, rfl, h⟩
  · cases h
theorem am_ri_eq {α : Type} {st : List Value} {f : Nat → Int32 → List Value → Option α} {z : α} (h : am_ri st f = some z) : ∃ a i r, st = .int i :: .ref a :: r ∧ f a i r = some z := by
  unfold am_ri at h; split at h
  · exact ⟨_, _, _, rfl, h⟩
  · cases h
theorem am_rii_eq {α : Type} {st : List Value} {f : Nat → Int32 → Int32 → List Value → Option α} {z : α} (h : am_rii st f = some z) : ∃ a i x r, st = .int x :: .int i :: .ref a :: r ∧ f a i x r = some z := by
  unfold am_rii at h; split at h
  · exact ⟨_, _, _, _, rfl, h⟩
  · cases h
theorem am_ril_eq {α : Type} {st : List Value} {f : Nat → Int32 → Int64 → List Value → Option α} {z : α} (h : am_ril st f = some z) : ∃ a i x r, st = .long x :: .int i :: .ref a :: r ∧ f a i x r = some z := by
  unfold am_ril at h; split at h
  · exact ⟨_, _, _, _, rfl, h⟩
  · cases h
/-- a local that holds an int, a long, a cell -/
def am_gi {α : Type} (lv : List (Nat × Value)) (k : Nat) (f : Int32 → Option α) : Option α := match lv.lookup k with
  | some (.int x) => f x
  | _ => none
def am_gl {α : Type} (lv : List (Nat × Value)) (k : Nat) (f : Int64 → Option α) : Option α := match lv.lookup k with
  | some (.long x) => f x
  | _ => none
def am_gr {α : Type} (lv : List (Nat × Value)) (k : Nat) (f : Nat → Option α) : Option α := match lv.lookup k with
  | some (.ref x) => f x
  | _ => none
theorem am_gi_eq {α : Type} {lv : List (Nat × Value)} {k : Nat} {f : Int32 → Option α} {z : α} (h : am_gi lv k f = some z) : ∃ x, lv.lookup k = some (.int x) ∧ f x = some z := by
  unfold am_gi at h; split at h
  · next x e => exact ⟨x, e, h⟩
  · cases h
theorem am_gl_eq {α : Type} {lv : List (Nat × Value)} {k : Nat} {f : Int64 → Option α} {z : α} (h : am_gl lv k f = some z) : ∃ x, lv.lookup k = some (.long x) ∧ f x = some z := by
  unfold am_gl at h; split at h
  · next x e => exact ⟨x, e, h⟩
  · cases h
theorem am_gr_eq {α : Type} {lv : List (Nat × Value)} {k : Nat} {f : Nat → Option α} {z : α} (h : am_gr lv k f = some z) : ∃ x, lv.lookup k = some (.ref x) ∧ f x = some z := by
  unfold am_gr at h; split at h
  · next x e => exact ⟨x, e, h⟩
  · cases h
/-- the row of ints at a place, of the kind t -/
def am_row {α : Type} (h : List va_E) (a : Nat) (f : Nat → Nat → (Nat → Int32) → Option α) : Option α := match h[a]? with
  | some (.inl (t, n, .inl g)) => f t n g
  | _ => none
def am_rowl {α : Type} (h : List va_E) (a : Nat) (f : Nat → Nat → (Nat → Int64) → Option α) : Option α := match h[a]? with
  | some (.inl (t, n, .inr (.inl g))) => f t n g
  | _ => none
def am_obj {α : Type} (h : List va_E) (a : Nat) (f : Nat → List Value → Option α) : Option α := match h[a]? with
  | some (.inr (c, fs)) => f c fs
  | _ => none
theorem am_row_eq {α : Type} {h : List va_E} {a : Nat} {f : Nat → Nat → (Nat → Int32) → Option α} {z : α} (q : am_row h a f = some z) : ∃ t n g, h[a]? = some (.inl (t, n, .inl g)) ∧ f t n g = some z := by
  unfold am_row at q; split at q
  · next t n g e => exact ⟨t, n, g, e, q⟩
  · cases q
theorem am_rowl_eq {α : Type} {h : List va_E} {a : Nat} {f : Nat → Nat → (Nat → Int64) → Option α} {z : α} (q : am_rowl h a f = some z) : ∃ t n g, h[a]? = some (.inl (t, n, .inr (.inl g))) ∧ f t n g = some z := by
  unfold am_rowl at q; split at q
  · next t n g e => exact ⟨t, n, g, e, q⟩
  · cases q
theorem am_obj_eq {α : Type} {h : List va_E} {a : Nat} {f : Nat → List Value → Option α} {z : α} (q : am_obj h a f = some z) : ∃ c fs, h[a]? = some (.inr (c, fs)) ∧ f c fs = some z := by
  unfold am_obj at q; split at q
  · next c fs e => exact ⟨c, fs, e, q⟩
  · cases q
theorem am_if {α : Type} {b : Bool} {x : Option α} {z : α} (h : (if b = true then x else none) = some z) : b = true ∧ x = some z := by
  cases b
  · simp at h
  · exact ⟨rfl, by simpa using h⟩
end
section
/-- the kinds of rows: 0 int, 1 char, 2 boolean, 3 byte, 4 long -/
def am_aty (t : Nat) : FieldType := match t with
  | 0 => .int
  | 1 => .char
  | 2 => .boolean
  | 3 => .byte
  | _ => .long
abbrev am_L : Type := List (Nat × Value)
/-- one instruction that neither calls, makes, returns nor throws -/
def am_step (fl : Nat → Option (Nat × Nat × FieldType × Bool)) (kc : Nat → Option Value) (kl : Nat → Option Int64) (gs : Nat → Option Value) (ro : Nat → Option (Nat × (Nat → Int32))) (ini : Bool) (nL : Nat) (i : Instr) (pc : Nat) (lv : am_L) (st : List Value) (h : List va_E) : Option am_F := match i with
  | .iconst c => some (pc + 1, lv, .int (Int32.ofInt c) :: st, h)
  | .bipush c => some (pc + 2, lv, .int (Int8.ofInt c).toInt32 :: st, h)
  | .sipush c => some (pc + 3, lv, .int (Int16.ofInt c).toInt32 :: st, h)
  | .lconst c => some (pc + 1, lv, .long (Int64.ofNat c) :: st, h)
  | .iload k => am_gi lv k fun x => some (pc + 2, lv, .int x :: st, h)
  | .iload_n k => am_gi lv k fun x => some (pc + 1, lv, .int x :: st, h)
  | .lload_n k => am_gl lv k fun x => some (pc + 1, lv, .long x :: st, h)
  | .aload k => am_gr lv k fun x => some (pc + 2, lv, .ref x :: st, h)
  | .aload_n k => am_gr lv k fun x => some (pc + 1, lv, .ref x :: st, h)
  | .istore k => am_i1 st fun x r => if decide (k < nL) = true then some (pc + 2, am_sto lv k (.int x), r, h) else none
  | .istore_n k => am_i1 st fun x r => if decide ((k : Nat) < nL) = true then some (pc + 1, am_sto lv k (.int x), r, h) else none
  | .lstore_n k => am_l1 st fun x r => if decide ((k : Nat) + 1 < nL) = true then some (pc + 1, am_sto2 lv k (.long x), r, h) else none
  | .astore k => am_r1 st fun x r => if decide (k < nL) = true then some (pc + 2, am_sto lv k (.ref x), r, h) else none
  | .astore_n k => am_r1 st fun x r => if decide ((k : Nat) < nL) = true then some (pc + 1, am_sto lv k (.ref x), r, h) else none
  | .iinc k c => am_gi lv k fun x => if decide (k < nL) = true then some (pc + 3, am_sto lv k (.int (x + Int32.ofInt c)), st, h) else none
  | .iadd => am_i2 st fun x y r => some (pc + 1, lv, .int (x + y) :: r, h)
  | .isub => am_i2 st fun x y r => some (pc + 1, lv, .int (x - y) :: r, h)
  | .imul => am_i2 st fun x y r => some (pc + 1, lv, .int (x * y) :: r, h)
  | .iand => am_i2 st fun x y r => some (pc + 1, lv, .int (x &&& y) :: r, h)
  | .ior => am_i2 st fun x y r => some (pc + 1, lv, .int (x ||| y) :: r, h)
  | .ishl => am_i2 st fun x y r => some (pc + 1, lv, .int (x <<< (y &&& 31)) :: r, h)
  | .ishr => am_i2 st fun x y r => some (pc + 1, lv, .int (x >>> (y &&& 31)) :: r, h)
  | .ladd => am_l2 st fun x y r => some (pc + 1, lv, .long (x + y) :: r, h)
  | .lsub => am_l2 st fun x y r => some (pc + 1, lv, .long (x - y) :: r, h)
  | .lmul => am_l2 st fun x y r => some (pc + 1, lv, .long (x * y) :: r, h)
  | .land => am_l2 st fun x y r => some (pc + 1, lv, .long (x &&& y) :: r, h)
  | .lor => am_l2 st fun x y r => some (pc + 1, lv, .long (x ||| y) :: r, h)
  | .lshl => am_li st fun x y r => some (pc + 1, lv, .long (x <<< (y.toInt64 &&& 63)) :: r, h)
  | .lshr => am_li st fun x y r => some (pc + 1, lv, .long (x >>> (y.toInt64 &&& 63)) :: r, h)
  | .lushr => am_li st fun x y r => some (pc + 1, lv, .long (x.toUInt64 >>> (y.toInt64.toUInt64 &&& Int64.toUInt64 63)).toInt64 :: r, h)
  | .i2l => am_i1 st fun x r => some (pc + 1, lv, .long x.toInt64 :: r, h)
  | .l2i => am_l1 st fun x r => some (pc + 1, lv, .int x.toInt32 :: r, h)
  | .i2c => am_i1 st fun x r => some (pc + 1, lv, .int (x.toUInt32 % 65536).toInt32 :: r, h)
  | .i2b => am_i1 st fun x r => some (pc + 1, lv, .int x.toInt8.toInt32 :: r, h)
  | .lcmp => am_l2 st fun x y r => some (pc + 1, lv, .int (lg_cmp x y) :: r, h)
  | .dup => match st with
    | v :: r => if decide (v.category = 1) = true then some (pc + 1, lv, v :: v :: r, h) else none
    | _ => none
  | .dup2 => match st with
    | v :: w :: r => if (decide (v.category = 1) && decide (w.category = 1)) = true then some (pc + 1, lv, v :: w :: v :: w :: r, h) else none
    | _ => none
  | .goto off => (am_to pc off).bind fun t => some (t, lv, st, h)
  | .ifCond c off => am_i1 st fun x r => (am_to pc off).bind fun t => some (if am_c c x 0 = true then t else pc + 3, lv, r, h)
  | .if_icmp c off => am_i2 st fun x y r => (am_to pc off).bind fun t => some (if am_c c x y = true then t else pc + 3, lv, r, h)
  | .tableswitch d lo hi offs => am_i1 st fun x r => (am_to pc (if (decide (x.toInt < lo) || decide (hi < x.toInt)) = true then d else (offs[(x.toInt - lo).toNat]?).getD d)).bind fun t => if ((decide (x.toInt < lo) || decide (hi < x.toInt)) || (offs[(x.toInt - lo).toNat]?).isSome) = true then some (t, lv, r, h) else none
  | .lookupswitch d ps => am_i1 st fun x r => if ((ps.toList.zip (ps.toList.drop 1)).all (fun (a, next) => a.1 < next.1)) = true then (am_to pc (Op.lookupswitch.offset ps.toList d x.toInt)).bind fun t => some (t, lv, r, h) else none
  | .ldc k => (kc k).bind fun v => some (pc + 2, lv, v :: st, h)
  | .ldc2_w k => (kl k).bind fun v => some (pc + 3, lv, .long v :: st, h)
  | .getfield k => am_r1 st fun a r => (fl k).bind fun q => am_obj h a fun c fs => if decide (c = q.1) = true then (fs[q.2.1]?).bind fun v => some (pc + 3, lv, v :: r, h) else none
  | .putfield k => match st with
    | v :: .ref a :: r => (fl k).bind fun q => am_obj h a fun c fs => if (decide (c = q.1) && (decide (q.2.1 < fs.length) && ((!q.2.2.2 || ini) && (decide (narrow q.2.2.1 v = v) && fits q.2.2.1 v)))) = true then some (pc + 3, lv, r, h.set a (.inr (c, fs.set q.2.1 v))) else none
    | _ => none
  | .getstatic k => (gs k).bind fun v => some (pc + 3, lv, v :: st, h)
  | .iaload => am_ri st fun a j r => match ro a with
    | some q => if am_ok j q.1 = true then some (pc + 1, lv, .int (q.2 j.toNatClampNeg) :: r, h) else none
    | none => am_row h a fun t n g => if (t == 0 && am_ok j n) = true then some (pc + 1, lv, .int (g j.toNatClampNeg) :: r, h) else none
  | .caload => am_ri st fun a j r => am_row h a fun t n g => if (t == 1 && am_ok j n) = true then some (pc + 1, lv, .int (g j.toNatClampNeg) :: r, h) else none
  | .baload => am_ri st fun a j r => am_row h a fun t n g => if ((t == 2 || t == 3) && am_ok j n) = true then some (pc + 1, lv, .int (g j.toNatClampNeg) :: r, h) else none
  | .laload => am_ri st fun a j r => am_rowl h a fun t n g => if (t == 4 && am_ok j n) = true then some (pc + 1, lv, .long (g j.toNatClampNeg) :: r, h) else none
  | .iastore => am_rii st fun a j x r => am_row h a fun t n g => if (t == 0 && am_ok j n) = true then some (pc + 1, lv, r, h.set a (.inl (t, n, .inl (upd g j.toNatClampNeg x)))) else none
  | .castore => am_rii st fun a j x r => am_row h a fun t n g => if (t == 1 && am_ok j n) = true then some (pc + 1, lv, r, h.set a (.inl (t, n, .inl (upd g j.toNatClampNeg (vp_nar .char x))))) else none
  | .bastore => am_rii st fun a j x r => am_row h a fun t n g => if ((t == 2 || t == 3) && am_ok j n) = true then some (pc + 1, lv, r, h.set a (.inl (t, n, .inl (upd g j.toNatClampNeg (vp_nar (am_aty t) x))))) else none
  | .lastore => am_ril st fun a j x r => am_rowl h a fun t n g => if (t == 4 && am_ok j n) = true then some (pc + 1, lv, r, h.set a (.inl (t, n, .inr (.inl (vp_updL g j.toNatClampNeg x))))) else none
  | .arraylength => am_r1 st fun a r => match ro a with
    | some q => some (pc + 1, lv, .int (Int32.ofNat q.1) :: r, h)
    | none => match h[a]? with
      | some (.inl (t, x)) => if decide (t < 5) = true then some (pc + 1, lv, .int (Int32.ofNat x.1) :: r, h) else none
      | _ => none
  | _ => none
/-- an instruction's length; 0: it is what it is -/
def am_len (i : Instr) : Nat := match i with
  | .bipush _ | .iload _ | .aload _ | .istore _ | .astore _ | .ldc _ | .newarray _ => 2
  | .sipush _ | .iinc _ _ | .goto _ | .ifCond _ _ | .if_icmp _ _ | .ldc2_w _ | .getfield _ | .putfield _ | .getstatic _ | .new _ | .invokevirtual _ | .invokespecial _ | .invokestatic _ => 3
  | .tableswitch _ _ _ _ | .lookupswitch _ _ => 0
  | _ => 1
/-- what a method's links are, by the words Ts -/
def am_FL (fl : Nat → Option (Nat × Nat × FieldType × Bool)) (own : String) (cl : List vw_C) (Ts : List Jvm.Cond) : Prop := ∀ idx q, fl idx = some q → ∃ (C : String) (T : u_T) (N : Nat) (ty0 : Nat → FieldType), (∀ w ∈ u_ws C T N, w ∈ Ts) ∧ cl[q.1]? = some (C, T, N) ∧ q.2.1 < N ∧ Jvm.Cond.fieldLink own idx (T q.2.1).1 (T q.2.1).2.1 (T q.2.1).2.2.1 ∈ Ts ∧ (∀ k, k < N → parseFieldDescriptor (T k).2.2.1 = some (ty0 k)) ∧ ty0 q.2.1 = q.2.2.1 ∧ (∀ a, a < N → ∀ b, b < N → a ≠ b → (T a).2.1 ≠ (T b).2.1) ∧ (T q.2.1).2.2.2 = q.2.2.2 ∧ (q.2.2.2 = true → (T q.2.1).1 = own)
def am_KC (kc : Nat → Option Value) (own : String) (ad : Nat → Nat) (Ts : List Jvm.Cond) (s : State) : Prop := ∀ idx v, kc idx = some v → (∃ x, v = .int x ∧ Jvm.Cond.constant own idx x ∈ Ts) ∨ ∃ a tx, v = .ref a ∧ vk_R own idx tx (ad a) s
def am_KL (kl : Nat → Option Int64) (own : String) (Ts : List Jvm.Cond) : Prop := ∀ idx v, kl idx = some v → Jvm.Cond.constantLong own idx v ∈ Ts
def am_GS (gs : Nat → Option Value) (own : String) (ad : Nat → Nat) (A : Nat → Prop) (Ts : List Jvm.Cond) (s : State) : Prop := ∀ idx v, gs idx = some v → ∃ C n d, va_Z C n d (am_tv ad v) A s s.heap ∧ Jvm.Cond.fieldLink own idx C n d ∈ Ts
def am_RO (ro : Nat → Option (Nat × (Nat → Int32))) (ad : Nat → Nat) (A : Nat → Prop) (s : State) : Prop := ∀ a n f, ro a = some (n, f) → va_T .int (ad a) n (fun j => .int (f j)) A s s.heap
def am_TY (tys : List (ClassId × FieldType)) (ct : Nat → Nat) : Prop := ∀ t, t < 5 → tys[t]? = some (ct t, am_aty t)
end
section
section AM1
variable {p : Program} {l : Launch} {e : Env} {R : Room} {s : State} {m : MethodId} {args : Array Value} {below : List Frame} {meth : Method} {c : Code} {H : Heap} {locs : List Loc} {cells slots : Nat} {Q : State → Prop}
variable {cc : ByteArray} {D : va_G} {cl : List vw_C} {A : Nat → Prop} {tys : List (ClassId × FieldType)} {ad ct : Nat → Nat} {Ts : List Jvm.Cond} {own : String}
variable {fl : Nat → Option (Nat × Nat × FieldType × Bool)} {kc : Nat → Option Value} {kl : Nat → Option Int64} {gs : Nat → Option Value} {ro : Nat → Option (Nat × (Nat → Int32))} {ini : Bool} {nL : Nat}
theorem am_pick (P : Nat → Prop) {b : Bool} {t u : Nat} (k : P (if b = true then t else u)) : (b = true → P t) ∧ (¬ b = true → P u) := ⟨fun q => by rw [if_pos q] at k; exact k, fun q => by rw [if_neg q] at k; exact k⟩
set_option maxHeartbeats 4000000 in
set_option maxRecDepth 20000 in
theorem am_step_ok (hx : p.tables.exec = Jvm.exec) (hb : c.code = cc) (hts : ∀ w ∈ Ts, w.before args s = true) (hown : s.vm.findClass own = some m.cls) (hK : va_K D cl tys s)
    (hFL : am_FL fl own cl Ts) (hKC : am_KC kc own ad Ts s) (hKL : am_KL kl own Ts) (hGS : am_GS gs own ad A Ts s) (hRO : am_RO ro ad A s) (hTY : am_TY tys ct) (hin : ini = true → meth.name = "<init>")
    {i : Instr} {pc pc' : Nat} {lv lv' : am_L} {st st' : List Value} {h h' : List va_E} {ls : Array Slot} (hst : am_step fl kc kl gs ro ini nL i pc lv st h = some (pc', lv', st', h'))
    (hd0 : ∃ n, decode cc pc = .ok (i, n) ∧ (am_len i ≠ 0 → n = am_len i)) (hP : va_P D cl (am_ws ad ct h) H) (hD : va_D A (am_ws ad ct h)) (hS : va_S A s.heap H locs) (hl : lv_has ls nL (am_lv ad lv))
    (kk : ∀ (H' : Heap) (locs' : List Loc) (ls' : Array Slot), va_P D cl (am_ws ad ct h') H' → va_D A (am_ws ad ct h') → va_S A s.heap H' locs' → lv_has ls' nL (am_lv ad lv') → W p l e R s m args below meth c H' locs' cells slots Q (F0 m pc' ls' (st'.map (am_tv ad)))) :
    W p l e R s m args below meth c H locs cells slots Q (F0 m pc ls (st.map (am_tv ad))) := by
  obtain ⟨n, hd, hn⟩ := hd0
  unfold am_step at hst
  split at hst
  -- iconst .. lconst
  · cases hst; cases hn (by simp [am_len]); exact lv_iconst hx hb hd rfl (kk H locs ls hP hD hS hl)
  · cases hst; cases hn (by simp [am_len]); exact lv_bipush hx hb hd rfl (kk H locs ls hP hD hS hl)
  · cases hst; cases hn (by simp [am_len]); exact lv_sipush hx hb hd rfl (kk H locs ls hP hD hS hl)
  · cases hst; cases hn (by simp [am_len]); exact lv_lconst hx hb hd rfl (kk H locs ls hP hD hS hl)
  -- loads
  · obtain ⟨x, e1, h2⟩ := am_gi_eq hst; cases h2; cases hn (by simp [am_len]); obtain ⟨k, hk⟩ := am_look (ad := ad) e1; exact lv_iload hx hb hd (lv_at hl k hk) (kk H locs ls hP hD hS hl)
  · obtain ⟨x, e1, h2⟩ := am_gi_eq hst; cases h2; cases hn (by simp [am_len]); obtain ⟨k, hk⟩ := am_look (ad := ad) e1; exact lv_iload_n hx hb hd rfl (lv_at hl k hk) (kk H locs ls hP hD hS hl)
  · obtain ⟨x, e1, h2⟩ := am_gl_eq hst; cases h2; cases hn (by simp [am_len]); obtain ⟨k, hk⟩ := am_look (ad := ad) e1; exact lv_lload_n hx hb hd rfl (lv_at hl k hk) (kk H locs ls hP hD hS hl)
  · obtain ⟨x, e1, h2⟩ := am_gr_eq hst; cases h2; cases hn (by simp [am_len]); obtain ⟨k, hk⟩ := am_look (ad := ad) e1; exact lv_aload hx hb hd (lv_at hl k hk) (kk H locs ls hP hD hS hl)
  · obtain ⟨x, e1, h2⟩ := am_gr_eq hst; cases h2; cases hn (by simp [am_len]); obtain ⟨k, hk⟩ := am_look (ad := ad) e1; exact lv_aload_n hx hb hd rfl (lv_at hl k hk) (kk H locs ls hP hD hS hl)
  -- stores
  · obtain ⟨x, r, rfl, h2⟩ := am_i1_eq hst; obtain ⟨h3, h4⟩ := am_if h2; cases h4; cases hn (by simp [am_len]); exact lv_istore hx hb hd hl (of_decide_eq_true h3) (am_sto_lv ad lv _ (.int x)) (fun ls' hl' => kk H locs ls' hP hD hS hl')
  · obtain ⟨x, r, rfl, h2⟩ := am_i1_eq hst; obtain ⟨h3, h4⟩ := am_if h2; cases h4; cases hn (by simp [am_len]); exact lv_istore_n hx hb hd rfl hl (of_decide_eq_true h3) (am_sto_lv ad lv _ (.int x)) (fun ls' hl' => kk H locs ls' hP hD hS hl')
  · obtain ⟨x, r, rfl, h2⟩ := am_l1_eq hst; obtain ⟨h3, h4⟩ := am_if h2; cases h4; cases hn (by simp [am_len]); exact lv_lstore_n hx hb hd rfl hl (of_decide_eq_true h3) (am_sto2_lv ad lv _ (.long x)) (fun ls' hl' => kk H locs ls' hP hD hS hl')
  · obtain ⟨x, r, rfl, h2⟩ := am_r1_eq hst; obtain ⟨h3, h4⟩ := am_if h2; cases h4; cases hn (by simp [am_len]); exact lv_astore hx hb hd hl (of_decide_eq_true h3) (am_sto_lv ad lv _ (.ref x)) (fun ls' hl' => kk H locs ls' hP hD hS hl')
  · obtain ⟨x, r, rfl, h2⟩ := am_r1_eq hst; obtain ⟨h3, h4⟩ := am_if h2; cases h4; cases hn (by simp [am_len]); exact lv_astore_n hx hb hd rfl hl (of_decide_eq_true h3) (am_sto_lv ad lv _ (.ref x)) (fun ls' hl' => kk H locs ls' hP hD hS hl')
  · obtain ⟨x, e1, h2⟩ := am_gi_eq hst; obtain ⟨h3, h4⟩ := am_if h2; cases h4; cases hn (by simp [am_len]); obtain ⟨k, hk⟩ := am_look (ad := ad) e1; exact lv_iinc hx hb hd hl hk rfl (of_decide_eq_true h3) (am_sto_lv ad lv _ (.int _)) (fun ls' hl' => kk H locs ls' hP hD hS hl')
  -- ints
  · obtain ⟨x, y, r, rfl, h2⟩ := am_i2_eq hst; cases h2; cases hn (by simp [am_len]); exact lv_iadd hx hb hd (kk H locs ls hP hD hS hl)
  · obtain ⟨x, y, r, rfl, h2⟩ := am_i2_eq hst; cases h2; cases hn (by simp [am_len]); exact lv_isub hx hb hd (kk H locs ls hP hD hS hl)
  · obtain ⟨x, y, r, rfl, h2⟩ := am_i2_eq hst; cases h2; cases hn (by simp [am_len]); exact lv_imul hx hb hd (kk H locs ls hP hD hS hl)
  · obtain ⟨x, y, r, rfl, h2⟩ := am_i2_eq hst; cases h2; cases hn (by simp [am_len]); exact lv_iand hx hb hd (kk H locs ls hP hD hS hl)
  · obtain ⟨x, y, r, rfl, h2⟩ := am_i2_eq hst; cases h2; cases hn (by simp [am_len]); exact lv_ior hx hb hd (kk H locs ls hP hD hS hl)
  · obtain ⟨x, y, r, rfl, h2⟩ := am_i2_eq hst; cases h2; cases hn (by simp [am_len]); exact lv_ishl hx hb hd (kk H locs ls hP hD hS hl)
  · obtain ⟨x, y, r, rfl, h2⟩ := am_i2_eq hst; cases h2; cases hn (by simp [am_len]); exact lv_ishr hx hb hd (kk H locs ls hP hD hS hl)
  -- longs
  · obtain ⟨x, y, r, rfl, h2⟩ := am_l2_eq hst; cases h2; cases hn (by simp [am_len]); exact lv_ladd hx hb hd (kk H locs ls hP hD hS hl)
  · obtain ⟨x, y, r, rfl, h2⟩ := am_l2_eq hst; cases h2; cases hn (by simp [am_len]); exact lv_lsub hx hb hd (kk H locs ls hP hD hS hl)
  · obtain ⟨x, y, r, rfl, h2⟩ := am_l2_eq hst; cases h2; cases hn (by simp [am_len]); exact lv_lmul hx hb hd (kk H locs ls hP hD hS hl)
  · obtain ⟨x, y, r, rfl, h2⟩ := am_l2_eq hst; cases h2; cases hn (by simp [am_len]); exact lv_land hx hb hd (kk H locs ls hP hD hS hl)
  · obtain ⟨x, y, r, rfl, h2⟩ := am_l2_eq hst; cases h2; cases hn (by simp [am_len]); exact lv_lor hx hb hd (kk H locs ls hP hD hS hl)
  · obtain ⟨x, y, r, rfl, h2⟩ := am_li_eq hst; cases h2; cases hn (by simp [am_len]); exact lv_lshl hx hb hd rfl (kk H locs ls hP hD hS hl)
  · obtain ⟨x, y, r, rfl, h2⟩ := am_li_eq hst; cases h2; cases hn (by simp [am_len]); exact lv_lshr hx hb hd rfl (kk H locs ls hP hD hS hl)
  · obtain ⟨x, y, r, rfl, h2⟩ := am_li_eq hst; cases h2; cases hn (by simp [am_len]); exact lv_lushr hx hb hd rfl (kk H locs ls hP hD hS hl)
  · obtain ⟨x, r, rfl, h2⟩ := am_i1_eq hst; cases h2; cases hn (by simp [am_len]); exact lv_i2l hx hb hd rfl (kk H locs ls hP hD hS hl)
  · obtain ⟨x, r, rfl, h2⟩ := am_l1_eq hst; cases h2; cases hn (by simp [am_len]); exact lv_l2i hx hb hd rfl (kk H locs ls hP hD hS hl)
  · obtain ⟨x, r, rfl, h2⟩ := am_i1_eq hst; cases h2; cases hn (by simp [am_len]); exact lv_i2c hx hb hd rfl (kk H locs ls hP hD hS hl)
  · obtain ⟨x, r, rfl, h2⟩ := am_i1_eq hst; cases h2; cases hn (by simp [am_len]); exact lv_i2b hx hb hd rfl (kk H locs ls hP hD hS hl)
  · obtain ⟨x, y, r, rfl, h2⟩ := am_l2_eq hst; cases h2; cases hn (by simp [am_len]); exact W.lcmp hx hb hd (kk H locs ls hP hD hS hl)
  -- dup, dup2
  · split at hst
    · obtain ⟨h3, h4⟩ := am_if hst; cases h4; cases hn (by simp [am_len]); exact lv_dup hx hb hd ((am_tv_cat ad _).trans (of_decide_eq_true h3)) (kk H locs ls hP hD hS hl)
    · cases hst
  · split at hst
    · obtain ⟨h3, h4⟩ := am_if hst; cases h4; cases hn (by simp [am_len])
      rw [Bool.and_eq_true] at h3
      exact lv_dup2_11 hx hb hd ((am_tv_cat ad _).trans (of_decide_eq_true h3.1)) ((am_tv_cat ad _).trans (of_decide_eq_true h3.2)) (kk H locs ls hP hD hS hl)
    · cases hst
  -- goto
  · obtain ⟨t, ht, h2⟩ := Option.bind_eq_some_iff.mp hst; cases h2; cases hn (by simp [am_len]); exact lv_goto hx hb hd (am_to_eq ht) (kk H locs ls hP hD hS hl)
  -- ifCond
  · obtain ⟨x, r, rfl, h2⟩ := am_i1_eq hst
    obtain ⟨t, ht, h3⟩ := Option.bind_eq_some_iff.mp h2; cases h3; cases hn (by simp [am_len])
    have k1 := am_pick (fun z => W p l e R s m args below meth c H locs cells slots Q (F0 m z ls (List.map (am_tv ad) st'))) (kk H locs ls hP hD hS hl)
    rename_i cnd off
    cases cnd
    · exact lv_if_eq hx hb hd (am_to_eq ht) (fun q => k1.1 (decide_eq_true q)) (fun q => k1.2 (fun z => q (of_decide_eq_true z)))
    · exact lv_if_ne hx hb hd (am_to_eq ht) (fun q => k1.1 (decide_eq_true q)) (fun q => k1.2 (fun z => (of_decide_eq_true z) q))
    · exact lv_if_lt hx hb hd (am_to_eq ht) (fun q => k1.1 (decide_eq_true q)) (fun q => k1.2 (fun z => q (of_decide_eq_true z)))
    · exact lv_if_ge hx hb hd (am_to_eq ht) (fun q => k1.1 (decide_eq_true q)) (fun q => k1.2 (fun z => q (of_decide_eq_true z)))
    · exact lv_if_gt hx hb hd (am_to_eq ht) (fun q => k1.1 (decide_eq_true q)) (fun q => k1.2 (fun z => q (of_decide_eq_true z)))
    · exact lv_if_le hx hb hd (am_to_eq ht) (fun q => k1.1 (decide_eq_true q)) (fun q => k1.2 (fun z => q (of_decide_eq_true z)))
  -- if_icmp
  · obtain ⟨x, y, r, rfl, h2⟩ := am_i2_eq hst
    obtain ⟨t, ht, h3⟩ := Option.bind_eq_some_iff.mp h2; cases h3; cases hn (by simp [am_len])
    have k1 := am_pick (fun z => W p l e R s m args below meth c H locs cells slots Q (F0 m z ls (List.map (am_tv ad) st'))) (kk H locs ls hP hD hS hl)
    rename_i cnd off
    cases cnd
    · exact lv_icmp_eq hx hb hd (am_to_eq ht) (fun q => k1.1 (decide_eq_true q)) (fun q => k1.2 (fun z => q (of_decide_eq_true z)))
    · exact lv_icmp_ne hx hb hd (am_to_eq ht) (fun q => k1.1 (decide_eq_true q)) (fun q => k1.2 (fun z => (of_decide_eq_true z) q))
    · exact lv_icmp_lt hx hb hd (am_to_eq ht) (fun q => k1.1 (decide_eq_true q)) (fun q => k1.2 (fun z => q (of_decide_eq_true z)))
    · exact lv_icmp_ge hx hb hd (am_to_eq ht) (fun q => k1.1 (decide_eq_true q)) (fun q => k1.2 (fun z => q (of_decide_eq_true z)))
    · exact lv_icmp_gt hx hb hd (am_to_eq ht) (fun q => k1.1 (decide_eq_true q)) (fun q => k1.2 (fun z => q (of_decide_eq_true z)))
    · exact lv_icmp_le hx hb hd (am_to_eq ht) (fun q => k1.1 (decide_eq_true q)) (fun q => k1.2 (fun z => q (of_decide_eq_true z)))
  -- tableswitch
  · obtain ⟨x, r, rfl, h2⟩ := am_i1_eq hst
    obtain ⟨t, ht, h3⟩ := Option.bind_eq_some_iff.mp h2
    obtain ⟨h4, h5⟩ := am_if h3; cases h5
    rename_i d lo hi offs
    by_cases q : (decide (x.toInt < lo) || decide (hi < x.toInt)) = true
    · rw [if_pos q] at ht
      refine lv_tableOut hx hb hd ?_ (am_to_eq ht) (kk H locs ls hP hD hS hl)
      rw [Bool.or_eq_true] at q
      exact q.imp of_decide_eq_true of_decide_eq_true
    · rw [if_neg q] at ht
      cases ho : offs[(x.toInt - lo).toNat]? with
      | none => rw [ho] at h4; simp at h4; simp at q; omega
      | some off =>
        rw [ho] at ht
        simp only [Bool.or_eq_true, decide_eq_true_eq, not_or] at q
        exact lv_tableIn hx hb hd q.1 q.2 ho (am_to_eq ht) (kk H locs ls hP hD hS hl)
  -- lookupswitch
  · obtain ⟨x, r, rfl, h2⟩ := am_i1_eq hst
    obtain ⟨h4, h5⟩ := am_if h2
    obtain ⟨t, ht, h3⟩ := Option.bind_eq_some_iff.mp h5; cases h3
    exact lv_lookup hx hb hd h4 rfl (am_to_eq ht) (kk H locs ls hP hD hS hl)
  -- ldc, ldc2_w
  · obtain ⟨v, hv, h2⟩ := Option.bind_eq_some_iff.mp hst; cases h2; cases hn (by simp [am_len])
    rcases hKC _ _ hv with ⟨x, rfl, hw⟩ | ⟨a, tx, rfl, hw⟩
    · exact lv_ldc hx hb hown (hts _ hw) hd (kk H locs ls hP hD hS hl)
    · exact va_ldcS hx hb hown hw hd (kk H locs ls hP hD hS hl)
  · obtain ⟨v, hv, h2⟩ := Option.bind_eq_some_iff.mp hst; cases h2; cases hn (by simp [am_len])
    exact lv_ldc2 hx hb hown (hts _ (hKL _ _ hv)) hd (kk H locs ls hP hD hS hl)
  -- getfield
  · obtain ⟨a, r, rfl, h2⟩ := am_r1_eq hst
    obtain ⟨q, hq, h3⟩ := Option.bind_eq_some_iff.mp h2
    obtain ⟨ci, fs, hc, h4⟩ := am_obj_eq h3
    obtain ⟨h5, h6⟩ := am_if h4
    obtain ⟨v, hv, h7⟩ := Option.bind_eq_some_iff.mp h6; cases h7; cases hn (by simp [am_len])
    obtain ⟨C, T, N, ty0, g1, g2, g3, g4, -⟩ := hFL _ _ hq
    have h5 := of_decide_eq_true h5
    subst h5
    exact va_get (v := am_tv ad v) hx hb hts g1 hown hK hP a (am_ws_at hc) g2 q.2.1 g3 (hts _ g4) (fun _ z => z) (by rw [List.getElem?_map, hv]; rfl) hd (kk H locs ls hP hD hS hl)
  -- putfield
  · split at hst
    · next v a r =>
      obtain ⟨q, hq, h3⟩ := Option.bind_eq_some_iff.mp hst
      obtain ⟨ci, fs, hc, h4⟩ := am_obj_eq h3
      obtain ⟨h5, h6⟩ := am_if h4; cases h6; cases hn (by simp [am_len])
      simp only [Bool.and_eq_true, decide_eq_true_eq] at h5
      obtain ⟨h5, h6, h7, h8, h9⟩ := h5
      obtain ⟨C, T, N, ty0, g1, g2, g3, g4, g5, g6, g7, g8, g9⟩ := hFL _ _ hq
      subst h5
      have e1 : am_ws ad ct (h.set a (.inr (q.1, fs.set q.2.1 v))) = (am_ws ad ct h).set a (ad a, .inr (q.1, (fs.map (am_tv ad)).set q.2.1 (am_tv ad v))) := by
        rw [am_ws_set]
        simp [am_te, List.map_set]
      rw [e1] at kk
      have n1 : narrow q.2.2.1 (am_tv ad v) = am_tv ad v := by
        cases v with
        | int x => exact h8
        | long x => exact h8
        | float x => exact h8
        | double x => exact h8
        | null => exact h8
        | ref x => cases q.2.2.1 <;> rfl
        | retAddr x => exact h8
      have f1 : fits q.2.2.1 (am_tv ad v) = true := by
        cases v with
        | int x => exact h9
        | long x => exact h9
        | float x => exact h9
        | double x => exact h9
        | null => exact h9
        | ref x => revert h9; cases q.2.2.1 <;> simp [fits, am_tv]
        | retAddr x => exact h9
      have hty := g5 _ g3
      rw [g6] at hty
      cases hf : q.2.2.2 with
      | false =>
        rw [hf] at g8
        exact va_put hx hb hts g1 ty0 g5 g7 hown hK hP hD hS a (am_ws_at hc) g2 q.2.1 g3 (hts _ g4) (fun _ z => z) g8 hty n1 f1 (by simpa using h6) hd (fun H1 locs1 hP1 hD1 hS1 => kk H1 locs1 ls hP1 hD1 hS1 hl)
      | true =>
        rw [hf] at g8 g9 h7
        exact va_putF hx hb hts g1 ty0 g5 g7 hown hK hP hD hS a (am_ws_at hc) g2 q.2.1 g3 (hts _ g4) (fun _ z => z) g8 (hin (by simpa using h7)) (g9 rfl) hty n1 f1 (by simpa using h6) hd (fun H1 locs1 hP1 hD1 hS1 => kk H1 locs1 ls hP1 hD1 hS1 hl)
    · cases hst
  -- getstatic
  · obtain ⟨v, hv, h2⟩ := Option.bind_eq_some_iff.mp hst; cases h2; cases hn (by simp [am_len])
    obtain ⟨C, n1, d1, hz, hw⟩ := hGS _ _ hv
    exact va_gets hx hb hz hS hown (hts _ hw) (fun _ z => z) hd (kk H locs ls hP hD hS hl)
  -- iaload
  · obtain ⟨a, j, r, rfl, h2⟩ := am_ri_eq hst
    cases hn (by simp [am_len])
    split at h2
    · next q hq =>
      obtain ⟨h3, h4⟩ := am_if h2; cases h4
      exact va_ti hx hb (hRO a q.1 q.2 hq) hS (am_ok_eq h3) rfl hd (kk H locs ls hP hD hS hl)
    · obtain ⟨t, n1, g, hg, h3⟩ := am_row_eq h2
      obtain ⟨h4, h5⟩ := am_if h3; cases h5
      simp only [Bool.and_eq_true, beq_iff_eq] at h4
      obtain ⟨rfl, h4⟩ := h4
      exact va_iald hx hb hK hP a 0 (am_ws_at hg) (hTY 0 (by decide)) (am_ok_eq h4) hd (kk H locs ls hP hD hS hl)
  -- caload
  · obtain ⟨a, j, r, rfl, h2⟩ := am_ri_eq hst
    cases hn (by simp [am_len])
    obtain ⟨t, n1, g, hg, h3⟩ := am_row_eq h2
    obtain ⟨h4, h5⟩ := am_if h3; cases h5
    simp only [Bool.and_eq_true, beq_iff_eq] at h4
    obtain ⟨rfl, h4⟩ := h4
    exact va_cald hx hb hK hP a 1 (am_ws_at hg) (hTY 1 (by decide)) (am_ok_eq h4) hd (kk H locs ls hP hD hS hl)
  -- baload
  · obtain ⟨a, j, r, rfl, h2⟩ := am_ri_eq hst
    cases hn (by simp [am_len])
    obtain ⟨t, n1, g, hg, h3⟩ := am_row_eq h2
    obtain ⟨h4, h5⟩ := am_if h3; cases h5
    simp only [Bool.and_eq_true, Bool.or_eq_true, beq_iff_eq] at h4
    obtain ⟨h6, h4⟩ := h4
    rcases h6 with rfl | rfl
    · exact va_zald hx hb hK hP a 2 (am_ws_at hg) (hTY 2 (by decide)) (am_ok_eq h4) hd (kk H locs ls hP hD hS hl)
    · exact va_bald hx hb hK hP a 3 (am_ws_at hg) (hTY 3 (by decide)) (am_ok_eq h4) hd (kk H locs ls hP hD hS hl)
  -- laload
  · obtain ⟨a, j, r, rfl, h2⟩ := am_ri_eq hst
    cases hn (by simp [am_len])
    obtain ⟨t, n1, g, hg, h3⟩ := am_rowl_eq h2
    obtain ⟨h4, h5⟩ := am_if h3; cases h5
    simp only [Bool.and_eq_true, beq_iff_eq] at h4
    obtain ⟨rfl, h4⟩ := h4
    exact va_lald hx hb hK hP a 4 (am_ws_at hg) (hTY 4 (by decide)) (am_ok_eq h4) hd (kk H locs ls hP hD hS hl)
  -- iastore
  · obtain ⟨a, j, x, r, rfl, h2⟩ := am_rii_eq hst
    cases hn (by simp [am_len])
    obtain ⟨t, n1, g, hg, h3⟩ := am_row_eq h2
    obtain ⟨h4, h5⟩ := am_if h3; cases h5
    simp only [Bool.and_eq_true, beq_iff_eq] at h4
    obtain ⟨rfl, h4⟩ := h4
    rw [am_ws_set] at kk
    exact va_iast hx hb hK hP hD hS a 0 (am_ws_at hg) (hTY 0 (by decide)) (am_ok_eq h4) hd (fun H1 locs1 hP1 hD1 hS1 => kk H1 locs1 ls hP1 hD1 hS1 hl)
  -- castore
  · obtain ⟨a, j, x, r, rfl, h2⟩ := am_rii_eq hst
    cases hn (by simp [am_len])
    obtain ⟨t, n1, g, hg, h3⟩ := am_row_eq h2
    obtain ⟨h4, h5⟩ := am_if h3; cases h5
    simp only [Bool.and_eq_true, beq_iff_eq] at h4
    obtain ⟨rfl, h4⟩ := h4
    rw [am_ws_set] at kk
    exact va_cast hx hb hK hP hD hS a 1 (am_ws_at hg) (hTY 1 (by decide)) (am_ok_eq h4) hd (fun H1 locs1 hP1 hD1 hS1 => kk H1 locs1 ls hP1 hD1 hS1 hl)
  -- bastore
  · obtain ⟨a, j, x, r, rfl, h2⟩ := am_rii_eq hst
    cases hn (by simp [am_len])
    obtain ⟨t, n1, g, hg, h3⟩ := am_row_eq h2
    obtain ⟨h4, h5⟩ := am_if h3; cases h5
    simp only [Bool.and_eq_true, Bool.or_eq_true, beq_iff_eq] at h4
    obtain ⟨h6, h4⟩ := h4
    rw [am_ws_set] at kk
    rcases h6 with rfl | rfl
    · exact va_zast hx hb hK hP hD hS a 2 (am_ws_at hg) (hTY 2 (by decide)) (am_ok_eq h4) hd (fun H1 locs1 hP1 hD1 hS1 => kk H1 locs1 ls hP1 hD1 hS1 hl)
    · exact va_bast hx hb hK hP hD hS a 3 (am_ws_at hg) (hTY 3 (by decide)) (am_ok_eq h4) hd (fun H1 locs1 hP1 hD1 hS1 => kk H1 locs1 ls hP1 hD1 hS1 hl)
  -- lastore
  · obtain ⟨a, j, x, r, rfl, h2⟩ := am_ril_eq hst
    cases hn (by simp [am_len])
    obtain ⟨t, n1, g, hg, h3⟩ := am_rowl_eq h2
    obtain ⟨h4, h5⟩ := am_if h3; cases h5
    simp only [Bool.and_eq_true, beq_iff_eq] at h4
    obtain ⟨rfl, h4⟩ := h4
    rw [am_ws_set] at kk
    exact va_last hx hb hK hP hD hS a 4 (am_ws_at hg) (hTY 4 (by decide)) (am_ok_eq h4) hd (fun H1 locs1 hP1 hD1 hS1 => kk H1 locs1 ls hP1 hD1 hS1 hl)
  -- arraylength
  · obtain ⟨a, r, rfl, h2⟩ := am_r1_eq hst
    cases hn (by simp [am_len])
    split at h2
    · next q hq =>
      cases h2
      exact va_tlen hx hb (hRO a q.1 q.2 hq) hS rfl hd (kk H locs ls hP hD hS hl)
    · split at h2
      · next t x hg =>
        obtain ⟨h4, h5⟩ := am_if h2; cases h5
        exact va_alen hx hb hK hP a t (am_ws_at hg) (hTY t (of_decide_eq_true h4)) rfl hd (kk H locs ls hP hD hS hl)
      · cases h2
  · cases hst
end AM1
theorem am_step_len {fl : Nat → Option (Nat × Nat × FieldType × Bool)} {kc : Nat → Option Value} {kl : Nat → Option Int64} {gs : Nat → Option Value} {ro : Nat → Option (Nat × (Nat → Int32))} {ini : Bool} {nL : Nat} {i : Instr} {pc pc' : Nat} {lv lv' : am_L} {st st' : List Value} {h h' : List va_E} (hst : am_step fl kc kl gs ro ini nL i pc lv st h = some (pc', lv', st', h')) : h'.length = h.length := by
  unfold am_step at hst
  split at hst
  all_goals first
    | (cases hst; done)
    | (cases hst; rfl)
    | (obtain ⟨_, _, h2⟩ := am_gi_eq hst; first | (cases h2; rfl) | (obtain ⟨_, h4⟩ := am_if h2; cases h4; rfl))
    | (obtain ⟨_, _, h2⟩ := am_gl_eq hst; cases h2; rfl)
    | (obtain ⟨_, _, h2⟩ := am_gr_eq hst; cases h2; rfl)
    | (obtain ⟨_, _, _, h2⟩ := am_i1_eq hst; first | (cases h2; rfl) | (obtain ⟨_, h4⟩ := am_if h2; first | (cases h4; rfl) | (obtain ⟨_, _, h5⟩ := Option.bind_eq_some_iff.mp h4; cases h5; rfl)) | (obtain ⟨_, _, h4⟩ := Option.bind_eq_some_iff.mp h2; first | (cases h4; rfl) | (obtain ⟨_, h5⟩ := am_if h4; cases h5; rfl)))
    | (obtain ⟨_, _, _, _, h2⟩ := am_i2_eq hst; first | (cases h2; rfl) | (obtain ⟨_, _, h4⟩ := Option.bind_eq_some_iff.mp h2; cases h4; rfl))
    | (obtain ⟨_, _, _, h2⟩ := am_l1_eq hst; first | (cases h2; rfl) | (obtain ⟨_, h4⟩ := am_if h2; cases h4; rfl))
    | (obtain ⟨_, _, _, _, h2⟩ := am_l2_eq hst; cases h2; rfl)
    | (obtain ⟨_, _, _, _, h2⟩ := am_li_eq hst; cases h2; rfl)
    | (obtain ⟨_, _, h2⟩ := Option.bind_eq_some_iff.mp hst; cases h2; rfl)
    | (obtain ⟨_, _, _, h2⟩ := am_r1_eq hst; first | (obtain ⟨_, h4⟩ := am_if h2; cases h4; rfl) | (obtain ⟨_, _, h3⟩ := Option.bind_eq_some_iff.mp h2; obtain ⟨_, _, _, h4⟩ := am_obj_eq h3; obtain ⟨_, h6⟩ := am_if h4; obtain ⟨_, _, h7⟩ := Option.bind_eq_some_iff.mp h6; cases h7; rfl) | (split at h2 <;> first | (cases h2; done) | (cases h2; rfl) | (split at h2 <;> first | (cases h2; done) | (obtain ⟨_, h5⟩ := am_if h2; cases h5; rfl))))
    | (obtain ⟨_, _, _, _, h2⟩ := am_ri_eq hst; first | (obtain ⟨_, _, _, _, h3⟩ := am_row_eq h2; obtain ⟨_, h5⟩ := am_if h3; cases h5; rfl) | (obtain ⟨_, _, _, _, h3⟩ := am_rowl_eq h2; obtain ⟨_, h5⟩ := am_if h3; cases h5; rfl) | (split at h2 <;> first | (obtain ⟨_, h4⟩ := am_if h2; cases h4; rfl) | (obtain ⟨_, _, _, _, h3⟩ := am_row_eq h2; obtain ⟨_, h5⟩ := am_if h3; cases h5; rfl)))
    | (obtain ⟨_, _, _, _, _, h2⟩ := am_rii_eq hst; obtain ⟨_, _, _, _, h3⟩ := am_row_eq h2; obtain ⟨_, h5⟩ := am_if h3; cases h5; exact List.length_set)
    | (obtain ⟨_, _, _, _, _, h2⟩ := am_ril_eq hst; obtain ⟨_, _, _, _, h3⟩ := am_rowl_eq h2; obtain ⟨_, h5⟩ := am_if h3; cases h5; exact List.length_set)
    | (split at hst <;> first | (cases hst; done) | (obtain ⟨_, h4⟩ := am_if hst; cases h4; rfl))
    | (split at hst <;> first | (cases hst; done) | (obtain ⟨_, _, h3⟩ := Option.bind_eq_some_iff.mp hst; obtain ⟨_, _, _, h4⟩ := am_obj_eq h3; obtain ⟨_, h6⟩ := am_if h4; cases h6; exact List.length_set))
end
section
abbrev am_O : Type := Option Value ⊕ Nat
/-- how a run ends: its outcome, the cells, how many cells and slots it made -/
abbrev am_R : Type := am_O × List va_E × Nat × Nat
/-- no place from n on, but for the constants' -/
def am_old (n : Nat) (v : Value) : Bool := match v with
  | .ref i => decide (i < n) || decide (1000 ≤ i)
  | _ => true
def am_oldL (n : Nat) (lv : am_L) (st : List Value) : Bool := lv.all (fun q => am_old n q.2) && st.all (am_old n)
def am_oldE (n : Nat) (e : va_E) : Bool := match e with
  | .inl _ => true
  | .inr o => o.2.all (am_old n)
def am_oldH (n : Nat) (h : List va_E) : Bool := h.all (am_oldE n)
def am_pop (vir : Bool) (n : Nat) (st : List Value) : Option (List Value × List Value) := if decide (n ≤ st.length) = true then (match vir with
  | true => match st.drop n with
    | .ref a :: r => some (.ref a :: (st.take n).reverse, r)
    | _ => none
  | false => some ((st.take n).reverse, st.drop n)) else none
def am_nk (t : ArrayType) : Option Nat := match t with
  | .int => some 0
  | .char => some 1
  | .boolean => some 2
  | .byte => some 3
  | .long => some 4
  | _ => none
def am_zero (t n : Nat) : vp_A := if t = 4 then (n, .inr (.inl fun _ => 0)) else (n, .inl fun _ => 0)
/-- what a call's kind is: 0 virtual, 1 static, 2 a constructor, 3 a nest mate's -/
def am_vir (k : Nat) : Bool := !(k == 1)
/-- the receiver is of the class ci -/
def am_rcv (as : List Value) (h : List va_E) (ci : Nat) : Bool := match as with
  | .ref a :: _ => (match h[a]? with
    | some (.inr o) => o.1 == ci
    | _ => false)
  | _ => false
/-- a method's run: kk steps at most -/
def am_exec (fetch : Nat → Option Instr) (stp : Instr → Nat → am_L → List Value → List va_E → Option am_F) (cal : Instr → Option (Nat × Nat × Nat × Nat)) (oi : Nat → Bool) (nw : Nat → Option (Nat × List Value)) (run : Nat → List Value → List va_E → Option am_R) (thr : Nat → Option Nat) (ret : Option FieldType) (xc xs : Nat) : Nat → Nat → am_L → List Value → List va_E → Option am_R
  | 0, _, _, _, _ => none
  | kk + 1, pc, lv, st, h => match thr pc with
    | some e => some (.inr e, h, xc, xs)
    | none => match fetch pc with
      | none => none
      | some i => match i with
        | .return_ => if (ret.isNone && st.isEmpty) = true then some (.inl none, h, 0, 0) else none
        | .ireturn => match st with
          | [.int x] => match ret with
            | some ty => if decide (narrow ty (.int x) = .int x) = true then some (.inl (some (.int x)), h, 0, 0) else none
            | none => none
          | _ => none
        | .new k => (nw k).bind fun q => if (decide (h.length < 1000) && (am_oldL h.length lv st && am_oldH h.length h)) = true then (am_exec fetch stp cal oi nw run thr ret xc xs kk (pc + 3) lv (.ref h.length :: st) (h ++ [.inr q])).bind fun r => some (r.1, r.2.1, r.2.2.1 + 1, r.2.2.2 + q.2.length) else none
        | .newarray t => am_i1 st fun x r0 => (am_nk t).bind fun t0 => if (decide (¬ x < 0) && (decide (x.toNatClampNeg ≤ 65536) && (decide (h.length < 1000) && (am_oldL h.length lv st && am_oldH h.length h)))) = true then (am_exec fetch stp cal oi nw run thr ret xc xs kk (pc + 2) lv (.ref h.length :: r0) (h ++ [.inl (t0, am_zero t0 x.toNatClampNeg)])).bind fun r => some (r.1, r.2.1, r.2.2.1 + 1, r.2.2.2 + x.toNatClampNeg) else none
        | _ => match (match i with
            | .invokespecial k => oi k
            | _ => false) with
          | true => am_r1 st fun _ r => if decide ((r.map fun v => v.category).sum ≤ 8) = true then am_exec fetch stp cal oi nw run thr ret xc xs kk (pc + 3) lv r h else none
          | false => match cal i with
            | some q => (am_pop (am_vir q.1) q.2.2.1 st).bind fun w => if (decide ((w.2.map fun v => v.category).sum ≤ 8) && ((q.1 != 0) || am_rcv w.1 h q.2.2.2)) = true then (run q.2.1 w.1 h).bind fun r => match r.1 with
                | .inr e => if decide (q.1 < 2) = true then some (.inr e, r.2) else none
                | .inl v => if (decide (h.length ≤ r.2.1.length) && (r.2.2.1 == 0 || am_oldL h.length lv w.2)) = true then (am_exec fetch stp cal oi nw run thr ret xc xs kk (pc + 3) lv (v.toList ++ w.2) r.2.1).bind fun r2 => some (r2.1, r2.2.1, r.2.2.1 + r2.2.2.1, r.2.2.2 + r2.2.2.2) else none
                else none
            | none => (stp i pc lv st h).bind fun q => am_exec fetch stp cal oi nw run thr ret xc xs kk q.1 q.2.1 q.2.2.1 q.2.2.2
theorem am_exec_s (fetch : Nat → Option Instr) (stp : Instr → Nat → am_L → List Value → List va_E → Option am_F) (cal : Instr → Option (Nat × Nat × Nat × Nat)) (oi : Nat → Bool) (nw : Nat → Option (Nat × List Value)) (run : Nat → List Value → List va_E → Option am_R) (thr : Nat → Option Nat) (ret : Option FieldType) (xc xs : Nat) (kk pc : Nat) (lv : am_L) (st : List Value) (h : List va_E) : am_exec fetch stp cal oi nw run thr ret xc xs (kk + 1) pc lv st h = (match thr pc with
    | some e => some (.inr e, h, xc, xs)
    | none => match fetch pc with
      | none => none
      | some i => match i with
        | .return_ => if (ret.isNone && st.isEmpty) = true then some (.inl none, h, 0, 0) else none
        | .ireturn => match st with
          | [.int x] => match ret with
            | some ty => if decide (narrow ty (.int x) = .int x) = true then some (.inl (some (.int x)), h, 0, 0) else none
            | none => none
          | _ => none
        | .new k => (nw k).bind fun q => if (decide (h.length < 1000) && (am_oldL h.length lv st && am_oldH h.length h)) = true then (am_exec fetch stp cal oi nw run thr ret xc xs kk (pc + 3) lv (.ref h.length :: st) (h ++ [.inr q])).bind fun r => some (r.1, r.2.1, r.2.2.1 + 1, r.2.2.2 + q.2.length) else none
        | .newarray t => am_i1 st fun x r0 => (am_nk t).bind fun t0 => if (decide (¬ x < 0) && (decide (x.toNatClampNeg ≤ 65536) && (decide (h.length < 1000) && (am_oldL h.length lv st && am_oldH h.length h)))) = true then (am_exec fetch stp cal oi nw run thr ret xc xs kk (pc + 2) lv (.ref h.length :: r0) (h ++ [.inl (t0, am_zero t0 x.toNatClampNeg)])).bind fun r => some (r.1, r.2.1, r.2.2.1 + 1, r.2.2.2 + x.toNatClampNeg) else none
        | _ => match (match i with
            | .invokespecial k => oi k
            | _ => false) with
          | true => am_r1 st fun _ r => if decide ((r.map fun v => v.category).sum ≤ 8) = true then am_exec fetch stp cal oi nw run thr ret xc xs kk (pc + 3) lv r h else none
          | false => match cal i with
            | some q => (am_pop (am_vir q.1) q.2.2.1 st).bind fun w => if (decide ((w.2.map fun v => v.category).sum ≤ 8) && ((q.1 != 0) || am_rcv w.1 h q.2.2.2)) = true then (run q.2.1 w.1 h).bind fun r => match r.1 with
                | .inr e => if decide (q.1 < 2) = true then some (.inr e, r.2) else none
                | .inl v => if (decide (h.length ≤ r.2.1.length) && (r.2.2.1 == 0 || am_oldL h.length lv w.2)) = true then (am_exec fetch stp cal oi nw run thr ret xc xs kk (pc + 3) lv (v.toList ++ w.2) r.2.1).bind fun r2 => some (r2.1, r2.2.1, r.2.2.1 + r2.2.2.1, r.2.2.2 + r2.2.2.2) else none
                else none
            | none => (stp i pc lv st h).bind fun q => am_exec fetch stp cal oi nw run thr ret xc xs kk q.1 q.2.1 q.2.2.1 q.2.2.2) := rfl
theorem am_tv_old {ad ad' : Nat → Nat} {n : Nat} (ha : ∀ i, (i < n ∨ 1000 ≤ i) → ad' i = ad i) {v : Value} (h : am_old n v = true) : am_tv ad' v = am_tv ad v := by
  cases v with
  | ref i =>
    unfold am_old at h
    rw [Bool.or_eq_true] at h
    show Value.ref (ad' i) = Value.ref (ad i)
    rw [ha i (h.imp of_decide_eq_true of_decide_eq_true)]
  | _ => rfl
theorem am_st_old {ad ad' : Nat → Nat} {n : Nat} (ha : ∀ i, (i < n ∨ 1000 ≤ i) → ad' i = ad i) {st : List Value} (h : st.all (am_old n) = true) : st.map (am_tv ad') = st.map (am_tv ad) := List.map_congr_left fun v hv => am_tv_old ha (List.all_eq_true.mp h v hv)
theorem am_lv_old {ad ad' : Nat → Nat} {n : Nat} (ha : ∀ i, (i < n ∨ 1000 ≤ i) → ad' i = ad i) {lv : am_L} (h : lv.all (fun q => am_old n q.2) = true) : am_lv ad' lv = am_lv ad lv := List.map_congr_left fun q hq => by rw [am_tv_old ha (List.all_eq_true.mp h q hq)]
theorem am_te_old {ad ad' : Nat → Nat} {n : Nat} (ct : Nat → Nat) (ha : ∀ i, (i < n ∨ 1000 ≤ i) → ad' i = ad i) {e : va_E} (h : am_oldE n e = true) : am_te ad' ct e = am_te ad ct e := by
  cases e with
  | inl x => rfl
  | inr o =>
    show Sum.inr (o.1, o.2.map (am_tv ad')) = Sum.inr (o.1, o.2.map (am_tv ad))
    rw [am_st_old ha h]
theorem am_ws_old {ad ad' : Nat → Nat} {n : Nat} (ct : Nat → Nat) (ha : ∀ i, (i < n ∨ 1000 ≤ i) → ad' i = ad i) {h : List va_E} (hn : h.length ≤ n) (ho : am_oldH n h = true) : am_ws ad' ct h = am_ws ad ct h := by
  unfold am_ws
  apply List.mapIdx_eq_mapIdx_iff.mpr
  intro i hi
  rw [ha i (Or.inl (by omega)), am_te_old ct ha (List.all_eq_true.mp ho _ (List.getElem_mem hi))]
end
section
/-- what holds ahead of a run: the cells, the tables, the constants (K0), at the addresses ad -/
def am_Pre (D : va_G) (cl : List vw_C) (ct : Nat → Nat) (tys : List (ClassId × FieldType)) (ak : Nat → Nat) (K0 : (Nat → Prop) → State → Prop) (ad : Nat → Nat) (h : List va_E) (sz : Nat) (as : List Value) : Array Value → State → Prop :=
  va_Pc (as.map (am_tv ad)) (fun U => U.heap.size = sz ∧ va_P D cl (am_ws ad ct h) U.heap ∧ va_K D cl tys U ∧ va_D (fun _ => True) (am_ws ad ct h) ∧ (∀ i, 1000 ≤ i → ad i = ak i) ∧ K0 (va_A (am_ws ad ct h) sz) U)
/-- an outcome as the machine has it; X: what an exception's cell is -/
def am_oc (X : Nat → Nat → State → Prop) (o : am_O) (ad : Nat → Nat) (oc : Outcome) (t : State) : Prop := match o with
  | .inl v => oc = .returned (v.map (am_tv ad))
  | .inr e => ∃ a, oc = .threw a ∧ X e a t
/-- what holds behind it -/
def am_Post (D : va_G) (cl : List vw_C) (ct : Nat → Nat) (tys : List (ClassId × FieldType)) (X : Nat → Nat → State → Prop) (ad : Nat → Nat) (n0 : Nat) (A : Nat → Prop) (o : am_O) (h' : List va_E) (nc : Nat) : Array Value → State → Outcome → State → Prop :=
  fun _ st oc t => ∃ ad' : Nat → Nat, (∀ i, (i < n0 ∨ 1000 ≤ i) → ad' i = ad i) ∧ (nc = 0 → ad' = ad) ∧ am_oc X o ad' oc t ∧ va_P D cl (am_ws ad' ct h') t.heap ∧ va_K D cl tys t ∧ va_D A (am_ws ad' ct h') ∧ va_F A st t
/-- what is asked of the constants' words -/
def am_K0 (K0 : (Nat → Prop) → State → Prop) : Prop := (∀ (A : Nat → Prop) (U : State) (g : JFrame) (mk : MethodId) (a : Array Value), K0 A U → K0 A (U.calling g mk a)) ∧ ∀ (A A' : Nat → Prop) (s U : State), K0 A s → s.WarmedH U.vm → (∀ q, q < s.heap.size → ¬ A q → U.heap[q]? = s.heap[q]?) → (∀ q, A' q → A q) → K0 A' U
/-- no reference -/
def am_nor (v : Value) : Bool := match v with
  | .ref _ => false
  | _ => true
section AM2
variable {p : Program} {l : Launch} {e : Env} {R : Room} {s : State} {m : MethodId} {args : Array Value} {below : List Frame} {meth : Method} {c : Code} {H : Heap} {locs : List Loc} {cells slots : Nat} {Q : State → Prop}
variable {cc : ByteArray} {D : va_G} {cl : List vw_C} {A : Nat → Prop} {tys : List (ClassId × FieldType)} {ad ct ak : Nat → Nat} {Ts : List Jvm.Cond} {own : String} {nL : Nat} {K0 : (Nat → Prop) → State → Prop} {X : Nat → Nat → State → Prop}
theorem am_free {h : List va_E} (hD : va_D A (am_ws ad ct h)) (hS : va_S A s.heap H locs) (hA : ∀ q, s.heap.size ≤ q → A q) : ∀ q, va_A (am_ws ad ct h) H.size q → A q := by
  intro q hq
  rcases hq with ⟨k, e0, hk⟩ | hq
  · exact hD.2 k _ hk
  · exact hA q (Nat.le_trans hS.1 hq)
theorem am_blind {h : List va_E} {sz : Nat} {as : List Value} (h0 : am_K0 K0) : FrameBlind (am_Pre D cl ct tys ak K0 ad h sz as) := by
  intro a U g mk q
  obtain ⟨q0, q1, qP, qK, qD, qa, q6⟩ := q
  exact ⟨q0, q1, qP, va_K.moved (u := U) (U := U.calling g mk a) (Vm.Alike.refl U.vm) qK, qD, qa, h0.1 _ _ _ _ _ q6⟩
theorem am_ahead {h : List va_E} {as : List Value} (h0 : am_K0 K0) (hK : va_K D cl tys s) (hP : va_P D cl (am_ws ad ct h) H) (hD : va_D A (am_ws ad ct h)) (hS : va_S A s.heap H locs) (hA : ∀ q, s.heap.size ≤ q → A q) (hak : ∀ i, 1000 ≤ i → ad i = ak i) (hK0 : K0 A s) {av : Array Value} (hav : av = (as.map (am_tv ad)).toArray) : ∀ U : State, U.heap = H → s.WarmedH U.vm → am_Pre D cl ct tys ak K0 ad h H.size as av U := by
  intro U hU hW
  refine ⟨hav, by rw [hU], by rw [hU]; exact hP, va_K.moved hW.alike hK, hD.weaken (fun _ _ _ _ => trivial), hak, ?_⟩
  exact h0.2 A _ s U hK0 hW (fun q h1 h2 => by rw [hU]; exact hS.2.1 q h1 h2) (am_free hD hS hA)
/-- behind a call that came back -/
theorem am_use {h h' : List va_E} {av : Array Value} {v : Option Value} {nc ns pc : Nat} {ls : Array Slot} {st0 rest : List Value}
    (hr : va_Run p l e R s m args below meth c H locs cells slots nc ns (F0 m pc ls st0) rest (am_Post D cl ct tys X ad h.length (va_A (am_ws ad ct h) H.size) (.inl v) h' nc av) (va_A (am_ws ad ct h) H.size))
    (hD : va_D A (am_ws ad ct h)) (hS : va_S A s.heap H locs) (hA : ∀ q, s.heap.size ≤ q → A q)
    (kk : ∀ (ad' : Nat → Nat) (H1 : Heap) (locs1 : List Loc), (∀ i, (i < h.length ∨ 1000 ≤ i) → ad' i = ad i) → (nc = 0 → ad' = ad) → va_P D cl (am_ws ad' ct h') H1 → va_D A (am_ws ad' ct h') → va_S A s.heap H1 locs1 → W p l e R s m args below meth c H1 locs1 (cells + nc) (slots + ns) Q (F0 m (pc + 3) ls ((v.toList.map (am_tv ad')) ++ rest))) :
    W p l e R s m args below meth c H locs cells slots Q (F0 m pc ls st0) := by
  have hf := am_free hD hS hA
  intro T hT X1
  obtain ⟨v1, st₀, t, T', L, h0, X', hL, e1, e2, ⟨ad', a1, a2, a3, a4, a5, a6, hz, hk⟩, st⟩ := hr T hT X1
  have a3 : Outcome.returned v1 = .returned (v.map (am_tv ad')) := a3
  cases a3
  rw [h0] at hz hk
  have hS1 : va_S A s.heap T'.heap (locs ++ L) := ⟨Nat.le_trans hS.1 (by rw [e1]; exact hz), fun q h1 h2 => by rw [e1, hk q (Nat.lt_of_lt_of_le h1 hS.1) (fun z => h2 (hf q z))]; exact hS.2.1 q h1 h2, fun q hq => by
      rcases List.mem_append.mp hq with h | h
      · exact hS.2.2 q h
      · exact hf _ (hL q h)⟩
  obtain ⟨t2, b1, b2⟩ := kk ad' T'.heap (locs ++ L) a1 a2 (by rw [e1]; exact a4) (a6.weaken (fun k q _ z => hf q.1 z)) hS1 T' rfl X'
  refine ⟨t2, st t2 ?_, b2⟩
  have ev : (v.map (am_tv ad')).toList = v.toList.map (am_tv ad') := by cases v <;> rfl
  rw [ev]
  exact b1
/-- a new object -/
theorem am_new {h : List va_E} (hx : p.tables.exec = Jvm.exec) (hb : c.code = cc) (hts : ∀ w ∈ Ts, w.before args s = true) {C : String} {T : u_T} {N ci index : Nat} (hin : ∀ w ∈ u_ws C T N, w ∈ Ts) (ty : Nat → FieldType) (hty : ∀ k, k < N → parseFieldDescriptor (T k).2.2.1 = some (ty k)) (hown : s.vm.findClass own = some m.cls) (hcl : Jvm.Cond.classLink own index C ∈ Ts) (hinst : Jvm.Cond.instantiable C N ∈ Ts) (hini : Jvm.Cond.initialized C ∈ Ts)
    (hK : va_K D cl tys s) (hP : va_P D cl (am_ws ad ct h) H) (hD : va_D A (am_ws ad ct h)) (hS : va_S A s.heap H locs) (hA : ∀ q, s.heap.size ≤ q → A q) (hc : cl[ci]? = some (C, T, N)) {fs : List Value} (hfs : ∀ j, j < N → defaultValue (ty j) = vp_V fs j) (hfn : ∀ v ∈ fs, am_nor v = true) (hcells : cells + 1 ≤ R.cells) (hslots : slots + N ≤ R.slots) {pc : Nat} {ls : Array Slot} {st : List Value} {lv : am_L} (hdg : decode cc pc = .ok (.new index, 3))
    (hl : lv_has ls nL (am_lv ad lv)) (hlen : h.length < 1000) (ho : am_oldL h.length lv st = true) (ho2 : am_oldH h.length h = true)
    (kk : ∀ (ad' : Nat → Nat) (H1 : Heap), (∀ i, (i < h.length ∨ 1000 ≤ i) → ad' i = ad i) → va_P D cl (am_ws ad' ct (h ++ [.inr (ci, fs)])) H1 → va_D A (am_ws ad' ct (h ++ [.inr (ci, fs)])) → va_S A s.heap H1 locs → lv_has ls nL (am_lv ad' lv) → W p l e R s m args below meth c H1 locs (cells + 1) (slots + N) Q (F0 m (pc + 3) ls ((Value.ref h.length :: st).map (am_tv ad')))) :
    W p l e R s m args below meth c H locs cells slots Q (F0 m pc ls (st.map (am_tv ad))) := by
  refine va_new (fs := fs) hx hb hts hin ty hty hown (hts _ hcl) (hts _ hinst) (hts _ hini) hK hP hD hS hA hc hfs hcells hslots hdg (fun q H1 hP1 hD1 hS1 => ?_)
  let ad' : Nat → Nat := fun i => if i = h.length then q else ad i
  have ha : ∀ i, (i < h.length ∨ 1000 ≤ i) → ad' i = ad i := fun i hi => if_neg (by omega)
  unfold am_oldL at ho
  rw [Bool.and_eq_true] at ho
  have ef : fs.map (am_tv ad') = fs := by
    conv => rhs; rw [← List.map_id fs]
    apply List.map_congr_left
    intro v hv
    have := hfn v hv
    cases v with
    | ref i => cases this
    | _ => rfl
  have ew : am_ws ad' ct (h ++ [.inr (ci, fs)]) = am_ws ad ct h ++ [(q, .inr (ci, fs))] := by
    have e0 : am_ws ad' ct (h ++ [.inr (ci, fs)]) = am_ws ad' ct h ++ [(ad' h.length, am_te ad' ct (.inr (ci, fs)))] := by simp [am_ws, List.mapIdx_append]
    rw [e0, am_ws_old ct ha (Nat.le_refl _) ho2]
    have e1 : ad' h.length = q := if_pos rfl
    rw [e1]
    show _ ++ [(q, Sum.inr (ci, fs.map (am_tv ad')))] = _
    rw [ef]
  have k1 := kk ad' H1 ha (by rw [ew]; exact hP1) (by rw [ew]; exact hD1) hS1 (by rw [am_lv_old ha ho.1]; exact hl)
  have es : (Value.ref h.length :: st).map (am_tv ad') = .ref q :: st.map (am_tv ad) := by
    rw [List.map_cons, am_st_old ha ho.2]
    show Value.ref (ad' h.length) :: _ = _
    rw [show ad' h.length = q from if_pos rfl]
  rw [es] at k1
  exact k1
end AM2
end
section
section AM3
variable {p : Program} {l : Launch} {e : Env} {R : Room} {s : State} {m : MethodId} {args : Array Value} {below : List Frame} {meth : Method} {c : Code} {H : Heap} {locs : List Loc} {cells slots : Nat} {Q : State → Prop}
variable {cc : ByteArray} {D : va_G} {cl : List vw_C} {A : Nat → Prop} {tys : List (ClassId × FieldType)} {ad ct ak : Nat → Nat} {Ts : List Jvm.Cond} {own : String} {nL : Nat} {K0 : (Nat → Prop) → State → Prop} {X : Nat → Nat → State → Prop}
theorem am_nk_ty {t : ArrayType} {t0 : Nat} (h : am_nk t = some t0) : t0 < 5 ∧ am_aty t0 = newarray.typeOf t ∧ componentBytes (newarray.typeOf t) ≤ 8 ∧ (∀ (cA n : Nat), vp_cell cA (am_zero t0 n) = arrV cA n (fun _ => defaultValue (newarray.typeOf t))) ∧ ∀ (U : State) (cA : ClassId), va_RA U cA (am_aty t0) → U.vm.findClass ("[" ++ (newarray.typeOf t).toString) = some cA := by
  cases t <;> cases h <;> exact ⟨by decide, rfl, by decide, fun _ _ => rfl, fun _ _ z => z⟩
/-- a new row -/
theorem am_newa {h : List va_E} (hx : p.tables.exec = Jvm.exec) (hb : c.code = cc) (hts : ∀ w ∈ Ts, w.before args s = true) {t : ArrayType} {t0 : Nat} (ht : am_nk t = some t0) (harr : Jvm.Cond.arrayClass (newarray.typeOf t) ∈ Ts) (hTY : am_TY tys ct)
    (hK : va_K D cl tys s) (hP : va_P D cl (am_ws ad ct h) H) (hD : va_D A (am_ws ad ct h)) (hS : va_S A s.heap H locs) (hA : ∀ q, s.heap.size ≤ q → A q) {x : Int32} (hn : ¬ x < 0) (hN : x.toNatClampNeg ≤ 65536) (hcells : cells + 1 ≤ R.cells) (hslots : slots + x.toNatClampNeg ≤ R.slots) {pc : Nat} {ls : Array Slot} {st : List Value} {lv : am_L} (hdg : decode cc pc = .ok (.newarray t, 2))
    (hl : lv_has ls nL (am_lv ad lv)) (hlen : h.length < 1000) (ho : am_oldL h.length lv st = true) (ho2 : am_oldH h.length h = true)
    (kk : ∀ (ad' : Nat → Nat) (H1 : Heap), (∀ i, (i < h.length ∨ 1000 ≤ i) → ad' i = ad i) → va_P D cl (am_ws ad' ct (h ++ [.inl (t0, am_zero t0 x.toNatClampNeg)])) H1 → va_D A (am_ws ad' ct (h ++ [.inl (t0, am_zero t0 x.toNatClampNeg)])) → va_S A s.heap H1 locs → lv_has ls nL (am_lv ad' lv) → W p l e R s m args below meth c H1 locs (cells + 1) (slots + x.toNatClampNeg) Q (F0 m (pc + 2) ls ((Value.ref h.length :: st).map (am_tv ad')))) :
    W p l e R s m args below meth c H locs cells slots Q (F0 m pc ls ((Value.int x :: st).map (am_tv ad))) := by
  obtain ⟨k1, k2, k3, k4, k5⟩ := am_nk_ty ht
  refine va_newaK hx hb (hts _ harr) (g := F0 m pc ls ((Value.int x :: st).map (am_tv ad))) rfl hdg (rest := st.map (am_tv ad)) rfl hn rfl (Nat.le_trans (Nat.mul_le_mul hN k3) (by decide)) hcells hslots rfl (fun H1 cA e1 z1 o1 hof hfc => ?_)
  have hcA : cA = ct t0 := by
    have h5 := k5 s (ct t0) (hK.2 t0 _ (hTY t0 k1)).2
    exact Option.some.inj (hfc.symm.trans h5)
  subst hcA
  let ad' : Nat → Nat := fun i => if i = h.length then H.size else ad i
  have ha : ∀ i, (i < h.length ∨ 1000 ≤ i) → ad' i = ad i := fun i hi => if_neg (by omega)
  have ea : ad' h.length = H.size := if_pos rfl
  unfold am_oldL at ho
  rw [Bool.and_eq_true] at ho
  have ew : am_ws ad' ct (h ++ [.inl (t0, am_zero t0 x.toNatClampNeg)]) = am_ws ad ct h ++ [(H.size, .inl (ct t0, am_zero t0 x.toNatClampNeg))] := by
    have e0 : am_ws ad' ct (h ++ [.inl (t0, am_zero t0 x.toNatClampNeg)]) = am_ws ad' ct h ++ [(ad' h.length, am_te ad' ct (.inl (t0, am_zero t0 x.toNatClampNeg)))] := by simp [am_ws, List.mapIdx_append]
    rw [e0, am_ws_old ct ha (Nat.le_refl _) ho2, ea]
    rfl
  have hk : ∀ (k : Nat) (y : Nat × va_E), (am_ws ad ct h)[k]? = some y → H1[y.1]? = H[y.1]? := fun k y hy => o1 y.1 ((hP k y hy).lt)
  have hP1 : va_P D cl (am_ws ad ct h ++ [(H.size, .inl (ct t0, am_zero t0 x.toNatClampNeg))]) H1 := by
    refine (hP.kept hk).app (fun k y hy => ?_)
    have hz : k < 1 := (List.getElem?_eq_some_iff.mp hy).1
    rw [show k = 0 by omega] at hy
    cases hy
    show H1[H.size]? = some (vp_cell (ct t0) (am_zero t0 x.toNatClampNeg))
    rw [e1, k4]
  have hD1 : va_D A (am_ws ad ct h ++ [(H.size, .inl (ct t0, am_zero t0 x.toNatClampNeg))]) := hD.push hP rfl (hA _ hS.1)
  have hS1 : va_S A s.heap H1 locs := ⟨Nat.le_trans hS.1 (by omega), fun y h1 h2 => (o1 y (Nat.lt_of_lt_of_le h1 hS.1)).trans (hS.2.1 y h1 h2), hS.2.2⟩
  have kq := kk ad' H1 ha (by rw [ew]; exact hP1) (by rw [ew]; exact hD1) hS1 (by rw [am_lv_old ha ho.1]; exact hl)
  have es : (Value.ref h.length :: st).map (am_tv ad') = .ref H.size :: st.map (am_tv ad) := by
    rw [List.map_cons, am_st_old ha ho.2]
    show Value.ref (ad' h.length) :: _ = _
    rw [ea]
  rw [es] at kq
  exact kq
end AM3
end
section
/-- a method's room at depth d -/
def am_rm (d nc ns : Nat) : Room := { frames := d + 8, cells := nc, slots := ns, locals := d * 40 + 400 }
/-- what is asked of the calls' words; nm, by, mL, rt, wsM: a method's name, bytes, locals, answer, words -/
def am_CT (cal : Instr → Option (Nat × Nat × Nat × Nat)) (own : String) (cl : List vw_C) (Ts : List Jvm.Cond) (s : State) (nm : Nat → MethodName) (bt : Nat → ByteArray) (mL : Nat → Nat) (rt : Nat → Option FieldType) (wsM : Nat → List Jvm.Cond) : Prop := ∀ i q, cal i = some q → (∃ ws', wsM q.2.1 = Jvm.Cond.code (nm q.2.1) (bt q.2.1) (mL q.2.1) (rt q.2.1) :: ws') ∧ mL q.2.1 ≤ 20 ∧ ((nm q.2.1).cls ≠ "java/lang/invoke/MethodHandle" ∧ (nm q.2.1).cls ≠ "java/lang/invoke/VarHandle" ∧ (parseMethodDescriptor (nm q.2.1).desc).map (fun d => d.parameters.length) = some q.2.2.1) ∧
  ((q.1 = 0 ∧ ∃ index C T N, i = .invokevirtual index ∧ cl[q.2.2.2]? = some (C, T, N) ∧ (nm q.2.1).cls = C ∧ GoodIn Ts (wsV own index C (nm q.2.1) (wsM q.2.1))) ∨
   (q.1 = 1 ∧ ∃ index, i = .invokestatic index ∧ GoodIn Ts (va_wsS own index (nm q.2.1) (wsM q.2.1))) ∨
   (q.1 = 2 ∧ ∃ index, i = .invokespecial index ∧ rt q.2.1 = none ∧ GoodIn Ts (wsM q.2.1) ∧ Jvm.Cond.initialized (nm q.2.1).cls ∈ Ts ∧ Jvm.Cond.methodLink own index (nm q.2.1) ∈ Ts ∧ Jvm.Cond.instanceMethod (nm q.2.1) ∈ Ts ∧ (nm q.2.1).name = "<init>") ∨
   (q.1 = 3 ∧ ∃ index host, i = .invokespecial index ∧ rt q.2.1 = none ∧ GoodIn Ts (wsM q.2.1) ∧ Jvm.Cond.initialized (nm q.2.1).cls ∈ Ts ∧ va_Nw (.methodLinkNest own index (nm q.2.1) host) s ∧ Jvm.Cond.instanceMethod (nm q.2.1) ∈ Ts ∧ (nm q.2.1).name = "<init>"))
def am_OI (oi : Nat → Bool) (own : String) (Ts : List Jvm.Cond) : Prop := ∀ k, oi k = true → Jvm.Cond.methodLink own k Lib.objectInit ∈ Ts ∧ Jvm.Cond.instanceMethod Lib.objectInit ∈ Ts ∧ Jvm.Cond.code Lib.objectInit ⟨#[0xb1]⟩ 1 none ∈ Ts
def am_NW (nw : Nat → Option (Nat × List Value)) (own : String) (cl : List vw_C) (Ts : List Jvm.Cond) : Prop := ∀ k q, nw k = some q → ∃ (C : String) (T : u_T) (ty : Nat → FieldType), cl[q.1]? = some (C, T, q.2.length) ∧ (∀ w ∈ u_ws C T q.2.length, w ∈ Ts) ∧ (∀ j, j < q.2.length → parseFieldDescriptor (T j).2.2.1 = some (ty j)) ∧ Jvm.Cond.classLink own k C ∈ Ts ∧ Jvm.Cond.instantiable C q.2.length ∈ Ts ∧ Jvm.Cond.initialized C ∈ Ts ∧ (∀ j, j < q.2.length → defaultValue (ty j) = vp_V q.2 j) ∧ ∀ v ∈ q.2, am_nor v = true
def am_AR (Ts : List Jvm.Cond) : Prop := ∀ t t0, am_nk t = some t0 → Jvm.Cond.arrayClass (newarray.typeOf t) ∈ Ts
theorem am_pop_eq {vir : Bool} {n : Nat} {st : List Value} {w : List Value × List Value} (h : am_pop vir n st = some w) : (vir = true → ∃ a as, w.1 = .ref a :: as ∧ as.length = n ∧ st = as.reverse ++ .ref a :: w.2) ∧ (vir = false → w.1.length = n ∧ st = w.1.reverse ++ w.2) := by
  unfold am_pop at h
  obtain ⟨h1, h2⟩ := am_if h
  have h1 := of_decide_eq_true h1
  cases vir with
  | true =>
    refine ⟨fun _ => ?_, fun q => by cases q⟩
    simp only at h2
    split at h2
    · next a r hd =>
      cases h2
      refine ⟨a, (st.take n).reverse, rfl, by simp; omega, ?_⟩
      rw [List.reverse_reverse, ← hd, List.take_append_drop]
    · cases h2
  | false =>
    refine ⟨fun q => (by cases q), fun _ => ?_⟩
    cases h2
    exact ⟨by simp; omega, by simp⟩
section AM4
variable {p : Program} {l : Launch} {e : Env} {R : Room} {s : State} {m : MethodId} {args : Array Value} {below : List Frame} {meth : Method} {c : Code} {H : Heap} {locs : List Loc} {cells slots : Nat} {Q : State → Prop}
variable {cc : ByteArray} {D : va_G} {cl : List vw_C} {A : Nat → Prop} {tys : List (ClassId × FieldType)} {ad ct ak : Nat → Nat} {Ts : List Jvm.Cond} {own : String} {nL : Nat} {K0 : (Nat → Prop) → State → Prop} {X : Nat → Nat → State → Prop}
variable {cal : Instr → Option (Nat × Nat × Nat × Nat)} {nm : Nat → MethodName} {bt : Nat → ByteArray} {mL : Nat → Nat} {rt : Nat → Option FieldType} {wsM : Nat → List Jvm.Cond}
theorem am_cats (ad : Nat → Nat) (st : List Value) : ((st.map (am_tv ad)).map fun v => v.category).sum = (st.map fun v => v.category).sum := by
  rw [List.map_map]
  congr 1
  apply List.map_congr_left
  intro v _
  exact am_tv_cat ad v
set_option maxHeartbeats 1000000 in
/-- a call that comes back, of any kind -/
theorem am_callR (hx : p.tables.exec = Jvm.exec) (hb : c.code = cc) (hml : c.maxLocals = nL) (hts : ∀ w ∈ Ts, w.before args s = true) (hown : s.vm.findClass own = some m.cls) (hK : va_K D cl tys s) (h0 : am_K0 K0) (hCT : am_CT cal own cl Ts s nm bt mL rt wsM)
    {i : Instr} {q : Nat × Nat × Nat × Nat} (hq : cal i = some q) {d nc ns : Nat} {h h' : List va_E} {st : List Value} {w : List Value × List Value} {v : Option Value} (hw : am_pop (am_vir q.1) q.2.2.1 st = some w) (h8 : (w.2.map fun v => v.category).sum ≤ 8)
    (hrc : q.1 = 0 → am_rcv w.1 h q.2.2.2 = true)
    (hM : Met l (nm q.2.1) (wsM q.2.1) (am_rm d nc ns) (am_Pre D cl ct tys ak K0 ad h H.size w.1) (am_Post D cl ct tys X ad h.length (va_A (am_ws ad ct h) H.size) (.inl v) h' nc) nc ns (va_A (am_ws ad ct h) H.size))
    (hR : d + 9 ≤ R.frames ∧ (d + 1) * 40 + 400 ≤ R.locals) (hc : cells + nc ≤ R.cells) (hs : slots + ns ≤ R.slots) {pc : Nat} {ls : Array Slot} (hd : decode cc pc = .ok (i, 3)) (hls : ls.size = nL)
    (hP : va_P D cl (am_ws ad ct h) H) (hD : va_D A (am_ws ad ct h)) (hS : va_S A s.heap H locs) (hA : ∀ q, s.heap.size ≤ q → A q) (hak : ∀ i, 1000 ≤ i → ad i = ak i) (hK0 : K0 A s)
    (kk : ∀ (ad' : Nat → Nat) (H1 : Heap) (locs1 : List Loc), (∀ i, (i < h.length ∨ 1000 ≤ i) → ad' i = ad i) → (nc = 0 → ad' = ad) → va_P D cl (am_ws ad' ct h') H1 → va_D A (am_ws ad' ct h') → va_S A s.heap H1 locs1 → W p l e R s m args below meth c H1 locs1 (cells + nc) (slots + ns) Q (F0 m (pc + 3) ls ((v.toList.map (am_tv ad')) ++ w.2.map (am_tv ad)))) :
    W p l e R s m args below meth c H locs cells slots Q (F0 m pc ls (st.map (am_tv ad))) := by
  obtain ⟨⟨ws', hws⟩, hm20, hd3, hkind⟩ := hCT i q hq
  obtain ⟨hp1, hp2⟩ := am_pop_eq hw
  have hR2 : (am_rm d nc ns).frames + 1 ≤ R.frames ∧ 8 + (mL q.2.1 + 11) + (am_rm d nc ns).locals ≤ R.locals := by
    refine ⟨by show d + 8 + 1 ≤ _; omega, ?_⟩
    show 8 + (mL q.2.1 + 11) + (d * 40 + 400) ≤ _
    omega
  have hroom : ∀ (pc : Nat) (ls : Array Slot) (rest : List Value), 2 * (F0 m pc ls rest).monitorRoom + ((w.2.map (am_tv ad)).map fun v => v.category).sum ≤ 8 := fun pc ls rest => lv_room (by rw [am_cats]; exact h8)
  rcases hkind with ⟨k0, index, C, T, N, rfl, hcl, hC, hG⟩ | ⟨k1, index, rfl, hG⟩ | ⟨k2, index, rfl, hrt, hG, hini, hml2, hin, hy1⟩ | ⟨k3, index, host, rfl, hrt, hG, hini, hnw, hin, hy1⟩
  · obtain ⟨a, as, ew, el, est⟩ := hp1 (by rw [k0]; rfl)
    have hrc := hrc k0
    rw [ew] at hrc
    unfold am_rcv at hrc
    simp only at hrc
    split at hrc
    · next o ho =>
      have ho2 : o.1 = q.2.2.2 := by simpa using hrc
      have hav : (Value.ref (ad a) :: as.map (am_tv ad)).toArray = (w.1.map (am_tv ad)).toArray := by rw [ew]; rfl
      refine am_use (X := X) (rest := w.2.map (am_tv ad)) (va_runV (As := as.map (am_tv ad)) (b := ad a) ⟨hx, hb, hml, hown, hts⟩ hM (cwV q.2.2.1 hts hG hws rfl rfl ⟨hC, hd3⟩ hR2) ⟨am_blind h0, ?_, am_ahead h0 hK hP hD hS hA hak hK0 hav⟩ rfl (by rw [List.length_map]; exact el) hls ?_ (hroom _ _ _) hd ⟨hc, hs⟩) hD hS hA kk
      · have hat := am_ws_at (ad := ad) (ct := ct) ho
        have e1 : am_te ad ct (.inr o) = .inr (q.2.2.2, o.2.map (am_tv ad)) := by rw [← ho2]; rfl
        rw [e1] at hat
        exact va_recv hK hP hcl hat
      · show st.map (am_tv ad) = _
        rw [est, List.map_append, List.map_reverse]
        rfl
    · cases hrc
  · obtain ⟨el, est⟩ := hp2 (by rw [k1]; rfl)
    refine am_use (X := X) (rest := w.2.map (am_tv ad)) (va_runS (As := w.1.map (am_tv ad)) ⟨hx, hb, hml, hown, hts⟩ hM (va_cwS q.2.2.1 hts hG hws rfl rfl hd3 hR2) ⟨am_blind h0, am_ahead h0 hK hP hD hS hA hak hK0 rfl⟩ rfl (by rw [List.length_map]; exact el) hls ?_ (hroom _ _ _) hd ⟨hc, hs⟩) hD hS hA kk
    show st.map (am_tv ad) = _
    rw [est, List.map_append, List.map_reverse]
  · obtain ⟨a, as, ew, el, est⟩ := hp1 (by rw [k2]; rfl)
    have hav : (Value.ref (ad a) :: as.map (am_tv ad)).toArray = (w.1.map (am_tv ad)).toArray := by rw [ew]; rfl
    rw [hrt] at hws
    refine am_use (X := X) (rest := w.2.map (am_tv ad)) (va_runI (As := as.map (am_tv ad)) (b := ad a) ⟨hx, hb, hml, hown, hts⟩ hM (cwI q.2.2.1 hts hG hws rfl rfl (hts _ hini) (hts _ hml2) (hts _ hin) hy1 hd3 hR2) ⟨am_blind h0, am_ahead h0 hK hP hD hS hA hak hK0 hav⟩ rfl (by rw [List.length_map]; exact el) hls ?_ (hroom _ _ _) hd ⟨hc, hs⟩) hD hS hA kk
    show st.map (am_tv ad) = _
    rw [est, List.map_append, List.map_reverse]
    rfl
  · obtain ⟨a, as, ew, el, est⟩ := hp1 (by rw [k3]; rfl)
    have hav : (Value.ref (ad a) :: as.map (am_tv ad)).toArray = (w.1.map (am_tv ad)).toArray := by rw [ew]; rfl
    rw [hrt] at hws
    refine am_use (X := X) (rest := w.2.map (am_tv ad)) (va_runIN (As := as.map (am_tv ad)) (b := ad a) ⟨hx, hb, hml, hown, hts⟩ hM ⟨va_cnB q.2.2.1 hts hG hws rfl rfl hnw (hts _ hini) hd3 hR2, hy1, hts _ hin⟩ ⟨am_blind h0, am_ahead h0 hK hP hD hS hA hak hK0 hav⟩ rfl (by rw [List.length_map]; exact el) hls ?_ (hroom _ _ _) hd ⟨hc, hs⟩) hD hS hA kk
    show st.map (am_tv ad) = _
    rw [est, List.map_append, List.map_reverse]
    rfl
end AM4
end
section
section AM5
variable {p : Program} {l : Launch} {e : Env} {R : Room} {s : State} {m : MethodId} {args : Array Value} {below : List Frame} {meth : Method} {c : Code}
variable {cc : ByteArray} {D : va_G} {cl : List vw_C} {A : Nat → Prop} {tys : List (ClassId × FieldType)} {ct ak : Nat → Nat} {Ts : List Jvm.Cond} {own : String} {nL : Nat} {K0 : (Nat → Prop) → State → Prop} {X : Nat → Nat → State → Prop}
variable {cal : Instr → Option (Nat × Nat × Nat × Nat)} {nm : Nat → MethodName} {bt : Nat → ByteArray} {mL : Nat → Nat} {rt : Nat → Option FieldType} {wsM : Nat → List Jvm.Cond}
variable {fl : Nat → Option (Nat × Nat × FieldType × Bool)} {kc : Nat → Option Value} {kl : Nat → Option Int64} {gs : Nat → Option Value} {ro : Nat → Option (Nat × (Nat → Int32))} {ini : Bool}
variable {fetch : Nat → Option Instr} {oi : Nat → Bool} {nw : Nat → Option (Nat × List Value)} {run : Nat → List Value → List va_E → Option am_R} {thr : Nat → Option Nat} {ret : Option FieldType} {xc xs d : Nat}
/-- what one method's run stands on -/
def am_M (p : Program) (l : Launch) (s : State) (m : MethodId) (args : Array Value) (meth : Method) (c : Code) (R : Room) (cc : ByteArray) (D : va_G) (cl : List vw_C) (A : Nat → Prop) (tys : List (ClassId × FieldType)) (ct ak : Nat → Nat) (Ts : List Jvm.Cond) (own : String) (nL : Nat) (K0 : (Nat → Prop) → State → Prop) (cal : Instr → Option (Nat × Nat × Nat × Nat)) (nm : Nat → MethodName) (bt : Nat → ByteArray) (mL : Nat → Nat) (rt : Nat → Option FieldType) (wsM : Nat → List Jvm.Cond) (fl : Nat → Option (Nat × Nat × FieldType × Bool)) (kc : Nat → Option Value) (kl : Nat → Option Int64) (gs : Nat → Option Value) (ro : Nat → Option (Nat × (Nat → Int32))) (ini : Bool) (fetch : Nat → Option Instr) (oi : Nat → Bool) (nw : Nat → Option (Nat × List Value)) (ret : Option FieldType) (d : Nat) : Prop :=
  p.tables.exec = Jvm.exec ∧ c.code = cc ∧ c.maxLocals = nL ∧ (∀ w ∈ Ts, w.before args s = true) ∧ s.vm.findClass own = some m.cls ∧ meth.locks = false ∧ meth.sig.returnType = ret ∧ va_K D cl tys s ∧ am_K0 K0 ∧ K0 A s ∧ (∀ q, s.heap.size ≤ q → A q) ∧
  am_FL fl own cl Ts ∧ (∀ ad : Nat → Nat, (∀ i, 1000 ≤ i → ad i = ak i) → am_KC kc own ad Ts s ∧ am_GS gs own ad A Ts s ∧ am_RO ro ad A s) ∧ am_KL kl own Ts ∧ am_TY tys ct ∧ (ini = true → meth.name = "<init>") ∧ am_CT cal own cl Ts s nm bt mL rt wsM ∧ am_OI oi own Ts ∧ am_NW nw own cl Ts ∧ am_AR Ts ∧
  (∀ pc i, fetch pc = some i → ∃ n, decode cc pc = .ok (i, n) ∧ (am_len i ≠ 0 → n = am_len i)) ∧ d + 9 ≤ R.frames ∧ (d + 1) * 40 + 400 ≤ R.locals
set_option maxHeartbeats 4000000 in
set_option maxRecDepth 20000 in
/-- A RUN THAT COMES BACK -/
theorem am_exec_R (hm : am_M p l s m args meth c R cc D cl A tys ct ak Ts own nL K0 cal nm bt mL rt wsM fl kc kl gs ro ini fetch oi nw ret d)
    (hrun : ∀ y as h v h' nc ns, run y as h = some (.inl v, h', nc, ns) → ∀ (ad : Nat → Nat) (sz : Nat), Met l (nm y) (wsM y) (am_rm d nc ns) (am_Pre D cl ct tys ak K0 ad h sz as) (am_Post D cl ct tys X ad h.length (va_A (am_ws ad ct h) sz) (.inl v) h' nc) nc ns (va_A (am_ws ad ct h) sz))
    {ad0 : Nat → Nat} {n0 NC NS : Nat} (hNC : NC ≤ R.cells) (hNS : NS ≤ R.slots) {v : Option Value} {h' : List va_E} :
    ∀ (kk : Nat) (pc : Nat) (lv : am_L) (st : List Value) (h : List va_E) (nc ns : Nat), am_exec fetch (am_step fl kc kl gs ro ini nL) cal oi nw run thr ret xc xs kk pc lv st h = some (.inl v, h', nc, ns) →
    ∀ (ad : Nat → Nat) (H : Heap) (locs : List Loc) (cells slots : Nat) (ls : Array Slot), cells + nc = NC → slots + ns = NS → va_P D cl (am_ws ad ct h) H → va_D A (am_ws ad ct h) → va_S A s.heap H locs → lv_has ls nL (am_lv ad lv) → (∀ i, 1000 ≤ i → ad i = ak i) → (∀ i, (i < n0 ∨ 1000 ≤ i) → ad i = ad0 i) → n0 ≤ h.length → (cells = 0 → ad = ad0) →
    W p l e R s m args below meth c H locs cells slots (MQ below (am_Post D cl ct tys X ad0 n0 A (.inl v) h' NC) args s NC NS A) (F0 m pc ls (st.map (am_tv ad))) := by
  obtain ⟨hx, hb, hml, hts, hown, hlocks, hret, hK, h0, hK0, hA, hFL, hKGR, hKL, hTY, hin, hCT, hOI, hNW, hAR, hfe, hRf, hRl⟩ := hm
  intro kk
  induction kk with
  | zero => intro pc lv st h nc ns hex; cases hex
  | succ kk ih =>
    intro pc lv st h nc ns hex ad H locs cells slots ls hcn hsn hP hD hS hl hak hag hn0 hc0
    obtain ⟨hKC, hGS, hRO⟩ := hKGR ad hak
    rw [am_exec_s] at hex
    split at hex
    · cases hex
    · split at hex
      · cases hex
      · next i hi =>
        have hdec := hfe pc i hi
        split at hex
        · -- return
          obtain ⟨h1, h2⟩ := am_if hex
          cases h2
          rw [Bool.and_eq_true] at h1
          obtain ⟨n, hd, hn⟩ := hdec
          cases hn (by simp [am_len])
          have hst : st = [] := List.isEmpty_iff.mp h1.2
          have hrn : ret = none := Option.isNone_iff_eq_none.mp h1.1
          subst hst
          have e1 : cells = NC := by omega
          have e2 : slots = NS := by omega
          subst e1; subst e2
          exact W.vret hx hb (hret.trans hrn) (fun t ht hW => ⟨ad, hag, hc0, rfl, by rw [ht]; exact hP, va_K.moved hW.alike hK, hD, hS.F ht⟩) hS.2.2 hd hlocks
        · -- ireturn
          split at hex
          · next x =>
            split at hex
            · next ty =>
              obtain ⟨h1, h2⟩ := am_if hex
              cases h2
              obtain ⟨n, hd, hn⟩ := hdec
              cases hn (by simp [am_len])
              have e1 : cells = NC := by omega
              have e2 : slots = NS := by omega
              subst e1; subst e2
              exact W.zret hx hb hret (of_decide_eq_true h1) (fun t ht hW => ⟨ad, hag, hc0, rfl, by rw [ht]; exact hP, va_K.moved hW.alike hK, hD, hS.F ht⟩) hS.2.2 hd hlocks
            · cases hex
          · cases hex
        · -- new
          next k =>
          obtain ⟨q, hq, h2⟩ := Option.bind_eq_some_iff.mp hex
          obtain ⟨h3, h4⟩ := am_if h2
          obtain ⟨r, hr, h5⟩ := Option.bind_eq_some_iff.mp h4
          obtain ⟨r1, r2, r3, r4⟩ := r
          cases h5
          dsimp only at hcn hsn
          simp only [Bool.and_eq_true, decide_eq_true_eq] at h3
          obtain ⟨n, hd, hn⟩ := hdec
          cases hn (by simp [am_len])
          obtain ⟨C, T, ty, g1, g2, g3, g4, g5, g6, g7, g8⟩ := hNW k q hq
          refine am_new (nL := nL) hx hb hts g2 ty g3 hown g4 g5 g6 hK hP hD hS hA g1 g7 g8 (by omega) (by omega) hd hl h3.1 h3.2.1 h3.2.2 (fun ad' H1 ha hP1 hD1 hS1 hl1 => ?_)
          exact ih (pc + 3) lv (.ref h.length :: st) (h ++ [.inr q]) r3 r4 hr ad' H1 locs (cells + 1) (slots + q.2.length) ls (by omega) (by omega) hP1 hD1 hS1 hl1 (fun i hi => (ha i (Or.inr hi)).trans (hak i hi)) (fun i hi => (ha i (hi.imp (fun z => Nat.lt_of_lt_of_le z hn0) id)).trans (hag i hi)) (by simp; omega) (fun z => absurd z (by omega))
        · -- newarray
          next t =>
          obtain ⟨x, r0, rfl, h1⟩ := am_i1_eq hex
          obtain ⟨t0, ht0, h2⟩ := Option.bind_eq_some_iff.mp h1
          obtain ⟨h3, h4⟩ := am_if h2
          obtain ⟨r, hr, h5⟩ := Option.bind_eq_some_iff.mp h4
          obtain ⟨r1, r2, r3, r4⟩ := r
          cases h5
          dsimp only at hcn hsn
          simp only [Bool.and_eq_true, decide_eq_true_eq] at h3
          obtain ⟨n, hd, hn⟩ := hdec
          cases hn (by simp [am_len])
          have hol : am_oldL h.length lv r0 = true := by
            have := h3.2.2.2.1
            unfold am_oldL at this ⊢
            rw [Bool.and_eq_true] at this ⊢
            exact ⟨this.1, (by have := this.2; rw [List.all_cons, Bool.and_eq_true] at this; exact this.2)⟩
          refine am_newa (nL := nL) hx hb hts ht0 (hAR t t0 ht0) hTY hK hP hD hS hA h3.1 h3.2.1 (by omega) (by omega) hd hl h3.2.2.1 hol h3.2.2.2.2 (fun ad' H1 ha hP1 hD1 hS1 hl1 => ?_)
          exact ih (pc + 2) lv (.ref h.length :: r0) _ r3 r4 hr ad' H1 locs (cells + 1) (slots + x.toNatClampNeg) ls (by omega) (by omega) hP1 hD1 hS1 hl1 (fun i hi => (ha i (Or.inr hi)).trans (hak i hi)) (fun i hi => (ha i (hi.imp (fun z => Nat.lt_of_lt_of_le z hn0) id)).trans (hag i hi)) (by simp; omega) (fun z => absurd z (by omega))
        · -- the rest
          split at hex
          · -- Object.<init>
            next hoi =>
            split at hoi
            · next k =>
              obtain ⟨a, r, rfl, h1⟩ := am_r1_eq hex
              obtain ⟨h2, h3⟩ := am_if h1
              obtain ⟨n, hd, hn⟩ := hdec
              cases hn (by simp [am_len])
              obtain ⟨o1, o2, o3⟩ := hOI _ hoi
              refine W.objInit hx hb hown (hts _ o1) (hts _ o2) (hts _ o3) (g := F0 m pc ls ((Value.ref a :: r).map (am_tv ad))) rfl (hl.1.trans hml.symm) rfl hd (by omega) ?_ (ih (pc + 3) lv r h nc ns h3 ad H locs cells slots ls hcn hsn hP hD hS hl hak hag hn0 hc0)
              have h8 := of_decide_eq_true h2
              have := lv_room (m := m) (pc := pc) (ls := ls) (rest := (Value.ref a :: r).map (am_tv ad)) (st := r.map (am_tv ad)) (by rw [am_cats]; exact h8)
              omega
            · cases hoi
          · split at hex
            · -- a call
              next q hq =>
              obtain ⟨w, hw, h1⟩ := Option.bind_eq_some_iff.mp hex
              obtain ⟨h2, h3⟩ := am_if h1
              obtain ⟨r, hr, h4⟩ := Option.bind_eq_some_iff.mp h3
              obtain ⟨r1, r2, r3, r4⟩ := r
              simp only at h4
              split at h4
              · exact absurd (am_if h4).2 (fun z => by cases z)
              · next v1 =>
                obtain ⟨h5, h6⟩ := am_if h4
                obtain ⟨rr, hrr, h7⟩ := Option.bind_eq_some_iff.mp h6
                obtain ⟨s1, s2, s3, s4⟩ := rr
                cases h7
                dsimp only at hcn hsn
                simp only [Bool.and_eq_true, decide_eq_true_eq] at h2 h5
                have hd3 : decode cc pc = .ok (i, 3) := by
                  obtain ⟨n, hd, hn⟩ := hdec
                  have : am_len i = 3 := by
                    rcases (hCT i q hq).2.2.2 with ⟨-, _, _, _, _, rfl, -⟩ | ⟨-, _, rfl, -⟩ | ⟨-, _, rfl, -⟩ | ⟨-, _, _, rfl, -⟩ <;> rfl
                  rw [hd, hn (by rw [this]; decide), this]
                refine am_callR (nL := nL) (X := X) hx hb hml hts hown hK h0 hCT hq hw h2.1 (fun k0 => ?_) (hrun _ _ _ _ _ _ _ hr ad H.size) ⟨hRf, hRl⟩ (by omega) (by omega) hd3 hl.1 hP hD hS hA hak hK0 (fun ad' H1 locs1 ha hz hP1 hD1 hS1 => ?_)
                · have := h2.2
                  rw [k0] at this
                  simpa using this
                · have hlv : am_lv ad' lv = am_lv ad lv ∧ w.2.map (am_tv ad') = w.2.map (am_tv ad) := by
                    have h52 := h5.2
                    rw [Bool.or_eq_true] at h52
                    rcases h52 with z | z
                    · have z : r3 = 0 := by simpa using z
                      rw [hz z]
                      exact ⟨rfl, rfl⟩
                    · unfold am_oldL at z
                      rw [Bool.and_eq_true] at z
                      exact ⟨am_lv_old ha z.1, am_st_old ha z.2⟩
                  have k1 := ih (pc + 3) lv (v1.toList ++ w.2) r2 s3 s4 hrr ad' H1 locs1 (cells + r3) (slots + r4) ls (by omega) (by omega) hP1 hD1 hS1 (by rw [hlv.1]; exact hl) (fun i hi => (ha i (Or.inr hi)).trans (hak i hi)) (fun i hi => (ha i (hi.imp (fun z => Nat.lt_of_lt_of_le z hn0) id)).trans (hag i hi)) (Nat.le_trans hn0 h5.1) (fun z => by
                    have z1 : cells = 0 := by omega
                    have z2 : r3 = 0 := by omega
                    rw [hz z2, hc0 z1])
                  rw [List.map_append, hlv.2] at k1
                  exact k1
            · -- a step
              obtain ⟨q, hq, h1⟩ := Option.bind_eq_some_iff.mp hex
              obtain ⟨q1, q2, q3, q4⟩ := q
              refine am_step_ok hx hb hts hown hK hFL hKC hKL hGS hRO hTY hin hq hdec hP hD hS hl (fun H1 locs1 ls1 hP1 hD1 hS1 hl1 => ?_)
              exact ih q1 q2 q3 q4 nc ns h1 ad H1 locs1 cells slots ls1 hcn hsn hP1 hD1 hS1 hl1 hak hag (by rw [am_step_len hq]; exact hn0) hc0
end AM5
end
section
theorem am_args_lv (ad : Nat → Nat) : ∀ (as : List Value) (n : Nat), am_lv ad (lv_args n as) = lv_args n (as.map (am_tv ad)) := by
  intro as
  induction as with
  | nil => intro n; rfl
  | cons v r ih =>
    intro n
    simp only [lv_args, List.map_cons, am_tv_cat]
    rw [← ih]
    rfl
theorem am_sl_len (vs : List Value) : (lg_sl vs).length = (vs.map fun v => v.category).sum := by
  induction vs with
  | nil => rfl
  | cons v r ih =>
    have e : lg_sl (v :: r) = (if v.category = 2 then [Slot.val v, Slot.second] else [Slot.val v]) ++ lg_sl r := rfl
    rw [e, List.length_append, ih, List.map_cons, List.sum_cons]
    rcases lv_cat v with h | h <;> rw [h] <;> rfl
/-- the machine over all methods: d calls deep -/
def am_run (cls mL : Nat → Nat) (rt : Nat → Option FieldType) (ini : Nat → Bool) (ftc : Nat → Nat → Option Instr) (fl : Nat → Nat → Option (Nat × Nat × FieldType × Bool)) (kc : Nat → Nat → Option Value) (kl : Nat → Nat → Option Int64) (gs : Nat → Nat → Option Value) (ro : Nat → Option (Nat × (Nat → Int32))) (cal : Nat → Instr → Option (Nat × Nat × Nat × Nat)) (oi : Nat → Nat → Bool) (nw : Nat → Nat → Option (Nat × List Value)) (thr : Nat → Nat → Option Nat) (xc xs fuel : Nat) : Nat → Nat → List Value → List va_E → Option am_R
  | 0, _, _, _ => none
  | d + 1, y, as, h => if decide ((as.map fun v => v.category).sum ≤ mL y) = true then am_exec (ftc y) (am_step (fl (cls y)) (kc (cls y)) (kl (cls y)) (gs (cls y)) ro (ini y) (mL y)) (cal (cls y)) (oi (cls y)) (nw (cls y)) (am_run cls mL rt ini ftc fl kc kl gs ro cal oi nw thr xc xs fuel d) (thr y) (rt y) xc xs fuel 0 (lv_args 0 as) [] h else none
section AM6
variable {l : Launch} {D : va_G} {cl : List vw_C} {tys : List (ClassId × FieldType)} {ct ak : Nat → Nat} {K0 : (Nat → Prop) → State → Prop} {X : Nat → Nat → State → Prop}
variable {nm : Nat → MethodName} {bt : Nat → ByteArray} {wsM : Nat → List Jvm.Cond}
variable {cls mL : Nat → Nat} {rt : Nat → Option FieldType} {ini : Nat → Bool} {ftc : Nat → Nat → Option Instr} {fl : Nat → Nat → Option (Nat × Nat × FieldType × Bool)} {kc : Nat → Nat → Option Value} {kl : Nat → Nat → Option Int64} {gs : Nat → Nat → Option Value} {ro : Nat → Option (Nat × (Nat → Int32))} {cal : Nat → Instr → Option (Nat × Nat × Nat × Nat)} {oi : Nat → Nat → Bool} {nw : Nat → Nat → Option (Nat × List Value)} {thr : Nat → Nat → Option Nat} {xc xs fuel : Nat}
/-- what the tables of all methods stand on: ok y says that y is a method -/
def am_G (ok : Nat → Prop) (cl : List vw_C) (tys : List (ClassId × FieldType)) (ct ak : Nat → Nat) (K0 : (Nat → Prop) → State → Prop) (nm : Nat → MethodName) (bt : Nat → ByteArray) (wsM : Nat → List Jvm.Cond) (cls mL : Nat → Nat) (rt : Nat → Option FieldType) (ini : Nat → Bool) (ftc : Nat → Nat → Option Instr) (fl : Nat → Nat → Option (Nat × Nat × FieldType × Bool)) (kc : Nat → Nat → Option Value) (kl : Nat → Nat → Option Int64) (gs : Nat → Nat → Option Value) (ro : Nat → Option (Nat × (Nat → Int32))) (cal : Nat → Instr → Option (Nat × Nat × Nat × Nat)) (oi : Nat → Nat → Bool) (nw : Nat → Nat → Option (Nat × List Value)) : Prop :=
  am_K0 K0 ∧ am_TY tys ct ∧ (∀ y pc i, ftc y pc = some i → ok y) ∧ ∀ y, ok y → (∃ ws', wsM y = Jvm.Cond.code (nm y) (bt y) (mL y) (rt y) :: ws') ∧ plainName (nm y).cls = true ∧ (ini y = true → (nm y).name = "<init>") ∧ am_FL (fl (cls y)) (nm y).cls cl (wsM y) ∧ am_KL (kl (cls y)) (nm y).cls (wsM y) ∧ am_OI (oi (cls y)) (nm y).cls (wsM y) ∧ am_NW (nw (cls y)) (nm y).cls cl (wsM y) ∧ am_AR (wsM y) ∧ (∀ pc i, ftc y pc = some i → ∃ n, decode (bt y) pc = .ok (i, n) ∧ (am_len i ≠ 0 → n = am_len i)) ∧
    ∀ (A : Nat → Prop) (s : State) (args : Array Value), K0 A s → (∀ w ∈ wsM y, w.before args s = true) → am_CT (cal (cls y)) (nm y).cls cl (wsM y) s nm bt mL rt wsM ∧ ∀ ad : Nat → Nat, (∀ i, 1000 ≤ i → ad i = ak i) → am_KC (kc (cls y)) (nm y).cls ad (wsM y) s ∧ am_GS (gs (cls y)) (nm y).cls ad A (wsM y) s ∧ am_RO ro ad A s
theorem am_exec_pos {fetch : Nat → Option Instr} {stp : Instr → Nat → am_L → List Value → List va_E → Option am_F} {cal : Instr → Option (Nat × Nat × Nat × Nat)} {oi : Nat → Bool} {nw : Nat → Option (Nat × List Value)} {run : Nat → List Value → List va_E → Option am_R} {thr : Nat → Option Nat} {ret : Option FieldType} {xc xs kk pc : Nat} {lv : am_L} {st : List Value} {h : List va_E} {v : Option Value} {z : List va_E × Nat × Nat} (hex : am_exec fetch stp cal oi nw run thr ret xc xs kk pc lv st h = some (.inl v, z)) : ∃ i, fetch pc = some i := by
  cases kk with
  | zero => cases hex
  | succ kk =>
    rw [am_exec_s] at hex
    split at hex
    · cases hex
    · split at hex
      · cases hex
      · next i hi => exact ⟨i, hi⟩
set_option maxHeartbeats 1000000 in
/-- EVERY METHOD MEETS ITS RUN (one that comes back) -/
theorem am_run_R {ok : Nat → Prop} (hG : am_G ok cl tys ct ak K0 nm bt wsM cls mL rt ini ftc fl kc kl gs ro cal oi nw) : ∀ (d y : Nat) (as : List Value) (h : List va_E) (v : Option Value) (h' : List va_E) (nc ns : Nat), am_run cls mL rt ini ftc fl kc kl gs ro cal oi nw thr xc xs fuel d y as h = some (.inl v, h', nc, ns) → ∀ (ad : Nat → Nat) (sz : Nat), Met l (nm y) (wsM y) (am_rm d nc ns) (am_Pre D cl ct tys ak K0 ad h sz as) (am_Post D cl ct tys X ad h.length (va_A (am_ws ad ct h) sz) (.inl v) h' nc) nc ns (va_A (am_ws ad ct h) sz) := by
  obtain ⟨h0, hTY, hok, hall⟩ := hG
  intro d
  induction d with
  | zero => intro y as h v h' nc ns hr; cases hr
  | succ d ih =>
    intro y as h v h' nc ns hr ad sz
    obtain ⟨hw, hex⟩ := am_if hr
    have hw := of_decide_eq_true hw
    obtain ⟨i0, hi0⟩ := am_exec_pos hex
    obtain ⟨⟨ws', hws⟩, hpl, hini, hFL, hKL, hOI, hNW, hAR, hfe, hdyn⟩ := hall y (hok y 0 i0 hi0)
    refine Met.ofW (cc := bt y) (maxL := mL y) (ret := rt y) hpl hws ?_
    intro p e s m args below meth c s₁ B hml hv
    obtain ⟨rfl, hsz, hP, hK, hD0, hak, hK0⟩ := hv
    have hts := atoms_spec (ws := wsM y) B.pre
    subst hsz
    have hD := hD0.self (sz := s.heap.size)
    obtain ⟨hCT, hKGR⟩ := hdyn _ s _ hK0 hts
    have hl := lv_entry (as.map (am_tv ad)) (n := mL y) (by rw [am_sl_len, am_cats]; exact hw)
    rw [lg_entry_eq]
    generalize (lg_sl (as.map (am_tv ad)) ++ List.replicate (mL y - (lg_sl (as.map (am_tv ad))).length) Slot.unset).toArray = ls at hl ⊢
    rw [← am_args_lv] at hl
    have hm : am_M p l s m (as.map (am_tv ad)).toArray meth c (am_rm (d + 1) nc ns) (bt y) D cl (va_A (am_ws ad ct h) s.heap.size) tys ct ak (wsM y) (nm y).cls (mL y) K0 (cal (cls y)) nm bt mL rt wsM (fl (cls y)) (kc (cls y)) (kl (cls y)) (gs (cls y)) ro (ini y) (ftc y) (oi (cls y)) (nw (cls y)) (rt y) d :=
      ⟨B.exec, B.bytes, hml, hts, findClass_of_methodNamed B.named, B.notSynchronized, B.returns, hK, h0, hK0, fun q hq => Or.inr hq, hFL, hKGR, hKL, hTY, fun z => (name_of_methodNamed B.named B.method).1.trans (hini z), hCT, hOI, hNW, hAR, hfe, by show d + 9 ≤ d + 1 + 8; omega, Nat.le_refl _⟩
    exact am_exec_R (X := X) (thr := thr y) (xc := xc) (xs := xs) (run := am_run cls mL rt ini ftc fl kc kl gs ro cal oi nw thr xc xs fuel d) hm ih (ad0 := ad) (n0 := h.length) (NC := nc) (NS := ns) (Nat.le_refl _) (Nat.le_refl _) fuel 0 (lv_args 0 as) [] h nc ns hex ad s.heap [] 0 0 ls (by omega) (by omega) hP hD va_S.rf hl hak (fun _ _ => rfl) (Nat.le_refl _) (fun _ => rfl)
end AM6
end
section
/-! ===== methods that throw ===== -/
def am_FT (first : State) (o : Outcome) (t : State) (L : List Loc) (k n : Nat) : Prop := (∃ x, o = .threw x) ∧ first.WarmedH t.vm ∧ first.sameButNew ({ t with vm := first.vm } : State) L k n
/-- a contract of a method that throws -/
def am_MT (l : Launch) (y : MethodName) (ws : List Jvm.Cond) (rm : Room) (Pc : Array Value → State → Prop) (Qc : Array Value → State → Outcome → State → Prop) (mc ms : Nat) (free : Addr → Prop) : Prop :=
  MetFree l y (headSpec ws rm) Pc (fun _ _ _ _ _ => True) (fun a st o t => Qc a st o t ∧ ∃ L, am_FT st o t L mc ms ∧ ∀ q ∈ L, free q.base)
def am_MQT (below : List Frame) (Qc : Array Value → State → Outcome → State → Prop) (a : Array Value) (s : State) (mc ms : Nat) (free : Addr → Prop) : State → Prop := fun t =>
  ∃ o, t.status = .running ∧ Ended t below o ∧ Qc a s o t ∧ ∃ L, am_FT s o t L mc ms ∧ ∀ q ∈ L, free q.base
theorem am_MT.ofW {l : Launch} {y : MethodName} {ws ws' : List Jvm.Cond} {rm : Room} {Pc : Array Value → State → Prop} {Qc : Array Value → State → Outcome → State → Prop} {mc ms : Nat} {free : Addr → Prop} {cc : ByteArray} {maxL : Nat} {ret : Option FieldType}
    (hy : plainName y.cls = true) (hw : ws = Jvm.Cond.code y cc maxL ret :: ws')
    (body : ∀ p e s m args below meth c s₁, BodyLoose p l y (headSpec ws rm) cc maxL ret e s m args below meth c s₁ → c.maxLocals = maxL → Pc args s →
      W p l e (headSpec ws rm).room s m args below meth c s.heap [] 0 0 (am_MQT below Qc args s mc ms free) (entryFrame m args maxL)) : am_MT l y ws rm Pc Qc mc ms free := by
  refine MetFree.of_bodyS (code := cc) (maxLocals := maxL) (ret := ret) hy ?_ ?_
  · intro args s m h hn
    obtain ⟨meth, c, h1, h2, h3, h4, h5, h6, -, -⟩ := Cond.code_spec hn (atoms_spec (ws := ws) h _ (by rw [hw]; exact List.mem_cons_self))
    exact ⟨meth, c, h1, h2, h3, h4, h5, h6⟩
  · intro p e s m args below meth c s₁ B hml hP _
    have hh0 : s₁.heap = s.heap := by rw [B.state]; rfl
    obtain ⟨t, a1, o, b1, b2, b3⟩ := body p e s m args below meth c s₁ B hml hP s₁ hh0 (Stand.of_body B)
    exact ⟨t, o, a1, b1, b2, ⟨b3.1, b3.2⟩⟩
section AM7
variable {p : Program} {l : Launch} {e : Env} {R : Room} {s : State} {m : MethodId} {args : Array Value} {below : List Frame} {meth : Method} {c : Code} {T : State} {locs : List Loc} {cells slots : Nat}
/-- the call is on its way: the callee throws, the frame leaves -/
theorem am_backT {y : MethodName} {ws : List Jvm.Cond} {rm : Room} {Pc : Array Value → State → Prop} {Qc : Array Value → State → Outcome → State → Prop} {mc ms : Nat} {free : Addr → Prop} {bytes : ByteArray} {maxL : Nat} {ret : Option FieldType}
    (hM : am_MT l y ws rm Pc Qc mc ms free) (hbl : FrameBlind Pc) (hrc : rm.cells = mc) (hrs : rm.slots = ms) (hframes : rm.frames + 1 ≤ R.frames) (hlocals : 8 + (maxL + 11) + rm.locals ≤ R.locals)
    (hws : ∀ w ∈ ws, ∀ (a' : Array Value) (U : State), s.WarmedH U.vm → w.before a' U = true) (hcode : Jvm.Cond.code y bytes maxL ret ∈ ws) (hini : ∀ (a' : Array Value) (U : State), s.WarmedH U.vm → (Jvm.Cond.initialized y.cls).before a' U = true)
    (X : Stand p l e R s m args below meth c T locs cells slots) {g : JFrame} {ig : Instr} {len : Nat} {mk : MethodId} {a : Array Value} (hg : g.method = m) (hsize : g.locals.size = c.maxLocals) (hdg : decode c.code g.pc = .ok (ig, len)) (hW : 2 * g.monitorRoom + (g.stack.map fun v => v.category).sum ≤ 8) (hn : T.methodNamed? y = some mk) (hc : cells + mc ≤ R.cells) (hs : slots + ms ≤ R.slots) (hP : Pc a T) :
    ∃ (x : Addr) (st₀ t T' : State) (L : List Loc), st₀.heap = T.heap ∧ Stand p l e R s m args below meth c T' (locs ++ L) (cells + mc) (slots + ms) ∧ (∀ q ∈ L, free q.base) ∧ T'.heap = t.heap ∧ T'.vm = t.vm ∧ Qc a st₀ (.threw x) t ∧ Steps p.tables e below (doInvoke e (T.setTop g) [] mk a).1 ((T'.setTop g).pushFrame (.throwing x)) := by
  have h2 := hws _ hcode a T X.warmed
  obtain ⟨methY, cY, hmY, hcY, -, hlY, -, -, -, -⟩ := Cond.code_spec hn h2
  obtain ⟨kY, hkY, -⟩ := className_of_methodNamed hn
  have hinitY : kY.init = .initialized := Cond.initialized_spec (findClass_of_methodNamed hn) hkY (hini a T X.warmed)
  have h : At T g.method c below := by rw [hg]; exact X.here
  have happ : (headSpec ws rm).appliesLoose y e.platform (T.calling g mk a) = true :=
    Spec.appliesLoose_calling (g := g) h hdg hn hkY hinitY
      (X.room_calling (g := g) (R' := (headSpec ws rm).room) hsize hmY hcY hframes (by rw [hlY]; show _ + rm.locals ≤ _; omega) (by show cells + rm.cells ≤ _; omega) (by show slots + rm.slots ≤ _; omega)) (atoms_intro fun w hw => hws w hw _ _ X.warmed)
  obtain ⟨mid, hmid⟩ := h.above
  have hfr : (T.setTop g).frames = (.java g :: mid) ++ below := by rw [State.frames_setTop' g h.top, hmid]; rfl
  obtain ⟨o, s₂, hsteps, -, hend, hq, L, hft, hL⟩ := Steps.callFree hM p X.admits X.cas X.clock (acts := []) hfr happ (hbl a T g mk hP) trivial
  rw [State.frames_setTop' g h.top] at hend
  obtain ⟨⟨x, rfl⟩, hW₂, hsame⟩ := hft
  rw [X.tail] at hend
  obtain ⟨T', X', -, -, ht⟩ := X.outOfThrown hg (mk := mk) (a := a) hend hW₂ hsame
  refine ⟨x, T.calling g mk a, s₂, T', L, rfl, X', hL, by rw [ht]; rfl, by rw [ht]; rfl, hq, ?_⟩
  rw [← ht]
  exact hsteps
end AM7
end
section
section AM8
variable {p : Program} {l : Launch} {e : Env} {R : Room} {s : State} {m : MethodId} {args : Array Value} {below : List Frame} {meth : Method} {c : Code} {H : Heap} {locs : List Loc} {cells slots : Nat}
variable {cc : ByteArray} {D : va_G} {cl : List vw_C} {A : Nat → Prop} {tys : List (ClassId × FieldType)} {ad ct ak : Nat → Nat} {Ts : List Jvm.Cond} {own : String} {nL : Nat} {K0 : (Nat → Prop) → State → Prop} {X : Nat → Nat → State → Prop}
variable {cal : Instr → Option (Nat × Nat × Nat × Nat)} {nm : Nat → MethodName} {bt : Nat → ByteArray} {mL : Nat → Nat} {rt : Nat → Option FieldType} {wsM : Nat → List Jvm.Cond}
/-- what is asked of X: it looks at the cells and the tables alone -/
def am_XO (X : Nat → Nat → State → Prop) : Prop := ∀ (e a : Nat) (t u : State), t.heap = u.heap → t.vm = u.vm → X e a t → X e a u
theorem am_endT (hX : am_XO X) {h h' : List va_E} {ad0 : Nat → Nat} {n0 nc ns NC NS ex : Nat} {st₀ t T' : State} {x : Addr} {L : List Loc} {g : JFrame} {av : Array Value} (hlocks : meth.locks = false) (hnh : c.exceptionTable.isEmpty = true)
    (X' : Stand p l e R s m args below meth c T' (locs ++ L) (cells + nc) (slots + ns)) (hh : st₀.heap = H) (hL : ∀ q ∈ L, va_A (am_ws ad ct h) H.size q.base) (e1 : T'.heap = t.heap) (e2 : T'.vm = t.vm)
    (hq : am_Post D cl ct tys X ad h.length (va_A (am_ws ad ct h) H.size) (.inr ex) h' nc av st₀ (.threw x) t) (hD : va_D A (am_ws ad ct h)) (hS : va_S A s.heap H locs) (hA : ∀ q, s.heap.size ≤ q → A q) (hg : g.method = m) (hgl : g.locked = none) (hge : g.entered = [])
    (hcn : cells + nc = NC) (hsn : slots + ns = NS) (hag : ∀ i, (i < n0 ∨ 1000 ≤ i) → ad i = ad0 i) (hn0 : n0 ≤ h.length) (hc0 : cells = 0 → ad = ad0) {T0 : State} (hst : Steps p.tables e below T0 ((T'.setTop g).pushFrame (.throwing x))) :
    ∃ tf, Steps p.tables e below T0 tf ∧ am_MQT below (am_Post D cl ct tys X ad0 n0 A (.inr ex) h' NC) args s NC NS A tf := by
  have hf := am_free hD hS hA
  obtain ⟨ad', a1, a2, ⟨x1, ex1, a3⟩, a4, a5, a6, hz, hk⟩ := hq
  cases ex1
  rw [hh] at hz hk
  have hS1 : va_S A s.heap T'.heap (locs ++ L) := ⟨Nat.le_trans hS.1 (by rw [e1]; exact hz), fun q h1 h2 => by rw [e1, hk q (Nat.lt_of_lt_of_le h1 hS.1) (fun z => h2 (hf q z))]; exact hS.2.1 q h1 h2, fun q hq => by
      rcases List.mem_append.mp hq with h | h
      · exact hS.2.2 q h
      · exact hf _ (hL q h)⟩
  obtain ⟨w1, w2, w3, w4, w5⟩ := X'.leaveThrown x hg hgl hge (by
    intro z hz
    rw [Array.isEmpty_iff] at hnh
    rw [hnh] at hz
    cases hz) hlocks
  subst hcn; subst hsn
  refine ⟨_, hst.trans w1, .threw x, w2, w3, ⟨ad', fun i hi => (a1 i (hi.imp (fun z => Nat.lt_of_lt_of_le z hn0) id)).trans (hag i hi), fun z => ?_, ⟨x, rfl, hX ex x t _ e1.symm e2.symm a3⟩, ?_, ?_, a6.weaken (fun k q _ z => hf q.1 z), hS1.F rfl⟩, locs ++ L, ⟨⟨x, rfl⟩, w4, w5⟩, hS1.2.2⟩
  · have z1 : cells = 0 := by omega
    have z2 : nc = 0 := by omega
    rw [a2 z2, hc0 z1]
  · show va_P D cl (am_ws ad' ct h') T'.heap
    rw [e1]
    exact a4
  · refine va_K.moved (u := t) ?_ a5
    show t.vm.Alike T'.vm
    rw [e2]
    exact Vm.Alike.refl _
set_option maxHeartbeats 1000000 in
/-- a call whose method throws -/
theorem am_callT (hX : am_XO X) (hx : p.tables.exec = Jvm.exec) (hb : c.code = cc) (hml : c.maxLocals = nL) (hlocks : meth.locks = false) (hnh : c.exceptionTable.isEmpty = true) (hts : ∀ w ∈ Ts, w.before args s = true) (hown : s.vm.findClass own = some m.cls) (hK : va_K D cl tys s) (h0 : am_K0 K0) (hCT : am_CT cal own cl Ts s nm bt mL rt wsM)
    {i : Instr} {q : Nat × Nat × Nat × Nat} (hq : cal i = some q) (hq2 : q.1 < 2) {d nc ns NC NS ex n0 : Nat} {ad0 : Nat → Nat} {h h' : List va_E} {st : List Value} {w : List Value × List Value} (hw : am_pop (am_vir q.1) q.2.2.1 st = some w) (h8 : (w.2.map fun v => v.category).sum ≤ 8)
    (hrc : q.1 = 0 → am_rcv w.1 h q.2.2.2 = true)
    (hM : am_MT l (nm q.2.1) (wsM q.2.1) (am_rm d nc ns) (am_Pre D cl ct tys ak K0 ad h H.size w.1) (am_Post D cl ct tys X ad h.length (va_A (am_ws ad ct h) H.size) (.inr ex) h' nc) nc ns (va_A (am_ws ad ct h) H.size))
    (hR : d + 9 ≤ R.frames ∧ (d + 1) * 40 + 400 ≤ R.locals) (hc : cells + nc ≤ R.cells) (hs : slots + ns ≤ R.slots) {pc : Nat} {ls : Array Slot} (hd : decode cc pc = .ok (i, 3)) (hls : ls.size = nL)
    (hP : va_P D cl (am_ws ad ct h) H) (hD : va_D A (am_ws ad ct h)) (hS : va_S A s.heap H locs) (hA : ∀ q, s.heap.size ≤ q → A q) (hak : ∀ i, 1000 ≤ i → ad i = ak i) (hK0 : K0 A s)
    (hcn : cells + nc = NC) (hsn : slots + ns = NS) (hag : ∀ i, (i < n0 ∨ 1000 ≤ i) → ad i = ad0 i) (hn0 : n0 ≤ h.length) (hc0 : cells = 0 → ad = ad0) :
    W p l e R s m args below meth c H locs cells slots (am_MQT below (am_Post D cl ct tys X ad0 n0 A (.inr ex) h' NC) args s NC NS A) (F0 m pc ls (st.map (am_tv ad))) := by
  obtain ⟨⟨ws', hws⟩, hm20, hd3, hkind⟩ := hCT i q hq
  obtain ⟨hp1, hp2⟩ := am_pop_eq hw
  have hR2 : (am_rm d nc ns).frames + 1 ≤ R.frames ∧ 8 + (mL q.2.1 + 11) + (am_rm d nc ns).locals ≤ R.locals := by
    refine ⟨by show d + 8 + 1 ≤ _; omega, ?_⟩
    show 8 + (mL q.2.1 + 11) + (d * 40 + 400) ≤ _
    omega
  have hroom : ∀ (pc : Nat) (ls : Array Slot) (rest : List Value), 2 * (F0 m pc ls rest).monitorRoom + ((w.2.map (am_tv ad)).map fun v => v.category).sum ≤ 8 := fun pc ls rest => lv_room (by rw [am_cats]; exact h8)
  intro T hT X1
  rcases hkind with ⟨k0, index, C, T1, N, rfl, hcl, hC, hG⟩ | ⟨k1, index, rfl, hG⟩ | ⟨k2, -⟩ | ⟨k3, -⟩
  · obtain ⟨a, as, ew, el, est⟩ := hp1 (by rw [k0]; rfl)
    have hrc := hrc k0
    rw [ew] at hrc
    unfold am_rcv at hrc
    simp only at hrc
    split at hrc
    · next o ho =>
      have ho2 : o.1 = q.2.2.2 := by simpa using hrc
      have hav : (Value.ref (ad a) :: as.map (am_tv ad)).toArray = (w.1.map (am_tv ad)).toArray := by rw [ew]; rfl
      have hat := am_ws_at (ad := ad) (ct := ct) ho
      have e1 : am_te ad ct (.inr o) = .inr (q.2.2.2, o.2.map (am_tv ad)) := by rw [← ho2]; rfl
      rw [e1] at hat
      obtain ⟨cellB, hcell, hobj, hcls⟩ := va_recv hK hP hcl hat
      obtain ⟨⟨c1, c2, c3, c4, c5, c6, c7, c8, hy, hlen, hlink⟩, hinst, hsel⟩ := cwV (R := R) (rm := am_rm d nc ns) (mc := nc) (ms := ns) q.2.2.1 hts hG hws rfl rfl ⟨hC, hd3⟩ hR2
      obtain ⟨mk, methM, hnamed, hmethM, hstM, habM⟩ := Cond.instanceMethod_spec hinst
      obtain ⟨methM', cM, hmethM', -, -, -, -, -, -, hsigM⟩ := Cond.code_spec hnamed c7
      cases hmethM.symm.trans hmethM'
      obtain ⟨z1, z2, z3, q1, q2, q3, q4, kP, hkP, hkPi⟩ := Cond.selects_spec hsel
      cases hcls.symm.trans q1
      cases (State.methodFound?_of_named hnamed hy).symm.trans q2
      cases hnamed.symm.trans q3
      have hselP : selectMethod e.platform s.vm cellB.cls mk = .method mk := by rw [Launch.admits_selectMethod X1.admits]; exact q4
      obtain ⟨vm₁, X₁, hstep₁⟩ := X1.invokevirtual hx hown hlink hnamed hmethM hstM hkP hkPi hy (a := ad a) (cell := cellB) (by rw [hT]; exact hcell)
        (fun z h => by rw [h] at hobj; cases hobj) hselP hmethM habM hkP hkPi (g := F0 m pc ls (st.map (am_tv ad))) rfl (argsL := as.map (am_tv ad)) (rest := w.2.map (am_tv ad)) (by rw [List.length_map, el]; exact hlen _ hsigM) (by show st.map (am_tv ad) = _; rw [est, List.map_append, List.map_reverse]; rfl) (by rw [hb]; exact hd)
      obtain ⟨x, st₀, t, T', L, r1, X', r2, r3, r4, r5, r6⟩ := am_backT hM (am_blind h0) c1 c2 c3 c4 c5 c6 (fun a' U hW => word_at hW (Or.inl (by first | rfl | simp [Cond.onTables, Cond.keeps, Cond.steady])) c8) X₁ (g := { F0 m pc ls (st.map (am_tv ad)) with stack := w.2.map (am_tv ad) }) (mk := mk) (a := (Value.ref (ad a) :: as.map (am_tv ad)).toArray) rfl (hls.trans hml.symm) (by rw [hb]; exact hd) (hroom _ _ _) (X₁.named hnamed) hc hs (am_ahead h0 hK hP hD hS hA hak hK0 hav _ hT X₁.warmed)
      exact am_endT hX hlocks hnh X' (r1.trans hT) r2 r3 r4 r5 hD hS hA rfl rfl rfl hcn hsn hag hn0 hc0 (hstep₁ _ fun acts => by rw [doInvoke_state]; exact r6)
    · cases hrc
  · obtain ⟨el, est⟩ := hp2 (by rw [k1]; rfl)
    obtain ⟨⟨c1, c2, c3, c4, c5, c6, c7, c8, hy, hlen, hlink⟩, hstat⟩ := va_cwS (R := R) (rm := am_rm d nc ns) (mc := nc) (ms := ns) q.2.2.1 hts hG hws rfl rfl hd3 hR2
    obtain ⟨mk, hnamed⟩ := Cond.code_named c7
    obtain ⟨methM, cM, hmethM, -, -, -, -, -, -, hsigM⟩ := Cond.code_spec hnamed c7
    have hstatic : methM.isStatic = true := Cond.static_spec hnamed hmethM hstat
    obtain ⟨kP, hkP, -⟩ := className_of_methodNamed hnamed
    have hinitP : kP.init = .initialized := Cond.initialized_spec (findClass_of_methodNamed hnamed) hkP c8
    obtain ⟨vm₁, X₁, hstep₁⟩ := X1.invokestatic hx hown hlink hnamed hmethM hstatic hkP hinitP hy (g := F0 m pc ls (st.map (am_tv ad))) rfl (argsL := w.1.map (am_tv ad)) (rest := w.2.map (am_tv ad)) (by rw [List.length_map, el]; exact hlen _ hsigM) (by show st.map (am_tv ad) = _; rw [est, List.map_append, List.map_reverse]) (by rw [hb]; exact hd)
    obtain ⟨x, st₀, t, T', L, r1, X', r2, r3, r4, r5, r6⟩ := am_backT hM (am_blind h0) c1 c2 c3 c4 c5 c6 (fun a' U hW => word_at hW (Or.inl (by first | rfl | simp [Cond.onTables, Cond.keeps, Cond.steady])) c8) X₁ (g := { F0 m pc ls (st.map (am_tv ad)) with stack := w.2.map (am_tv ad) }) (mk := mk) (a := (w.1.map (am_tv ad)).toArray) rfl (hls.trans hml.symm) (by rw [hb]; exact hd) (hroom _ _ _) (X₁.named hnamed) hc hs (am_ahead h0 hK hP hD hS hA hak hK0 rfl _ hT X₁.warmed)
    exact am_endT hX hlocks hnh X' (r1.trans hT) r2 r3 r4 r5 hD hS hA rfl rfl rfl hcn hsn hag hn0 hc0 (hstep₁ _ fun acts => by rw [doInvoke_state]; exact r6)
  · omega
  · omega
end AM8
end
