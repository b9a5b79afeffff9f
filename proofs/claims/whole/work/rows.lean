section
-- ===== PART A: goes FIRST, ahead of the names: the tables' words, and 'selects' of the private methods out of them =====
/-- a private method of a class that the tables say can be made, by its rows of tables_1 -/
def lw_okq (q : MethodName × Nat) : Prop := (q.1.cls ≠ "java/lang/invoke/MethodHandle" ∧ q.1.cls ≠ "java/lang/invoke/VarHandle") ∧ Cond.instantiable q.1.cls q.2 ∈ tables_1 ∧ Cond.privateMethod q.1 ∈ tables_1 ∧ Cond.instanceMethod q.1 ∈ tables_1
theorem lw_p0 : lw_okq (⟨"GuardFlow$Table", "isState", "(I)Z"⟩, 4) := ⟨⟨by decide +kernel, by decide +kernel⟩, List.mem_of_getElem? (i := 18) (by decide +kernel), List.mem_of_getElem? (i := 139) (by decide +kernel), List.mem_of_getElem? (i := 140) (by decide +kernel)⟩
theorem lw_p1 : lw_okq (⟨"GuardFlow$Table", "waysFrom", "(II)J"⟩, 4) := ⟨⟨by decide +kernel, by decide +kernel⟩, List.mem_of_getElem? (i := 18) (by decide +kernel), List.mem_of_getElem? (i := 147) (by decide +kernel), List.mem_of_getElem? (i := 148) (by decide +kernel)⟩
theorem lw_p2 : lw_okq (⟨"GuardFlow", "noteChange", "()V"⟩, 6) := ⟨⟨by decide +kernel, by decide +kernel⟩, List.mem_of_getElem? (i := 10) (by decide +kernel), List.mem_of_getElem? (i := 158) (by decide +kernel), List.mem_of_getElem? (i := 159) (by decide +kernel)⟩
theorem lw_p3 : lw_okq (⟨"GuardFlow$Flow", "forgetAll", "(LGuardFlow$Program;)V"⟩, 4) := ⟨⟨by decide +kernel, by decide +kernel⟩, List.mem_of_getElem? (i := 42) (by decide +kernel), List.mem_of_getElem? (i := 309) (by decide +kernel), List.mem_of_getElem? (i := 310) (by decide +kernel)⟩
theorem lw_p4 : lw_okq (⟨"GuardFlow$Flow", "growEntry", "(LGuardFlow$Body;J)V"⟩, 4) := ⟨⟨by decide +kernel, by decide +kernel⟩, List.mem_of_getElem? (i := 42) (by decide +kernel), List.mem_of_getElem? (i := 322) (by decide +kernel), List.mem_of_getElem? (i := 323) (by decide +kernel)⟩
theorem lw_p5 : lw_okq (⟨"GuardFlow$Flow", "growMay", "(LGuardFlow$Body;IJ)V"⟩, 4) := ⟨⟨by decide +kernel, by decide +kernel⟩, List.mem_of_getElem? (i := 42) (by decide +kernel), List.mem_of_getElem? (i := 326) (by decide +kernel), List.mem_of_getElem? (i := 327) (by decide +kernel)⟩
theorem lw_p6 : lw_okq (⟨"GuardFlow$Flow", "waitAt", "(LGuardFlow$Body;I)V"⟩, 4) := ⟨⟨by decide +kernel, by decide +kernel⟩, List.mem_of_getElem? (i := 42) (by decide +kernel), List.mem_of_getElem? (i := 331) (by decide +kernel), List.mem_of_getElem? (i := 332) (by decide +kernel)⟩
theorem lw_p7 : lw_okq (⟨"GuardFlow$Flow", "step", "(LGuardFlow$Program;I)V"⟩, 4) := ⟨⟨by decide +kernel, by decide +kernel⟩, List.mem_of_getElem? (i := 42) (by decide +kernel), List.mem_of_getElem? (i := 336) (by decide +kernel), List.mem_of_getElem? (i := 337) (by decide +kernel)⟩
theorem lw_p8 : lw_okq (⟨"GuardFlow$Flow", "afterOf", "(LGuardFlow$Body;ILGuardFlow$Body;)J"⟩, 4) := ⟨⟨by decide +kernel, by decide +kernel⟩, List.mem_of_getElem? (i := 42) (by decide +kernel), List.mem_of_getElem? (i := 340) (by decide +kernel), List.mem_of_getElem? (i := 341) (by decide +kernel)⟩
theorem lw_p9 : lw_okq (⟨"GuardFlow$Flow", "growSummary", "(LGuardFlow$Body;JJ)V"⟩, 4) := ⟨⟨by decide +kernel, by decide +kernel⟩, List.mem_of_getElem? (i := 42) (by decide +kernel), List.mem_of_getElem? (i := 353) (by decide +kernel), List.mem_of_getElem? (i := 354) (by decide +kernel)⟩
theorem lw_p10 : lw_okq (⟨"GuardFlow$Flow", "passOn", "(LGuardFlow$Body;IJ)V"⟩, 4) := ⟨⟨by decide +kernel, by decide +kernel⟩, List.mem_of_getElem? (i := 42) (by decide +kernel), List.mem_of_getElem? (i := 357) (by decide +kernel), List.mem_of_getElem? (i := 358) (by decide +kernel)⟩
theorem lw_p11 : lw_okq (⟨"GuardFlow$Flow", "passToHandlers", "(LGuardFlow$Body;IJ)V"⟩, 4) := ⟨⟨by decide +kernel, by decide +kernel⟩, List.mem_of_getElem? (i := 42) (by decide +kernel), List.mem_of_getElem? (i := 362) (by decide +kernel), List.mem_of_getElem? (i := 363) (by decide +kernel)⟩
theorem lw_p12 : lw_okq (⟨"GuardFlow$Flow", "wakeCallers", "(LGuardFlow$Program;)V"⟩, 4) := ⟨⟨by decide +kernel, by decide +kernel⟩, List.mem_of_getElem? (i := 42) (by decide +kernel), List.mem_of_getElem? (i := 366) (by decide +kernel), List.mem_of_getElem? (i := 367) (by decide +kernel)⟩
theorem lw_p13 : lw_okq (⟨"GuardFlow$Flow", "wakeCallersIn", "(LGuardFlow$Program;LGuardFlow$Body;)V"⟩, 4) := ⟨⟨by decide +kernel, by decide +kernel⟩, List.mem_of_getElem? (i := 42) (by decide +kernel), List.mem_of_getElem? (i := 370) (by decide +kernel), List.mem_of_getElem? (i := 371) (by decide +kernel)⟩
theorem lw_p14 : lw_okq (⟨"GuardFlow$Forger", "lackingIn", "(LGuardFlow$Body;)I"⟩, 2) := ⟨⟨by decide +kernel, by decide +kernel⟩, List.mem_of_getElem? (i := 62) (by decide +kernel), List.mem_of_getElem? (i := 379) (by decide +kernel), List.mem_of_getElem? (i := 380) (by decide +kernel)⟩
theorem lw_p15 : lw_okq (⟨"GuardFlow$Table", "changesSome", "(IJ)Z"⟩, 4) := ⟨⟨by decide +kernel, by decide +kernel⟩, List.mem_of_getElem? (i := 18) (by decide +kernel), List.mem_of_getElem? (i := 391) (by decide +kernel), List.mem_of_getElem? (i := 392) (by decide +kernel)⟩
def lw_privs_1 : List (MethodName × Nat) := [(⟨"GuardFlow$Table", "isState", "(I)Z"⟩, 4), (⟨"GuardFlow$Table", "waysFrom", "(II)J"⟩, 4), (⟨"GuardFlow", "noteChange", "()V"⟩, 6), (⟨"GuardFlow$Flow", "forgetAll", "(LGuardFlow$Program;)V"⟩, 4), (⟨"GuardFlow$Flow", "growEntry", "(LGuardFlow$Body;J)V"⟩, 4), (⟨"GuardFlow$Flow", "growMay", "(LGuardFlow$Body;IJ)V"⟩, 4), (⟨"GuardFlow$Flow", "waitAt", "(LGuardFlow$Body;I)V"⟩, 4), (⟨"GuardFlow$Flow", "step", "(LGuardFlow$Program;I)V"⟩, 4), (⟨"GuardFlow$Flow", "afterOf", "(LGuardFlow$Body;ILGuardFlow$Body;)J"⟩, 4), (⟨"GuardFlow$Flow", "growSummary", "(LGuardFlow$Body;JJ)V"⟩, 4), (⟨"GuardFlow$Flow", "passOn", "(LGuardFlow$Body;IJ)V"⟩, 4), (⟨"GuardFlow$Flow", "passToHandlers", "(LGuardFlow$Body;IJ)V"⟩, 4), (⟨"GuardFlow$Flow", "wakeCallers", "(LGuardFlow$Program;)V"⟩, 4), (⟨"GuardFlow$Flow", "wakeCallersIn", "(LGuardFlow$Program;LGuardFlow$Body;)V"⟩, 4), (⟨"GuardFlow$Forger", "lackingIn", "(LGuardFlow$Body;)I"⟩, 2), (⟨"GuardFlow$Table", "changesSome", "(IJ)Z"⟩, 4)]
theorem lw_r1 : ∀ q ∈ lw_privs_1, lw_okq q := List.forall_mem_cons.mpr ⟨lw_p0, List.forall_mem_cons.mpr ⟨lw_p1, List.forall_mem_cons.mpr ⟨lw_p2, List.forall_mem_cons.mpr ⟨lw_p3, List.forall_mem_cons.mpr ⟨lw_p4, List.forall_mem_cons.mpr ⟨lw_p5, List.forall_mem_cons.mpr ⟨lw_p6, List.forall_mem_cons.mpr ⟨lw_p7, List.forall_mem_cons.mpr ⟨lw_p8, List.forall_mem_cons.mpr ⟨lw_p9, List.forall_mem_cons.mpr ⟨lw_p10, List.forall_mem_cons.mpr ⟨lw_p11, List.forall_mem_cons.mpr ⟨lw_p12, List.forall_mem_cons.mpr ⟨lw_p13, List.forall_mem_cons.mpr ⟨lw_p14, List.forall_mem_cons.mpr ⟨lw_p15, fun _ h => absurd h List.not_mem_nil⟩⟩⟩⟩⟩⟩⟩⟩⟩⟩⟩⟩⟩⟩⟩⟩
theorem lw_p16 : lw_okq (⟨"GuardFlow$Forger", "copyInstructions", "(LGuardFlow$Body;LGuardFlow$Body;)V"⟩, 2) := ⟨⟨by decide +kernel, by decide +kernel⟩, List.mem_of_getElem? (i := 62) (by decide +kernel), List.mem_of_getElem? (i := 402) (by decide +kernel), List.mem_of_getElem? (i := 403) (by decide +kernel)⟩
theorem lw_p17 : lw_okq (⟨"GuardFlow$Forger", "moveTargets", "(LGuardFlow$Body;)V"⟩, 2) := ⟨⟨by decide +kernel, by decide +kernel⟩, List.mem_of_getElem? (i := 62) (by decide +kernel), List.mem_of_getElem? (i := 407) (by decide +kernel), List.mem_of_getElem? (i := 408) (by decide +kernel)⟩
theorem lw_p18 : lw_okq (⟨"GuardFlow$Forger", "copyHandlers", "(LGuardFlow$Body;LGuardFlow$Body;)V"⟩, 2) := ⟨⟨by decide +kernel, by decide +kernel⟩, List.mem_of_getElem? (i := 62) (by decide +kernel), List.mem_of_getElem? (i := 412) (by decide +kernel), List.mem_of_getElem? (i := 413) (by decide +kernel)⟩
theorem lw_p19 : lw_okq (⟨"GuardFlow", "programOf", "(Z)LGuardFlow$Program;"⟩, 6) := ⟨⟨by decide +kernel, by decide +kernel⟩, List.mem_of_getElem? (i := 10) (by decide +kernel), List.mem_of_getElem? (i := 425) (by decide +kernel), List.mem_of_getElem? (i := 426) (by decide +kernel)⟩
theorem lw_p20 : lw_okq (⟨"GuardFlow", "firstUncertified", "(LGuardFlow$Body;)I"⟩, 6) := ⟨⟨by decide +kernel, by decide +kernel⟩, List.mem_of_getElem? (i := 10) (by decide +kernel), List.mem_of_getElem? (i := 429) (by decide +kernel), List.mem_of_getElem? (i := 430) (by decide +kernel)⟩
theorem lw_p21 : lw_okq (⟨"GuardFlow", "settledBody", "(ZI)LGuardFlow$Body;"⟩, 6) := ⟨⟨by decide +kernel, by decide +kernel⟩, List.mem_of_getElem? (i := 10) (by decide +kernel), List.mem_of_getElem? (i := 439) (by decide +kernel), List.mem_of_getElem? (i := 440) (by decide +kernel)⟩
theorem lw_p22 : lw_okq (⟨"GuardFlowModel", "change", "()V"⟩, 20) := ⟨⟨by decide +kernel, by decide +kernel⟩, List.mem_of_getElem? (i := 491) (by decide +kernel), List.mem_of_getElem? (i := 563) (by decide +kernel), List.mem_of_getElem? (i := 564) (by decide +kernel)⟩
theorem lw_p23 : lw_okq (⟨"GuardFlowModel", "canWay", "(III)Z"⟩, 20) := ⟨⟨by decide +kernel, by decide +kernel⟩, List.mem_of_getElem? (i := 491) (by decide +kernel), List.mem_of_getElem? (i := 571) (by decide +kernel), List.mem_of_getElem? (i := 572) (by decide +kernel)⟩
theorem lw_p24 : lw_okq (⟨"GuardFlowModel", "isState", "(I)Z"⟩, 20) := ⟨⟨by decide +kernel, by decide +kernel⟩, List.mem_of_getElem? (i := 491) (by decide +kernel), List.mem_of_getElem? (i := 575) (by decide +kernel), List.mem_of_getElem? (i := 576) (by decide +kernel)⟩
theorem lw_p25 : lw_okq (⟨"GuardFlowModel", "isThere", "(III)Z"⟩, 20) := ⟨⟨by decide +kernel, by decide +kernel⟩, List.mem_of_getElem? (i := 491) (by decide +kernel), List.mem_of_getElem? (i := 598) (by decide +kernel), List.mem_of_getElem? (i := 599) (by decide +kernel)⟩
theorem lw_p26 : lw_okq (⟨"GuardFlowModel", "below", "(II)I"⟩, 20) := ⟨⟨by decide +kernel, by decide +kernel⟩, List.mem_of_getElem? (i := 491) (by decide +kernel), List.mem_of_getElem? (i := 602) (by decide +kernel), List.mem_of_getElem? (i := 603) (by decide +kernel)⟩
theorem lw_p27 : lw_okq (⟨"GuardFlowModel", "lacking", "(I)I"⟩, 20) := ⟨⟨by decide +kernel, by decide +kernel⟩, List.mem_of_getElem? (i := 491) (by decide +kernel), List.mem_of_getElem? (i := 614) (by decide +kernel), List.mem_of_getElem? (i := 615) (by decide +kernel)⟩
theorem lw_p28 : lw_okq (⟨"GuardFlowModel", "lacks", "(III)Z"⟩, 20) := ⟨⟨by decide +kernel, by decide +kernel⟩, List.mem_of_getElem? (i := 491) (by decide +kernel), List.mem_of_getElem? (i := 618) (by decide +kernel), List.mem_of_getElem? (i := 619) (by decide +kernel)⟩
theorem lw_p29 : lw_okq (⟨"GuardFlowModel", "needs", "(III)Z"⟩, 20) := ⟨⟨by decide +kernel, by decide +kernel⟩, List.mem_of_getElem? (i := 491) (by decide +kernel), List.mem_of_getElem? (i := 622) (by decide +kernel), List.mem_of_getElem? (i := 623) (by decide +kernel)⟩
theorem lw_p30 : lw_okq (⟨"GuardFlowModel", "find", "(I)V"⟩, 20) := ⟨⟨by decide +kernel, by decide +kernel⟩, List.mem_of_getElem? (i := 491) (by decide +kernel), List.mem_of_getElem? (i := 626) (by decide +kernel), List.mem_of_getElem? (i := 627) (by decide +kernel)⟩
theorem lw_p31 : lw_okq (⟨"GuardFlowModel", "join", "([JIJ)V"⟩, 20) := ⟨⟨by decide +kernel, by decide +kernel⟩, List.mem_of_getElem? (i := 491) (by decide +kernel), List.mem_of_getElem? (i := 630) (by decide +kernel), List.mem_of_getElem? (i := 631) (by decide +kernel)⟩
def lw_privs_2 : List (MethodName × Nat) := [(⟨"GuardFlow$Forger", "copyInstructions", "(LGuardFlow$Body;LGuardFlow$Body;)V"⟩, 2), (⟨"GuardFlow$Forger", "moveTargets", "(LGuardFlow$Body;)V"⟩, 2), (⟨"GuardFlow$Forger", "copyHandlers", "(LGuardFlow$Body;LGuardFlow$Body;)V"⟩, 2), (⟨"GuardFlow", "programOf", "(Z)LGuardFlow$Program;"⟩, 6), (⟨"GuardFlow", "firstUncertified", "(LGuardFlow$Body;)I"⟩, 6), (⟨"GuardFlow", "settledBody", "(ZI)LGuardFlow$Body;"⟩, 6), (⟨"GuardFlowModel", "change", "()V"⟩, 20), (⟨"GuardFlowModel", "canWay", "(III)Z"⟩, 20), (⟨"GuardFlowModel", "isState", "(I)Z"⟩, 20), (⟨"GuardFlowModel", "isThere", "(III)Z"⟩, 20), (⟨"GuardFlowModel", "below", "(II)I"⟩, 20), (⟨"GuardFlowModel", "lacking", "(I)I"⟩, 20), (⟨"GuardFlowModel", "lacks", "(III)Z"⟩, 20), (⟨"GuardFlowModel", "needs", "(III)Z"⟩, 20), (⟨"GuardFlowModel", "find", "(I)V"⟩, 20), (⟨"GuardFlowModel", "join", "([JIJ)V"⟩, 20)]
theorem lw_r2 : ∀ q ∈ lw_privs_2, lw_okq q := List.forall_mem_cons.mpr ⟨lw_p16, List.forall_mem_cons.mpr ⟨lw_p17, List.forall_mem_cons.mpr ⟨lw_p18, List.forall_mem_cons.mpr ⟨lw_p19, List.forall_mem_cons.mpr ⟨lw_p20, List.forall_mem_cons.mpr ⟨lw_p21, List.forall_mem_cons.mpr ⟨lw_p22, List.forall_mem_cons.mpr ⟨lw_p23, List.forall_mem_cons.mpr ⟨lw_p24, List.forall_mem_cons.mpr ⟨lw_p25, List.forall_mem_cons.mpr ⟨lw_p26, List.forall_mem_cons.mpr ⟨lw_p27, List.forall_mem_cons.mpr ⟨lw_p28, List.forall_mem_cons.mpr ⟨lw_p29, List.forall_mem_cons.mpr ⟨lw_p30, List.forall_mem_cons.mpr ⟨lw_p31, fun _ h => absurd h List.not_mem_nil⟩⟩⟩⟩⟩⟩⟩⟩⟩⟩⟩⟩⟩⟩⟩⟩
theorem lw_p32 : lw_okq (⟨"GuardFlowModel", "goOn", "(III)V"⟩, 20) := ⟨⟨by decide +kernel, by decide +kernel⟩, List.mem_of_getElem? (i := 491) (by decide +kernel), List.mem_of_getElem? (i := 634) (by decide +kernel), List.mem_of_getElem? (i := 635) (by decide +kernel)⟩
theorem lw_p33 : lw_okq (⟨"GuardFlowModel", "isGuarded", "(III)Z"⟩, 20) := ⟨⟨by decide +kernel, by decide +kernel⟩, List.mem_of_getElem? (i := 491) (by decide +kernel), List.mem_of_getElem? (i := 638) (by decide +kernel), List.mem_of_getElem? (i := 639) (by decide +kernel)⟩
theorem lw_p34 : lw_okq (⟨"GuardFlowModel", "isGoal", "(III)Z"⟩, 20) := ⟨⟨by decide +kernel, by decide +kernel⟩, List.mem_of_getElem? (i := 491) (by decide +kernel), List.mem_of_getElem? (i := 642) (by decide +kernel), List.mem_of_getElem? (i := 643) (by decide +kernel)⟩
theorem lw_p35 : lw_okq (⟨"GuardFlowModel", "led", "(JI)J"⟩, 20) := ⟨⟨by decide +kernel, by decide +kernel⟩, List.mem_of_getElem? (i := 491) (by decide +kernel), List.mem_of_getElem? (i := 646) (by decide +kernel), List.mem_of_getElem? (i := 647) (by decide +kernel)⟩
theorem lw_p36 : lw_okq (⟨"GuardFlowModel", "weave", "(I)V"⟩, 20) := ⟨⟨by decide +kernel, by decide +kernel⟩, List.mem_of_getElem? (i := 491) (by decide +kernel), List.mem_of_getElem? (i := 650) (by decide +kernel), List.mem_of_getElem? (i := 651) (by decide +kernel)⟩
theorem lw_p37 : lw_okq (⟨"GuardFlowModel", "which", "(ZII)I"⟩, 20) := ⟨⟨by decide +kernel, by decide +kernel⟩, List.mem_of_getElem? (i := 491) (by decide +kernel), List.mem_of_getElem? (i := 666) (by decide +kernel), List.mem_of_getElem? (i := 667) (by decide +kernel)⟩
theorem lw_p38 : lw_okq (⟨"GuardFlowModel", "bits", "(J)I"⟩, 20) := ⟨⟨by decide +kernel, by decide +kernel⟩, List.mem_of_getElem? (i := 491) (by decide +kernel), List.mem_of_getElem? (i := 670) (by decide +kernel), List.mem_of_getElem? (i := 671) (by decide +kernel)⟩
theorem lw_p39 : lw_okq (⟨"GuardFlowModel", "countOf", "(III)I"⟩, 20) := ⟨⟨by decide +kernel, by decide +kernel⟩, List.mem_of_getElem? (i := 491) (by decide +kernel), List.mem_of_getElem? (i := 686) (by decide +kernel), List.mem_of_getElem? (i := 687) (by decide +kernel)⟩
theorem lw_p40 : lw_okq (⟨"GuardFlowModel", "comeTo", "(II)I"⟩, 20) := ⟨⟨by decide +kernel, by decide +kernel⟩, List.mem_of_getElem? (i := 491) (by decide +kernel), List.mem_of_getElem? (i := 690) (by decide +kernel), List.mem_of_getElem? (i := 691) (by decide +kernel)⟩
theorem lw_p41 : lw_okq (⟨"GuardFlowModel", "wayMany", "()I"⟩, 20) := ⟨⟨by decide +kernel, by decide +kernel⟩, List.mem_of_getElem? (i := 491) (by decide +kernel), List.mem_of_getElem? (i := 702) (by decide +kernel), List.mem_of_getElem? (i := 703) (by decide +kernel)⟩
theorem lw_p42 : lw_okq (⟨"GuardFlowModel", "instructions", "(I)I"⟩, 20) := ⟨⟨by decide +kernel, by decide +kernel⟩, List.mem_of_getElem? (i := 491) (by decide +kernel), List.mem_of_getElem? (i := 706) (by decide +kernel), List.mem_of_getElem? (i := 707) (by decide +kernel)⟩
theorem lw_p43 : lw_okq (⟨"GuardFlowModel", "neededMany", "()I"⟩, 20) := ⟨⟨by decide +kernel, by decide +kernel⟩, List.mem_of_getElem? (i := 491) (by decide +kernel), List.mem_of_getElem? (i := 710) (by decide +kernel), List.mem_of_getElem? (i := 711) (by decide +kernel)⟩
def lw_privs_3 : List (MethodName × Nat) := [(⟨"GuardFlowModel", "goOn", "(III)V"⟩, 20), (⟨"GuardFlowModel", "isGuarded", "(III)Z"⟩, 20), (⟨"GuardFlowModel", "isGoal", "(III)Z"⟩, 20), (⟨"GuardFlowModel", "led", "(JI)J"⟩, 20), (⟨"GuardFlowModel", "weave", "(I)V"⟩, 20), (⟨"GuardFlowModel", "which", "(ZII)I"⟩, 20), (⟨"GuardFlowModel", "bits", "(J)I"⟩, 20), (⟨"GuardFlowModel", "countOf", "(III)I"⟩, 20), (⟨"GuardFlowModel", "comeTo", "(II)I"⟩, 20), (⟨"GuardFlowModel", "wayMany", "()I"⟩, 20), (⟨"GuardFlowModel", "instructions", "(I)I"⟩, 20), (⟨"GuardFlowModel", "neededMany", "()I"⟩, 20)]
theorem lw_r3 : ∀ q ∈ lw_privs_3, lw_okq q := List.forall_mem_cons.mpr ⟨lw_p32, List.forall_mem_cons.mpr ⟨lw_p33, List.forall_mem_cons.mpr ⟨lw_p34, List.forall_mem_cons.mpr ⟨lw_p35, List.forall_mem_cons.mpr ⟨lw_p36, List.forall_mem_cons.mpr ⟨lw_p37, List.forall_mem_cons.mpr ⟨lw_p38, List.forall_mem_cons.mpr ⟨lw_p39, List.forall_mem_cons.mpr ⟨lw_p40, List.forall_mem_cons.mpr ⟨lw_p41, List.forall_mem_cons.mpr ⟨lw_p42, List.forall_mem_cons.mpr ⟨lw_p43, fun _ h => absurd h List.not_mem_nil⟩⟩⟩⟩⟩⟩⟩⟩⟩⟩⟩⟩
def lw_privs : List (MethodName × Nat) := lw_privs_1 ++ (lw_privs_2 ++ (lw_privs_3))
def lw_tbl : List Cond := k2_sels lw_privs ++ tables_1
theorem lw_privs_ok : ∀ q ∈ lw_privs, lw_okq q := by
  show ∀ q ∈ lw_privs_1 ++ (lw_privs_2 ++ (lw_privs_3)), lw_okq q
  exact List.forall_mem_append.mpr ⟨lw_r1, List.forall_mem_append.mpr ⟨lw_r2, lw_r3⟩⟩
end
section
/-! BASE: values of three kinds, locals by place, the world as a function of addresses -/
abbrev gx_V : Type := Int32 ⊕ (Int64 ⊕ Option Nat)
abbrev gx_i (x : Int32) : gx_V := Sum.inl x
abbrev gx_l (x : Int64) : gx_V := Sum.inr (Sum.inl x)
abbrev gx_r (o : Option Nat) : gx_V := Sum.inr (Sum.inr o)
def gx_t (v : gx_V) : Value := match v with
  | .inl x => .int x
  | .inr (.inl x) => .long x
  | .inr (.inr o) => va_rf o
def gx_2 (v : gx_V) : Bool := match v with
  | .inr (.inl _) => true
  | _ => false
theorem gx_cat (v : gx_V) : (gx_t v).category = if gx_2 v = true then 2 else 1 := by
  rcases v with x | x | o
  · rfl
  · rfl
  · cases o <;> rfl
/-- locals by place -/
def gx_L (ls : Array Slot) (nL : Nat) (lv : List (Option gx_V)) : Prop := ls.size = nL ∧ lv_wf ls ∧ ∀ (i : Nat) (v : gx_V), lv[i]? = some (some v) → ls[i]? = some (.val (gx_t v))
def gx_as (lv : List (Option gx_V)) : List (Nat × Value) := (List.range lv.length).filterMap (fun i => match lv[i]? with
  | some (some v) => some (i, gx_t v)
  | _ => none)
theorem gx_as_mem {lv : List (Option gx_V)} {i : Nat} {v : gx_V} (h : lv[i]? = some (some v)) : (i, gx_t v) ∈ gx_as lv := by
  refine List.mem_filterMap.mpr ⟨i, List.mem_range.mpr (List.getElem?_eq_some_iff.mp h).1, ?_⟩
  simp [h]
theorem gx_as_has {ls : Array Slot} {nL : Nat} {lv : List (Option gx_V)} (h : gx_L ls nL lv) : lv_has ls nL (gx_as lv) := by
  refine ⟨h.1, h.2.1, fun q hq => ?_⟩
  obtain ⟨i, -, hi⟩ := List.mem_filterMap.mp hq
  cases hv : lv[i]? with
  | none => rw [hv] at hi; cases hi
  | some o =>
    cases o with
    | none => rw [hv] at hi; cases hi
    | some v =>
      rw [hv] at hi
      cases hi
      exact h.2.2 i v hv
def gx_s1 : List (Option gx_V) → Nat → gx_V → List (Option gx_V)
  | [], _, _ => []
  | _ :: t, 0, v => some v :: t
  | a :: t, 1, v => (match a with
      | some (.inr (.inl _)) => none
      | _ => a) :: gx_s1 t 0 v
  | a :: t, n + 2, v => a :: gx_s1 t (n + 1) v
def gx_z : List (Option gx_V) → List (Option gx_V)
  | [] => []
  | _ :: t => none :: t
def gx_s2 : List (Option gx_V) → Nat → gx_V → List (Option gx_V)
  | [], _, _ => []
  | _ :: t, 0, v => some v :: gx_z t
  | a :: t, 1, v => (match a with
      | some (.inr (.inl _)) => none
      | _ => a) :: gx_s2 t 0 v
  | a :: t, n + 2, v => a :: gx_s2 t (n + 1) v
theorem gx_s1_at : ∀ (lv : List (Option gx_V)) (i : Nat) (v : gx_V) (j : Nat) (w : gx_V), (gx_s1 lv i v)[j]? = some (some w) → (j = i ∧ w = v) ∨ (j ≠ i ∧ lv[j]? = some (some w) ∧ ¬ (j + 1 = i ∧ gx_2 w = true))
  | [], _, _, j, w, h => by simp [gx_s1] at h
  | a :: t, 0, v, 0, w, h => by
    simp [gx_s1] at h
    exact Or.inl ⟨rfl, h.symm⟩
  | a :: t, 0, v, j + 1, w, h => by
    simp [gx_s1] at h
    exact Or.inr ⟨by omega, by simpa using h, by omega⟩
  | a :: t, 1, v, 0, w, h => by
    refine Or.inr ⟨by omega, ?_, ?_⟩
    · rcases a with _ | x | x | o <;> simp [gx_s1] at h ⊢ <;> exact h
    · rcases a with _ | x | x | o <;> simp [gx_s1] at h <;> subst h <;> simp [gx_2]
  | a :: t, 1, v, j + 1, w, h => by
    have h' : (gx_s1 t 0 v)[j]? = some (some w) := by simpa [gx_s1] using h
    rcases gx_s1_at t 0 v j w h' with ⟨h1, h2⟩ | ⟨h1, h2, h3⟩
    · exact Or.inl ⟨by omega, h2⟩
    · exact Or.inr ⟨by omega, by simpa using h2, by omega⟩
  | a :: t, n + 2, v, 0, w, h => by
    simp [gx_s1] at h
    exact Or.inr ⟨by omega, by simpa using h, by omega⟩
  | a :: t, n + 2, v, j + 1, w, h => by
    have h' : (gx_s1 t (n + 1) v)[j]? = some (some w) := by simpa [gx_s1] using h
    rcases gx_s1_at t (n + 1) v j w h' with ⟨h1, h2⟩ | ⟨h1, h2, h3⟩
    · exact Or.inl ⟨by omega, h2⟩
    · exact Or.inr ⟨by omega, by simpa using h2, fun q => h3 ⟨by omega, q.2⟩⟩
theorem gx_s2_at : ∀ (lv : List (Option gx_V)) (i : Nat) (v : gx_V) (j : Nat) (w : gx_V), (gx_s2 lv i v)[j]? = some (some w) → (j = i ∧ w = v) ∨ (j ≠ i ∧ j ≠ i + 1 ∧ lv[j]? = some (some w) ∧ ¬ (j + 1 = i ∧ gx_2 w = true))
  | [], _, _, j, w, h => by simp [gx_s2] at h
  | a :: t, 0, v, 0, w, h => by
    simp [gx_s2] at h
    exact Or.inl ⟨rfl, h.symm⟩
  | a :: t, 0, v, j + 1, w, h => by
    have h' : (gx_z t)[j]? = some (some w) := by simpa [gx_s2] using h
    cases t with
    | nil => simp [gx_z] at h'
    | cons b t =>
      cases j with
      | zero => simp [gx_z] at h'
      | succ j =>
        have h2 : t[j]? = some (some w) := by simpa [gx_z] using h'
        exact Or.inr ⟨by omega, by omega, by simpa using h2, by omega⟩
  | a :: t, 1, v, 0, w, h => by
    refine Or.inr ⟨by omega, by omega, ?_, ?_⟩
    · rcases a with _ | x | x | o <;> simp [gx_s2] at h ⊢ <;> exact h
    · rcases a with _ | x | x | o <;> simp [gx_s2] at h <;> subst h <;> simp [gx_2]
  | a :: t, 1, v, j + 1, w, h => by
    have h' : (gx_s2 t 0 v)[j]? = some (some w) := by simpa [gx_s2] using h
    rcases gx_s2_at t 0 v j w h' with ⟨h1, h2⟩ | ⟨h1, h2, h3, h4⟩
    · exact Or.inl ⟨by omega, h2⟩
    · exact Or.inr ⟨by omega, by omega, by simpa using h3, by omega⟩
  | a :: t, n + 2, v, 0, w, h => by
    simp [gx_s2] at h
    exact Or.inr ⟨by omega, by omega, by simpa using h, by omega⟩
  | a :: t, n + 2, v, j + 1, w, h => by
    have h' : (gx_s2 t (n + 1) v)[j]? = some (some w) := by simpa [gx_s2] using h
    rcases gx_s2_at t (n + 1) v j w h' with ⟨h1, h2⟩ | ⟨h1, h2, h3, h4⟩
    · exact Or.inl ⟨by omega, h2⟩
    · exact Or.inr ⟨by omega, by omega, by simpa using h3, fun q => h4 ⟨by omega, q.2⟩⟩
theorem gx_s1_L {ls ls' : Array Slot} {nL i : Nat} {lv : List (Option gx_V)} {v : gx_V} (hl : lv_has ls' nL ((i, gx_t v) :: (gx_as lv).filter (fun q => !(q.1 == i) && !(q.1 + 1 == i && q.2.category == 2)))) : gx_L ls' nL (gx_s1 lv i v) := by
  refine ⟨hl.1, hl.2.1, fun j w h => ?_⟩
  rcases gx_s1_at lv i v j w h with ⟨rfl, rfl⟩ | ⟨h1, h2, h3⟩
  · exact hl.2.2 (_, _) List.mem_cons_self
  · refine hl.2.2 (j, gx_t w) (List.mem_cons_of_mem _ (List.mem_filter.mpr ⟨gx_as_mem h2, ?_⟩))
    have e1 : (j == i) = false := by simpa using h1
    by_cases e2 : j + 1 = i
    · have e3 : gx_2 w = false := by
        cases hw : gx_2 w with
        | false => rfl
        | true => exact absurd ⟨e2, hw⟩ h3
      simp [e1, gx_cat, e3]
    · simp [e1, e2]
theorem gx_s2_L {ls ls' : Array Slot} {nL i : Nat} {lv : List (Option gx_V)} {v : gx_V} (hl : lv_has ls' nL ((i, gx_t v) :: (gx_as lv).filter (fun q => !(q.1 == i) && (!(q.1 == i + 1) && !(q.1 + 1 == i && q.2.category == 2))))) : gx_L ls' nL (gx_s2 lv i v) := by
  refine ⟨hl.1, hl.2.1, fun j w h => ?_⟩
  rcases gx_s2_at lv i v j w h with ⟨rfl, rfl⟩ | ⟨h1, h1b, h2, h3⟩
  · exact hl.2.2 (_, _) List.mem_cons_self
  · refine hl.2.2 (j, gx_t w) (List.mem_cons_of_mem _ (List.mem_filter.mpr ⟨gx_as_mem h2, ?_⟩))
    have e1 : (j == i) = false := by simpa using h1
    have e1b : (j == i + 1) = false := by simpa using h1b
    by_cases e2 : j + 1 = i
    · have e3 : gx_2 w = false := by
        cases hw : gx_2 w with
        | false => rfl
        | true => exact absurd ⟨e2, hw⟩ h3
      simp [e1, e1b, gx_cat, e3]
    · simp [e1, e1b, e2]
/-- fewer locals -/
def gx_mk : List Bool → List (Option gx_V) → List (Option gx_V)
  | b :: bs, a :: t => (match b with
      | true => a
      | false => none) :: gx_mk bs t
  | _, _ => []
theorem gx_mk_at : ∀ (bs : List Bool) (lv : List (Option gx_V)) (j : Nat) (w : gx_V), (gx_mk bs lv)[j]? = some (some w) → lv[j]? = some (some w)
  | [], _, j, w, h => by simp [gx_mk] at h
  | b :: bs, [], j, w, h => by simp [gx_mk] at h
  | b :: bs, a :: t, 0, w, h => by
    cases b <;> simp [gx_mk] at h ⊢
    exact h
  | b :: bs, a :: t, j + 1, w, h => by
    have h' : (gx_mk bs t)[j]? = some (some w) := by simpa [gx_mk] using h
    simpa using gx_mk_at bs t j w h'
/-- the locals at a method's entry -/
def gx_en : List gx_V → List (Option gx_V)
  | [] => []
  | .inl x :: t => some (.inl x) :: gx_en t
  | .inr (.inl x) :: t => some (.inr (.inl x)) :: none :: gx_en t
  | .inr (.inr o) :: t => some (.inr (.inr o)) :: gx_en t
theorem gx_en_at : ∀ (vs : List gx_V) (k i : Nat) (v : gx_V), (gx_en vs)[i]? = some (some v) → (k + i, gx_t v) ∈ lv_args k (vs.map gx_t)
  | [], k, i, v, h => by simp [gx_en] at h
  | .inl x :: t, k, 0, v, h => by
    simp [gx_en] at h
    subst h
    exact List.mem_cons_self
  | .inl x :: t, k, i + 1, v, h => by
    have h' : (gx_en t)[i]? = some (some v) := by simpa [gx_en] using h
    have := gx_en_at t (k + 1) i v h'
    rw [show k + (i + 1) = k + 1 + i by omega]
    exact List.mem_cons_of_mem _ this
  | .inr (.inl x) :: t, k, 0, v, h => by
    simp [gx_en] at h
    subst h
    exact List.mem_cons_self
  | .inr (.inl x) :: t, k, 1, v, h => by simp [gx_en] at h
  | .inr (.inl x) :: t, k, i + 2, v, h => by
    have h' : (gx_en t)[i]? = some (some v) := by simpa [gx_en] using h
    have := gx_en_at t (k + 2) i v h'
    rw [show k + (i + 2) = k + 2 + i by omega]
    exact List.mem_cons_of_mem _ this
  | .inr (.inr o) :: t, k, 0, v, h => by
    simp [gx_en] at h
    subst h
    exact List.mem_cons_self
  | .inr (.inr o) :: t, k, i + 1, v, h => by
    have h' : (gx_en t)[i]? = some (some v) := by simpa [gx_en] using h
    have := gx_en_at t (k + 1) i v h'
    rw [show k + (i + 1) = k + 1 + i by omega]
    refine List.mem_cons_of_mem _ ?_
    have e : (if (gx_t (.inr (.inr o))).category = 2 then k + 2 else k + 1) = k + 1 := by rw [gx_cat]; rfl
    rw [e]
    exact this
/-- unset places behind -/
def gx_pad (n : Nat) (lv : List (Option gx_V)) : List (Option gx_V) := lv ++ List.replicate (n - lv.length) none
theorem gx_pad_at {n : Nat} {lv : List (Option gx_V)} {i : Nat} {v : gx_V} (h : (gx_pad n lv)[i]? = some (some v)) : lv[i]? = some (some v) := by
  unfold gx_pad at h
  by_cases hl : i < lv.length
  · rw [List.getElem?_append_left hl] at h
    exact h
  · rw [List.getElem?_append_right (by omega)] at h
    rw [List.getElem?_replicate] at h
    split at h <;> cases h
/-- the world: cells by address, and the next address -/
abbrev gx_E : Type := (Nat × vp_A) ⊕ (Nat × List Value)
abbrev gx_H : Type := (Nat → Option gx_E) × Nat
/-- the tables' numbers: classes and slots, array classes, the first address that is ours -/
abbrev gx_D : Type := va_G × (Nat → ClassId) × Nat
def gx_e (D : gx_D) (e : gx_E) : va_E := match e with
  | .inl a => .inl (D.2.1 a.1, a.2)
  | .inr o => .inr o
def gx_R (D : gx_D) (cl : List vw_C) (X : gx_H) (H : Heap) : Prop := H.size = X.2 ∧ D.2.2 ≤ X.2 ∧ ∀ (a : Nat) (e : gx_E), X.1 a = some e → D.2.2 ≤ a ∧ va_at D.1 cl (a, gx_e D e) H
def gx_up (f : Nat → Option gx_E) (a : Nat) (e : gx_E) : Nat → Option gx_E := fun q => if q = a then some e else f q
def gx_nest (w : Cond) : Bool := match w with
  | .fieldLinkNest .. => true
  | .methodLinkNest .. => true
  | .arrayOver (.object _) => true
  | _ => false
def gx_K (D : gx_D) (cl : List vw_C) (aty : List FieldType) (tb nb : List Cond) (U : State) : Prop :=
  (∀ (c : Nat) (q : vw_C), cl[c]? = some q → u_Kn U q.1 q.2.1 q.2.2 (D.1.1 c) (D.1.2 c)) ∧ (∀ (t : Nat) (ty : FieldType), aty[t]? = some ty → ArrOfT U (D.2.1 t) ty ∧ va_RA U (D.2.1 t) ty) ∧ (∀ w ∈ tb, ∀ a : Array Value, w.before a U = true) ∧ (∀ w ∈ nb, va_Nw w U) ∧ (∀ w ∈ tb, goodWord w = true) ∧ ∀ w ∈ nb, gx_nest w = true
theorem gx_K.moved {D : gx_D} {cl : List vw_C} {aty : List FieldType} {tb nb : List Cond} {s U : State} (h : gx_K D cl aty tb nb s) (hW : s.WarmedH U.vm) : gx_K D cl aty tb nb U := by
  obtain ⟨h1, h2, h3, h4, h5, h6⟩ := h
  refine ⟨fun c q hq => u_Kn_moved hW.alike (h1 c q hq), fun t ty ht => ⟨arrOfT_moved hW.alike (h2 t ty ht).1, (h2 t ty ht).2.moved hW.alike⟩, fun w hw a => word_at hW (good_of_word (h5 w hw)) (h3 w hw #[]), fun w hw => ?_, h5, h6⟩
  have g := h6 w hw
  have z := h4 w hw
  cases w with
  | fieldLinkNest => exact va_Nw.warmF hW z
  | methodLinkNest => exact va_Nw.warmM hW z
  | arrayOver ty =>
    cases ty with
    | object C => exact va_AO.moved (C := C) hW.alike z
    | _ => simp [gx_nest] at g
  | _ => simp [gx_nest] at g
theorem gx_K.same {D : gx_D} {cl : List vw_C} {aty : List FieldType} {tb nb : List Cond} {s U : State} (h : gx_K D cl aty tb nb s) (hv : s.vm = U.vm) : gx_K D cl aty tb nb U := h.moved (by rw [← hv]; exact State.WarmedH.refl s)
/-- va_K out of it, for the kit's rows: one array class -/
theorem gx_K.va {D : gx_D} {cl : List vw_C} {aty : List FieldType} {tb nb : List Cond} {s : State} (h : gx_K D cl aty tb nb s) : va_K D.1 cl [] s := ⟨h.1, fun k q hk => by simp at hk⟩
theorem gx_K.va1 {D : gx_D} {cl : List vw_C} {aty : List FieldType} {tb nb : List Cond} {s : State} (h : gx_K D cl aty tb nb s) {t : Nat} {ty : FieldType} (ht : aty[t]? = some ty) : va_K D.1 cl [(D.2.1 t, ty)] s := ⟨h.1, fun k q hk => by
  have hz : k < 1 := (List.getElem?_eq_some_iff.mp hk).1
  rw [show k = 0 by omega] at hk
  cases hk
  exact h.2.1 t ty ht⟩
theorem gx_R.one {D : gx_D} {cl : List vw_C} {X : gx_H} {H : Heap} (h : gx_R D cl X H) {a : Nat} {e : gx_E} (ha : X.1 a = some e) : va_P D.1 cl [(a, gx_e D e)] H := fun k q hk => by
  have hz : k < 1 := (List.getElem?_eq_some_iff.mp hk).1
  rw [show k = 0 by omega] at hk
  cases hk
  exact (h.2.2 a e ha).2
/-- a cell is overwritten -/
theorem gx_R.put {D : gx_D} {cl : List vw_C} {X : gx_H} {H H1 : Heap} (h : gx_R D cl X H) {a : Nat} {e0 e : gx_E} (ha : X.1 a = some e0) (z : H1.size = H.size) (oq : ∀ q : Nat, q ≠ a → H1[q]? = H[q]?) (he : va_at D.1 cl (a, gx_e D e) H1) : gx_R D cl (gx_up X.1 a e, X.2) H1 := by
  refine ⟨z.trans h.1, h.2.1, fun q x hx => ?_⟩
  unfold gx_up at hx
  by_cases hq : q = a
  · subst hq
    simp at hx
    subst hx
    exact ⟨(h.2.2 _ _ ha).1, he⟩
  · simp [hq] at hx
    exact ⟨(h.2.2 q x hx).1, (h.2.2 q x hx).2.kept (oq q hq)⟩
/-- a cell comes -/
theorem gx_R.push {D : gx_D} {cl : List vw_C} {X : gx_H} {H H1 : Heap} (h : gx_R D cl X H) {e : gx_E} (z : H1.size = H.size + 1) (oq : ∀ q : Nat, q < H.size → H1[q]? = H[q]?) (he : va_at D.1 cl (X.2, gx_e D e) H1) : gx_R D cl (gx_up X.1 X.2 e, X.2 + 1) H1 := by
  refine ⟨by rw [z, h.1], Nat.le_succ_of_le h.2.1, fun q x hx => ?_⟩
  unfold gx_up at hx
  by_cases hq : q = X.2
  · subst hq
    simp at hx
    subst hx
    exact ⟨h.2.1, he⟩
  · simp [hq] at hx
    exact ⟨(h.2.2 q x hx).1, (h.2.2 q x hx).2.kept (oq q (h.2.2 q x hx).2.lt)⟩
end
section
/-! ROWS: the judgement gx_W (world, pc, locals, stack) and an instruction a row -/
def gx_C (D : gx_D) (cl : List vw_C) (aty : List FieldType) (tb nb : List Cond) (p : Program) (s : State) (m : MethodId) (meth : Method) (c : Code) (cc : ByteArray) (nL : Nat) (own : String) (ret : Option FieldType) : Prop :=
  p.tables.exec = Jvm.exec ∧ c.code = cc ∧ c.maxLocals = nL ∧ s.vm.findClass own = some m.cls ∧ meth.sig.returnType = ret ∧ meth.locks = false ∧ gx_K D cl aty tb nb s
abbrev gx_Z (D : gx_D) : Nat → Prop := fun q => D.2.2 ≤ q
def gx_W (D : gx_D) (cl : List vw_C) (nL : Nat) (p : Program) (l : Launch) (e : Env) (R : Room) (s : State) (m : MethodId) (args : Array Value) (below : List Frame) (meth : Method) (c : Code) (cells slots : Nat) (Q : State → Prop) (X : gx_H) (pc : Nat) (lv : List (Option gx_V)) (st : List gx_V) : Prop :=
  ∀ (H : Heap) (locs : List Loc) (ls : Array Slot), gx_R D cl X H → va_S (gx_Z D) s.heap H locs → gx_L ls nL lv → W p l e R s m args below meth c H locs cells slots Q (F0 m pc ls (st.map gx_t))
def gx_Q (D : gx_D) (cl : List vw_C) (r : Option gx_V) (X : gx_H) : Array Value → State → Outcome → State → Prop := fun _ st o t => o = .returned (r.map gx_t) ∧ gx_R D cl X t.heap ∧ va_F (gx_Z D) st t
abbrev gx_rm (fr lo c s : Nat) : Room := { frames := fr, cells := c, slots := s, locals := lo }
def gx_Pc (D : gx_D) (cl : List vw_C) (aty : List FieldType) (tb nb : List Cond) (av : List gx_V) (X : gx_H) : Array Value → State → Prop := va_Pc (av.map gx_t) (fun U => gx_R D cl X U.heap ∧ gx_K D cl aty tb nb U)
/-- a method's contract: from the world X, with these arguments, it answers r, the world is X', and it makes nc cells of ns slots -/
def gx_M (D : gx_D) (cl : List vw_C) (aty : List FieldType) (tb nb : List Cond) (l : Launch) (y : MethodName) (bytes : ByteArray) (maxL : Nat) (ret : Option FieldType) (fr lo : Nat) (av : List gx_V) (X : gx_H) (r : Option gx_V) (X' : gx_H) (nc ns : Nat) : Prop :=
  Met l y [.code y bytes maxL ret] (gx_rm fr lo nc ns) (gx_Pc D cl aty tb nb av X) (gx_Q D cl r X') nc ns (gx_Z D)
theorem gx_bd {α β : Type} {o : Option α} {k : α → Option β} {y : β} (h : o.bind k = some y) : ∃ a, o = some a ∧ k a = some y := by
  cases o with
  | none => cases h
  | some a => exact ⟨a, rfl, h⟩
def gx_b2 {α β γ : Type} (o : Option (α × β)) (k : α → β → Option γ) : Option γ := match o with
  | some z => k z.1 z.2
  | none => none
theorem gx_bd2 {α β γ : Type} {o : Option (α × β)} {k : α → β → Option γ} {y : γ} (h : gx_b2 o k = some y) : ∃ a b, o = some (a, b) ∧ k a b = some y := by
  cases o with
  | none => cases h
  | some z => exact ⟨z.1, z.2, rfl, h⟩
def gx_b4 {α β γ : Type} (o : Option (α × β × Nat × Nat)) (k : α → β → Nat → Nat → Option γ) : Option γ := match o with
  | some z => k z.1 z.2.1 z.2.2.1 z.2.2.2
  | none => none
theorem gx_bd4 {α β γ : Type} {o : Option (α × β × Nat × Nat)} {k : α → β → Nat → Nat → Option γ} {y : γ} (h : gx_b4 o k = some y) : ∃ a b c d, o = some (a, b, c, d) ∧ k a b c d = some y := by
  cases o with
  | none => cases h
  | some z => exact ⟨z.1, z.2.1, z.2.2.1, z.2.2.2, rfl, h⟩
/-- the rest's cells and slots on top of these -/
def gx_ad {α β : Type} (c s : Nat) (o : Option (α × β × Nat × Nat)) : Option (α × β × Nat × Nat) := match o with
  | some z => some (z.1, z.2.1, c + z.2.2.1, s + z.2.2.2)
  | none => none
theorem gx_add {α β : Type} {c s : Nat} {o : Option (α × β × Nat × Nat)} {r : α} {x : β} {c' s' : Nat} (h : gx_ad c s o = some (r, x, c', s')) : ∃ c2 s2, o = some (r, x, c2, s2) ∧ c' = c + c2 ∧ s' = s + s2 := by
  cases o with
  | none => cases h
  | some z =>
    simp only [gx_ad, Option.some.injEq, Prod.mk.injEq] at h
    obtain ⟨h1, h2, h3, h4⟩ := h
    exact ⟨z.2.2.1, z.2.2.2, by rw [← h1, ← h2], h3.symm, h4.symm⟩
/-- a reference that must be there -/
def gx_nn (o : Option Nat) : Option Nat := o
/-- a boolean -/
def gx_bz (x : Int32) : Option Int32 := if x = 0 ∨ x = 1 then some x else none
theorem gx_bz_s {x y : Int32} (h : gx_bz x = some y) : y = x ∧ (x = 0 ∨ x = 1) := by
  unfold gx_bz at h
  split at h
  · rename_i q
    cases h
    exact ⟨rfl, q⟩
  · cases h
/-! reading and writing the world -/
def gx_gf (X : gx_H) (a ci k : Nat) : Option Value := match X.1 a with
  | some (.inr o) => if o.1 = ci then o.2[k]? else none
  | _ => none
theorem gx_gf_s {X : gx_H} {a ci k : Nat} {v : Value} (h : gx_gf X a ci k = some v) : ∃ fs, X.1 a = some (.inr (ci, fs)) ∧ fs[k]? = some v := by
  unfold gx_gf at h
  split at h
  · rename_i o ho
    split at h
    · rename_i q
      obtain ⟨o1, o2⟩ := o
      cases q
      exact ⟨_, ho, h⟩
    · cases h
  · cases h
def gx_gi (X : gx_H) (a ci k : Nat) : Option Int32 := match gx_gf X a ci k with
  | some (.int x) => some x
  | _ => none
def gx_gl (X : gx_H) (a ci k : Nat) : Option Int64 := match gx_gf X a ci k with
  | some (.long x) => some x
  | _ => none
def gx_gr (X : gx_H) (a ci k : Nat) : Option (Option Nat) := match gx_gf X a ci k with
  | some (.ref b) => some (some b)
  | some .null => some none
  | _ => none
def gx_gd (X : gx_H) (a ci k : Nat) : Option Nat := match gx_gf X a ci k with
  | some (.ref b) => some b
  | _ => none
theorem gx_gi_s {X : gx_H} {a ci k : Nat} {x : Int32} (h : gx_gi X a ci k = some x) : gx_gf X a ci k = some (gx_t (gx_i x)) := by
  unfold gx_gi at h
  split at h
  · rename_i y hy
    cases h
    exact hy
  · cases h
theorem gx_gl_s {X : gx_H} {a ci k : Nat} {x : Int64} (h : gx_gl X a ci k = some x) : gx_gf X a ci k = some (gx_t (gx_l x)) := by
  unfold gx_gl at h
  split at h
  · rename_i y hy
    cases h
    exact hy
  · cases h
theorem gx_gr_s {X : gx_H} {a ci k : Nat} {x : Option Nat} (h : gx_gr X a ci k = some x) : gx_gf X a ci k = some (gx_t (gx_r x)) := by
  unfold gx_gr at h
  split at h
  · rename_i y hy
    cases h
    exact hy
  · rename_i hy
    cases h
    exact hy
  · cases h
theorem gx_gd_s {X : gx_H} {a ci k : Nat} {x : Nat} (h : gx_gd X a ci k = some x) : gx_gf X a ci k = some (gx_t (gx_r (some x))) := by
  unfold gx_gd at h
  split at h
  · rename_i y hy
    cases h
    exact hy
  · cases h
def gx_is (X : gx_H) (a ci : Nat) : Bool := match X.1 a with
  | some (.inr o) => decide (o.1 = ci)
  | _ => false
theorem gx_is_s {X : gx_H} {a ci : Nat} (h : gx_is X a ci = true) : ∃ fs, X.1 a = some (.inr (ci, fs)) := by
  unfold gx_is at h
  split at h
  · rename_i o ho
    obtain ⟨o1, o2⟩ := o
    have q : o1 = ci := by simpa using h
    cases q
    exact ⟨_, ho⟩
  · cases h
def gx_ob {α : Type} (X : gx_H) (a ci : Nat) (k : Option α) : Option α := if gx_is X a ci = true then k else none
theorem gx_obs {α : Type} {X : gx_H} {a ci : Nat} {k : Option α} {y : α} (h : gx_ob X a ci k = some y) : gx_is X a ci = true ∧ k = some y := by
  unfold gx_ob at h
  split at h
  · rename_i q
    exact ⟨q, h⟩
  · cases h
def gx_pf (X : gx_H) (a ci k : Nat) (v : Value) : Option gx_H := match X.1 a with
  | some (.inr o) => if o.1 = ci ∧ k < o.2.length then some (gx_up X.1 a (.inr (ci, o.2.set k v)), X.2) else none
  | _ => none
theorem gx_pf_s {X X' : gx_H} {a ci k : Nat} {v : Value} (h : gx_pf X a ci k v = some X') : ∃ fs, X.1 a = some (.inr (ci, fs)) ∧ k < fs.length ∧ X' = (gx_up X.1 a (.inr (ci, fs.set k v)), X.2) := by
  unfold gx_pf at h
  split at h
  · rename_i o ho
    split at h
    · rename_i q
      obtain ⟨o1, o2⟩ := o
      obtain ⟨q1, q2⟩ := q
      cases q1
      cases h
      exact ⟨_, ho, q2, rfl⟩
    · cases h
  · cases h
def gx_gai (X : gx_H) (a t : Nat) (i : Int32) : Option Int32 := match X.1 a with
  | some (.inl (t', n, .inl f)) => if t' = t then (if i < 0 ∨ n ≤ i.toNatClampNeg then none else some (f i.toNatClampNeg)) else none
  | _ => none
def gx_gal (X : gx_H) (a t : Nat) (i : Int32) : Option Int64 := match X.1 a with
  | some (.inl (t', n, .inr (.inl f))) => if t' = t then (if i < 0 ∨ n ≤ i.toNatClampNeg then none else some (f i.toNatClampNeg)) else none
  | _ => none
def gx_gar (X : gx_H) (a t : Nat) (i : Int32) : Option (Option Nat) := match X.1 a with
  | some (.inl (t', n, .inr (.inr (.inr (.inr f))))) => if t' = t then (if i < 0 ∨ n ≤ i.toNatClampNeg then none else some (f i.toNatClampNeg)) else none
  | _ => none
def gx_pai (X : gx_H) (a t : Nat) (i x : Int32) : Option gx_H := match X.1 a with
  | some (.inl (t', n, .inl f)) => if t' = t then (if i < 0 ∨ n ≤ i.toNatClampNeg then none else some (gx_up X.1 a (.inl (t, n, .inl (upd f i.toNatClampNeg x))), X.2)) else none
  | _ => none
def gx_pal (X : gx_H) (a t : Nat) (i : Int32) (x : Int64) : Option gx_H := match X.1 a with
  | some (.inl (t', n, .inr (.inl f))) => if t' = t then (if i < 0 ∨ n ≤ i.toNatClampNeg then none else some (gx_up X.1 a (.inl (t, n, .inr (.inl (vp_updL f i.toNatClampNeg x)))), X.2)) else none
  | _ => none
def gx_par (X : gx_H) (a t : Nat) (i : Int32) (x : Option Nat) : Option gx_H := match X.1 a with
  | some (.inl (t', n, .inr (.inr (.inr (.inr f))))) => if t' = t then (if i < 0 ∨ n ≤ i.toNatClampNeg then none else some (gx_up X.1 a (.inl (t, n, .inr (.inr (.inr (.inr (va_up f i.toNatClampNeg x)))))), X.2)) else none
  | _ => none

theorem gx_gai_s {X : gx_H} {a t : Nat} {i : Int32} {x : Int32} (h : gx_gai X a t i = some x) : ∃ (n : Nat) (f : Nat → Int32), X.1 a = some (.inl (t, n, .inl f)) ∧ vp_in i n ∧ x = f i.toNatClampNeg := by
  unfold gx_gai at h
  split at h
  · rename_i t' n f hX
    split at h
    · rename_i q
      cases q
      split at h
      · cases h
      · rename_i q2
        cases h
        exact ⟨n, f, hX, q2, rfl⟩
    · cases h
  · cases h
theorem gx_gal_s {X : gx_H} {a t : Nat} {i : Int32} {x : Int64} (h : gx_gal X a t i = some x) : ∃ (n : Nat) (f : Nat → Int64), X.1 a = some (.inl (t, n, .inr (.inl f))) ∧ vp_in i n ∧ x = f i.toNatClampNeg := by
  unfold gx_gal at h
  split at h
  · rename_i t' n f hX
    split at h
    · rename_i q
      cases q
      split at h
      · cases h
      · rename_i q2
        cases h
        exact ⟨n, f, hX, q2, rfl⟩
    · cases h
  · cases h
theorem gx_gar_s {X : gx_H} {a t : Nat} {i : Int32} {x : Option Nat} (h : gx_gar X a t i = some x) : ∃ (n : Nat) (f : Nat → Option Nat), X.1 a = some (.inl (t, n, .inr (.inr (.inr (.inr f))))) ∧ vp_in i n ∧ x = f i.toNatClampNeg := by
  unfold gx_gar at h
  split at h
  · rename_i t' n f hX
    split at h
    · rename_i q
      cases q
      split at h
      · cases h
      · rename_i q2
        cases h
        exact ⟨n, f, hX, q2, rfl⟩
    · cases h
  · cases h
theorem gx_pai_s {X X' : gx_H} {a t : Nat} {i : Int32} {x : Int32} (h : gx_pai X a t i x = some X') : ∃ (n : Nat) (f : Nat → Int32), X.1 a = some (.inl (t, n, .inl f)) ∧ vp_in i n ∧ X' = (gx_up X.1 a (.inl (t, n, .inl (upd f i.toNatClampNeg x))), X.2) := by
  unfold gx_pai at h
  split at h
  · rename_i t' n f hX
    split at h
    · rename_i q
      cases q
      split at h
      · cases h
      · rename_i q2
        cases h
        exact ⟨n, f, hX, q2, rfl⟩
    · cases h
  · cases h
theorem gx_pal_s {X X' : gx_H} {a t : Nat} {i : Int32} {x : Int64} (h : gx_pal X a t i x = some X') : ∃ (n : Nat) (f : Nat → Int64), X.1 a = some (.inl (t, n, .inr (.inl f))) ∧ vp_in i n ∧ X' = (gx_up X.1 a (.inl (t, n, .inr (.inl (vp_updL f i.toNatClampNeg x)))), X.2) := by
  unfold gx_pal at h
  split at h
  · rename_i t' n f hX
    split at h
    · rename_i q
      cases q
      split at h
      · cases h
      · rename_i q2
        cases h
        exact ⟨n, f, hX, q2, rfl⟩
    · cases h
  · cases h
theorem gx_par_s {X X' : gx_H} {a t : Nat} {i : Int32} {x : Option Nat} (h : gx_par X a t i x = some X') : ∃ (n : Nat) (f : Nat → Option Nat), X.1 a = some (.inl (t, n, .inr (.inr (.inr (.inr f))))) ∧ vp_in i n ∧ X' = (gx_up X.1 a (.inl (t, n, .inr (.inr (.inr (.inr (va_up f i.toNatClampNeg x)))))), X.2) := by
  unfold gx_par at h
  split at h
  · rename_i t' n f hX
    split at h
    · rename_i q
      cases q
      split at h
      · cases h
      · rename_i q2
        cases h
        exact ⟨n, f, hX, q2, rfl⟩
    · cases h
  · cases h
def gx_len (X : gx_H) (a t : Nat) : Option Int32 := match X.1 a with
  | some (.inl b) => if b.1 = t then some (Int32.ofNat b.2.1) else none
  | _ => none
theorem gx_len_s {X : gx_H} {a t : Nat} {x : Int32} (h : gx_len X a t = some x) : ∃ b : vp_A, X.1 a = some (.inl (t, b)) ∧ Int32.ofNat b.1 = x := by
  unfold gx_len at h
  split at h
  · rename_i b hb
    obtain ⟨b1, b2⟩ := b
    split at h
    · rename_i q
      cases q
      cases h
      exact ⟨_, hb, rfl⟩
    · cases h
  · cases h
/-- a new cell -/
def gx_nw (X : gx_H) (e : gx_E) : gx_H := (gx_up X.1 X.2 e, X.2 + 1)
section GX
variable {p : Program} {l : Launch} {e : Env} {R : Room} {s : State} {m : MethodId} {args : Array Value} {below : List Frame} {meth : Method} {c : Code} {cells slots : Nat} {Q : State → Prop}
variable {D : gx_D} {cl : List vw_C} {aty : List FieldType} {tb nb : List Cond} {cc : ByteArray} {nL : Nat} {own : String} {ret : Option FieldType} {X : gx_H} {pc : Nat} {lv : List (Option gx_V)} {st : List gx_V}

theorem gx_iconst (C : gx_C D cl aty tb nb p s m meth c cc nL own ret) {n : Int} {v : Int32} (hd : decode cc pc = .ok (.iconst n, 1)) (hv : Int32.ofInt n = v) (kk : gx_W D cl nL p l e R s m args below meth c cells slots Q X (pc + 1) lv (gx_i v :: st)) : gx_W D cl nL p l e R s m args below meth c cells slots Q X pc lv st := fun H locs ls hR hS hL => lv_iconst C.1 C.2.1 hd hv (kk H locs ls hR hS hL)
theorem gx_bipush (C : gx_C D cl aty tb nb p s m meth c cc nL own ret) {n : Int} {v : Int32} (hd : decode cc pc = .ok (.bipush n, 2)) (hv : (Int8.ofInt n).toInt32 = v) (kk : gx_W D cl nL p l e R s m args below meth c cells slots Q X (pc + 2) lv (gx_i v :: st)) : gx_W D cl nL p l e R s m args below meth c cells slots Q X pc lv st := fun H locs ls hR hS hL => lv_bipush C.1 C.2.1 hd hv (kk H locs ls hR hS hL)
theorem gx_sipush (C : gx_C D cl aty tb nb p s m meth c cc nL own ret) {n : Int} {v : Int32} (hd : decode cc pc = .ok (.sipush n, 3)) (hv : (Int16.ofInt n).toInt32 = v) (kk : gx_W D cl nL p l e R s m args below meth c cells slots Q X (pc + 3) lv (gx_i v :: st)) : gx_W D cl nL p l e R s m args below meth c cells slots Q X pc lv st := fun H locs ls hR hS hL => lv_sipush C.1 C.2.1 hd hv (kk H locs ls hR hS hL)
theorem gx_lconst (C : gx_C D cl aty tb nb p s m meth c cc nL own ret) {n : Fin 2} {v : Int64} (hd : decode cc pc = .ok (.lconst n, 1)) (hv : Int64.ofNat (n : Nat) = v) (kk : gx_W D cl nL p l e R s m args below meth c cells slots Q X (pc + 1) lv (gx_l v :: st)) : gx_W D cl nL p l e R s m args below meth c cells slots Q X pc lv st := fun H locs ls hR hS hL => lv_lconst C.1 C.2.1 hd hv (kk H locs ls hR hS hL)
theorem gx_ldc (C : gx_C D cl aty tb nb p s m meth c cc nL own ret) {i : Nat} {v : Int32} (hc : Cond.constant own i v ∈ tb) (hd : decode cc pc = .ok (.ldc i, 2)) (kk : gx_W D cl nL p l e R s m args below meth c cells slots Q X (pc + 2) lv (gx_i v :: st)) : gx_W D cl nL p l e R s m args below meth c cells slots Q X pc lv st := fun H locs ls hR hS hL => lv_ldc C.1 C.2.1 C.2.2.2.1 (C.2.2.2.2.2.2.2.2.1 _ hc args) hd (kk H locs ls hR hS hL)
theorem gx_ldc2 (C : gx_C D cl aty tb nb p s m meth c cc nL own ret) {i : Nat} {v : Int64} (hc : Cond.constantLong own i v ∈ tb) (hd : decode cc pc = .ok (.ldc2_w i, 3)) (kk : gx_W D cl nL p l e R s m args below meth c cells slots Q X (pc + 3) lv (gx_l v :: st)) : gx_W D cl nL p l e R s m args below meth c cells slots Q X pc lv st := fun H locs ls hR hS hL => lv_ldc2 C.1 C.2.1 C.2.2.2.1 (C.2.2.2.2.2.2.2.2.1 _ hc args) hd (kk H locs ls hR hS hL)
theorem gx_iload_n (C : gx_C D cl aty tb nb p s m meth c cc nL own ret) {k : Fin 4} {i : Nat} {x : Int32} (hd : decode cc pc = .ok (.iload_n k, 1)) (hi : (k : Nat) = i) (hl : lv[i]? = some (some (gx_i x))) (kk : gx_W D cl nL p l e R s m args below meth c cells slots Q X (pc + 1) lv (gx_i x :: st)) : gx_W D cl nL p l e R s m args below meth c cells slots Q X pc lv st := fun H locs ls hR hS hL => lv_iload_n C.1 C.2.1 hd hi (hL.2.2 _ _ hl) (kk H locs ls hR hS hL)
theorem gx_iload (C : gx_C D cl aty tb nb p s m meth c cc nL own ret) {i : Nat} {x : Int32} (hd : decode cc pc = .ok (.iload i, 2)) (hl : lv[i]? = some (some (gx_i x))) (kk : gx_W D cl nL p l e R s m args below meth c cells slots Q X (pc + 2) lv (gx_i x :: st)) : gx_W D cl nL p l e R s m args below meth c cells slots Q X pc lv st := fun H locs ls hR hS hL => lv_iload C.1 C.2.1 hd (hL.2.2 _ _ hl) (kk H locs ls hR hS hL)
theorem gx_lload_n (C : gx_C D cl aty tb nb p s m meth c cc nL own ret) {k : Fin 4} {i : Nat} {x : Int64} (hd : decode cc pc = .ok (.lload_n k, 1)) (hi : (k : Nat) = i) (hl : lv[i]? = some (some (gx_l x))) (kk : gx_W D cl nL p l e R s m args below meth c cells slots Q X (pc + 1) lv (gx_l x :: st)) : gx_W D cl nL p l e R s m args below meth c cells slots Q X pc lv st := fun H locs ls hR hS hL => lv_lload_n C.1 C.2.1 hd hi (hL.2.2 _ _ hl) (kk H locs ls hR hS hL)
theorem gx_lload (C : gx_C D cl aty tb nb p s m meth c cc nL own ret) {i : Nat} {x : Int64} (hd : decode cc pc = .ok (.lload i, 2)) (hl : lv[i]? = some (some (gx_l x))) (kk : gx_W D cl nL p l e R s m args below meth c cells slots Q X (pc + 2) lv (gx_l x :: st)) : gx_W D cl nL p l e R s m args below meth c cells slots Q X pc lv st := fun H locs ls hR hS hL => lv_lload C.1 C.2.1 hd (hL.2.2 _ _ hl) (kk H locs ls hR hS hL)
theorem gx_aload_n (C : gx_C D cl aty tb nb p s m meth c cc nL own ret) {k : Fin 4} {i : Nat} {x : Option Nat} (hd : decode cc pc = .ok (.aload_n k, 1)) (hi : (k : Nat) = i) (hl : lv[i]? = some (some (gx_r x))) (kk : gx_W D cl nL p l e R s m args below meth c cells slots Q X (pc + 1) lv (gx_r x :: st)) : gx_W D cl nL p l e R s m args below meth c cells slots Q X pc lv st := fun H locs ls hR hS hL => by
  cases x with
  | none => exact lv_aload_nN C.1 C.2.1 hd hi (hL.2.2 _ _ hl) (kk H locs ls hR hS hL)
  | some a => exact lv_aload_n C.1 C.2.1 hd hi (hL.2.2 _ _ hl) (kk H locs ls hR hS hL)
theorem gx_aload (C : gx_C D cl aty tb nb p s m meth c cc nL own ret) {i : Nat} {x : Option Nat} (hd : decode cc pc = .ok (.aload i, 2)) (hl : lv[i]? = some (some (gx_r x))) (kk : gx_W D cl nL p l e R s m args below meth c cells slots Q X (pc + 2) lv (gx_r x :: st)) : gx_W D cl nL p l e R s m args below meth c cells slots Q X pc lv st := fun H locs ls hR hS hL => by
  cases x with
  | none => exact lv_aloadN C.1 C.2.1 hd (hL.2.2 _ _ hl) (kk H locs ls hR hS hL)
  | some a => exact lv_aload C.1 C.2.1 hd (hL.2.2 _ _ hl) (kk H locs ls hR hS hL)
theorem gx_istore_n (C : gx_C D cl aty tb nb p s m meth c cc nL own ret) {k : Fin 4} {i : Nat} {x : Int32} {lv2 : List (Option gx_V)} (hd : decode cc pc = .ok (.istore_n k, 1)) (hi : (k : Nat) = i) (hn : i < nL) (hl : gx_s1 lv i (gx_i x) = lv2) (kk : gx_W D cl nL p l e R s m args below meth c cells slots Q X (pc + 1) lv2 st) : gx_W D cl nL p l e R s m args below meth c cells slots Q X pc lv (gx_i x :: st) := fun H locs ls hR hS hL => by
  subst hl
  exact lv_istore_n C.1 C.2.1 hd hi (gx_as_has hL) hn rfl (fun ls2 h2 => kk H locs ls2 hR hS (gx_s1_L (ls := ls) (v := gx_i x) h2))
theorem gx_istore (C : gx_C D cl aty tb nb p s m meth c cc nL own ret) {i : Nat} {x : Int32} {lv2 : List (Option gx_V)} (hd : decode cc pc = .ok (.istore i, 2)) (hn : i < nL) (hl : gx_s1 lv i (gx_i x) = lv2) (kk : gx_W D cl nL p l e R s m args below meth c cells slots Q X (pc + 2) lv2 st) : gx_W D cl nL p l e R s m args below meth c cells slots Q X pc lv (gx_i x :: st) := fun H locs ls hR hS hL => by
  subst hl
  exact lv_istore C.1 C.2.1 hd (gx_as_has hL) hn rfl (fun ls2 h2 => kk H locs ls2 hR hS (gx_s1_L (ls := ls) (v := gx_i x) h2))
theorem gx_lstore_n (C : gx_C D cl aty tb nb p s m meth c cc nL own ret) {k : Fin 4} {i : Nat} {x : Int64} {lv2 : List (Option gx_V)} (hd : decode cc pc = .ok (.lstore_n k, 1)) (hi : (k : Nat) = i) (hn : i + 1 < nL) (hl : gx_s2 lv i (gx_l x) = lv2) (kk : gx_W D cl nL p l e R s m args below meth c cells slots Q X (pc + 1) lv2 st) : gx_W D cl nL p l e R s m args below meth c cells slots Q X pc lv (gx_l x :: st) := fun H locs ls hR hS hL => by
  subst hl
  exact lv_lstore_n C.1 C.2.1 hd hi (gx_as_has hL) hn rfl (fun ls2 h2 => kk H locs ls2 hR hS (gx_s2_L (ls := ls) (v := gx_l x) h2))
theorem gx_lstore (C : gx_C D cl aty tb nb p s m meth c cc nL own ret) {i : Nat} {x : Int64} {lv2 : List (Option gx_V)} (hd : decode cc pc = .ok (.lstore i, 2)) (hn : i + 1 < nL) (hl : gx_s2 lv i (gx_l x) = lv2) (kk : gx_W D cl nL p l e R s m args below meth c cells slots Q X (pc + 2) lv2 st) : gx_W D cl nL p l e R s m args below meth c cells slots Q X pc lv (gx_l x :: st) := fun H locs ls hR hS hL => by
  subst hl
  exact lv_lstore C.1 C.2.1 hd (gx_as_has hL) hn rfl (fun ls2 h2 => kk H locs ls2 hR hS (gx_s2_L (ls := ls) (v := gx_l x) h2))
theorem gx_astore_n (C : gx_C D cl aty tb nb p s m meth c cc nL own ret) {k : Fin 4} {i : Nat} {x : Option Nat} {lv2 : List (Option gx_V)} (hd : decode cc pc = .ok (.astore_n k, 1)) (hi : (k : Nat) = i) (hn : i < nL) (hl : gx_s1 lv i (gx_r x) = lv2) (kk : gx_W D cl nL p l e R s m args below meth c cells slots Q X (pc + 1) lv2 st) : gx_W D cl nL p l e R s m args below meth c cells slots Q X pc lv (gx_r x :: st) := fun H locs ls hR hS hL => by
  subst hl
  cases x with
  | none => exact lv_astore_nN C.1 C.2.1 hd hi (gx_as_has hL) hn rfl (fun ls2 h2 => kk H locs ls2 hR hS (gx_s1_L (ls := ls) (v := gx_r none) h2))
  | some a => exact lv_astore_n C.1 C.2.1 hd hi (gx_as_has hL) hn rfl (fun ls2 h2 => kk H locs ls2 hR hS (gx_s1_L (ls := ls) (v := gx_r (some a)) h2))
theorem gx_astore (C : gx_C D cl aty tb nb p s m meth c cc nL own ret) {i : Nat} {x : Option Nat} {lv2 : List (Option gx_V)} (hd : decode cc pc = .ok (.astore i, 2)) (hn : i < nL) (hl : gx_s1 lv i (gx_r x) = lv2) (kk : gx_W D cl nL p l e R s m args below meth c cells slots Q X (pc + 2) lv2 st) : gx_W D cl nL p l e R s m args below meth c cells slots Q X pc lv (gx_r x :: st) := fun H locs ls hR hS hL => by
  subst hl
  cases x with
  | none => exact lv_astoreN C.1 C.2.1 hd (gx_as_has hL) hn rfl (fun ls2 h2 => kk H locs ls2 hR hS (gx_s1_L (ls := ls) (v := gx_r none) h2))
  | some a => exact lv_astore C.1 C.2.1 hd (gx_as_has hL) hn rfl (fun ls2 h2 => kk H locs ls2 hR hS (gx_s1_L (ls := ls) (v := gx_r (some a)) h2))
theorem gx_iinc (C : gx_C D cl aty tb nb p s m meth c cc nL own ret) {i : Nat} {n : Int} {x v : Int32} {lv2 : List (Option gx_V)} (hd : decode cc pc = .ok (.iinc i n, 3)) (hk : lv[i]? = some (some (gx_i x))) (hv : x + Int32.ofInt n = v) (hn : i < nL) (hl : gx_s1 lv i (gx_i v) = lv2) (kk : gx_W D cl nL p l e R s m args below meth c cells slots Q X (pc + 3) lv2 st) : gx_W D cl nL p l e R s m args below meth c cells slots Q X pc lv st := fun H locs ls hR hS hL => by
  subst hl
  obtain ⟨k, hk⟩ := List.getElem?_of_mem (gx_as_mem hk)
  exact lv_iinc C.1 C.2.1 hd (gx_as_has hL) hk hv hn rfl (fun ls2 h2 => kk H locs ls2 hR hS (gx_s1_L (ls := ls) (v := gx_i v) h2))
theorem gx_iadd (C : gx_C D cl aty tb nb p s m meth c cc nL own ret) {x y : Int32} (hd : decode cc pc = .ok (.iadd, 1)) (kk : gx_W D cl nL p l e R s m args below meth c cells slots Q X (pc + 1) lv (gx_i (x + y) :: st)) : gx_W D cl nL p l e R s m args below meth c cells slots Q X pc lv (gx_i y :: gx_i x :: st) := fun H locs ls hR hS hL => lv_iadd C.1 C.2.1 hd (kk H locs ls hR hS hL)
theorem gx_isub (C : gx_C D cl aty tb nb p s m meth c cc nL own ret) {x y : Int32} (hd : decode cc pc = .ok (.isub, 1)) (kk : gx_W D cl nL p l e R s m args below meth c cells slots Q X (pc + 1) lv (gx_i (x - y) :: st)) : gx_W D cl nL p l e R s m args below meth c cells slots Q X pc lv (gx_i y :: gx_i x :: st) := fun H locs ls hR hS hL => lv_isub C.1 C.2.1 hd (kk H locs ls hR hS hL)
theorem gx_imul (C : gx_C D cl aty tb nb p s m meth c cc nL own ret) {x y : Int32} (hd : decode cc pc = .ok (.imul, 1)) (kk : gx_W D cl nL p l e R s m args below meth c cells slots Q X (pc + 1) lv (gx_i (x * y) :: st)) : gx_W D cl nL p l e R s m args below meth c cells slots Q X pc lv (gx_i y :: gx_i x :: st) := fun H locs ls hR hS hL => lv_imul C.1 C.2.1 hd (kk H locs ls hR hS hL)
theorem gx_iand (C : gx_C D cl aty tb nb p s m meth c cc nL own ret) {x y : Int32} (hd : decode cc pc = .ok (.iand, 1)) (kk : gx_W D cl nL p l e R s m args below meth c cells slots Q X (pc + 1) lv (gx_i (x &&& y) :: st)) : gx_W D cl nL p l e R s m args below meth c cells slots Q X pc lv (gx_i y :: gx_i x :: st) := fun H locs ls hR hS hL => lv_iand C.1 C.2.1 hd (kk H locs ls hR hS hL)
theorem gx_ior (C : gx_C D cl aty tb nb p s m meth c cc nL own ret) {x y : Int32} (hd : decode cc pc = .ok (.ior, 1)) (kk : gx_W D cl nL p l e R s m args below meth c cells slots Q X (pc + 1) lv (gx_i (x ||| y) :: st)) : gx_W D cl nL p l e R s m args below meth c cells slots Q X pc lv (gx_i y :: gx_i x :: st) := fun H locs ls hR hS hL => lv_ior C.1 C.2.1 hd (kk H locs ls hR hS hL)
theorem gx_ixor (C : gx_C D cl aty tb nb p s m meth c cc nL own ret) {x y : Int32} (hd : decode cc pc = .ok (.ixor, 1)) (kk : gx_W D cl nL p l e R s m args below meth c cells slots Q X (pc + 1) lv (gx_i (x ^^^ y) :: st)) : gx_W D cl nL p l e R s m args below meth c cells slots Q X pc lv (gx_i y :: gx_i x :: st) := fun H locs ls hR hS hL => lv_ixor C.1 C.2.1 hd (kk H locs ls hR hS hL)
theorem gx_ishl (C : gx_C D cl aty tb nb p s m meth c cc nL own ret) {x y : Int32} (hd : decode cc pc = .ok (.ishl, 1)) (kk : gx_W D cl nL p l e R s m args below meth c cells slots Q X (pc + 1) lv (gx_i (x <<< (y &&& 31)) :: st)) : gx_W D cl nL p l e R s m args below meth c cells slots Q X pc lv (gx_i y :: gx_i x :: st) := fun H locs ls hR hS hL => lv_ishl C.1 C.2.1 hd (kk H locs ls hR hS hL)
theorem gx_ishr (C : gx_C D cl aty tb nb p s m meth c cc nL own ret) {x y : Int32} (hd : decode cc pc = .ok (.ishr, 1)) (kk : gx_W D cl nL p l e R s m args below meth c cells slots Q X (pc + 1) lv (gx_i (x >>> (y &&& 31)) :: st)) : gx_W D cl nL p l e R s m args below meth c cells slots Q X pc lv (gx_i y :: gx_i x :: st) := fun H locs ls hR hS hL => lv_ishr C.1 C.2.1 hd (kk H locs ls hR hS hL)
theorem gx_idiv (C : gx_C D cl aty tb nb p s m meth c cc nL own ret) {x y : Int32} (hd : decode cc pc = .ok (.idiv, 1)) (hne : ¬ y = 0) (kk : gx_W D cl nL p l e R s m args below meth c cells slots Q X (pc + 1) lv (gx_i (x / y) :: st)) : gx_W D cl nL p l e R s m args below meth c cells slots Q X pc lv (gx_i y :: gx_i x :: st) := fun H locs ls hR hS hL => lv_idiv C.1 C.2.1 hd hne (kk H locs ls hR hS hL)
theorem gx_irem (C : gx_C D cl aty tb nb p s m meth c cc nL own ret) {x y : Int32} (hd : decode cc pc = .ok (.irem, 1)) (hne : ¬ y = 0) (kk : gx_W D cl nL p l e R s m args below meth c cells slots Q X (pc + 1) lv (gx_i (x - x / y * y) :: st)) : gx_W D cl nL p l e R s m args below meth c cells slots Q X pc lv (gx_i y :: gx_i x :: st) := fun H locs ls hR hS hL => lv_irem C.1 C.2.1 hd hne (kk H locs ls hR hS hL)
theorem gx_ineg (C : gx_C D cl aty tb nb p s m meth c cc nL own ret) {x : Int32} (hd : decode cc pc = .ok (.ineg, 1)) (kk : gx_W D cl nL p l e R s m args below meth c cells slots Q X (pc + 1) lv (gx_i (-x) :: st)) : gx_W D cl nL p l e R s m args below meth c cells slots Q X pc lv (gx_i x :: st) := fun H locs ls hR hS hL => lv_ineg C.1 C.2.1 hd (kk H locs ls hR hS hL)
theorem gx_ladd (C : gx_C D cl aty tb nb p s m meth c cc nL own ret) {x y : Int64} (hd : decode cc pc = .ok (.ladd, 1)) (kk : gx_W D cl nL p l e R s m args below meth c cells slots Q X (pc + 1) lv (gx_l (x + y) :: st)) : gx_W D cl nL p l e R s m args below meth c cells slots Q X pc lv (gx_l y :: gx_l x :: st) := fun H locs ls hR hS hL => lv_ladd C.1 C.2.1 hd (kk H locs ls hR hS hL)
theorem gx_lsub (C : gx_C D cl aty tb nb p s m meth c cc nL own ret) {x y : Int64} (hd : decode cc pc = .ok (.lsub, 1)) (kk : gx_W D cl nL p l e R s m args below meth c cells slots Q X (pc + 1) lv (gx_l (x - y) :: st)) : gx_W D cl nL p l e R s m args below meth c cells slots Q X pc lv (gx_l y :: gx_l x :: st) := fun H locs ls hR hS hL => lv_lsub C.1 C.2.1 hd (kk H locs ls hR hS hL)
theorem gx_lmul (C : gx_C D cl aty tb nb p s m meth c cc nL own ret) {x y : Int64} (hd : decode cc pc = .ok (.lmul, 1)) (kk : gx_W D cl nL p l e R s m args below meth c cells slots Q X (pc + 1) lv (gx_l (x * y) :: st)) : gx_W D cl nL p l e R s m args below meth c cells slots Q X pc lv (gx_l y :: gx_l x :: st) := fun H locs ls hR hS hL => lv_lmul C.1 C.2.1 hd (kk H locs ls hR hS hL)
theorem gx_land (C : gx_C D cl aty tb nb p s m meth c cc nL own ret) {x y : Int64} (hd : decode cc pc = .ok (.land, 1)) (kk : gx_W D cl nL p l e R s m args below meth c cells slots Q X (pc + 1) lv (gx_l (x &&& y) :: st)) : gx_W D cl nL p l e R s m args below meth c cells slots Q X pc lv (gx_l y :: gx_l x :: st) := fun H locs ls hR hS hL => lv_land C.1 C.2.1 hd (kk H locs ls hR hS hL)
theorem gx_lor (C : gx_C D cl aty tb nb p s m meth c cc nL own ret) {x y : Int64} (hd : decode cc pc = .ok (.lor, 1)) (kk : gx_W D cl nL p l e R s m args below meth c cells slots Q X (pc + 1) lv (gx_l (x ||| y) :: st)) : gx_W D cl nL p l e R s m args below meth c cells slots Q X pc lv (gx_l y :: gx_l x :: st) := fun H locs ls hR hS hL => lv_lor C.1 C.2.1 hd (kk H locs ls hR hS hL)
theorem gx_lxor (C : gx_C D cl aty tb nb p s m meth c cc nL own ret) {x y : Int64} (hd : decode cc pc = .ok (.lxor, 1)) (kk : gx_W D cl nL p l e R s m args below meth c cells slots Q X (pc + 1) lv (gx_l (x ^^^ y) :: st)) : gx_W D cl nL p l e R s m args below meth c cells slots Q X pc lv (gx_l y :: gx_l x :: st) := fun H locs ls hR hS hL => lv_lxor C.1 C.2.1 hd (kk H locs ls hR hS hL)
theorem gx_lshl (C : gx_C D cl aty tb nb p s m meth c cc nL own ret) {x : Int64} {y : Int32} (hd : decode cc pc = .ok (.lshl, 1)) (kk : gx_W D cl nL p l e R s m args below meth c cells slots Q X (pc + 1) lv (gx_l (x <<< (y.toInt64 &&& 63)) :: st)) : gx_W D cl nL p l e R s m args below meth c cells slots Q X pc lv (gx_i y :: gx_l x :: st) := fun H locs ls hR hS hL => lv_lshl C.1 C.2.1 hd rfl (kk H locs ls hR hS hL)
theorem gx_lshr (C : gx_C D cl aty tb nb p s m meth c cc nL own ret) {x : Int64} {y : Int32} (hd : decode cc pc = .ok (.lshr, 1)) (kk : gx_W D cl nL p l e R s m args below meth c cells slots Q X (pc + 1) lv (gx_l (x >>> (y.toInt64 &&& 63)) :: st)) : gx_W D cl nL p l e R s m args below meth c cells slots Q X pc lv (gx_i y :: gx_l x :: st) := fun H locs ls hR hS hL => lv_lshr C.1 C.2.1 hd rfl (kk H locs ls hR hS hL)
theorem gx_lushr (C : gx_C D cl aty tb nb p s m meth c cc nL own ret) {x : Int64} {y : Int32} (hd : decode cc pc = .ok (.lushr, 1)) (kk : gx_W D cl nL p l e R s m args below meth c cells slots Q X (pc + 1) lv (gx_l ((x.toUInt64 >>> (y.toInt64.toUInt64 &&& Int64.toUInt64 63)).toInt64) :: st)) : gx_W D cl nL p l e R s m args below meth c cells slots Q X pc lv (gx_i y :: gx_l x :: st) := fun H locs ls hR hS hL => lv_lushr C.1 C.2.1 hd rfl (kk H locs ls hR hS hL)
theorem gx_iushr (C : gx_C D cl aty tb nb p s m meth c cc nL own ret) {x y : Int32} (hd : decode cc pc = .ok (.iushr, 1)) (kk : gx_W D cl nL p l e R s m args below meth c cells slots Q X (pc + 1) lv (gx_i ((x.toUInt32 >>> (y.toUInt32 &&& Int32.toUInt32 31)).toInt32) :: st)) : gx_W D cl nL p l e R s m args below meth c cells slots Q X pc lv (gx_i y :: gx_i x :: st) := fun H locs ls hR hS hL => lv_iushr C.1 C.2.1 hd rfl (kk H locs ls hR hS hL)
theorem gx_i2l (C : gx_C D cl aty tb nb p s m meth c cc nL own ret) {x : Int32} (hd : decode cc pc = .ok (.i2l, 1)) (kk : gx_W D cl nL p l e R s m args below meth c cells slots Q X (pc + 1) lv (gx_l x.toInt64 :: st)) : gx_W D cl nL p l e R s m args below meth c cells slots Q X pc lv (gx_i x :: st) := fun H locs ls hR hS hL => lv_i2l C.1 C.2.1 hd rfl (kk H locs ls hR hS hL)
theorem gx_l2i (C : gx_C D cl aty tb nb p s m meth c cc nL own ret) {x : Int64} (hd : decode cc pc = .ok (.l2i, 1)) (kk : gx_W D cl nL p l e R s m args below meth c cells slots Q X (pc + 1) lv (gx_i x.toInt32 :: st)) : gx_W D cl nL p l e R s m args below meth c cells slots Q X pc lv (gx_l x :: st) := fun H locs ls hR hS hL => lv_l2i C.1 C.2.1 hd rfl (kk H locs ls hR hS hL)
theorem gx_lcmp (C : gx_C D cl aty tb nb p s m meth c cc nL own ret) {x y : Int64} (hd : decode cc pc = .ok (.lcmp, 1)) (kk : gx_W D cl nL p l e R s m args below meth c cells slots Q X (pc + 1) lv (gx_i (lg_cmp x y) :: st)) : gx_W D cl nL p l e R s m args below meth c cells slots Q X pc lv (gx_l y :: gx_l x :: st) := fun H locs ls hR hS hL => W.lcmp C.1 C.2.1 hd (kk H locs ls hR hS hL)
theorem gx_dup (C : gx_C D cl aty tb nb p s m meth c cc nL own ret) {v : gx_V} (hd : decode cc pc = .ok (.dup, 1)) (h1 : gx_2 v = false) (kk : gx_W D cl nL p l e R s m args below meth c cells slots Q X (pc + 1) lv (v :: v :: st)) : gx_W D cl nL p l e R s m args below meth c cells slots Q X pc lv (v :: st) := fun H locs ls hR hS hL => lv_dup C.1 C.2.1 hd (by rw [gx_cat, h1]; rfl) (kk H locs ls hR hS hL)
theorem gx_pop (C : gx_C D cl aty tb nb p s m meth c cc nL own ret) {v : gx_V} (hd : decode cc pc = .ok (.pop, 1)) (h1 : gx_2 v = false) (kk : gx_W D cl nL p l e R s m args below meth c cells slots Q X (pc + 1) lv st) : gx_W D cl nL p l e R s m args below meth c cells slots Q X pc lv (v :: st) := fun H locs ls hR hS hL => lv_pop C.1 C.2.1 hd (by rw [gx_cat, h1]; rfl) (kk H locs ls hR hS hL)
theorem gx_dup_x1 (C : gx_C D cl aty tb nb p s m meth c cc nL own ret) {v w : gx_V} (hd : decode cc pc = .ok (.dup_x1, 1)) (h1 : gx_2 v = false) (h2 : gx_2 w = false) (kk : gx_W D cl nL p l e R s m args below meth c cells slots Q X (pc + 1) lv (v :: w :: v :: st)) : gx_W D cl nL p l e R s m args below meth c cells slots Q X pc lv (v :: w :: st) := fun H locs ls hR hS hL => lv_dup_x1 C.1 C.2.1 hd (by rw [gx_cat, h1]; rfl) (by rw [gx_cat, h2]; rfl) (kk H locs ls hR hS hL)
theorem gx_dup2 (C : gx_C D cl aty tb nb p s m meth c cc nL own ret) {v w : gx_V} (hd : decode cc pc = .ok (.dup2, 1)) (h1 : gx_2 v = false) (h2 : gx_2 w = false) (kk : gx_W D cl nL p l e R s m args below meth c cells slots Q X (pc + 1) lv (v :: w :: v :: w :: st)) : gx_W D cl nL p l e R s m args below meth c cells slots Q X pc lv (v :: w :: st) := fun H locs ls hR hS hL => lv_dup2_11 C.1 C.2.1 hd (by rw [gx_cat, h1]; rfl) (by rw [gx_cat, h2]; rfl) (kk H locs ls hR hS hL)
theorem gx_null (C : gx_C D cl aty tb nb p s m meth c cc nL own ret)  (hd : decode cc pc = .ok (.aconst_null, 1)) (kk : gx_W D cl nL p l e R s m args below meth c cells slots Q X (pc + 1) lv (gx_r none :: st)) : gx_W D cl nL p l e R s m args below meth c cells slots Q X pc lv st := fun H locs ls hR hS hL => lv_null C.1 C.2.1 hd (kk H locs ls hR hS hL)
theorem gx_goto (C : gx_C D cl aty tb nb p s m meth c cc nL own ret) {off : Int} {tgt : Nat} (hd : decode cc pc = .ok (.goto off, 3)) (ht : (pc : Int) + off = (tgt : Int)) (kk : gx_W D cl nL p l e R s m args below meth c cells slots Q X tgt lv st) : gx_W D cl nL p l e R s m args below meth c cells slots Q X pc lv st := fun H locs ls hR hS hL => lv_goto C.1 C.2.1 hd ht (kk H locs ls hR hS hL)
theorem gx_if_eq (C : gx_C D cl aty tb nb p s m meth c cc nL own ret) {x : Int32} {off : Int} {tgt : Nat} (hd : decode cc pc = .ok (.ifCond .eq off, 3)) (ht : (pc : Int) + off = (tgt : Int)) (kt : x = 0 → gx_W D cl nL p l e R s m args below meth c cells slots Q X tgt lv st) (kf : ¬ x = 0 → gx_W D cl nL p l e R s m args below meth c cells slots Q X (pc + 3) lv st) : gx_W D cl nL p l e R s m args below meth c cells slots Q X pc lv (gx_i x :: st) := fun H locs ls hR hS hL => lv_if_eq C.1 C.2.1 hd ht (fun q => kt q H locs ls hR hS hL) (fun q => kf q H locs ls hR hS hL)
theorem gx_if_ne (C : gx_C D cl aty tb nb p s m meth c cc nL own ret) {x : Int32} {off : Int} {tgt : Nat} (hd : decode cc pc = .ok (.ifCond .ne off, 3)) (ht : (pc : Int) + off = (tgt : Int)) (kt : ¬ x = 0 → gx_W D cl nL p l e R s m args below meth c cells slots Q X tgt lv st) (kf : x = 0 → gx_W D cl nL p l e R s m args below meth c cells slots Q X (pc + 3) lv st) : gx_W D cl nL p l e R s m args below meth c cells slots Q X pc lv (gx_i x :: st) := fun H locs ls hR hS hL => lv_if_ne C.1 C.2.1 hd ht (fun q => kt q H locs ls hR hS hL) (fun q => kf q H locs ls hR hS hL)
theorem gx_if_lt (C : gx_C D cl aty tb nb p s m meth c cc nL own ret) {x : Int32} {off : Int} {tgt : Nat} (hd : decode cc pc = .ok (.ifCond .lt off, 3)) (ht : (pc : Int) + off = (tgt : Int)) (kt : x < 0 → gx_W D cl nL p l e R s m args below meth c cells slots Q X tgt lv st) (kf : ¬ x < 0 → gx_W D cl nL p l e R s m args below meth c cells slots Q X (pc + 3) lv st) : gx_W D cl nL p l e R s m args below meth c cells slots Q X pc lv (gx_i x :: st) := fun H locs ls hR hS hL => lv_if_lt C.1 C.2.1 hd ht (fun q => kt q H locs ls hR hS hL) (fun q => kf q H locs ls hR hS hL)
theorem gx_if_ge (C : gx_C D cl aty tb nb p s m meth c cc nL own ret) {x : Int32} {off : Int} {tgt : Nat} (hd : decode cc pc = .ok (.ifCond .ge off, 3)) (ht : (pc : Int) + off = (tgt : Int)) (kt : 0 ≤ x → gx_W D cl nL p l e R s m args below meth c cells slots Q X tgt lv st) (kf : ¬ 0 ≤ x → gx_W D cl nL p l e R s m args below meth c cells slots Q X (pc + 3) lv st) : gx_W D cl nL p l e R s m args below meth c cells slots Q X pc lv (gx_i x :: st) := fun H locs ls hR hS hL => lv_if_ge C.1 C.2.1 hd ht (fun q => kt q H locs ls hR hS hL) (fun q => kf q H locs ls hR hS hL)
theorem gx_if_gt (C : gx_C D cl aty tb nb p s m meth c cc nL own ret) {x : Int32} {off : Int} {tgt : Nat} (hd : decode cc pc = .ok (.ifCond .gt off, 3)) (ht : (pc : Int) + off = (tgt : Int)) (kt : 0 < x → gx_W D cl nL p l e R s m args below meth c cells slots Q X tgt lv st) (kf : ¬ 0 < x → gx_W D cl nL p l e R s m args below meth c cells slots Q X (pc + 3) lv st) : gx_W D cl nL p l e R s m args below meth c cells slots Q X pc lv (gx_i x :: st) := fun H locs ls hR hS hL => lv_if_gt C.1 C.2.1 hd ht (fun q => kt q H locs ls hR hS hL) (fun q => kf q H locs ls hR hS hL)
theorem gx_if_le (C : gx_C D cl aty tb nb p s m meth c cc nL own ret) {x : Int32} {off : Int} {tgt : Nat} (hd : decode cc pc = .ok (.ifCond .le off, 3)) (ht : (pc : Int) + off = (tgt : Int)) (kt : x ≤ 0 → gx_W D cl nL p l e R s m args below meth c cells slots Q X tgt lv st) (kf : ¬ x ≤ 0 → gx_W D cl nL p l e R s m args below meth c cells slots Q X (pc + 3) lv st) : gx_W D cl nL p l e R s m args below meth c cells slots Q X pc lv (gx_i x :: st) := fun H locs ls hR hS hL => lv_if_le C.1 C.2.1 hd ht (fun q => kt q H locs ls hR hS hL) (fun q => kf q H locs ls hR hS hL)
theorem gx_icmp_eq (C : gx_C D cl aty tb nb p s m meth c cc nL own ret) {x y : Int32} {off : Int} {tgt : Nat} (hd : decode cc pc = .ok (.if_icmp .eq off, 3)) (ht : (pc : Int) + off = (tgt : Int)) (kt : x = y → gx_W D cl nL p l e R s m args below meth c cells slots Q X tgt lv st) (kf : ¬ x = y → gx_W D cl nL p l e R s m args below meth c cells slots Q X (pc + 3) lv st) : gx_W D cl nL p l e R s m args below meth c cells slots Q X pc lv (gx_i y :: gx_i x :: st) := fun H locs ls hR hS hL => lv_icmp_eq C.1 C.2.1 hd ht (fun q => kt q H locs ls hR hS hL) (fun q => kf q H locs ls hR hS hL)
theorem gx_icmp_ne (C : gx_C D cl aty tb nb p s m meth c cc nL own ret) {x y : Int32} {off : Int} {tgt : Nat} (hd : decode cc pc = .ok (.if_icmp .ne off, 3)) (ht : (pc : Int) + off = (tgt : Int)) (kt : ¬ x = y → gx_W D cl nL p l e R s m args below meth c cells slots Q X tgt lv st) (kf : x = y → gx_W D cl nL p l e R s m args below meth c cells slots Q X (pc + 3) lv st) : gx_W D cl nL p l e R s m args below meth c cells slots Q X pc lv (gx_i y :: gx_i x :: st) := fun H locs ls hR hS hL => lv_icmp_ne C.1 C.2.1 hd ht (fun q => kt q H locs ls hR hS hL) (fun q => kf q H locs ls hR hS hL)
theorem gx_icmp_lt (C : gx_C D cl aty tb nb p s m meth c cc nL own ret) {x y : Int32} {off : Int} {tgt : Nat} (hd : decode cc pc = .ok (.if_icmp .lt off, 3)) (ht : (pc : Int) + off = (tgt : Int)) (kt : x < y → gx_W D cl nL p l e R s m args below meth c cells slots Q X tgt lv st) (kf : ¬ x < y → gx_W D cl nL p l e R s m args below meth c cells slots Q X (pc + 3) lv st) : gx_W D cl nL p l e R s m args below meth c cells slots Q X pc lv (gx_i y :: gx_i x :: st) := fun H locs ls hR hS hL => lv_icmp_lt C.1 C.2.1 hd ht (fun q => kt q H locs ls hR hS hL) (fun q => kf q H locs ls hR hS hL)
theorem gx_icmp_ge (C : gx_C D cl aty tb nb p s m meth c cc nL own ret) {x y : Int32} {off : Int} {tgt : Nat} (hd : decode cc pc = .ok (.if_icmp .ge off, 3)) (ht : (pc : Int) + off = (tgt : Int)) (kt : y ≤ x → gx_W D cl nL p l e R s m args below meth c cells slots Q X tgt lv st) (kf : ¬ y ≤ x → gx_W D cl nL p l e R s m args below meth c cells slots Q X (pc + 3) lv st) : gx_W D cl nL p l e R s m args below meth c cells slots Q X pc lv (gx_i y :: gx_i x :: st) := fun H locs ls hR hS hL => lv_icmp_ge C.1 C.2.1 hd ht (fun q => kt q H locs ls hR hS hL) (fun q => kf q H locs ls hR hS hL)
theorem gx_icmp_gt (C : gx_C D cl aty tb nb p s m meth c cc nL own ret) {x y : Int32} {off : Int} {tgt : Nat} (hd : decode cc pc = .ok (.if_icmp .gt off, 3)) (ht : (pc : Int) + off = (tgt : Int)) (kt : y < x → gx_W D cl nL p l e R s m args below meth c cells slots Q X tgt lv st) (kf : ¬ y < x → gx_W D cl nL p l e R s m args below meth c cells slots Q X (pc + 3) lv st) : gx_W D cl nL p l e R s m args below meth c cells slots Q X pc lv (gx_i y :: gx_i x :: st) := fun H locs ls hR hS hL => lv_icmp_gt C.1 C.2.1 hd ht (fun q => kt q H locs ls hR hS hL) (fun q => kf q H locs ls hR hS hL)
theorem gx_icmp_le (C : gx_C D cl aty tb nb p s m meth c cc nL own ret) {x y : Int32} {off : Int} {tgt : Nat} (hd : decode cc pc = .ok (.if_icmp .le off, 3)) (ht : (pc : Int) + off = (tgt : Int)) (kt : x ≤ y → gx_W D cl nL p l e R s m args below meth c cells slots Q X tgt lv st) (kf : ¬ x ≤ y → gx_W D cl nL p l e R s m args below meth c cells slots Q X (pc + 3) lv st) : gx_W D cl nL p l e R s m args below meth c cells slots Q X pc lv (gx_i y :: gx_i x :: st) := fun H locs ls hR hS hL => lv_icmp_le C.1 C.2.1 hd ht (fun q => kt q H locs ls hR hS hL) (fun q => kf q H locs ls hR hS hL)
theorem gx_ifnull (C : gx_C D cl aty tb nb p s m meth c cc nL own ret) {x : Option Nat} {off : Int} {tgt : Nat} (hd : decode cc pc = .ok (.ifnull off, 3)) (ht : (pc : Int) + off = (tgt : Int)) (kt : x = none → gx_W D cl nL p l e R s m args below meth c cells slots Q X tgt lv st) (kf : ∀ a, x = some a → gx_W D cl nL p l e R s m args below meth c cells slots Q X (pc + 3) lv st) : gx_W D cl nL p l e R s m args below meth c cells slots Q X pc lv (gx_r x :: st) := fun H locs ls hR hS hL => by
  cases x with
  | none => exact lv_ifnullN C.1 C.2.1 hd ht (kt rfl H locs ls hR hS hL)
  | some a => exact lv_ifnull C.1 C.2.1 hd (kf a rfl H locs ls hR hS hL)
theorem gx_ifnonnull (C : gx_C D cl aty tb nb p s m meth c cc nL own ret) {x : Option Nat} {off : Int} {tgt : Nat} (hd : decode cc pc = .ok (.ifnonnull off, 3)) (ht : (pc : Int) + off = (tgt : Int)) (kt : ∀ a, x = some a → gx_W D cl nL p l e R s m args below meth c cells slots Q X tgt lv st) (kf : x = none → gx_W D cl nL p l e R s m args below meth c cells slots Q X (pc + 3) lv st) : gx_W D cl nL p l e R s m args below meth c cells slots Q X pc lv (gx_r x :: st) := fun H locs ls hR hS hL => by
  cases x with
  | none => exact lv_ifnonnullN C.1 C.2.1 hd (kf rfl H locs ls hR hS hL)
  | some a => exact lv_ifnonnull C.1 C.2.1 hd ht (kt a rfl H locs ls hR hS hL)
theorem gx_swOut (C : gx_C D cl aty tb nb p s m meth c cc nL own ret) {dflt lo hi : Int} {offs : Array Int} {len : Nat} {x : Int32} {tgt : Nat} (hd : decode cc pc = .ok (.tableswitch dflt lo hi offs, len)) (h : x.toInt < lo ∨ hi < x.toInt) (ht : (pc : Int) + dflt = (tgt : Int)) (kk : gx_W D cl nL p l e R s m args below meth c cells slots Q X tgt lv st) : gx_W D cl nL p l e R s m args below meth c cells slots Q X pc lv (gx_i x :: st) := fun H locs ls hR hS hL => lv_tableOut C.1 C.2.1 hd h ht (kk H locs ls hR hS hL)
theorem gx_swIn (C : gx_C D cl aty tb nb p s m meth c cc nL own ret) {dflt lo hi : Int} {offs : Array Int} {len : Nat} {x : Int32} {off : Int} {tgt : Nat} (hd : decode cc pc = .ok (.tableswitch dflt lo hi offs, len)) (h1 : ¬ x.toInt < lo) (h2 : ¬ hi < x.toInt) (ho : offs[(x.toInt - lo).toNat]? = some off) (ht : (pc : Int) + off = (tgt : Int)) (kk : gx_W D cl nL p l e R s m args below meth c cells slots Q X tgt lv st) : gx_W D cl nL p l e R s m args below meth c cells slots Q X pc lv (gx_i x :: st) := fun H locs ls hR hS hL => lv_tableIn C.1 C.2.1 hd h1 h2 ho ht (kk H locs ls hR hS hL)
theorem gx_sub (bs : List Bool) {lv2 : List (Option gx_V)} (hl : gx_mk bs lv = lv2) (kk : gx_W D cl nL p l e R s m args below meth c cells slots Q X pc lv2 st) : gx_W D cl nL p l e R s m args below meth c cells slots Q X pc lv st := fun H locs ls hR hS hL => kk H locs ls hR hS ⟨hL.1, hL.2.1, fun i v h => hL.2.2 i v (gx_mk_at bs lv i v (by rw [hl]; exact h))⟩
end GX
end
section
/-! ROWS over the world: fields, arrays, new cells, calls, ends -/
def gx_cc (cl : List vw_C) (tb : List Cond) (ci : Nat) (Cn : String) (T : u_T) (N : Nat) (ty : Nat → FieldType) : Prop := cl[ci]? = some (Cn, T, N) ∧ (∀ w ∈ u_ws Cn T N, w ∈ tb) ∧ (∀ k, k < N → parseFieldDescriptor (T k).2.2.1 = some (ty k)) ∧ ∀ a, a < N → ∀ b, b < N → a ≠ b → (T a).2.1 ≠ (T b).2.1
def gx_cd (tb : List Cond) (y : MethodName) (bytes : ByteArray) (maxL : Nat) (ret : Option FieldType) (n : Nat) : Prop := Cond.code y bytes maxL ret ∈ tb ∧ Cond.initialized y.cls ∈ tb ∧ y.cls ≠ "java/lang/invoke/MethodHandle" ∧ y.cls ≠ "java/lang/invoke/VarHandle" ∧ (parseMethodDescriptor y.desc).map (fun d => d.parameters.length) = some n
theorem gx_nz {x : Int32} (h : x = 0 ∨ x = 1) : narrow .boolean (gx_t (gx_i x)) = gx_t (gx_i x) ∧ fits .boolean (gx_t (gx_i x)) = true := by
  rcases h with rfl | rfl <;> exact ⟨rfl, by decide⟩
theorem gx_nr {C : String} (o : Option Nat) : narrow (.object C) (gx_t (gx_r o)) = gx_t (gx_r o) ∧ fits (.object C) (gx_t (gx_r o)) = true := by
  cases o <;> exact ⟨rfl, rfl⟩
theorem gx_sl_len : ∀ (vs : List gx_V), (lg_sl (vs.map gx_t)).length = (gx_en vs).length
  | [] => rfl
  | .inl x :: t => by
    have := gx_sl_len t
    simp only [lg_sl, gx_en, List.map_cons, List.flatMap_cons, List.length_append, List.length_cons] at this ⊢
    rw [this, gx_cat]
    simp [gx_2]
    omega
  | .inr (.inl x) :: t => by
    have := gx_sl_len t
    simp only [lg_sl, gx_en, List.map_cons, List.flatMap_cons, List.length_append, List.length_cons] at this ⊢
    rw [this, gx_cat]
    simp [gx_2]
    omega
  | .inr (.inr o) :: t => by
    have := gx_sl_len t
    simp only [lg_sl, gx_en, List.map_cons, List.flatMap_cons, List.length_append, List.length_cons] at this ⊢
    rw [this, gx_cat]
    simp [gx_2]
    omega
section GY
variable {p : Program} {l : Launch} {e : Env} {R : Room} {s : State} {m : MethodId} {args : Array Value} {below : List Frame} {meth : Method} {c : Code} {cells slots : Nat} {Q : State → Prop}
variable {D : gx_D} {cl : List vw_C} {aty : List FieldType} {tb nb : List Cond} {cc : ByteArray} {nL : Nat} {own : String} {ret : Option FieldType} {X : gx_H} {pc : Nat} {lv : List (Option gx_V)} {st : List gx_V}

theorem gx_get (C : gx_C D cl aty tb nb p s m meth c cc nL own ret) {ci N : Nat} {Cn : String} {T : u_T} {ty : Nat → FieldType} (Kc : gx_cc cl tb ci Cn T N ty) (k : Nat) {a idx : Nat} {v : gx_V} (hk : k < N) (hlink : Cond.fieldLink own idx (T k).1 (T k).2.1 (T k).2.2.1 ∈ tb) (h : gx_gf X a ci k = some (gx_t v)) (hd : decode cc pc = .ok (.getfield idx, 3)) (kk : gx_W D cl nL p l e R s m args below meth c cells slots Q X (pc + 3) lv (v :: st)) : gx_W D cl nL p l e R s m args below meth c cells slots Q X pc lv (gx_r (some a) :: st) := fun H locs ls hR hS hL => by
  obtain ⟨fs, h1, h2⟩ := gx_gf_s h
  exact va_get (D := D.1) (ci := ci) (v := gx_t v) (ws := [(a, gx_e D (.inr (ci, fs)))]) (tys := []) (Ts := tb) C.1 C.2.1 (fun w hw => C.2.2.2.2.2.2.2.2.1 w hw args) Kc.2.1 C.2.2.2.1 C.2.2.2.2.2.2.va (hR.one h1) 0 rfl Kc.1 k hk (C.2.2.2.2.2.2.2.2.1 _ hlink args) (fun _ h9 => h9) h2 hd (kk H locs ls hR hS hL)
theorem gx_getN (C : gx_C D cl aty tb nb p s m meth c cc nL own ret) {ci N : Nat} {Cn host : String} {T : u_T} {ty : Nat → FieldType} (Kc : gx_cc cl tb ci Cn T N ty) (k : Nat) {a idx : Nat} {v : gx_V} (hk : k < N) (hlink : Cond.fieldLinkNest own idx (T k).1 (T k).2.1 (T k).2.2.1 host ∈ nb) (h : gx_gf X a ci k = some (gx_t v)) (hd : decode cc pc = .ok (.getfield idx, 3)) (kk : gx_W D cl nL p l e R s m args below meth c cells slots Q X (pc + 3) lv (v :: st)) : gx_W D cl nL p l e R s m args below meth c cells slots Q X pc lv (gx_r (some a) :: st) := fun H locs ls hR hS hL => by
  obtain ⟨fs, h1, h2⟩ := gx_gf_s h
  exact va_getN (D := D.1) (ci := ci) (v := gx_t v) (ws := [(a, gx_e D (.inr (ci, fs)))]) (tys := []) (Ts := tb) C.1 C.2.1 (fun w hw => C.2.2.2.2.2.2.2.2.1 w hw args) Kc.2.1 C.2.2.2.1 C.2.2.2.2.2.2.va (hR.one h1) 0 rfl Kc.1 k hk (va_Nw.use rfl (C.2.2.2.2.2.2.2.2.2.1 _ hlink)) (fun _ h9 => h9) h2 hd (kk H locs ls hR hS hL)
theorem gx_put (C : gx_C D cl aty tb nb p s m meth c cc nL own ret) {ci N : Nat} {Cn : String} {T : u_T} {ty : Nat → FieldType} (Kc : gx_cc cl tb ci Cn T N ty) (k : Nat) {a idx : Nat} {v : gx_V} {X2 : gx_H} (hk : k < N) (hfin : (T k).2.2.2 = false) (hlink : Cond.fieldLink own idx (T k).1 (T k).2.1 (T k).2.2.1 ∈ tb) (hn : narrow (ty k) (gx_t v) = gx_t v ∧ fits (ty k) (gx_t v) = true) (h : gx_pf X a ci k (gx_t v) = some X2) (hd : decode cc pc = .ok (.putfield idx, 3)) (kk : gx_W D cl nL p l e R s m args below meth c cells slots Q X2 (pc + 3) lv st) : gx_W D cl nL p l e R s m args below meth c cells slots Q X pc lv (v :: gx_r (some a) :: st) := fun H locs ls hR hS hL => by
  obtain ⟨fs, h1, h2, rfl⟩ := gx_pf_s h
  have hap := va_apart (own := own) (fun w hw => C.2.2.2.2.2.2.2.2.1 w hw args) Kc.2.1 ty Kc.2.2.1 Kc.2.2.2 C.2.2.2.2.2.2.va Kc.1
  obtain ⟨r, g1, cell, q1, q2, q3, q4⟩ := (hR.2.2 a _ h1).2
  have hr : r = (Cn, T, N) := Option.some.inj (g1.symm.trans Kc.1)
  subst hr
  obtain ⟨hSl, hfc, kC, hkC, hkind⟩ := C.2.2.2.2.2.2.1 ci _ Kc.1
  obtain ⟨cf, kf, fi, f, hi, hsl⟩ := hSl k hk
  have hlay := C.2.2.2.2.2.2.2.2.1 _ (Kc.2.1 _ (u_in_lay hk)) args
  unfold u_lay at hlay
  rw [if_neg (by rw [hfin]; decide)] at hlay
  have hst := (u_facts hfc hkC (u_lays (fun w hw => C.2.2.2.2.2.2.2.2.1 w hw args) Kc.2.1 hk) hi).1
  have h6 := u_store hfc hkC hkind hlay hi (Kc.2.2.1 k hk) hn.1 hn.2
  refine W.putK C.1 C.2.1 (f := f) ⟨C.2.2.2.1, C.2.2.2.2.2.2.2.2.1 _ hlink args, ⟨_, _, _, hi⟩, hst⟩ (by rw [q2]; exact h6) q1 q3 (by rw [hsl]; exact k2_hasslot (q4 k hk)) rfl rfl hd fun H' e1 e2 e3 => ?_
  rw [hsl] at e1 ⊢
  exact kk H' _ ls (hR.put h1 e2 e3 ⟨_, Kc.1, t_OB.to (V := updV (vp_V fs) k (gx_t v)) ⟨_, e1, q2, q3, t_set q4 hap hk (gx_t v)⟩ (fun j _ => vp_updV_set h2 (gx_t v) j)⟩) (hS.put e2 e3 (hR.2.2 a _ h1).1) hL
theorem gx_putN (C : gx_C D cl aty tb nb p s m meth c cc nL own ret) {ci N : Nat} {Cn host : String} {T : u_T} {ty : Nat → FieldType} (Kc : gx_cc cl tb ci Cn T N ty) (k : Nat) {a idx : Nat} {v : gx_V} {X2 : gx_H} (hk : k < N) (hfin : (T k).2.2.2 = false) (hlink : Cond.fieldLinkNest own idx (T k).1 (T k).2.1 (T k).2.2.1 host ∈ nb) (hn : narrow (ty k) (gx_t v) = gx_t v ∧ fits (ty k) (gx_t v) = true) (h : gx_pf X a ci k (gx_t v) = some X2) (hd : decode cc pc = .ok (.putfield idx, 3)) (kk : gx_W D cl nL p l e R s m args below meth c cells slots Q X2 (pc + 3) lv st) : gx_W D cl nL p l e R s m args below meth c cells slots Q X pc lv (v :: gx_r (some a) :: st) := fun H locs ls hR hS hL => by
  obtain ⟨fs, h1, h2, rfl⟩ := gx_pf_s h
  have hap := va_apart (own := own) (fun w hw => C.2.2.2.2.2.2.2.2.1 w hw args) Kc.2.1 ty Kc.2.2.1 Kc.2.2.2 C.2.2.2.2.2.2.va Kc.1
  obtain ⟨r, g1, cell, q1, q2, q3, q4⟩ := (hR.2.2 a _ h1).2
  have hr : r = (Cn, T, N) := Option.some.inj (g1.symm.trans Kc.1)
  subst hr
  obtain ⟨hSl, hfc, kC, hkC, hkind⟩ := C.2.2.2.2.2.2.1 ci _ Kc.1
  obtain ⟨cf, kf, fi, f, hi, hsl⟩ := hSl k hk
  have hlay := C.2.2.2.2.2.2.2.2.1 _ (Kc.2.1 _ (u_in_lay hk)) args
  unfold u_lay at hlay
  rw [if_neg (by rw [hfin]; decide)] at hlay
  have hst := (u_facts hfc hkC (u_lays (fun w hw => C.2.2.2.2.2.2.2.2.1 w hw args) Kc.2.1 hk) hi).1
  have h6 := u_store hfc hkC hkind hlay hi (Kc.2.2.1 k hk) hn.1 hn.2
  refine va_WputK C.1 C.2.1 (f := f) C.2.2.2.1 (va_Nw.use rfl (C.2.2.2.2.2.2.2.2.2.1 _ hlink)) hi hst (by rw [q2]; exact h6) q1 q3 (by rw [hsl]; exact k2_hasslot (q4 k hk)) rfl rfl hd fun H' e1 e2 e3 => ?_
  rw [hsl] at e1 ⊢
  exact kk H' _ ls (hR.put h1 e2 e3 ⟨_, Kc.1, t_OB.to (V := updV (vp_V fs) k (gx_t v)) ⟨_, e1, q2, q3, t_set q4 hap hk (gx_t v)⟩ (fun j _ => vp_updV_set h2 (gx_t v) j)⟩) (hS.put e2 e3 (hR.2.2 a _ h1).1) hL
theorem gx_putF (C : gx_C D cl aty tb nb p s m meth c cc nL own ret) {ci N : Nat} {Cn : String} {T : u_T} {ty : Nat → FieldType} (Kc : gx_cc cl tb ci Cn T N ty) (k : Nat) {a idx : Nat} {v : gx_V} {X2 : gx_H} (hk : k < N) (hfin : (T k).2.2.2 = true) (hin2 : meth.name = "<init>") (hdecl : (T k).1 = own) (hlink : Cond.fieldLink own idx (T k).1 (T k).2.1 (T k).2.2.1 ∈ tb) (hn : narrow (ty k) (gx_t v) = gx_t v ∧ fits (ty k) (gx_t v) = true) (h : gx_pf X a ci k (gx_t v) = some X2) (hd : decode cc pc = .ok (.putfield idx, 3)) (kk : gx_W D cl nL p l e R s m args below meth c cells slots Q X2 (pc + 3) lv st) : gx_W D cl nL p l e R s m args below meth c cells slots Q X pc lv (v :: gx_r (some a) :: st) := fun H locs ls hR hS hL => by
  obtain ⟨fs, h1, h2, rfl⟩ := gx_pf_s h
  have hap := va_apart (own := own) (fun w hw => C.2.2.2.2.2.2.2.2.1 w hw args) Kc.2.1 ty Kc.2.2.1 Kc.2.2.2 C.2.2.2.2.2.2.va Kc.1
  obtain ⟨r, g1, cell, q1, q2, q3, q4⟩ := (hR.2.2 a _ h1).2
  have hr : r = (Cn, T, N) := Option.some.inj (g1.symm.trans Kc.1)
  subst hr
  obtain ⟨hSl, hfc, kC, hkC, hkind⟩ := C.2.2.2.2.2.2.1 ci _ Kc.1
  obtain ⟨cf, kf, fi, f, hi, hsl⟩ := hSl k hk
  have hlay := C.2.2.2.2.2.2.2.2.1 _ (Kc.2.1 _ (u_in_lay hk)) args
  unfold u_lay at hlay
  rw [if_pos hfin] at hlay
  have hst := (u_facts hfc hkC (u_lays (fun w hw => C.2.2.2.2.2.2.2.2.1 w hw args) Kc.2.1 hk) hi).1
  have hcf : m.cls = cf := by
    obtain ⟨_, _, c', _, _, _, -, -, hf', -, -, -, hown2, -⟩ := Cond.laysFinal_spec hlay
    have e1 : c' = cf := by have := hi.symm.trans hf'; simp at this; exact this.1.symm
    rw [hdecl] at hown2
    rw [← e1]; exact Option.some.inj (C.2.2.2.1.symm.trans hown2)
  have h6 := u_fits hfc hkC hkind (Or.inr hlay) hi (Kc.2.2.1 k hk) hn.1 hn.2
  refine W.putFinK C.1 C.2.1 C.2.2.2.1 (C.2.2.2.2.2.2.2.2.1 _ hlink args) hi hst hcf hin2 (by rw [q2]; exact h6) q1 q3 (by rw [hsl]; exact k2_hasslot (q4 k hk)) rfl rfl hd fun H' e1 e2 e3 => ?_
  rw [hsl] at e1 ⊢
  exact kk H' _ ls (hR.put h1 e2 e3 ⟨_, Kc.1, t_OB.to (V := updV (vp_V fs) k (gx_t v)) ⟨_, e1, q2, q3, t_set q4 hap hk (gx_t v)⟩ (fun j _ => vp_updV_set h2 (gx_t v) j)⟩) (hS.put e2 e3 (hR.2.2 a _ h1).1) hL
theorem gx_iald (C : gx_C D cl aty tb nb p s m meth c cc nL own ret) {a t : Nat} {i : Int32} {x : Int32} (ht : aty[t]? = some .int) (h : gx_gai X a t i = some x) (hd : decode cc pc = .ok (.iaload, 1)) (kk : gx_W D cl nL p l e R s m args below meth c cells slots Q X (pc + 1) lv (gx_i x :: st)) : gx_W D cl nL p l e R s m args below meth c cells slots Q X pc lv (gx_i i :: gx_r (some a) :: st) := fun H locs ls hR hS hL => by
  obtain ⟨n, f, h1, h2, rfl⟩ := gx_gai_s h
  exact va_iald (D := D.1) (ws := [(a, gx_e D (.inl (t, n, .inl f)))]) (tys := [(D.2.1 t, .int)]) (cl := cl) C.1 C.2.1 (C.2.2.2.2.2.2.va1 ht) (hR.one h1) 0 0 rfl rfl h2 hd (kk H locs ls hR hS hL)
theorem gx_zald (C : gx_C D cl aty tb nb p s m meth c cc nL own ret) {a t : Nat} {i : Int32} {x : Int32} (ht : aty[t]? = some .boolean) (h : gx_gai X a t i = some x) (hd : decode cc pc = .ok (.baload, 1)) (kk : gx_W D cl nL p l e R s m args below meth c cells slots Q X (pc + 1) lv (gx_i x :: st)) : gx_W D cl nL p l e R s m args below meth c cells slots Q X pc lv (gx_i i :: gx_r (some a) :: st) := fun H locs ls hR hS hL => by
  obtain ⟨n, f, h1, h2, rfl⟩ := gx_gai_s h
  exact va_zald (D := D.1) (ws := [(a, gx_e D (.inl (t, n, .inl f)))]) (tys := [(D.2.1 t, .boolean)]) (cl := cl) C.1 C.2.1 (C.2.2.2.2.2.2.va1 ht) (hR.one h1) 0 0 rfl rfl h2 hd (kk H locs ls hR hS hL)
theorem gx_lald (C : gx_C D cl aty tb nb p s m meth c cc nL own ret) {a t : Nat} {i : Int32} {x : Int64} (ht : aty[t]? = some .long) (h : gx_gal X a t i = some x) (hd : decode cc pc = .ok (.laload, 1)) (kk : gx_W D cl nL p l e R s m args below meth c cells slots Q X (pc + 1) lv (gx_l x :: st)) : gx_W D cl nL p l e R s m args below meth c cells slots Q X pc lv (gx_i i :: gx_r (some a) :: st) := fun H locs ls hR hS hL => by
  obtain ⟨n, f, h1, h2, rfl⟩ := gx_gal_s h
  exact va_lald (D := D.1) (ws := [(a, gx_e D (.inl (t, n, .inr (.inl f))))]) (tys := [(D.2.1 t, .long)]) (cl := cl) C.1 C.2.1 (C.2.2.2.2.2.2.va1 ht) (hR.one h1) 0 0 rfl rfl h2 hd (kk H locs ls hR hS hL)
theorem gx_aald (C : gx_C D cl aty tb nb p s m meth c cc nL own ret) {a t : Nat} {i : Int32} {x : Option Nat} {Cn : String} (ht : aty[t]? = some (.object Cn)) (h : gx_gar X a t i = some x) (hd : decode cc pc = .ok (.aaload, 1)) (kk : gx_W D cl nL p l e R s m args below meth c cells slots Q X (pc + 1) lv (gx_r x :: st)) : gx_W D cl nL p l e R s m args below meth c cells slots Q X pc lv (gx_i i :: gx_r (some a) :: st) := fun H locs ls hR hS hL => by
  obtain ⟨n, f, h1, h2, rfl⟩ := gx_gar_s h
  exact va_aldq (D := D.1) (C := Cn) (ws := [(a, gx_e D (.inl (t, n, .inr (.inr (.inr (.inr f))))))]) (tys := [(D.2.1 t, .object Cn)]) (cl := cl) C.1 C.2.1 (C.2.2.2.2.2.2.va1 ht) (hR.one h1) 0 0 rfl rfl h2 hd (kk H locs ls hR hS hL)
theorem gx_iast (C : gx_C D cl aty tb nb p s m meth c cc nL own ret) {a t : Nat} {i : Int32} {x : Int32} {X2 : gx_H} (ht : aty[t]? = some .int) (h : gx_pai X a t i x = some X2) (hd : decode cc pc = .ok (.iastore, 1)) (kk : gx_W D cl nL p l e R s m args below meth c cells slots Q X2 (pc + 1) lv st) : gx_W D cl nL p l e R s m args below meth c cells slots Q X pc lv (gx_i x :: gx_i i :: gx_r (some a) :: st) := fun H locs ls hR hS hL => by
  obtain ⟨n, f, h1, h2, rfl⟩ := gx_pai_s h
  refine W.iast C.1 C.2.1 (hR.2.2 a _ h1).2 ((C.2.2.2.2.2.2.2.1 t _ ht).1 n (fun j => .int (f j))) (fun q => by cases q) (by show ¬ (i < 0 ∨ (arrV _ _ _).slots.size ≤ _); rw [arrV_size]; exact h2) rfl rfl hd fun H1 e1 z oq => ?_
  refine kk H1 _ ls (hR.put h1 z oq ?_) (hS.put z oq (hR.2.2 a _ h1).1) hL
  show H1[a]? = some (vp_cell _ _)
  rw [e1]
  show some (Cell.setSlot (vp_cell _ _) _ _) = some (vp_cell _ _)
  rw [vp_cell_i, vp_cell_i, arrV_store]
  congr 2
  funext q
  by_cases hq : q = i.toNatClampNeg
  · subst hq
    simp [updV, upd, vp_nar]
    try rfl
  · simp [updV, upd, hq]
theorem gx_zast (C : gx_C D cl aty tb nb p s m meth c cc nL own ret) {a t : Nat} {i : Int32} {x : Int32} {X2 : gx_H} (ht : aty[t]? = some .boolean) (h : gx_pai X a t i (vp_nar .boolean x) = some X2) (hd : decode cc pc = .ok (.bastore, 1)) (kk : gx_W D cl nL p l e R s m args below meth c cells slots Q X2 (pc + 1) lv st) : gx_W D cl nL p l e R s m args below meth c cells slots Q X pc lv (gx_i x :: gx_i i :: gx_r (some a) :: st) := fun H locs ls hR hS hL => by
  obtain ⟨n, f, h1, h2, rfl⟩ := gx_pai_s h
  refine W.zast C.1 C.2.1 (hR.2.2 a _ h1).2 ((C.2.2.2.2.2.2.2.1 t _ ht).1 n (fun j => .int (f j))) (fun q => by cases q) (by show ¬ (i < 0 ∨ (arrV _ _ _).slots.size ≤ _); rw [arrV_size]; exact h2) rfl rfl hd fun H1 e1 z oq => ?_
  refine kk H1 _ ls (hR.put h1 z oq ?_) (hS.put z oq (hR.2.2 a _ h1).1) hL
  show H1[a]? = some (vp_cell _ _)
  rw [e1]
  show some (Cell.setSlot (vp_cell _ _) _ _) = some (vp_cell _ _)
  rw [vp_cell_i, vp_cell_i, arrV_store]
  congr 2
  funext q
  by_cases hq : q = i.toNatClampNeg
  · subst hq
    simp [updV, upd, vp_nar]
    try rfl
  · simp [updV, upd, hq]
theorem gx_last (C : gx_C D cl aty tb nb p s m meth c cc nL own ret) {a t : Nat} {i : Int32} {x : Int64} {X2 : gx_H} (ht : aty[t]? = some .long) (h : gx_pal X a t i x = some X2) (hd : decode cc pc = .ok (.lastore, 1)) (kk : gx_W D cl nL p l e R s m args below meth c cells slots Q X2 (pc + 1) lv st) : gx_W D cl nL p l e R s m args below meth c cells slots Q X pc lv (gx_l x :: gx_i i :: gx_r (some a) :: st) := fun H locs ls hR hS hL => by
  obtain ⟨n, f, h1, h2, rfl⟩ := gx_pal_s h
  refine W.last C.1 C.2.1 (hR.2.2 a _ h1).2 ((C.2.2.2.2.2.2.2.1 t _ ht).1 n (fun j => .long (f j))) (fun q => by cases q) (by show ¬ (i < 0 ∨ (arrV _ _ _).slots.size ≤ _); rw [arrV_size]; exact h2) rfl rfl hd fun H1 e1 z oq => ?_
  refine kk H1 _ ls (hR.put h1 z oq ?_) (hS.put z oq (hR.2.2 a _ h1).1) hL
  show H1[a]? = some (vp_cell _ _)
  rw [e1]
  show some (Cell.setSlot (vp_cell _ _) _ _) = some (vp_cell _ _)
  rw [vp_cell_l, vp_cell_l, arrV_store]
  congr 2
  funext q
  by_cases hq : q = i.toNatClampNeg
  · subst hq
    simp [updV, vp_updL, vp_nar]
    try rfl
  · simp [updV, vp_updL, hq]
theorem gx_aast (C : gx_C D cl aty tb nb p s m meth c cc nL own ret) {a t v ci N : Nat} {i : Int32} {X2 : gx_H} {Cn : String} {T : u_T} (ht : aty[t]? = some (.object Cn)) (hcl : cl[ci]? = some (Cn, T, N)) (ho : gx_is X v ci = true) (h : gx_par X a t i (some v) = some X2) (hd : decode cc pc = .ok (.aastore, 1)) (kk : gx_W D cl nL p l e R s m args below meth c cells slots Q X2 (pc + 1) lv st) : gx_W D cl nL p l e R s m args below meth c cells slots Q X pc lv (gx_r (some v) :: gx_i i :: gx_r (some a) :: st) := fun H locs ls hR hS hL => by
  obtain ⟨n, f, h1, h2, rfl⟩ := gx_par_s h
  obtain ⟨vs, hv⟩ := gx_is_s ho
  have hlt : i.toNatClampNeg < n := Nat.not_le.mp fun q => h2 (Or.inr q)
  have h0 : ¬ i < 0 := fun q => h2 (Or.inl q)
  obtain ⟨r', hr', cellV, g1, g2, g3, -⟩ := (hR.2.2 v _ hv).2
  have hcls := (C.2.2.2.2.2.2.1 ci _ hcl).2
  obtain ⟨kA, comp, k1, k2, k3, -⟩ := (C.2.2.2.2.2.2.2.1 t _ ht).2
  have hcomp : comp = D.1.1 ci := Option.some.inj (k3.symm.trans hcls.1)
  subst hcomp
  obtain ⟨kC, hkC, -⟩ := hcls.2
  refine W.aast C.1 C.2.1 (hR.2.2 a _ h1).2 (fun q h => by cases h) (fun h => by cases h) k1 k2 rfl hkC ⟨h0, by show _ < (arrV _ _ _).slots.size; rw [arrV_size]; exact hlt⟩ g1 (fun q h => by rw [g3] at h; cases h) (by rw [g2]; exact hkC) (by rw [g2]; exact va_assign hcls) rfl rfl hd fun H1 e1 z oq => ?_
  refine kk H1 _ ls (hR.put h1 z oq ?_) (hS.put z oq (hR.2.2 a _ h1).1) hL
  show H1[a]? = some (vp_cell _ _)
  rw [e1]
  show some (Cell.setSlot (vp_cell _ _) _ _) = some (vp_cell _ _)
  rw [vp_cell_q, vp_cell_q, arrV_store]
  congr 2
  funext q
  by_cases hq : q = i.toNatClampNeg
  · subst hq
    simp [updV, va_up, va_rf]
  · simp [updV, va_up, hq]
theorem gx_alen (C : gx_C D cl aty tb nb p s m meth c cc nL own ret) {a t : Nat} {x : Int32} {ty : FieldType} (ht : aty[t]? = some ty) (h : gx_len X a t = some x) (hd : decode cc pc = .ok (.arraylength, 1)) (kk : gx_W D cl nL p l e R s m args below meth c cells slots Q X (pc + 1) lv (gx_i x :: st)) : gx_W D cl nL p l e R s m args below meth c cells slots Q X pc lv (gx_r (some a) :: st) := fun H locs ls hR hS hL => by
  obtain ⟨b, h1, h2⟩ := gx_len_s h
  exact va_alen (D := D.1) (ws := [(a, gx_e D (.inl (t, b)))]) (tys := [(D.2.1 t, ty)]) (cl := cl) C.1 C.2.1 (C.2.2.2.2.2.2.va1 ht) (hR.one h1) 0 0 rfl rfl h2 hd (kk H locs ls hR hS hL)
theorem gx_new (C : gx_C D cl aty tb nb p s m meth c cc nL own ret) {ci N idx : Nat} {Cn : String} {T : u_T} {ty : Nat → FieldType} (Kc : gx_cc cl tb ci Cn T N ty) (fs : List Value) (hl : Cond.classLink own idx Cn ∈ tb) (hi : Cond.instantiable Cn N ∈ tb) (hini : Cond.initialized Cn ∈ tb) (hfs : ∀ j, j < N → defaultValue (ty j) = vp_V fs j) (hcells : cells + 1 ≤ R.cells) (hslots : slots + N ≤ R.slots) (hd : decode cc pc = .ok (.new idx, 3)) (kk : gx_W D cl nL p l e R s m args below meth c (cells + 1) (slots + N) Q (gx_nw X (.inr (ci, fs))) (pc + 3) lv (gx_r (some X.2) :: st)) : gx_W D cl nL p l e R s m args below meth c cells slots Q X pc lv st := fun H locs ls hR hS hL => by
  have hKn := C.2.2.2.2.2.2.1 ci _ Kc.1
  refine W.newcK C.1 C.2.1 C.2.2.2.1 (C.2.2.2.2.2.2.2.2.1 _ hl args) (C.2.2.2.2.2.2.2.2.1 _ hi args) (C.2.2.2.2.2.2.2.2.1 _ hini args) rfl hd hcells hslots hKn.2.1 hR.1 fun H1 kC hkC e1 z1 o1 => ?_
  have z : H1.size = H.size + 1 := by rw [z1, hR.1]
  have oq : ∀ q : Nat, q < H.size → H1[q]? = H[q]? := fun q hq => o1 q (by rw [← hR.1]; exact hq)
  exact kk H1 locs ls (hR.push (e := .inr (ci, fs)) z oq ⟨_, Kc.1, (u_born ty (fun w hw => C.2.2.2.2.2.2.2.2.1 w hw args) Kc.2.1 hKn hkC e1 Kc.2.2.1).to hfs⟩) ⟨Nat.le_trans hS.1 (by omega), fun x h1 h2 => (oq x (Nat.lt_of_lt_of_le h1 hS.1)).trans (hS.2.1 x h1 h2), hS.2.2⟩ hL
theorem gx_newa (C : gx_C D cl aty tb nb p s m meth c cc nL own ret) {t : Nat} {atype : ArrayType} {ty : FieldType} {n : Int32} {N' : Nat} {a0 : vp_A} (ht : aty[t]? = some ty) (hty : newarray.typeOf atype = ty) (hp : ∀ (U : State) (cA : ClassId), va_RA U cA ty → U.vm.findClass ("[" ++ ty.toString) = some cA) (harr : Cond.arrayClass ty ∈ tb) (ha : ∀ cA : ClassId, vp_cell cA a0 = arrV cA N' (fun _ => defaultValue ty)) (hn : ¬ n < 0) (hN : n.toNatClampNeg = N') (hbytes : N' * componentBytes ty ≤ 536870912) (hcells : cells + 1 ≤ R.cells) (hslots : slots + N' ≤ R.slots) (hd : decode cc pc = .ok (.newarray atype, 2)) (kk : gx_W D cl nL p l e R s m args below meth c (cells + 1) (slots + N') Q (gx_nw X (.inl (t, a0))) (pc + 2) lv (gx_r (some X.2) :: st)) : gx_W D cl nL p l e R s m args below meth c cells slots Q X pc lv (gx_i n :: st) := fun H locs ls hR hS hL => by
  subst hty
  refine va_newaK C.1 C.2.1 (C.2.2.2.2.2.2.2.2.1 _ harr args) rfl hd rfl hn hN hbytes hcells hslots hR.1 fun H1 cA e1 z1 o1 hAr hNm => ?_
  have hcA : cA = D.2.1 t := Option.some.inj (hNm.symm.trans (hp s _ (C.2.2.2.2.2.2.2.1 t _ ht).2))
  subst hcA
  have z : H1.size = H.size + 1 := by rw [z1, hR.1]
  have oq : ∀ q : Nat, q < H.size → H1[q]? = H[q]? := fun q hq => o1 q (by rw [← hR.1]; exact hq)
  exact kk H1 locs ls (hR.push (e := .inl (t, a0)) z oq (by show H1[X.2]? = some (vp_cell _ _); rw [ha]; exact e1)) ⟨Nat.le_trans hS.1 (by omega), fun x h1 h2 => (oq x (Nat.lt_of_lt_of_le h1 hS.1)).trans (hS.2.1 x h1 h2), hS.2.2⟩ hL
theorem gx_anew (C : gx_C D cl aty tb nb p s m meth c cc nL own ret) {t idx : Nat} {Cn : String} {n : Int32} {N' : Nat} (ht : aty[t]? = some (.object Cn)) (hl : Cond.classLink own idx Cn ∈ tb) (hov : Cond.arrayOver (.object Cn) ∈ nb) (hn : ¬ n < 0) (hN : n.toNatClampNeg = N') (hbytes : N' * 4 ≤ 536870912) (hcells : cells + 1 ≤ R.cells) (hslots : slots + N' ≤ R.slots) (hd : decode cc pc = .ok (.anewarray idx, 3)) (kk : gx_W D cl nL p l e R s m args below meth c (cells + 1) (slots + N') Q (gx_nw X (.inl (t, N', .inr (.inr (.inr (.inr (fun _ => none))))))) (pc + 3) lv (gx_r (some X.2) :: st)) : gx_W D cl nL p l e R s m args below meth c cells slots Q X pc lv (gx_i n :: st) := fun H locs ls hR hS hL => by
  subst hN
  refine W.anew C.1 C.2.1 C.2.2.2.1 (C.2.2.2.2.2.2.2.2.1 _ hl args) (va_AO.use (C.2.2.2.2.2.2.2.2.2.1 _ hov)) rfl hd rfl hn hbytes hcells hslots fun cA kA comp f1 f2 f3 f4 => ?_
  obtain ⟨kA2, comp2, k1, k2, k3, k4⟩ := (C.2.2.2.2.2.2.2.1 t _ ht).2
  have hcA : cA = D.2.1 t := Option.some.inj (f1.symm.trans k4)
  subst hcA
  generalize hH1 : H.push ({ cls := D.2.1 t, slots := Array.replicate n.toNatClampNeg .null, vm := .none } : Cell) = H1
  have z : H1.size = H.size + 1 := by rw [← hH1, Array.size_push]
  have e1 : H1[H.size]? = some (arrV (D.2.1 t) n.toNatClampNeg (fun _ => .null)) := by rw [← hH1, Array.getElem?_push_size, ← arrV_new]
  have oq : ∀ q : Nat, q < H.size → H1[q]? = H[q]? := fun q hq => by rw [← hH1, Array.getElem?_push, if_neg (Nat.ne_of_lt hq)]
  rw [hR.1]
  exact kk H1 locs ls (hR.push (e := .inl (t, n.toNatClampNeg, .inr (.inr (.inr (.inr (fun _ => none)))))) z oq (by show H1[X.2]? = some (vp_cell _ _); rw [vp_cell_q, ← hR.1]; exact e1)) ⟨Nat.le_trans hS.1 (by omega), fun x h1 h2 => (oq x (Nat.lt_of_lt_of_le h1 hS.1)).trans (hS.2.1 x h1 h2), hS.2.2⟩ hL
theorem gx_objInit (C : gx_C D cl aty tb nb p s m meth c cc nL own ret) {idx a : Nat} (hl : Cond.methodLink own idx Lib.objectInit ∈ tb) (hi : Cond.instanceMethod Lib.objectInit ∈ tb) (hc : Cond.code Lib.objectInit ⟨#[0xb1]⟩ 1 none ∈ tb) (hd : decode cc pc = .ok (.invokespecial idx, 3)) (hfr : 1 ≤ R.frames) (hlo : (st.map (fun v => if gx_2 v = true then 2 else 1)).sum + 12 ≤ R.locals) (kk : gx_W D cl nL p l e R s m args below meth c cells slots Q X (pc + 3) lv st) : gx_W D cl nL p l e R s m args below meth c cells slots Q X pc lv (gx_r (some a) :: st) := fun H locs ls hR hS hL => by
  refine W.objInit C.1 C.2.1 C.2.2.2.1 (C.2.2.2.2.2.2.2.2.1 _ hl args) (C.2.2.2.2.2.2.2.2.1 _ hi args) (C.2.2.2.2.2.2.2.2.1 _ hc args) rfl (by rw [C.2.2.1]; exact hL.1) rfl hd hfr ?_ (kk H locs ls hR hS hL)
  have e0 : (F0 m pc ls (List.map gx_t (gx_r (some a) :: st))).monitorRoom = 0 := rfl
  have e1 : (fun v : Value => v.category) ∘ gx_t = fun v => if gx_2 v = true then 2 else 1 := funext fun v => gx_cat v
  rw [e0, List.map_map, e1, Nat.mul_zero, Nat.zero_add]
  exact hlo
theorem gx_iret {x : Int32} (C : gx_C D cl aty tb nb p s m meth c cc nL own (some .int)) (hd : decode cc pc = .ok (.ireturn, 1)) : gx_W D cl nL p l e R s m args below meth c cells slots (MQ below (gx_Q D cl (some (gx_i x)) X) args s cells slots (gx_Z D)) X pc lv [gx_i x] := fun H locs ls hR hS hL => W.iret C.1 C.2.1 C.2.2.2.2.1  (fun t ht hW => ⟨rfl, by rw [ht]; exact hR, hS.F ht⟩) hS.2.2 hd C.2.2.2.2.2.1
theorem gx_zret {x : Int32} (hx : x = 0 ∨ x = 1) (C : gx_C D cl aty tb nb p s m meth c cc nL own (some .boolean)) (hd : decode cc pc = .ok (.ireturn, 1)) : gx_W D cl nL p l e R s m args below meth c cells slots (MQ below (gx_Q D cl (some (gx_i x)) X) args s cells slots (gx_Z D)) X pc lv [gx_i x] := fun H locs ls hR hS hL => W.zret C.1 C.2.1 C.2.2.2.2.1 (gx_nz hx).1 (fun t ht hW => ⟨rfl, by rw [ht]; exact hR, hS.F ht⟩) hS.2.2 hd C.2.2.2.2.2.1
theorem gx_lret {x : Int64} (C : gx_C D cl aty tb nb p s m meth c cc nL own (some .long)) (hd : decode cc pc = .ok (.lreturn, 1)) : gx_W D cl nL p l e R s m args below meth c cells slots (MQ below (gx_Q D cl (some (gx_l x)) X) args s cells slots (gx_Z D)) X pc lv [gx_l x] := fun H locs ls hR hS hL => W.lret C.1 C.2.1 C.2.2.2.2.1  (fun t ht hW => ⟨rfl, by rw [ht]; exact hR, hS.F ht⟩) hS.2.2 hd C.2.2.2.2.2.1
theorem gx_vret  (C : gx_C D cl aty tb nb p s m meth c cc nL own none) (hd : decode cc pc = .ok (.return_, 1)) : gx_W D cl nL p l e R s m args below meth c cells slots (MQ below (gx_Q D cl none X) args s cells slots (gx_Z D)) X pc lv [] := fun H locs ls hR hS hL => W.vret C.1 C.2.1 C.2.2.2.2.1  (fun t ht hW => ⟨rfl, by rw [ht]; exact hR, hS.F ht⟩) hS.2.2 hd C.2.2.2.2.2.1
theorem gx_aret {Cn : String} {x : Option Nat} (C : gx_C D cl aty tb nb p s m meth c cc nL own (some (.object Cn))) (hd : decode cc pc = .ok (.areturn, 1)) : gx_W D cl nL p l e R s m args below meth c cells slots (MQ below (gx_Q D cl (some (gx_r x)) X) args s cells slots (gx_Z D)) X pc lv [gx_r x] := fun H locs ls hR hS hL => W.aret C.1 C.2.1 C.2.2.2.2.1 (Or.inl ⟨_, rfl⟩) (by cases x <;> first | exact Or.inl rfl | exact Or.inr ⟨_, rfl⟩) (fun t ht hW => ⟨rfl, by rw [ht]; exact hR, hS.F ht⟩) hS.2.2 hd C.2.2.2.2.2.1
theorem gx_blind {D : gx_D} {cl : List vw_C} {aty : List FieldType} {tb nb : List Cond} {av : List gx_V} {X : gx_H} : FrameBlind (gx_Pc D cl aty tb nb av X) := fun a U g mk h => ⟨h.1, h.2.1, h.2.2.same rfl⟩
theorem gx_after {H : Heap} {locs : List Loc} {ls : Array Slot} {nc ns : Nat} {r : Option gx_V} {X2 : gx_H} {stk : List Value} {av : Array Value} (hR : gx_R D cl X H) (hS : va_S (gx_Z D) s.heap H locs) (hL : gx_L ls nL lv) (hr : va_Run p l e R s m args below meth c H locs cells slots nc ns (F0 m pc ls stk) (st.map gx_t) (gx_Q D cl r X2 av) (gx_Z D)) (kk : gx_W D cl nL p l e R s m args below meth c (cells + nc) (slots + ns) Q X2 (pc + 3) lv (r.toList ++ st)) : W p l e R s m args below meth c H locs cells slots Q (F0 m pc ls stk) := by
  intro T hT S
  obtain ⟨v, st₀, t, T', L, h0, S', hLc, e1, e2, ⟨hv, hX2, hz, hk⟩, go⟩ := hr T hT S
  have hv' : v = r.map gx_t := by
    have := hv
    simpa using this
  subst hv'
  rw [h0] at hz hk
  have hstk : (r.map gx_t).toList ++ st.map gx_t = (r.toList ++ st).map gx_t := by cases r <;> rfl
  obtain ⟨t2, a1, b1⟩ := kk t.heap (locs ++ L) ls hX2 ⟨Nat.le_trans hS.1 hz, fun q h1 h2 => by rw [hk q (Nat.lt_of_lt_of_le h1 hS.1) h2]; exact hS.2.1 q h1 h2, fun q hq => by
      rcases List.mem_append.mp hq with h | h
      · exact hS.2.2 q h
      · exact hLc q h⟩ hL T' e1 S'
  refine ⟨t2, go t2 ?_, b1⟩
  rw [hstk]
  exact a1
theorem gx_cb (C : gx_C D cl aty tb nb p s m meth c cc nL own ret) {y : MethodName} {bytes : ByteArray} {maxL : Nat} {retc : Option FieldType} {n fr lo nc ns idx : Nat} {r : Option gx_V} {X2 : gx_H} {stk : List gx_V} (cd : gx_cd tb y bytes maxL retc n) (hl : Cond.methodLink own idx y ∈ tb) (hR0 : fr + 1 ≤ R.frames ∧ 8 + (maxL + 11) + lo ≤ R.locals) : CallB R s args own idx y bytes maxL retc [.code y bytes maxL retc] (gx_rm fr lo nc ns) nc ns n := by
  refine ⟨rfl, rfl, hR0.1, hR0.2, fun w hw a' U hW => ?_, List.mem_cons_self, C.2.2.2.2.2.2.2.2.1 _ cd.1 args, C.2.2.2.2.2.2.2.2.1 _ cd.2.1 args, ⟨cd.2.2.1, cd.2.2.2.1⟩, fun sig h => ?_, C.2.2.2.2.2.2.2.2.1 _ hl args⟩
  · rw [List.mem_singleton.mp hw]
    exact (C.2.2.2.2.2.2.moved hW).2.2.1 _ cd.1 a'
  · have h2 := cd.2.2.2.2
    rw [h] at h2
    exact (Option.some.inj h2).symm
theorem gx_cn (C : gx_C D cl aty tb nb p s m meth c cc nL own ret) {y : MethodName} {bytes : ByteArray} {maxL : Nat} {retc : Option FieldType} {n fr lo nc ns idx : Nat} {r : Option gx_V} {X2 : gx_H} {stk : List gx_V} {host : String} (cd : gx_cd tb y bytes maxL retc n) (hl : Cond.methodLinkNest own idx y host ∈ nb) (hR0 : fr + 1 ≤ R.frames ∧ 8 + (maxL + 11) + lo ≤ R.locals) : va_CN R s args own idx y host bytes maxL retc [.code y bytes maxL retc] (gx_rm fr lo nc ns) nc ns n := by
  refine ⟨⟨rfl, rfl, hR0.1, hR0.2, fun w hw a' U hW => ?_, List.mem_cons_self⟩, C.2.2.2.2.2.2.2.2.1 _ cd.1 args, C.2.2.2.2.2.2.2.2.1 _ cd.2.1 args, ⟨cd.2.2.1, cd.2.2.2.1⟩, fun sig h => ?_, va_Nw.use rfl (C.2.2.2.2.2.2.2.2.2.1 _ hl)⟩
  · rw [List.mem_singleton.mp hw]
    exact (C.2.2.2.2.2.2.moved hW).2.2.1 _ cd.1 a'
  · have h2 := cd.2.2.2.2
    rw [h] at h2
    exact (Option.some.inj h2).symm
theorem gx_room {m : MethodId} {pc : Nat} {ls : Array Slot} {stk : List Value} (hst : (st.map (fun v => if gx_2 v = true then 2 else 1)).sum ≤ 8) : 2 * (F0 m pc ls stk).monitorRoom + ((st.map gx_t).map fun v => v.category).sum ≤ 8 := by
  refine lv_room ?_
  rw [List.map_map]
  have e : (fun v : Value => v.category) ∘ gx_t = fun v => if gx_2 v = true then 2 else 1 := funext fun v => gx_cat v
  rw [e]
  exact hst
theorem gx_recv (C : gx_C D cl aty tb nb p s m meth c cc nL own ret) {a ci N : Nat} {Cn : String} {T : u_T} {H : Heap} (hR : gx_R D cl X H) (hcl : cl[ci]? = some (Cn, T, N)) (ho : gx_is X a ci = true) : ∃ cell : Cell, H[a]? = some cell ∧ cell.vm.isStatics = false ∧ s.vm.findClass Cn = some cell.cls := by
  obtain ⟨fs, hv⟩ := gx_is_s ho
  exact va_recv (D := D.1) (ws := [(a, gx_e D (.inr (ci, fs)))]) C.2.2.2.2.2.2.va (hR.one hv) hcl (q0 := 0) rfl
theorem gx_callV (C : gx_C D cl aty tb nb p s m meth c cc nL own ret) {y : MethodName} {bytes : ByteArray} {maxL : Nat} {retc : Option FieldType} {n fr lo nc ns idx : Nat} {r : Option gx_V} {X2 : gx_H} {stk : List gx_V} {a ci N : Nat} {T : u_T} {As : List gx_V} (cd : gx_cd tb y bytes maxL retc n) (hi : Cond.instanceMethod y ∈ tb) (hs : Cond.selects y.cls y y ∈ tb) (hl : Cond.methodLink own idx y ∈ tb) (hcl : cl[ci]? = some (y.cls, T, N)) (ho : gx_is X a ci = true) (hM : gx_M D cl aty tb nb l y bytes maxL retc fr lo (gx_r (some a) :: As) X r X2 nc ns) (hn : As.length = n) (hR0 : fr + 1 ≤ R.frames ∧ 8 + (maxL + 11) + lo ≤ R.locals) (hc : cells + nc ≤ R.cells ∧ slots + ns ≤ R.slots) (hst : (st.map (fun v => if gx_2 v = true then 2 else 1)).sum ≤ 8) (hstk : stk = As.reverse ++ gx_r (some a) :: st) (hd : decode cc pc = .ok (.invokevirtual idx, 3)) (kk : gx_W D cl nL p l e R s m args below meth c (cells + nc) (slots + ns) Q X2 (pc + 3) lv (r.toList ++ st)) : gx_W D cl nL p l e R s m args below meth c cells slots Q X pc lv stk := fun H locs ls hR hS hL => by
  subst hstk
  refine gx_after (X2 := X2) (r := r) (st := st) hR hS hL (va_runV (b := a) (As := As.map gx_t) (rest := st.map gx_t) (C := y.cls) (n := n) (Ts := []) (nL := nL) (own := own) ⟨C.1, C.2.1, C.2.2.1, C.2.2.2.1, fun w hw => by cases hw⟩ hM ⟨gx_cb C (n := n) (fr := fr) (lo := lo) (nc := nc) (ns := ns) (r := r) (X2 := X2) (stk := []) cd hl hR0, C.2.2.2.2.2.2.2.2.1 _ hi args, C.2.2.2.2.2.2.2.2.1 _ hs args⟩ ⟨gx_blind, gx_recv C hR hcl ho, fun U hU hW => ⟨rfl, by rw [hU]; exact hR, C.2.2.2.2.2.2.moved hW⟩⟩ rfl (by rw [List.length_map]; exact hn) hL.1 ?_ (gx_room hst) hd hc) kk
  show List.map gx_t (As.reverse ++ gx_r (some a) :: st) = _
  rw [List.map_append, List.map_reverse]
  rfl
theorem gx_callVN (C : gx_C D cl aty tb nb p s m meth c cc nL own ret) {y : MethodName} {bytes : ByteArray} {maxL : Nat} {retc : Option FieldType} {n fr lo nc ns idx : Nat} {r : Option gx_V} {X2 : gx_H} {stk : List gx_V} {host : String} {a ci N : Nat} {T : u_T} {As : List gx_V} (cd : gx_cd tb y bytes maxL retc n) (hi : Cond.instanceMethod y ∈ tb) (hs : Cond.selects y.cls y y ∈ tb) (hl : Cond.methodLinkNest own idx y host ∈ nb) (hcl : cl[ci]? = some (y.cls, T, N)) (ho : gx_is X a ci = true) (hM : gx_M D cl aty tb nb l y bytes maxL retc fr lo (gx_r (some a) :: As) X r X2 nc ns) (hn : As.length = n) (hR0 : fr + 1 ≤ R.frames ∧ 8 + (maxL + 11) + lo ≤ R.locals) (hc : cells + nc ≤ R.cells ∧ slots + ns ≤ R.slots) (hst : (st.map (fun v => if gx_2 v = true then 2 else 1)).sum ≤ 8) (hstk : stk = As.reverse ++ gx_r (some a) :: st) (hd : decode cc pc = .ok (.invokevirtual idx, 3)) (kk : gx_W D cl nL p l e R s m args below meth c (cells + nc) (slots + ns) Q X2 (pc + 3) lv (r.toList ++ st)) : gx_W D cl nL p l e R s m args below meth c cells slots Q X pc lv stk := fun H locs ls hR hS hL => by
  subst hstk
  refine gx_after (X2 := X2) (r := r) (st := st) hR hS hL (va_runVN (b := a) (As := As.map gx_t) (rest := st.map gx_t) (C := y.cls) (n := n) (Ts := []) (nL := nL) (own := own) ⟨C.1, C.2.1, C.2.2.1, C.2.2.2.1, fun w hw => by cases hw⟩ hM ⟨gx_cn C (n := n) (fr := fr) (lo := lo) (nc := nc) (ns := ns) (r := r) (X2 := X2) (stk := []) cd hl hR0, C.2.2.2.2.2.2.2.2.1 _ hi args, C.2.2.2.2.2.2.2.2.1 _ hs args⟩ ⟨gx_blind, gx_recv C hR hcl ho, fun U hU hW => ⟨rfl, by rw [hU]; exact hR, C.2.2.2.2.2.2.moved hW⟩⟩ rfl (by rw [List.length_map]; exact hn) hL.1 ?_ (gx_room hst) hd hc) kk
  show List.map gx_t (As.reverse ++ gx_r (some a) :: st) = _
  rw [List.map_append, List.map_reverse]
  rfl
theorem gx_callI (C : gx_C D cl aty tb nb p s m meth c cc nL own ret) {y : MethodName} {bytes : ByteArray} {maxL : Nat} {retc : Option FieldType} {n fr lo nc ns idx : Nat} {r : Option gx_V} {X2 : gx_H} {stk : List gx_V} {a : Nat} {As : List gx_V} (cd : gx_cd tb y bytes maxL none n) (hi : Cond.instanceMethod y ∈ tb) (hy1 : y.name = "<init>") (hl : Cond.methodLink own idx y ∈ tb) (hM : gx_M D cl aty tb nb l y bytes maxL none fr lo (gx_r (some a) :: As) X r X2 nc ns) (hn : As.length = n) (hR0 : fr + 1 ≤ R.frames ∧ 8 + (maxL + 11) + lo ≤ R.locals) (hc : cells + nc ≤ R.cells ∧ slots + ns ≤ R.slots) (hst : (st.map (fun v => if gx_2 v = true then 2 else 1)).sum ≤ 8) (hstk : stk = As.reverse ++ gx_r (some a) :: st) (hd : decode cc pc = .ok (.invokespecial idx, 3)) (kk : gx_W D cl nL p l e R s m args below meth c (cells + nc) (slots + ns) Q X2 (pc + 3) lv (r.toList ++ st)) : gx_W D cl nL p l e R s m args below meth c cells slots Q X pc lv stk := fun H locs ls hR hS hL => by
  subst hstk
  refine gx_after (X2 := X2) (r := r) (st := st) hR hS hL (va_runI (b := a) (As := As.map gx_t) (rest := st.map gx_t) (n := n) (Ts := []) (nL := nL) (own := own) ⟨C.1, C.2.1, C.2.2.1, C.2.2.2.1, fun w hw => by cases hw⟩ hM ⟨gx_cb C (n := n) (fr := fr) (lo := lo) (nc := nc) (ns := ns) (r := r) (X2 := X2) (stk := []) cd hl hR0, hy1, C.2.2.2.2.2.2.2.2.1 _ hi args⟩ ⟨gx_blind, fun U hU hW => ⟨rfl, by rw [hU]; exact hR, C.2.2.2.2.2.2.moved hW⟩⟩ rfl (by rw [List.length_map]; exact hn) hL.1 ?_ (gx_room hst) hd hc) kk
  show List.map gx_t (As.reverse ++ gx_r (some a) :: st) = _
  rw [List.map_append, List.map_reverse]
  rfl
theorem gx_callIN (C : gx_C D cl aty tb nb p s m meth c cc nL own ret) {y : MethodName} {bytes : ByteArray} {maxL : Nat} {retc : Option FieldType} {n fr lo nc ns idx : Nat} {r : Option gx_V} {X2 : gx_H} {stk : List gx_V} {host : String} {a : Nat} {As : List gx_V} (cd : gx_cd tb y bytes maxL none n) (hi : Cond.instanceMethod y ∈ tb) (hy1 : y.name = "<init>") (hl : Cond.methodLinkNest own idx y host ∈ nb) (hM : gx_M D cl aty tb nb l y bytes maxL none fr lo (gx_r (some a) :: As) X r X2 nc ns) (hn : As.length = n) (hR0 : fr + 1 ≤ R.frames ∧ 8 + (maxL + 11) + lo ≤ R.locals) (hc : cells + nc ≤ R.cells ∧ slots + ns ≤ R.slots) (hst : (st.map (fun v => if gx_2 v = true then 2 else 1)).sum ≤ 8) (hstk : stk = As.reverse ++ gx_r (some a) :: st) (hd : decode cc pc = .ok (.invokespecial idx, 3)) (kk : gx_W D cl nL p l e R s m args below meth c (cells + nc) (slots + ns) Q X2 (pc + 3) lv (r.toList ++ st)) : gx_W D cl nL p l e R s m args below meth c cells slots Q X pc lv stk := fun H locs ls hR hS hL => by
  subst hstk
  refine gx_after (X2 := X2) (r := r) (st := st) hR hS hL (va_runIN (b := a) (As := As.map gx_t) (rest := st.map gx_t) (n := n) (Ts := []) (nL := nL) (own := own) ⟨C.1, C.2.1, C.2.2.1, C.2.2.2.1, fun w hw => by cases hw⟩ hM ⟨gx_cn C (n := n) (fr := fr) (lo := lo) (nc := nc) (ns := ns) (r := r) (X2 := X2) (stk := []) cd hl hR0, hy1, C.2.2.2.2.2.2.2.2.1 _ hi args⟩ ⟨gx_blind, fun U hU hW => ⟨rfl, by rw [hU]; exact hR, C.2.2.2.2.2.2.moved hW⟩⟩ rfl (by rw [List.length_map]; exact hn) hL.1 ?_ (gx_room hst) hd hc) kk
  show List.map gx_t (As.reverse ++ gx_r (some a) :: st) = _
  rw [List.map_append, List.map_reverse]
  rfl
theorem gx_callS (C : gx_C D cl aty tb nb p s m meth c cc nL own ret) {y : MethodName} {bytes : ByteArray} {maxL : Nat} {retc : Option FieldType} {n fr lo nc ns idx : Nat} {r : Option gx_V} {X2 : gx_H} {stk : List gx_V} {As : List gx_V} (cd : gx_cd tb y bytes maxL retc n) (hi : Cond.static y ∈ tb) (hl : Cond.methodLink own idx y ∈ tb) (hM : gx_M D cl aty tb nb l y bytes maxL retc fr lo As X r X2 nc ns) (hn : As.length = n) (hR0 : fr + 1 ≤ R.frames ∧ 8 + (maxL + 11) + lo ≤ R.locals) (hc : cells + nc ≤ R.cells ∧ slots + ns ≤ R.slots) (hst : (st.map (fun v => if gx_2 v = true then 2 else 1)).sum ≤ 8) (hstk : stk = As.reverse ++ st) (hd : decode cc pc = .ok (.invokestatic idx, 3)) (kk : gx_W D cl nL p l e R s m args below meth c (cells + nc) (slots + ns) Q X2 (pc + 3) lv (r.toList ++ st)) : gx_W D cl nL p l e R s m args below meth c cells slots Q X pc lv stk := fun H locs ls hR hS hL => by
  subst hstk
  refine gx_after (X2 := X2) (r := r) (st := st) hR hS hL (va_runS (As := As.map gx_t) (rest := st.map gx_t) (n := n) (Ts := []) (nL := nL) (own := own) ⟨C.1, C.2.1, C.2.2.1, C.2.2.2.1, fun w hw => by cases hw⟩ hM ⟨gx_cb C (n := n) (fr := fr) (lo := lo) (nc := nc) (ns := ns) (r := r) (X2 := X2) (stk := []) cd hl hR0, C.2.2.2.2.2.2.2.2.1 _ hi args⟩ ⟨gx_blind, fun U hU hW => ⟨rfl, by rw [hU]; exact hR, C.2.2.2.2.2.2.moved hW⟩⟩ rfl (by rw [List.length_map]; exact hn) hL.1 ?_ (gx_room hst) hd hc) kk
  show List.map gx_t (As.reverse ++ st) = _
  rw [List.map_append, List.map_reverse]
theorem gx_callSN (C : gx_C D cl aty tb nb p s m meth c cc nL own ret) {y : MethodName} {bytes : ByteArray} {maxL : Nat} {retc : Option FieldType} {n fr lo nc ns idx : Nat} {r : Option gx_V} {X2 : gx_H} {stk : List gx_V} {host : String} {As : List gx_V} (cd : gx_cd tb y bytes maxL retc n) (hi : Cond.static y ∈ tb) (hl : Cond.methodLinkNest own idx y host ∈ nb) (hM : gx_M D cl aty tb nb l y bytes maxL retc fr lo As X r X2 nc ns) (hn : As.length = n) (hR0 : fr + 1 ≤ R.frames ∧ 8 + (maxL + 11) + lo ≤ R.locals) (hc : cells + nc ≤ R.cells ∧ slots + ns ≤ R.slots) (hst : (st.map (fun v => if gx_2 v = true then 2 else 1)).sum ≤ 8) (hstk : stk = As.reverse ++ st) (hd : decode cc pc = .ok (.invokestatic idx, 3)) (kk : gx_W D cl nL p l e R s m args below meth c (cells + nc) (slots + ns) Q X2 (pc + 3) lv (r.toList ++ st)) : gx_W D cl nL p l e R s m args below meth c cells slots Q X pc lv stk := fun H locs ls hR hS hL => by
  subst hstk
  refine gx_after (X2 := X2) (r := r) (st := st) hR hS hL (va_runSN (As := As.map gx_t) (rest := st.map gx_t) (n := n) (Ts := []) (nL := nL) (own := own) ⟨C.1, C.2.1, C.2.2.1, C.2.2.2.1, fun w hw => by cases hw⟩ hM ⟨gx_cn C (n := n) (fr := fr) (lo := lo) (nc := nc) (ns := ns) (r := r) (X2 := X2) (stk := []) cd hl hR0, C.2.2.2.2.2.2.2.2.1 _ hi args, trivial⟩ ⟨gx_blind, fun U hU hW => ⟨rfl, by rw [hU]; exact hR, C.2.2.2.2.2.2.moved hW⟩⟩ rfl (by rw [List.length_map]; exact hn) hL.1 ?_ (gx_room hst) hd hc) kk
  show List.map gx_t (As.reverse ++ st) = _
  rw [List.map_append, List.map_reverse]
theorem gx_widen {k n : Nat} (h1 : cells ≤ k) (h2 : slots ≤ n) (kk : gx_W D cl nL p l e R s m args below meth c k n Q X pc lv st) : gx_W D cl nL p l e R s m args below meth c cells slots Q X pc lv st := fun H locs ls hR hS hL => W.widen h1 h2 (kk H locs ls hR hS hL)
end GY
theorem gx_enter {D : gx_D} {cl : List vw_C} {aty : List FieldType} {tb nb : List Cond} {l : Launch} {y : MethodName} {bytes : ByteArray} {maxL : Nat} {ret : Option FieldType} {fr lo : Nat} {av : List gx_V} {X : gx_H} {r : Option gx_V} {X2 : gx_H} {nc ns : Nat} (lv0 : List (Option gx_V)) (hlv : gx_pad maxL (gx_en av) = lv0) (hy : plainName y.cls = true) (hle : (gx_en av).length ≤ maxL)
    (body : ∀ (p : Program) (e : Env) (s : State) (m : MethodId) (below : List Frame) (meth : Method) (c : Code), gx_C D cl aty tb nb p s m meth c bytes maxL y.cls ret → meth.name = y.name →
      gx_W D cl maxL p l e (gx_rm fr lo nc ns) s m (av.map gx_t).toArray below meth c 0 0 (MQ below (gx_Q D cl r X2) (av.map gx_t).toArray s nc ns (gx_Z D)) X 0 lv0 []) : gx_M D cl aty tb nb l y bytes maxL ret fr lo av X r X2 nc ns := by
  subst hlv
  refine Met.ofW (cc := bytes) (maxL := maxL) (ret := ret) hy rfl ?_
  intro p e s m args below meth c s₁ B hml hv
  obtain ⟨rfl, hR, hK⟩ := hv
  have hW := body p e s m below meth c ⟨B.exec, B.bytes, hml, findClass_of_methodNamed B.named, B.returns, B.notSynchronized, hK⟩ (name_of_methodNamed B.named B.method).1
  have hl := lv_entry (av.map gx_t) (n := maxL) (by rw [gx_sl_len]; exact hle)
  rw [lg_entry_eq]
  exact hW s.heap [] _ hR va_S.rf ⟨hl.1, hl.2.1, fun i v h => by
    have h1 := gx_en_at av 0 i v (gx_pad_at h)
    rw [Nat.zero_add] at h1
    exact hl.2.2 _ h1⟩
end
