section
-- ===== PART A: goes FIRST, ahead of the names: the tables' words, and 'selects' of the private methods out of them =====
/-- a private method of a class that the tables say can be made, by its rows of tables_1 -/
def lw_okq (q : MethodName × Nat) : Prop := (q.1.cls ≠ "java/lang/invoke/MethodHandle" ∧ q.1.cls ≠ "java/lang/invoke/VarHandle") ∧ Cond.instantiable q.1.cls q.2 ∈ tables_1 ∧ Cond.privateMethod q.1 ∈ tables_1 ∧ Cond.instanceMethod q.1 ∈ tables_1
theorem lw_p0 : lw_okq (⟨"GuardFlow$Table", "isState", "(I)Z"⟩, 4) := ⟨⟨by decide +kernel, by decide +kernel⟩, List.mem_of_getElem? (i := 18) (by decide +kernel), List.mem_of_getElem? (i := 139) (by decide +kernel), List.mem_of_getElem? (i := 140) (by decide +kernel)⟩
theorem lw_p1 : lw_okq (⟨"GuardFlow$Table", "waysFrom", "(II)J"⟩, 4) := ⟨⟨by decide +kernel, by decide +kernel⟩, List.mem_of_getElem? (i := 18) (by decide +kernel), List.mem_of_getElem? (i := 147) (by decide +kernel), List.mem_of_getElem? (i := 148) (by decide +kernel)⟩
theorem lw_p2 : lw_okq (⟨"GuardFlow", "noteChange", "()V"⟩, 6) := ⟨⟨by decide +kernel, by decide +kernel⟩, List.mem_of_getElem? (i := 10) (by decide +kernel), List.mem_of_getElem? (i := 158) (by decide +kernel), List.mem_of_getElem? (i := 159) (by decide +kernel)⟩
theorem lw_p3 : lw_okq (⟨"GuardFlow$Flow", "forgetAll", "(LGuardFlow$Program;)V"⟩, 4) := ⟨⟨by decide +kernel, by decide +kernel⟩, List.mem_of_getElem? (i := 42) (by decide +kernel), List.mem_of_getElem? (i := 309) (by decide +kernel), List.mem_of_getElem? (i := 310) (by decide +kernel)⟩
theorem lw_p4 : lw_okq (⟨"GuardFlow$Flow", "growEntry", "(LGuardFlow$Body;J)V"⟩, 4) := ⟨⟨by decide +kernel, by decide +kernel⟩, List.mem_of_getElem? (i := 42) (by decide +kernel), List.mem_of_getElem? (i := 322) (by decide +kernel), List.mem_of_getElem? (i := 323) (by decide +kernel)⟩
theorem lw_p5 : lw_okq (⟨"GuardFlow$Flow", "growMay", "(LGuardFlow$Body;IJ)V"⟩, 4) := ⟨⟨by decide +kernel, by decide +kernel⟩, List.mem_of_getElem? (i := 42) (by decide +kernel), List.mem_of_getElem? (i := 326) (by decide +kernel), List.mem_of_getElem? (i := 327) (by decide +kernel)⟩
theorem lw_p6 : lw_okq (⟨"GuardFlow$Flow", "waitAt", "(LGuardFlow$Body;I)V"⟩, 4) := ⟨⟨by decide +kernel, by decide +kernel⟩, List.mem_of_getElem? (i := 42) (by decide +kernel), List.mem_of_getElem? (i := 331) (by decide +kernel), List.mem_of_getElem? (i := 332) (by decide +kernel)⟩
theorem lw_p7 : lw_okq (⟨"GuardFlow$Flow", "step", "(LGuardFlow$Program;I)V"⟩, 4) := ⟨⟨by decide +kernel, by decide +kernel⟩, List.mem_of_getElem? (i := 42) (by decide +kernel), List.mem_of_getElem? (i := 336) (by decide +kernel), List.mem_of_getElem? (i := 337) (by decide +kernel)⟩
theorem lw_p8 : lw_okq (⟨"GuardFlow$Flow", "afterOf", "(LGuardFlow$Body;ILGuardFlow$Body;)J"⟩, 4) := ⟨⟨by decide +kernel, by decide +kernel⟩, List.mem_of_getElem? (i := 42) (by decide +kernel), List.mem_of_getElem? (i := 340) (by decide +kernel), List.mem_of_getElem? (i := 341) (by decide +kernel)⟩
theorem lw_p9 : lw_okq (⟨"GuardFlow$Flow", "growSummary", "(LGuardFlow$Body;JJ)V"⟩, 4) := ⟨⟨by decide +kernel, by decide +kernel⟩, List.mem_of_getElem? (i := 42) (by decide +kernel), List.mem_of_getElem? (i := 353) (by decide +kernel), List.mem_of_getElem? (i := 354) (by decide +kernel)⟩
theorem lw_p10 : lw_okq (⟨"GuardFlow$Flow", "passOn", "(LGuardFlow$Body;IJ)V"⟩, 4) := ⟨⟨by decide +kernel, by decide +kernel⟩, List.mem_of_getElem? (i := 42) (by decide +kernel), List.mem_of_getElem? (i := 357) (by decide +kernel), List.mem_of_getElem? (i := 358) (by decide +kernel)⟩
theorem lw_p11 : lw_okq (⟨"GuardFlow$Flow", "passToHandlers", "(LGuardFlow$Body;IJ)V"⟩, 4) := ⟨⟨by decide +kernel, by decide +kernel⟩, List.mem_of_getElem? (i := 42) (by decide +kernel), List.mem_of_getElem? (i := 362) (by decide +kernel), List.mem_of_getElem? (i := 363) (by decide +kernel)⟩
theorem lw_p12 : lw_okq (⟨"GuardFlow$Flow", "wakeCallers", "(LGuardFlow$Program;)V"⟩, 4) := ⟨⟨by decide +kernel, by decide +kernel⟩, List.mem_of_getElem? (i := 42) (by decide +kernel), List.mem_of_getElem? (i := 366) (by decide +kernel), List.mem_of_getElem? (i := 367) (by decide +kernel)⟩
theorem lw_p13 : lw_okq (⟨"GuardFlow$Flow", "wakeCallersIn", "(LGuardFlow$Program;LGuardFlow$Body;)V"⟩, 4) := ⟨⟨by decide +kernel, by decide +kernel⟩, List.mem_of_getElem? (i := 42) (by decide +kernel), List.mem_of_getElem? (i := 370) (by decide +kernel), List.mem_of_getElem? (i := 371) (by decide +kernel)⟩
theorem lw_p14 : lw_okq (⟨"GuardFlow$Forger", "lackingIn", "(LGuardFlow$Body;)I"⟩, 2) := ⟨⟨by decide +kernel, by decide +kernel⟩, List.mem_of_getElem? (i := 62) (by decide +kernel), List.mem_of_getElem? (i := 379) (by decide +kernel), List.mem_of_getElem? (i := 380) (by decide +kernel)⟩
theorem lw_p15 : lw_okq (⟨"GuardFlow$Table", "changesSome", "(IJ)Z"⟩, 4) := ⟨⟨by decide +kernel, by decide +kernel⟩, List.mem_of_getElem? (i := 18) (by decide +kernel), List.mem_of_getElem? (i := 391) (by decide +kernel), List.mem_of_getElem? (i := 392) (by decide +kernel)⟩
def lw_privs_1 : List (MethodName × Nat) := [(⟨"GuardFlow$Table", "isState", "(I)Z"⟩, 4), (⟨"GuardFlow$Table", "waysFrom", "(II)J"⟩, 4), (⟨"GuardFlow", "noteChange", "()V"⟩, 6), (⟨"GuardFlow$Flow", "forgetAll", "(LGuardFlow$Program;)V"⟩, 4), (⟨"GuardFlow$Flow", "growEntry", "(LGuardFlow$Body;J)V"⟩, 4), (⟨"GuardFlow$Flow", "growMay", "(LGuardFlow$Body;IJ)V"⟩, 4), (⟨"GuardFlow$Flow", "waitAt", "(LGuardFlow$Body;I)V"⟩, 4), (⟨"GuardFlow$Flow", "step", "(LGuardFlow$Program;I)V"⟩, 4), (⟨"GuardFlow$Flow", "afterOf", "(LGuardFlow$Body;ILGuardFlow$Body;)J"⟩, 4), (⟨"GuardFlow$Flow", "growSummary", "(LGuardFlow$Body;JJ)V"⟩, 4), (⟨"GuardFlow$Flow", "passOn", "(LGuardFlow$Body;IJ)V"⟩, 4), (⟨"GuardFlow$Flow", "passToHandlers", "(LGuardFlow$Body;IJ)V"⟩, 4), (⟨"GuardFlow$Flow", "wakeCallers", "(LGuardFlow$Program;)V"⟩, 4), (⟨"GuardFlow$Flow", "wakeCallersIn", "(LGuardFlow$Program;LGuardFlow$Body;)V"⟩, 4), (⟨"GuardFlow$Forger", "lackingIn", "(LGuardFlow$Body;)I"⟩, 2), (⟨"GuardFlow$Table", "changesSome", "(IJ)Z"⟩, 4)]
theorem lw_r1 : ∀ q ∈ lw_privs_1, lw_okq q := List.forall_mem_cons.mpr ⟨lw_p0, List.forall_mem_cons.mpr ⟨lw_p1, List.forall_mem_cons.mpr ⟨lw_p2, List.forall_mem_cons.mpr ⟨lw_p3, List.forall_mem_cons.mpr ⟨lw_p4, List.forall_mem_cons.mpr ⟨lw_p5, List.forall_mem_cons.mpr ⟨lw_p6, List.forall_mem_cons.mpr ⟨lw_p7, List.forall_mem_cons.mpr ⟨lw_p8, List.forall_mem_cons.mpr ⟨lw_p9, List.forall_mem_cons.mpr ⟨lw_p10, List.forall_mem_cons.mpr ⟨lw_p11, List.forall_mem_cons.mpr ⟨lw_p12, List.forall_mem_cons.mpr ⟨lw_p13, List.forall_mem_cons.mpr ⟨lw_p14, List.forall_mem_cons.mpr ⟨lw_p15, fun _ h => absurd h List.not_mem_nil⟩⟩⟩⟩⟩⟩⟩⟩⟩⟩⟩⟩⟩⟩⟩⟩
theorem lw_p16 : lw_okq (⟨"GuardFlow$Forger", "copyInstructions", "(LGuardFlow$Body;LGuardFlow$Body;)V"⟩, 2) := ⟨⟨by decide +kernel, by decide +kernel⟩, List.mem_of_getElem? (i := 62) (by decide +kernel), List.mem_of_getElem? (i := 402) (by decide +kernel), List.mem_of_getElem? (i := 403) (by decide +kernel)⟩
theorem lw_p17 : lw_okq (⟨"GuardFlow$Forger", "moveTargets", "(LGuardFlow$Body;)V"⟩, 2) := ⟨⟨by decide +kernel, by decide +kernel⟩, List.mem_of_getElem? (i := 62) (by decide +kernel), List.mem_of_getElem? (i := 407) (by decide +kernel), List.mem_of_getElem? (i := 408) (by decide +kernel)⟩
theorem lw_p18 : lw_okq (⟨"GuardFlow$Forger", "copyHandlers", "(LGuardFlow$Body;LGuardFlow$Body;)V"⟩, 2) := ⟨⟨by decide +kernel, by decide +kernel⟩, List.mem_of_getElem? (i := 62) (by decide +kernel), List.mem_of_getElem? (i := 412) (by decide +kernel), List.mem_of_getElem? (i := 413) (by decide +kernel)⟩
theorem lw_p19 : lw_okq (⟨"GuardFlow", "programOf", "(Z)LGuardFlow$Program;"⟩, 6) := ⟨⟨by decide +kernel, by decide +kernel⟩, List.mem_of_getElem? (i := 10) (by decide +kernel), List.mem_of_getElem? (i := 425) (by decide +kernel), List.mem_of_getElem? (i := 426) (by decide +kernel)⟩
theorem lw_p20 : lw_okq (⟨"GuardFlow", "firstUncertified", "(LGuardFlow$Body;)I"⟩, 6) := ⟨⟨by decide +kernel, by decide +kernel⟩, List.mem_of_getElem? (i := 10) (by decide +kernel), List.mem_of_getElem? (i := 429) (by decide +kernel), List.mem_of_getElem? (i := 430) (by decide +kernel)⟩
theorem lw_p21 : lw_okq (⟨"GuardFlow", "settledBody", "(ZI)LGuardFlow$Body;"⟩, 6) := ⟨⟨by decide +kernel, by decide +kernel⟩, List.mem_of_getElem? (i := 10) (by decide +kernel), List.mem_of_getElem? (i := 439) (by decide +kernel), List.mem_of_getElem? (i := 440) (by decide +kernel)⟩
theorem lw_p22 : lw_okq (⟨"GuardFlowModel", "change", "()V"⟩, 20) := ⟨⟨by decide +kernel, by decide +kernel⟩, List.mem_of_getElem? (i := 491) (by decide +kernel), List.mem_of_getElem? (i := 563) (by decide +kernel), List.mem_of_getElem? (i := 564) (by decide +kernel)⟩
theorem lw_p23 : lw_okq (⟨"GuardFlowModel", "canWay", "(III)Z"⟩, 20) := ⟨⟨by decide +kernel, by decide +kernel⟩, List.mem_of_getElem? (i := 491) (by decide +kernel), List.mem_of_getElem? (i := 571) (by decide +kernel), List.mem_of_getElem? (i := 572) (by decide +kernel)⟩
theorem lw_p24 : lw_okq (⟨"GuardFlowModel", "isState", "(I)Z"⟩, 20) := ⟨⟨by decide +kernel, by decide +kernel⟩, List.mem_of_getElem? (i := 491) (by decide +kernel), List.mem_of_getElem? (i := 575) (by decide +kernel), List.mem_of_getElem? (i := 576) (by decide +kernel)⟩
theorem lw_p25 : lw_okq (⟨"GuardFlowModel", "isThere", "(III)Z"⟩, 20) := ⟨⟨by decide +kernel, by decide +kernel⟩, List.mem_of_getElem? (i := 491) (by decide +kernel), List.mem_of_getElem? (i := 598) (by decide +kernel), List.mem_of_getElem? (i := 599) (by decide +kernel)⟩
theorem lw_p26 : lw_okq (⟨"GuardFlowModel", "below", "(II)I"⟩, 20) := ⟨⟨by decide +kernel, by decide +kernel⟩, List.mem_of_getElem? (i := 491) (by decide +kernel), List.mem_of_getElem? (i := 602) (by decide +kernel), List.mem_of_getElem? (i := 603) (by decide +kernel)⟩
theorem lw_p27 : lw_okq (⟨"GuardFlowModel", "lacking", "(I)I"⟩, 20) := ⟨⟨by decide +kernel, by decide +kernel⟩, List.mem_of_getElem? (i := 491) (by decide +kernel), List.mem_of_getElem? (i := 614) (by decide +kernel), List.mem_of_getElem? (i := 615) (by decide +kernel)⟩
theorem lw_p28 : lw_okq (⟨"GuardFlowModel", "lacks", "(III)Z"⟩, 20) := ⟨⟨by decide +kernel, by decide +kernel⟩, List.mem_of_getElem? (i := 491) (by decide +kernel), List.mem_of_getElem? (i := 618) (by decide +kernel), List.mem_of_getElem? (i := 619) (by decide +kernel)⟩
theorem lw_p29 : lw_okq (⟨"GuardFlowModel", "needs", "(III)Z"⟩, 20) := ⟨⟨by decide +kernel, by decide +kernel⟩, List.mem_of_getElem? (i := 491) (by decide +kernel), List.mem_of_getElem? (i := 622) (by decide +kernel), List.mem_of_getElem? (i := 623) (by decide +kernel)⟩
theorem lw_p30 : lw_okq (⟨"GuardFlowModel", "find", "(I)V"⟩, 20) := ⟨⟨by decide +kernel, by decide +kernel⟩, List.mem_of_getElem? (i := 491) (by decide +kernel), List.mem_of_getElem? (i := 626) (by decide +kernel), List.mem_of_getElem? (i := 627) (by decide +kernel)⟩
theorem lw_p31 : lw_okq (⟨"GuardFlowModel", "join", "([JIJ)V"⟩, 20) := ⟨⟨by decide +kernel, by decide +kernel⟩, List.mem_of_getElem? (i := 491) (by decide +kernel), List.mem_of_getElem? (i := 630) (by decide +kernel), List.mem_of_getElem? (i := 631) (by decide +kernel)⟩
def lw_privs_2 : List (MethodName × Nat) := [(⟨"GuardFlow$Forger", "copyInstructions", "(LGuardFlow$Body;LGuardFlow$Body;)V"⟩, 2), (⟨"GuardFlow$Forger", "moveTargets", "(LGuardFlow$Body;)V"⟩, 2), (⟨"GuardFlow$Forger", "copyHandlers", "(LGuardFlow$Body;LGuardFlow$Body;)V"⟩, 2), (⟨"GuardFlow", "programOf", "(Z)LGuardFlow$Program;"⟩, 6), (⟨"GuardFlow", "firstUncertified", "(LGuardFlow$Body;)I"⟩, 6), (⟨"GuardFlow", "settledBody", "(ZI)LGuardFlow$Body;"⟩, 6), (⟨"GuardFlowModel", "change", "()V"⟩, 20), (⟨"GuardFlowModel", "canWay", "(III)Z"⟩, 20), (⟨"GuardFlowModel", "isState", "(I)Z"⟩, 20), (⟨"GuardFlowModel", "isThere", "(III)Z"⟩, 20), (⟨"GuardFlowModel", "below", "(II)I"⟩, 20), (⟨"GuardFlowModel", "lacking", "(I)I"⟩, 20), (⟨"GuardFlowModel", "lacks", "(III)Z"⟩, 20), (⟨"GuardFlowModel", "needs", "(III)Z"⟩, 20), (⟨"GuardFlowModel", "find", "(I)V"⟩, 20), (⟨"GuardFlowModel", "join", "([JIJ)V"⟩, 20)]
theorem lw_r2 : ∀ q ∈ lw_privs_2, lw_okq q := List.forall_mem_cons.mpr ⟨lw_p16, List.forall_mem_cons.mpr ⟨lw_p17, List.forall_mem_cons.mpr ⟨lw_p18, List.forall_mem_cons.mpr ⟨lw_p19, List.forall_mem_cons.mpr ⟨lw_p20, List.forall_mem_cons.mpr ⟨lw_p21, List.forall_mem_cons.mpr ⟨lw_p22, List.forall_mem_cons.mpr ⟨lw_p23, List.forall_mem_cons.mpr ⟨lw_p24, List.forall_mem_cons.mpr ⟨lw_p25, List.forall_mem_cons.mpr ⟨lw_p26, List.forall_mem_cons.mpr ⟨lw_p27, List.forall_mem_cons.mpr ⟨lw_p28, List.forall_mem_cons.mpr ⟨lw_p29, List.forall_mem_cons.mpr ⟨lw_p30, List.forall_mem_cons.mpr ⟨lw_p31, fun _ h => absurd h List.not_mem_nil⟩⟩⟩⟩⟩⟩⟩⟩⟩⟩⟩⟩⟩⟩⟩⟩
theorem lw_p32 : lw_okq (⟨"GuardFlowModel", "goOn", "(III)V"⟩, 20) := ⟨⟨by decide +kernel, by decide +kernel⟩, List.mem_of_getElem? (i := 491) (by decide +kernel), List.mem_of_getElem? (i := 634) (by decide +kernel), List.mem_of_getElem? (i := 635) (by decide +kernel)⟩
theorem lw_p33 : lw_okq (⟨"GuardFlowModel", "isGuarded", "(III)Z"⟩, 20) := ⟨⟨by decide +kernel, by decide +kernel⟩, List.mem_of_getElem? (i := 491) (by decide +kernel), List.mem_of_getElem? (i := 638) (by decide +kernel), List.mem_of_getElem? (i := 639) (by decide +kernel)⟩
theorem lw_p34 : lw_okq (⟨"GuardFlowModel", "isGoal", "(III)Z"⟩, 20) := ⟨⟨by decide +kernel, by decide +kernel⟩, List.mem_of_getElem? (i := 491) (by decide +kernel), List.mem_of_getElem? (i := 642) (by decide +kernel), List.mem_of_getElem? (i := 643) (by decide +kernel)⟩
theorem lw_p35 : lw_okq (⟨"GuardFlowModel", "led", "(JI)J"⟩, 20) := ⟨⟨by decide +kernel, by decide +kernel⟩, List.mem_of_getElem? (i := 491) (by decide +kernel), List.mem_of_getElem? (i := 646) (by decide +kernel), List.mem_of_getElem? (i := 647) (by decide +kernel)⟩
theorem lw_p36 : lw_okq (⟨"GuardFlowModel", "weave", "(I)V"⟩, 20) := ⟨⟨by decide +kernel, by decide +kernel⟩, List.mem_of_getElem? (i := 491) (by decide +kernel), List.mem_of_getElem? (i := 650) (by decide +kernel), List.mem_of_getElem? (i := 651) (by decide +kernel)⟩
theorem lw_p37 : lw_okq (⟨"GuardFlowModel", "which", "(ZII)I"⟩, 20) := ⟨⟨by decide +kernel, by decide +kernel⟩, List.mem_of_getElem? (i := 491) (by decide +kernel), List.mem_of_getElem? (i := 666) (by decide +kernel), List.mem_of_getElem? (i := 667) (by decide +kernel)⟩
theorem lw_p38 : lw_okq (⟨"GuardFlowModel", "bits", "(J)I"⟩, 20) := ⟨⟨by decide +kernel, by decide +kernel⟩, List.mem_of_getElem? (i := 491) (by decide +kernel), List.mem_of_getElem? (i := 670) (by decide +kernel), List.mem_of_getElem? (i := 671) (by decide +kernel)⟩
theorem lw_p39 : lw_okq (⟨"GuardFlowModel", "countOf", "(III)I"⟩, 20) := ⟨⟨by decide +kernel, by decide +kernel⟩, List.mem_of_getElem? (i := 491) (by decide +kernel), List.mem_of_getElem? (i := 686) (by decide +kernel), List.mem_of_getElem? (i := 687) (by decide +kernel)⟩
theorem lw_p40 : lw_okq (⟨"GuardFlowModel", "comeTo", "(II)I"⟩, 20) := ⟨⟨by decide +kernel, by decide +kernel⟩, List.mem_of_getElem? (i := 491) (by decide +kernel), List.mem_of_getElem? (i := 690) (by decide +kernel), List.mem_of_getElem? (i := 691) (by decide +kernel)⟩
theorem lw_p41 : lw_okq (⟨"GuardFlowModel", "wayMany", "()I"⟩, 20) := ⟨⟨by decide +kernel, by decide +kernel⟩, List.mem_of_getElem? (i := 491) (by decide +kernel), List.mem_of_getElem? (i := 702) (by decide +kernel), List.mem_of_getElem? (i := 703) (by decide +kernel)⟩
theorem lw_p42 : lw_okq (⟨"GuardFlowModel", "instructions", "(I)I"⟩, 20) := ⟨⟨by decide +kernel, by decide +kernel⟩, List.mem_of_getElem? (i := 491) (by decide +kernel), List.mem_of_getElem? (i := 706) (by decide +kernel), List.mem_of_getElem? (i := 707) (by decide +kernel)⟩
theorem lw_p43 : lw_okq (⟨"GuardFlowModel", "neededMany", "()I"⟩, 20) := ⟨⟨by decide +kernel, by decide +kernel⟩, List.mem_of_getElem? (i := 491) (by decide +kernel), List.mem_of_getElem? (i := 710) (by decide +kernel), List.mem_of_getElem? (i := 711) (by decide +kernel)⟩
def lw_privs_3 : List (MethodName × Nat) := [(⟨"GuardFlowModel", "goOn", "(III)V"⟩, 20), (⟨"GuardFlowModel", "isGuarded", "(III)Z"⟩, 20), (⟨"GuardFlowModel", "isGoal", "(III)Z"⟩, 20), (⟨"GuardFlowModel", "led", "(JI)J"⟩, 20), (⟨"GuardFlowModel", "weave", "(I)V"⟩, 20), (⟨"GuardFlowModel", "which", "(ZII)I"⟩, 20), (⟨"GuardFlowModel", "bits", "(J)I"⟩, 20), (⟨"GuardFlowModel", "countOf", "(III)I"⟩, 20), (⟨"GuardFlowModel", "comeTo", "(II)I"⟩, 20), (⟨"GuardFlowModel", "wayMany", "()I"⟩, 20), (⟨"GuardFlowModel", "instructions", "(I)I"⟩, 20), (⟨"GuardFlowModel", "neededMany", "()I"⟩, 20)]
theorem lw_r3 : ∀ q ∈ lw_privs_3, lw_okq q := List.forall_mem_cons.mpr ⟨lw_p32, List.forall_mem_cons.mpr ⟨lw_p33, List.forall_mem_cons.mpr ⟨lw_p34, List.forall_mem_cons.mpr ⟨lw_p35, List.forall_mem_cons.mpr ⟨lw_p36, List.forall_mem_cons.mpr ⟨lw_p37, List.forall_mem_cons.mpr ⟨lw_p38, List.forall_mem_cons.mpr ⟨lw_p39, List.forall_mem_cons.mpr ⟨lw_p40, List.forall_mem_cons.mpr ⟨lw_p41, List.forall_mem_cons.mpr ⟨lw_p42, List.forall_mem_cons.mpr ⟨lw_p43, fun _ h => absurd h List.not_mem_nil⟩⟩⟩⟩⟩⟩⟩⟩⟩⟩⟩⟩
def lw_privs : List (MethodName × Nat) := lw_privs_1 ++ (lw_privs_2 ++ (lw_privs_3))
def lw_tbl : List Cond := k2_sels lw_privs ++ tables_1
theorem lw_privs_ok : ∀ q ∈ lw_privs, lw_okq q := by
  show ∀ q ∈ lw_privs_1 ++ (lw_privs_2 ++ (lw_privs_3)), lw_okq q
  exact List.forall_mem_append.mpr ⟨lw_r1, List.forall_mem_append.mpr ⟨lw_r2, lw_r3⟩⟩
end
section
/-! BASE: values of three kinds, locals by place, the world as a function of addresses -/
abbrev gx_V : Type := Int32 ⊕ (Int64 ⊕ Option Nat)
abbrev gx_i (x : Int32) : gx_V := Sum.inl x
abbrev gx_l (x : Int64) : gx_V := Sum.inr (Sum.inl x)
abbrev gx_r (o : Option Nat) : gx_V := Sum.inr (Sum.inr o)
def gx_t (v : gx_V) : Value := match v with
  | .inl x => .int x
  | .inr (.inl x) => .long x
  | .inr (.inr o) => va_rf o
def gx_2 (v : gx_V) : Bool := match v with
  | .inr (.inl _) => true
  | _ => false
theorem gx_cat (v : gx_V) : (gx_t v).category = if gx_2 v = true then 2 else 1 := by
  rcases v with x | x | o
  · rfl
  · rfl
  · cases o <;> rfl
/-- locals by place -/
def gx_L (ls : Array Slot) (nL : Nat) (lv : List (Option gx_V)) : Prop := ls.size = nL ∧ lv_wf ls ∧ ∀ (i : Nat) (v : gx_V), lv[i]? = some (some v) → ls[i]? = some (.val (gx_t v))
def gx_as (lv : List (Option gx_V)) : List (Nat × Value) := (List.range lv.length).filterMap (fun i => match lv[i]? with
  | some (some v) => some (i, gx_t v)
  | _ => none)
theorem gx_as_mem {lv : List (Option gx_V)} {i : Nat} {v : gx_V} (h : lv[i]? = some (some v)) : (i, gx_t v) ∈ gx_as lv := by
  refine List.mem_filterMap.mpr ⟨i, List.mem_range.mpr (List.getElem?_eq_some_iff.mp h).1, ?_⟩
  simp [h]
theorem gx_as_has {ls : Array Slot} {nL : Nat} {lv : List (Option gx_V)} (h : gx_L ls nL lv) : lv_has ls nL (gx_as lv) := by
  refine ⟨h.1, h.2.1, fun q hq => ?_⟩
  obtain ⟨i, -, hi⟩ := List.mem_filterMap.mp hq
  cases hv : lv[i]? with
  | none => rw [hv] at hi; cases hi
  | some o =>
    cases o with
    | none => rw [hv] at hi; cases hi
    | some v =>
      rw [hv] at hi
      cases hi
      exact h.2.2 i v hv
def gx_s1 : List (Option gx_V) → Nat → gx_V → List (Option gx_V)
  | [], _, _ => []
  | _ :: t, 0, v => some v :: t
  | a :: t, 1, v => (match a with
      | some (.inr (.inl _)) => none
      | _ => a) :: gx_s1 t 0 v
  | a :: t, n + 2, v => a :: gx_s1 t (n + 1) v
def gx_z : List (Option gx_V) → List (Option gx_V)
  | [] => []
  | _ :: t => none :: t
def gx_s2 : List (Option gx_V) → Nat → gx_V → List (Option gx_V)
  | [], _, _ => []
  | _ :: t, 0, v => some v :: gx_z t
  | a :: t, 1, v => (match a with
      | some (.inr (.inl _)) => none
      | _ => a) :: gx_s2 t 0 v
  | a :: t, n + 2, v => a :: gx_s2 t (n + 1) v
theorem gx_s1_at : ∀ (lv : List (Option gx_V)) (i : Nat) (v : gx_V) (j : Nat) (w : gx_V), (gx_s1 lv i v)[j]? = some (some w) → (j = i ∧ w = v) ∨ (j ≠ i ∧ lv[j]? = some (some w) ∧ ¬ (j + 1 = i ∧ gx_2 w = true))
  | [], _, _, j, w, h => by simp [gx_s1] at h
  | a :: t, 0, v, 0, w, h => by
    simp [gx_s1] at h
    exact Or.inl ⟨rfl, h.symm⟩
  | a :: t, 0, v, j + 1, w, h => by
    simp [gx_s1] at h
    exact Or.inr ⟨by omega, by simpa using h, by omega⟩
  | a :: t, 1, v, 0, w, h => by
    refine Or.inr ⟨by omega, ?_, ?_⟩
    · rcases a with _ | x | x | o <;> simp [gx_s1] at h ⊢ <;> exact h
    · rcases a with _ | x | x | o <;> simp [gx_s1] at h <;> subst h <;> simp [gx_2]
  | a :: t, 1, v, j + 1, w, h => by
    have h' : (gx_s1 t 0 v)[j]? = some (some w) := by simpa [gx_s1] using h
    rcases gx_s1_at t 0 v j w h' with ⟨h1, h2⟩ | ⟨h1, h2, h3⟩
    · exact Or.inl ⟨by omega, h2⟩
    · exact Or.inr ⟨by omega, by simpa using h2, by omega⟩
  | a :: t, n + 2, v, 0, w, h => by
    simp [gx_s1] at h
    exact Or.inr ⟨by omega, by simpa using h, by omega⟩
  | a :: t, n + 2, v, j + 1, w, h => by
    have h' : (gx_s1 t (n + 1) v)[j]? = some (some w) := by simpa [gx_s1] using h
    rcases gx_s1_at t (n + 1) v j w h' with ⟨h1, h2⟩ | ⟨h1, h2, h3⟩
    · exact Or.inl ⟨by omega, h2⟩
    · exact Or.inr ⟨by omega, by simpa using h2, fun q => h3 ⟨by omega, q.2⟩⟩
theorem gx_s2_at : ∀ (lv : List (Option gx_V)) (i : Nat) (v : gx_V) (j : Nat) (w : gx_V), (gx_s2 lv i v)[j]? = some (some w) → (j = i ∧ w = v) ∨ (j ≠ i ∧ j ≠ i + 1 ∧ lv[j]? = some (some w) ∧ ¬ (j + 1 = i ∧ gx_2 w = true))
  | [], _, _, j, w, h => by simp [gx_s2] at h
  | a :: t, 0, v, 0, w, h => by
    simp [gx_s2] at h
    exact Or.inl ⟨rfl, h.symm⟩
  | a :: t, 0, v, j + 1, w, h => by
    have h' : (gx_z t)[j]? = some (some w) := by simpa [gx_s2] using h
    cases t with
    | nil => simp [gx_z] at h'
    | cons b t =>
      cases j with
      | zero => simp [gx_z] at h'
      | succ j =>
        have h2 : t[j]? = some (some w) := by simpa [gx_z] using h'
        exact Or.inr ⟨by omega, by omega, by simpa using h2, by omega⟩
  | a :: t, 1, v, 0, w, h => by
    refine Or.inr ⟨by omega, by omega, ?_, ?_⟩
    · rcases a with _ | x | x | o <;> simp [gx_s2] at h ⊢ <;> exact h
    · rcases a with _ | x | x | o <;> simp [gx_s2] at h <;> subst h <;> simp [gx_2]
  | a :: t, 1, v, j + 1, w, h => by
    have h' : (gx_s2 t 0 v)[j]? = some (some w) := by simpa [gx_s2] using h
    rcases gx_s2_at t 0 v j w h' with ⟨h1, h2⟩ | ⟨h1, h2, h3, h4⟩
    · exact Or.inl ⟨by omega, h2⟩
    · exact Or.inr ⟨by omega, by omega, by simpa using h3, by omega⟩
  | a :: t, n + 2, v, 0, w, h => by
    simp [gx_s2] at h
    exact Or.inr ⟨by omega, by omega, by simpa using h, by omega⟩
  | a :: t, n + 2, v, j + 1, w, h => by
    have h' : (gx_s2 t (n + 1) v)[j]? = some (some w) := by simpa [gx_s2] using h
    rcases gx_s2_at t (n + 1) v j w h' with ⟨h1, h2⟩ | ⟨h1, h2, h3, h4⟩
    · exact Or.inl ⟨by omega, h2⟩
    · exact Or.inr ⟨by omega, by omega, by simpa using h3, fun q => h4 ⟨by omega, q.2⟩⟩
theorem gx_s1_L {ls ls' : Array Slot} {nL i : Nat} {lv : List (Option gx_V)} {v : gx_V} (hl : lv_has ls' nL ((i, gx_t v) :: (gx_as lv).filter (fun q => !(q.1 == i) && !(q.1 + 1 == i && q.2.category == 2)))) : gx_L ls' nL (gx_s1 lv i v) := by
  refine ⟨hl.1, hl.2.1, fun j w h => ?_⟩
  rcases gx_s1_at lv i v j w h with ⟨rfl, rfl⟩ | ⟨h1, h2, h3⟩
  · exact hl.2.2 (_, _) List.mem_cons_self
  · refine hl.2.2 (j, gx_t w) (List.mem_cons_of_mem _ (List.mem_filter.mpr ⟨gx_as_mem h2, ?_⟩))
    have e1 : (j == i) = false := by simpa using h1
    by_cases e2 : j + 1 = i
    · have e3 : gx_2 w = false := by
        cases hw : gx_2 w with
        | false => rfl
        | true => exact absurd ⟨e2, hw⟩ h3
      simp [e1, gx_cat, e3]
    · simp [e1, e2]
theorem gx_s2_L {ls ls' : Array Slot} {nL i : Nat} {lv : List (Option gx_V)} {v : gx_V} (hl : lv_has ls' nL ((i, gx_t v) :: (gx_as lv).filter (fun q => !(q.1 == i) && (!(q.1 == i + 1) && !(q.1 + 1 == i && q.2.category == 2))))) : gx_L ls' nL (gx_s2 lv i v) := by
  refine ⟨hl.1, hl.2.1, fun j w h => ?_⟩
  rcases gx_s2_at lv i v j w h with ⟨rfl, rfl⟩ | ⟨h1, h1b, h2, h3⟩
  · exact hl.2.2 (_, _) List.mem_cons_self
  · refine hl.2.2 (j, gx_t w) (List.mem_cons_of_mem _ (List.mem_filter.mpr ⟨gx_as_mem h2, ?_⟩))
    have e1 : (j == i) = false := by simpa using h1
    have e1b : (j == i + 1) = false := by simpa using h1b
    by_cases e2 : j + 1 = i
    · have e3 : gx_2 w = false := by
        cases hw : gx_2 w with
        | false => rfl
        | true => exact absurd ⟨e2, hw⟩ h3
      simp [e1, e1b, gx_cat, e3]
    · simp [e1, e1b, e2]
/-- fewer locals -/
def gx_mk : List Bool → List (Option gx_V) → List (Option gx_V)
  | b :: bs, a :: t => (match b with
      | true => a
      | false => none) :: gx_mk bs t
  | _, _ => []
theorem gx_mk_at : ∀ (bs : List Bool) (lv : List (Option gx_V)) (j : Nat) (w : gx_V), (gx_mk bs lv)[j]? = some (some w) → lv[j]? = some (some w)
  | [], _, j, w, h => by simp [gx_mk] at h
  | b :: bs, [], j, w, h => by simp [gx_mk] at h
  | b :: bs, a :: t, 0, w, h => by
    cases b <;> simp [gx_mk] at h ⊢
    exact h
  | b :: bs, a :: t, j + 1, w, h => by
    have h' : (gx_mk bs t)[j]? = some (some w) := by simpa [gx_mk] using h
    simpa using gx_mk_at bs t j w h'
/-- the locals at a method's entry -/
def gx_en : List gx_V → List (Option gx_V)
  | [] => []
  | .inl x :: t => some (.inl x) :: gx_en t
  | .inr (.inl x) :: t => some (.inr (.inl x)) :: none :: gx_en t
  | .inr (.inr o) :: t => some (.inr (.inr o)) :: gx_en t
theorem gx_en_at : ∀ (vs : List gx_V) (k i : Nat) (v : gx_V), (gx_en vs)[i]? = some (some v) → (k + i, gx_t v) ∈ lv_args k (vs.map gx_t)
  | [], k, i, v, h => by simp [gx_en] at h
  | .inl x :: t, k, 0, v, h => by
    simp [gx_en] at h
    subst h
    exact List.mem_cons_self
  | .inl x :: t, k, i + 1, v, h => by
    have h' : (gx_en t)[i]? = some (some v) := by simpa [gx_en] using h
    have := gx_en_at t (k + 1) i v h'
    rw [show k + (i + 1) = k + 1 + i by omega]
    exact List.mem_cons_of_mem _ this
  | .inr (.inl x) :: t, k, 0, v, h => by
    simp [gx_en] at h
    subst h
    exact List.mem_cons_self
  | .inr (.inl x) :: t, k, 1, v, h => by simp [gx_en] at h
  | .inr (.inl x) :: t, k, i + 2, v, h => by
    have h' : (gx_en t)[i]? = some (some v) := by simpa [gx_en] using h
    have := gx_en_at t (k + 2) i v h'
    rw [show k + (i + 2) = k + 2 + i by omega]
    exact List.mem_cons_of_mem _ this
  | .inr (.inr o) :: t, k, 0, v, h => by
    simp [gx_en] at h
    subst h
    exact List.mem_cons_self
  | .inr (.inr o) :: t, k, i + 1, v, h => by
    have h' : (gx_en t)[i]? = some (some v) := by simpa [gx_en] using h
    have := gx_en_at t (k + 1) i v h'
    rw [show k + (i + 1) = k + 1 + i by omega]
    refine List.mem_cons_of_mem _ ?_
    have e : (if (gx_t (.inr (.inr o))).category = 2 then k + 2 else k + 1) = k + 1 := by rw [gx_cat]; rfl
    rw [e]
    exact this
/-- unset places behind -/
def gx_pad (n : Nat) (lv : List (Option gx_V)) : List (Option gx_V) := lv ++ List.replicate (n - lv.length) none
theorem gx_pad_at {n : Nat} {lv : List (Option gx_V)} {i : Nat} {v : gx_V} (h : (gx_pad n lv)[i]? = some (some v)) : lv[i]? = some (some v) := by
  unfold gx_pad at h
  by_cases hl : i < lv.length
  · rw [List.getElem?_append_left hl] at h
    exact h
  · rw [List.getElem?_append_right (by omega)] at h
    rw [List.getElem?_replicate] at h
    split at h <;> cases h
/-- the world: cells by address, and the next address -/
abbrev gx_E : Type := (Nat × vp_A) ⊕ (Nat × List Value)
abbrev gx_H : Type := (Nat → Option gx_E) × Nat
/-- the tables' numbers: classes and slots, array classes, the first address that is ours -/
abbrev gx_D : Type := va_G × (Nat → ClassId) × Nat
def gx_e (D : gx_D) (e : gx_E) : va_E := match e with
  | .inl a => .inl (D.2.1 a.1, a.2)
  | .inr o => .inr o
def gx_R (D : gx_D) (cl : List vw_C) (X : gx_H) (H : Heap) : Prop := H.size = X.2 ∧ D.2.2 ≤ X.2 ∧ ∀ (a : Nat) (e : gx_E), X.1 a = some e → D.2.2 ≤ a ∧ va_at D.1 cl (a, gx_e D e) H
def gx_up (f : Nat → Option gx_E) (a : Nat) (e : gx_E) : Nat → Option gx_E := fun q => if q = a then some e else f q
def gx_nest (w : Cond) : Bool := match w with
  | .fieldLinkNest .. => true
  | .methodLinkNest .. => true
  | .arrayOver (.object _) => true
  | _ => false
def gx_K (D : gx_D) (cl : List vw_C) (aty : List FieldType) (tb nb : List Cond) (U : State) : Prop :=
  (∀ (c : Nat) (q : vw_C), cl[c]? = some q → u_Kn U q.1 q.2.1 q.2.2 (D.1.1 c) (D.1.2 c)) ∧ (∀ (t : Nat) (ty : FieldType), aty[t]? = some ty → ArrOfT U (D.2.1 t) ty ∧ va_RA U (D.2.1 t) ty) ∧ (∀ w ∈ tb, ∀ a : Array Value, w.before a U = true) ∧ (∀ w ∈ nb, va_Nw w U) ∧ (∀ w ∈ tb, goodWord w = true) ∧ ∀ w ∈ nb, gx_nest w = true
theorem gx_K.moved {D : gx_D} {cl : List vw_C} {aty : List FieldType} {tb nb : List Cond} {s U : State} (h : gx_K D cl aty tb nb s) (hW : s.WarmedH U.vm) : gx_K D cl aty tb nb U := by
  obtain ⟨h1, h2, h3, h4, h5, h6⟩ := h
  refine ⟨fun c q hq => u_Kn_moved hW.alike (h1 c q hq), fun t ty ht => ⟨arrOfT_moved hW.alike (h2 t ty ht).1, (h2 t ty ht).2.moved hW.alike⟩, fun w hw a => word_at hW (good_of_word (h5 w hw)) (h3 w hw #[]), fun w hw => ?_, h5, h6⟩
  have g := h6 w hw
  have z := h4 w hw
  cases w with
  | fieldLinkNest => exact va_Nw.warmF hW z
  | methodLinkNest => exact va_Nw.warmM hW z
  | arrayOver ty =>
    cases ty with
    | object C => exact va_AO.moved (C := C) hW.alike z
    | _ => simp [gx_nest] at g
  | _ => simp [gx_nest] at g
theorem gx_K.same {D : gx_D} {cl : List vw_C} {aty : List FieldType} {tb nb : List Cond} {s U : State} (h : gx_K D cl aty tb nb s) (hv : s.vm = U.vm) : gx_K D cl aty tb nb U := h.moved (by rw [← hv]; exact State.WarmedH.refl s)
/-- va_K out of it, for the kit's rows: one array class -/
theorem gx_K.va {D : gx_D} {cl : List vw_C} {aty : List FieldType} {tb nb : List Cond} {s : State} (h : gx_K D cl aty tb nb s) : va_K D.1 cl [] s := ⟨h.1, fun k q hk => by simp at hk⟩
theorem gx_K.va1 {D : gx_D} {cl : List vw_C} {aty : List FieldType} {tb nb : List Cond} {s : State} (h : gx_K D cl aty tb nb s) {t : Nat} {ty : FieldType} (ht : aty[t]? = some ty) : va_K D.1 cl [(D.2.1 t, ty)] s := ⟨h.1, fun k q hk => by
  have hz : k < 1 := (List.getElem?_eq_some_iff.mp hk).1
  rw [show k = 0 by omega] at hk
  cases hk
  exact h.2.1 t ty ht⟩
theorem gx_R.one {D : gx_D} {cl : List vw_C} {X : gx_H} {H : Heap} (h : gx_R D cl X H) {a : Nat} {e : gx_E} (ha : X.1 a = some e) : va_P D.1 cl [(a, gx_e D e)] H := fun k q hk => by
  have hz : k < 1 := (List.getElem?_eq_some_iff.mp hk).1
  rw [show k = 0 by omega] at hk
  cases hk
  exact (h.2.2 a e ha).2
/-- a cell is overwritten -/
theorem gx_R.put {D : gx_D} {cl : List vw_C} {X : gx_H} {H H1 : Heap} (h : gx_R D cl X H) {a : Nat} {e0 e : gx_E} (ha : X.1 a = some e0) (z : H1.size = H.size) (oq : ∀ q : Nat, q ≠ a → H1[q]? = H[q]?) (he : va_at D.1 cl (a, gx_e D e) H1) : gx_R D cl (gx_up X.1 a e, X.2) H1 := by
  refine ⟨z.trans h.1, h.2.1, fun q x hx => ?_⟩
  unfold gx_up at hx
  by_cases hq : q = a
  · subst hq
    simp at hx
    subst hx
    exact ⟨(h.2.2 _ _ ha).1, he⟩
  · simp [hq] at hx
    exact ⟨(h.2.2 q x hx).1, (h.2.2 q x hx).2.kept (oq q hq)⟩
/-- a cell comes -/
theorem gx_R.push {D : gx_D} {cl : List vw_C} {X : gx_H} {H H1 : Heap} (h : gx_R D cl X H) {e : gx_E} (z : H1.size = H.size + 1) (oq : ∀ q : Nat, q < H.size → H1[q]? = H[q]?) (he : va_at D.1 cl (X.2, gx_e D e) H1) : gx_R D cl (gx_up X.1 X.2 e, X.2 + 1) H1 := by
  refine ⟨by rw [z, h.1], Nat.le_succ_of_le h.2.1, fun q x hx => ?_⟩
  unfold gx_up at hx
  by_cases hq : q = X.2
  · subst hq
    simp at hx
    subst hx
    exact ⟨h.2.1, he⟩
  · simp [hq] at hx
    exact ⟨(h.2.2 q x hx).1, (h.2.2 q x hx).2.kept (oq q (h.2.2 q x hx).2.lt)⟩
end
section
/-! ROWS: the judgement gx_W (world, pc, locals, stack) and an instruction a row -/
def gx_C (D : gx_D) (cl : List vw_C) (aty : List FieldType) (tb nb : List Cond) (p : Program) (s : State) (m : MethodId) (meth : Method) (c : Code) (cc : ByteArray) (nL : Nat) (own : String) (ret : Option FieldType) : Prop :=
  p.tables.exec = Jvm.exec ∧ c.code = cc ∧ c.maxLocals = nL ∧ s.vm.findClass own = some m.cls ∧ meth.sig.returnType = ret ∧ meth.locks = false ∧ gx_K D cl aty tb nb s
abbrev gx_Z (D : gx_D) : Nat → Prop := fun q => D.2.2 ≤ q
def gx_W (D : gx_D) (cl : List vw_C) (nL : Nat) (p : Program) (l : Launch) (e : Env) (R : Room) (s : State) (m : MethodId) (args : Array Value) (below : List Frame) (meth : Method) (c : Code) (cells slots : Nat) (Q : State → Prop) (X : gx_H) (pc : Nat) (lv : List (Option gx_V)) (st : List gx_V) : Prop :=
  ∀ (H : Heap) (locs : List Loc) (ls : Array Slot), gx_R D cl X H → va_S (gx_Z D) s.heap H locs → gx_L ls nL lv → W p l e R s m args below meth c H locs cells slots Q (F0 m pc ls (st.map gx_t))
def gx_Q (D : gx_D) (cl : List vw_C) (r : Option gx_V) (X : gx_H) : Array Value → State → Outcome → State → Prop := fun _ st o t => o = .returned (r.map gx_t) ∧ gx_R D cl X t.heap ∧ va_F (gx_Z D) st t
abbrev gx_rm (fr lo c s : Nat) : Room := { frames := fr, cells := c, slots := s, locals := lo }
def gx_Pc (D : gx_D) (cl : List vw_C) (aty : List FieldType) (tb nb : List Cond) (av : List gx_V) (X : gx_H) : Array Value → State → Prop := va_Pc (av.map gx_t) (fun U => gx_R D cl X U.heap ∧ gx_K D cl aty tb nb U)
/-- a method's contract: from the world X, with these arguments, it answers r, the world is X', and it makes nc cells of ns slots -/
def gx_M (D : gx_D) (cl : List vw_C) (aty : List FieldType) (tb nb : List Cond) (l : Launch) (y : MethodName) (bytes : ByteArray) (maxL : Nat) (ret : Option FieldType) (fr lo : Nat) (av : List gx_V) (X : gx_H) (r : Option gx_V) (X' : gx_H) (nc ns : Nat) : Prop :=
  Met l y [.code y bytes maxL ret] (gx_rm fr lo nc ns) (gx_Pc D cl aty tb nb av X) (gx_Q D cl r X') nc ns (gx_Z D)
theorem gx_bd {α β : Type} {o : Option α} {k : α → Option β} {y : β} (h : o.bind k = some y) : ∃ a, o = some a ∧ k a = some y := by
  cases o with
  | none => cases h
  | some a => exact ⟨a, rfl, h⟩
def gx_b2 {α β γ : Type} (o : Option (α × β)) (k : α → β → Option γ) : Option γ := match o with
  | some z => k z.1 z.2
  | none => none
theorem gx_bd2 {α β γ : Type} {o : Option (α × β)} {k : α → β → Option γ} {y : γ} (h : gx_b2 o k = some y) : ∃ a b, o = some (a, b) ∧ k a b = some y := by
  cases o with
  | none => cases h
  | some z => exact ⟨z.1, z.2, rfl, h⟩
def gx_b4 {α β γ : Type} (o : Option (α × β × Nat × Nat)) (k : α → β → Nat → Nat → Option γ) : Option γ := match o with
  | some z => k z.1 z.2.1 z.2.2.1 z.2.2.2
  | none => none
theorem gx_bd4 {α β γ : Type} {o : Option (α × β × Nat × Nat)} {k : α → β → Nat → Nat → Option γ} {y : γ} (h : gx_b4 o k = some y) : ∃ a b c d, o = some (a, b, c, d) ∧ k a b c d = some y := by
  cases o with
  | none => cases h
  | some z => exact ⟨z.1, z.2.1, z.2.2.1, z.2.2.2, rfl, h⟩
/-- the rest's cells and slots on top of these -/
def gx_ad {α β : Type} (c s : Nat) (o : Option (α × β × Nat × Nat)) : Option (α × β × Nat × Nat) := match o with
  | some z => some (z.1, z.2.1, c + z.2.2.1, s + z.2.2.2)
  | none => none
theorem gx_add {α β : Type} {c s : Nat} {o : Option (α × β × Nat × Nat)} {r : α} {x : β} {c' s' : Nat} (h : gx_ad c s o = some (r, x, c', s')) : ∃ c2 s2, o = some (r, x, c2, s2) ∧ c' = c + c2 ∧ s' = s + s2 := by
  cases o with
  | none => cases h
  | some z =>
    simp only [gx_ad, Option.some.injEq, Prod.mk.injEq] at h
    obtain ⟨h1, h2, h3, h4⟩ := h
    exact ⟨z.2.2.1, z.2.2.2, by rw [← h1, ← h2], h3.symm, h4.symm⟩
def gx_nl {α : Type} (o : Option Nat) (k0 : Option α) (k1 : Nat → Option α) : Option α := match o with
  | none => k0
  | some a => k1 a
theorem gx_nl_n {α : Type} {k0 : Option α} {k1 : Nat → Option α} {y : Option α} (h : gx_nl none k0 k1 = y) : k0 = y := h
theorem gx_nl_s {α : Type} {a : Nat} {k0 : Option α} {k1 : Nat → Option α} {y : Option α} (h : gx_nl (some a) k0 k1 = y) : k1 a = y := h
/-- a reference that must be there -/
def gx_nn (o : Option Nat) : Option Nat := o
/-- a boolean -/
def gx_bz (x : Int32) : Option Int32 := if x = 0 ∨ x = 1 then some x else none
theorem gx_bz_s {x y : Int32} (h : gx_bz x = some y) : y = x ∧ (x = 0 ∨ x = 1) := by
  unfold gx_bz at h
  split at h
  · rename_i q
    cases h
    exact ⟨rfl, q⟩
  · cases h
/-! reading and writing the world -/
def gx_gf (X : gx_H) (a ci k : Nat) : Option Value := match X.1 a with
  | some (.inr o) => if o.1 = ci then o.2[k]? else none
  | _ => none
theorem gx_gf_s {X : gx_H} {a ci k : Nat} {v : Value} (h : gx_gf X a ci k = some v) : ∃ fs, X.1 a = some (.inr (ci, fs)) ∧ fs[k]? = some v := by
  unfold gx_gf at h
  split at h
  · rename_i o ho
    split at h
    · rename_i q
      obtain ⟨o1, o2⟩ := o
      cases q
      exact ⟨_, ho, h⟩
    · cases h
  · cases h
def gx_gi (X : gx_H) (a ci k : Nat) : Option Int32 := match gx_gf X a ci k with
  | some (.int x) => some x
  | _ => none
def gx_gl (X : gx_H) (a ci k : Nat) : Option Int64 := match gx_gf X a ci k with
  | some (.long x) => some x
  | _ => none
def gx_gr (X : gx_H) (a ci k : Nat) : Option (Option Nat) := match gx_gf X a ci k with
  | some (.ref b) => some (some b)
  | some .null => some none
  | _ => none
def gx_gd (X : gx_H) (a ci k : Nat) : Option Nat := match gx_gf X a ci k with
  | some (.ref b) => some b
  | _ => none
theorem gx_gi_s {X : gx_H} {a ci k : Nat} {x : Int32} (h : gx_gi X a ci k = some x) : gx_gf X a ci k = some (gx_t (gx_i x)) := by
  unfold gx_gi at h
  split at h
  · rename_i y hy
    cases h
    exact hy
  · cases h
theorem gx_gl_s {X : gx_H} {a ci k : Nat} {x : Int64} (h : gx_gl X a ci k = some x) : gx_gf X a ci k = some (gx_t (gx_l x)) := by
  unfold gx_gl at h
  split at h
  · rename_i y hy
    cases h
    exact hy
  · cases h
theorem gx_gr_s {X : gx_H} {a ci k : Nat} {x : Option Nat} (h : gx_gr X a ci k = some x) : gx_gf X a ci k = some (gx_t (gx_r x)) := by
  unfold gx_gr at h
  split at h
  · rename_i y hy
    cases h
    exact hy
  · rename_i hy
    cases h
    exact hy
  · cases h
theorem gx_gd_s {X : gx_H} {a ci k : Nat} {x : Nat} (h : gx_gd X a ci k = some x) : gx_gf X a ci k = some (gx_t (gx_r (some x))) := by
  unfold gx_gd at h
  split at h
  · rename_i y hy
    cases h
    exact hy
  · cases h
def gx_is (X : gx_H) (a ci : Nat) : Bool := match X.1 a with
  | some (.inr o) => decide (o.1 = ci)
  | _ => false
theorem gx_is_s {X : gx_H} {a ci : Nat} (h : gx_is X a ci = true) : ∃ fs, X.1 a = some (.inr (ci, fs)) := by
  unfold gx_is at h
  split at h
  · rename_i o ho
    obtain ⟨o1, o2⟩ := o
    have q : o1 = ci := by simpa using h
    cases q
    exact ⟨_, ho⟩
  · cases h
def gx_ob {α : Type} (X : gx_H) (a ci : Nat) (k : Option α) : Option α := if gx_is X a ci = true then k else none
theorem gx_obs {α : Type} {X : gx_H} {a ci : Nat} {k : Option α} {y : α} (h : gx_ob X a ci k = some y) : gx_is X a ci = true ∧ k = some y := by
  unfold gx_ob at h
  split at h
  · rename_i q
    exact ⟨q, h⟩
  · cases h
def gx_pf (X : gx_H) (a ci k : Nat) (v : Value) : Option gx_H := match X.1 a with
  | some (.inr o) => if o.1 = ci ∧ k < o.2.length then some (gx_up X.1 a (.inr (ci, o.2.set k v)), X.2) else none
  | _ => none
theorem gx_pf_s {X X' : gx_H} {a ci k : Nat} {v : Value} (h : gx_pf X a ci k v = some X') : ∃ fs, X.1 a = some (.inr (ci, fs)) ∧ k < fs.length ∧ X' = (gx_up X.1 a (.inr (ci, fs.set k v)), X.2) := by
  unfold gx_pf at h
  split at h
  · rename_i o ho
    split at h
    · rename_i q
      obtain ⟨o1, o2⟩ := o
      obtain ⟨q1, q2⟩ := q
      cases q1
      cases h
      exact ⟨_, ho, q2, rfl⟩
    · cases h
  · cases h
def gx_gai (X : gx_H) (a t : Nat) (i : Int32) : Option Int32 := match X.1 a with
  | some (.inl (t', n, .inl f)) => if t' = t then (if i < 0 ∨ n ≤ i.toNatClampNeg then none else some (f i.toNatClampNeg)) else none
  | _ => none
def gx_gal (X : gx_H) (a t : Nat) (i : Int32) : Option Int64 := match X.1 a with
  | some (.inl (t', n, .inr (.inl f))) => if t' = t then (if i < 0 ∨ n ≤ i.toNatClampNeg then none else some (f i.toNatClampNeg)) else none
  | _ => none
def gx_gar (X : gx_H) (a t : Nat) (i : Int32) : Option (Option Nat) := match X.1 a with
  | some (.inl (t', n, .inr (.inr (.inr (.inr f))))) => if t' = t then (if i < 0 ∨ n ≤ i.toNatClampNeg then none else some (f i.toNatClampNeg)) else none
  | _ => none
def gx_pai (X : gx_H) (a t : Nat) (i x : Int32) : Option gx_H := match X.1 a with
  | some (.inl (t', n, .inl f)) => if t' = t then (if i < 0 ∨ n ≤ i.toNatClampNeg then none else some (gx_up X.1 a (.inl (t, n, .inl (upd f i.toNatClampNeg x))), X.2)) else none
  | _ => none
def gx_pal (X : gx_H) (a t : Nat) (i : Int32) (x : Int64) : Option gx_H := match X.1 a with
  | some (.inl (t', n, .inr (.inl f))) => if t' = t then (if i < 0 ∨ n ≤ i.toNatClampNeg then none else some (gx_up X.1 a (.inl (t, n, .inr (.inl (vp_updL f i.toNatClampNeg x)))), X.2)) else none
  | _ => none
def gx_par (X : gx_H) (a t : Nat) (i : Int32) (x : Option Nat) : Option gx_H := match X.1 a with
  | some (.inl (t', n, .inr (.inr (.inr (.inr f))))) => if t' = t then (if i < 0 ∨ n ≤ i.toNatClampNeg then none else some (gx_up X.1 a (.inl (t, n, .inr (.inr (.inr (.inr (va_up f i.toNatClampNeg x)))))), X.2)) else none
  | _ => none

theorem gx_gai_s {X : gx_H} {a t : Nat} {i : Int32} {x : Int32} (h : gx_gai X a t i = some x) : ∃ (n : Nat) (f : Nat → Int32), X.1 a = some (.inl (t, n, .inl f)) ∧ vp_in i n ∧ x = f i.toNatClampNeg := by
  unfold gx_gai at h
  split at h
  · rename_i t' n f hX
    split at h
    · rename_i q
      cases q
      split at h
      · cases h
      · rename_i q2
        cases h
        exact ⟨n, f, hX, q2, rfl⟩
    · cases h
  · cases h
theorem gx_gal_s {X : gx_H} {a t : Nat} {i : Int32} {x : Int64} (h : gx_gal X a t i = some x) : ∃ (n : Nat) (f : Nat → Int64), X.1 a = some (.inl (t, n, .inr (.inl f))) ∧ vp_in i n ∧ x = f i.toNatClampNeg := by
  unfold gx_gal at h
  split at h
  · rename_i t' n f hX
    split at h
    · rename_i q
      cases q
      split at h
      · cases h
      · rename_i q2
        cases h
        exact ⟨n, f, hX, q2, rfl⟩
    · cases h
  · cases h
theorem gx_gar_s {X : gx_H} {a t : Nat} {i : Int32} {x : Option Nat} (h : gx_gar X a t i = some x) : ∃ (n : Nat) (f : Nat → Option Nat), X.1 a = some (.inl (t, n, .inr (.inr (.inr (.inr f))))) ∧ vp_in i n ∧ x = f i.toNatClampNeg := by
  unfold gx_gar at h
  split at h
  · rename_i t' n f hX
    split at h
    · rename_i q
      cases q
      split at h
      · cases h
      · rename_i q2
        cases h
        exact ⟨n, f, hX, q2, rfl⟩
    · cases h
  · cases h
theorem gx_pai_s {X X' : gx_H} {a t : Nat} {i : Int32} {x : Int32} (h : gx_pai X a t i x = some X') : ∃ (n : Nat) (f : Nat → Int32), X.1 a = some (.inl (t, n, .inl f)) ∧ vp_in i n ∧ X' = (gx_up X.1 a (.inl (t, n, .inl (upd f i.toNatClampNeg x))), X.2) := by
  unfold gx_pai at h
  split at h
  · rename_i t' n f hX
    split at h
    · rename_i q
      cases q
      split at h
      · cases h
      · rename_i q2
        cases h
        exact ⟨n, f, hX, q2, rfl⟩
    · cases h
  · cases h
theorem gx_pal_s {X X' : gx_H} {a t : Nat} {i : Int32} {x : Int64} (h : gx_pal X a t i x = some X') : ∃ (n : Nat) (f : Nat → Int64), X.1 a = some (.inl (t, n, .inr (.inl f))) ∧ vp_in i n ∧ X' = (gx_up X.1 a (.inl (t, n, .inr (.inl (vp_updL f i.toNatClampNeg x)))), X.2) := by
  unfold gx_pal at h
  split at h
  · rename_i t' n f hX
    split at h
    · rename_i q
      cases q
      split at h
      · cases h
      · rename_i q2
        cases h
        exact ⟨n, f, hX, q2, rfl⟩
    · cases h
  · cases h
theorem gx_par_s {X X' : gx_H} {a t : Nat} {i : Int32} {x : Option Nat} (h : gx_par X a t i x = some X') : ∃ (n : Nat) (f : Nat → Option Nat), X.1 a = some (.inl (t, n, .inr (.inr (.inr (.inr f))))) ∧ vp_in i n ∧ X' = (gx_up X.1 a (.inl (t, n, .inr (.inr (.inr (.inr (va_up f i.toNatClampNeg x)))))), X.2) := by
  unfold gx_par at h
  split at h
  · rename_i t' n f hX
    split at h
    · rename_i q
      cases q
      split at h
      · cases h
      · rename_i q2
        cases h
        exact ⟨n, f, hX, q2, rfl⟩
    · cases h
  · cases h
def gx_len (X : gx_H) (a t : Nat) : Option Int32 := match X.1 a with
  | some (.inl b) => if b.1 = t then some (Int32.ofNat b.2.1) else none
  | _ => none
theorem gx_len_s {X : gx_H} {a t : Nat} {x : Int32} (h : gx_len X a t = some x) : ∃ b : vp_A, X.1 a = some (.inl (t, b)) ∧ Int32.ofNat b.1 = x := by
  unfold gx_len at h
  split at h
  · rename_i b hb
    obtain ⟨b1, b2⟩ := b
    split at h
    · rename_i q
      cases q
      cases h
      exact ⟨_, hb, rfl⟩
    · cases h
  · cases h
/-- a new cell -/
def gx_nw (X : gx_H) (e : gx_E) : gx_H := (gx_up X.1 X.2 e, X.2 + 1)
section GX
variable {p : Program} {l : Launch} {e : Env} {R : Room} {s : State} {m : MethodId} {args : Array Value} {below : List Frame} {meth : Method} {c : Code} {cells slots : Nat} {Q : State → Prop}
variable {D : gx_D} {cl : List vw_C} {aty : List FieldType} {tb nb : List Cond} {cc : ByteArray} {nL : Nat} {own : String} {ret : Option FieldType} {X : gx_H} {pc : Nat} {lv : List (Option gx_V)} {st : List gx_V}

theorem gx_iconst (C : gx_C D cl aty tb nb p s m meth c cc nL own ret) {n : Int} {v : Int32} (hd : decode cc pc = .ok (.iconst n, 1)) (hv : Int32.ofInt n = v) (kk : gx_W D cl nL p l e R s m args below meth c cells slots Q X (pc + 1) lv (gx_i v :: st)) : gx_W D cl nL p l e R s m args below meth c cells slots Q X pc lv st := fun H locs ls hR hS hL => lv_iconst C.1 C.2.1 hd hv (kk H locs ls hR hS hL)
theorem gx_bipush (C : gx_C D cl aty tb nb p s m meth c cc nL own ret) {n : Int} {v : Int32} (hd : decode cc pc = .ok (.bipush n, 2)) (hv : (Int8.ofInt n).toInt32 = v) (kk : gx_W D cl nL p l e R s m args below meth c cells slots Q X (pc + 2) lv (gx_i v :: st)) : gx_W D cl nL p l e R s m args below meth c cells slots Q X pc lv st := fun H locs ls hR hS hL => lv_bipush C.1 C.2.1 hd hv (kk H locs ls hR hS hL)
theorem gx_sipush (C : gx_C D cl aty tb nb p s m meth c cc nL own ret) {n : Int} {v : Int32} (hd : decode cc pc = .ok (.sipush n, 3)) (hv : (Int16.ofInt n).toInt32 = v) (kk : gx_W D cl nL p l e R s m args below meth c cells slots Q X (pc + 3) lv (gx_i v :: st)) : gx_W D cl nL p l e R s m args below meth c cells slots Q X pc lv st := fun H locs ls hR hS hL => lv_sipush C.1 C.2.1 hd hv (kk H locs ls hR hS hL)
theorem gx_lconst (C : gx_C D cl aty tb nb p s m meth c cc nL own ret) {n : Fin 2} {v : Int64} (hd : decode cc pc = .ok (.lconst n, 1)) (hv : Int64.ofNat (n : Nat) = v) (kk : gx_W D cl nL p l e R s m args below meth c cells slots Q X (pc + 1) lv (gx_l v :: st)) : gx_W D cl nL p l e R s m args below meth c cells slots Q X pc lv st := fun H locs ls hR hS hL => lv_lconst C.1 C.2.1 hd hv (kk H locs ls hR hS hL)
theorem gx_ldc (C : gx_C D cl aty tb nb p s m meth c cc nL own ret) {i : Nat} {v : Int32} (hc : Cond.constant own i v ∈ tb) (hd : decode cc pc = .ok (.ldc i, 2)) (kk : gx_W D cl nL p l e R s m args below meth c cells slots Q X (pc + 2) lv (gx_i v :: st)) : gx_W D cl nL p l e R s m args below meth c cells slots Q X pc lv st := fun H locs ls hR hS hL => lv_ldc C.1 C.2.1 C.2.2.2.1 (C.2.2.2.2.2.2.2.2.1 _ hc args) hd (kk H locs ls hR hS hL)
theorem gx_ldc2 (C : gx_C D cl aty tb nb p s m meth c cc nL own ret) {i : Nat} {v : Int64} (hc : Cond.constantLong own i v ∈ tb) (hd : decode cc pc = .ok (.ldc2_w i, 3)) (kk : gx_W D cl nL p l e R s m args below meth c cells slots Q X (pc + 3) lv (gx_l v :: st)) : gx_W D cl nL p l e R s m args below meth c cells slots Q X pc lv st := fun H locs ls hR hS hL => lv_ldc2 C.1 C.2.1 C.2.2.2.1 (C.2.2.2.2.2.2.2.2.1 _ hc args) hd (kk H locs ls hR hS hL)
theorem gx_iload_n (C : gx_C D cl aty tb nb p s m meth c cc nL own ret) {k : Fin 4} {i : Nat} {x : Int32} (hd : decode cc pc = .ok (.iload_n k, 1)) (hi : (k : Nat) = i) (hl : lv[i]? = some (some (gx_i x))) (kk : gx_W D cl nL p l e R s m args below meth c cells slots Q X (pc + 1) lv (gx_i x :: st)) : gx_W D cl nL p l e R s m args below meth c cells slots Q X pc lv st := fun H locs ls hR hS hL => lv_iload_n C.1 C.2.1 hd hi (hL.2.2 _ _ hl) (kk H locs ls hR hS hL)
theorem gx_iload (C : gx_C D cl aty tb nb p s m meth c cc nL own ret) {i : Nat} {x : Int32} (hd : decode cc pc = .ok (.iload i, 2)) (hl : lv[i]? = some (some (gx_i x))) (kk : gx_W D cl nL p l e R s m args below meth c cells slots Q X (pc + 2) lv (gx_i x :: st)) : gx_W D cl nL p l e R s m args below meth c cells slots Q X pc lv st := fun H locs ls hR hS hL => lv_iload C.1 C.2.1 hd (hL.2.2 _ _ hl) (kk H locs ls hR hS hL)
theorem gx_lload_n (C : gx_C D cl aty tb nb p s m meth c cc nL own ret) {k : Fin 4} {i : Nat} {x : Int64} (hd : decode cc pc = .ok (.lload_n k, 1)) (hi : (k : Nat) = i) (hl : lv[i]? = some (some (gx_l x))) (kk : gx_W D cl nL p l e R s m args below meth c cells slots Q X (pc + 1) lv (gx_l x :: st)) : gx_W D cl nL p l e R s m args below meth c cells slots Q X pc lv st := fun H locs ls hR hS hL => lv_lload_n C.1 C.2.1 hd hi (hL.2.2 _ _ hl) (kk H locs ls hR hS hL)
theorem gx_lload (C : gx_C D cl aty tb nb p s m meth c cc nL own ret) {i : Nat} {x : Int64} (hd : decode cc pc = .ok (.lload i, 2)) (hl : lv[i]? = some (some (gx_l x))) (kk : gx_W D cl nL p l e R s m args below meth c cells slots Q X (pc + 2) lv (gx_l x :: st)) : gx_W D cl nL p l e R s m args below meth c cells slots Q X pc lv st := fun H locs ls hR hS hL => lv_lload C.1 C.2.1 hd (hL.2.2 _ _ hl) (kk H locs ls hR hS hL)
theorem gx_aload_n (C : gx_C D cl aty tb nb p s m meth c cc nL own ret) {k : Fin 4} {i : Nat} {x : Option Nat} (hd : decode cc pc = .ok (.aload_n k, 1)) (hi : (k : Nat) = i) (hl : lv[i]? = some (some (gx_r x))) (kk : gx_W D cl nL p l e R s m args below meth c cells slots Q X (pc + 1) lv (gx_r x :: st)) : gx_W D cl nL p l e R s m args below meth c cells slots Q X pc lv st := fun H locs ls hR hS hL => by
  cases x with
  | none => exact lv_aload_nN C.1 C.2.1 hd hi (hL.2.2 _ _ hl) (kk H locs ls hR hS hL)
  | some a => exact lv_aload_n C.1 C.2.1 hd hi (hL.2.2 _ _ hl) (kk H locs ls hR hS hL)
theorem gx_aload (C : gx_C D cl aty tb nb p s m meth c cc nL own ret) {i : Nat} {x : Option Nat} (hd : decode cc pc = .ok (.aload i, 2)) (hl : lv[i]? = some (some (gx_r x))) (kk : gx_W D cl nL p l e R s m args below meth c cells slots Q X (pc + 2) lv (gx_r x :: st)) : gx_W D cl nL p l e R s m args below meth c cells slots Q X pc lv st := fun H locs ls hR hS hL => by
  cases x with
  | none => exact lv_aloadN C.1 C.2.1 hd (hL.2.2 _ _ hl) (kk H locs ls hR hS hL)
  | some a => exact lv_aload C.1 C.2.1 hd (hL.2.2 _ _ hl) (kk H locs ls hR hS hL)
theorem gx_istore_n (C : gx_C D cl aty tb nb p s m meth c cc nL own ret) {k : Fin 4} {i : Nat} {x : Int32} {lv2 : List (Option gx_V)} (hd : decode cc pc = .ok (.istore_n k, 1)) (hi : (k : Nat) = i) (hn : i < nL) (hl : gx_s1 lv i (gx_i x) = lv2) (kk : gx_W D cl nL p l e R s m args below meth c cells slots Q X (pc + 1) lv2 st) : gx_W D cl nL p l e R s m args below meth c cells slots Q X pc lv (gx_i x :: st) := fun H locs ls hR hS hL => by
  subst hl
  exact lv_istore_n C.1 C.2.1 hd hi (gx_as_has hL) hn rfl (fun ls2 h2 => kk H locs ls2 hR hS (gx_s1_L (ls := ls) (v := gx_i x) h2))
theorem gx_istore (C : gx_C D cl aty tb nb p s m meth c cc nL own ret) {i : Nat} {x : Int32} {lv2 : List (Option gx_V)} (hd : decode cc pc = .ok (.istore i, 2)) (hn : i < nL) (hl : gx_s1 lv i (gx_i x) = lv2) (kk : gx_W D cl nL p l e R s m args below meth c cells slots Q X (pc + 2) lv2 st) : gx_W D cl nL p l e R s m args below meth c cells slots Q X pc lv (gx_i x :: st) := fun H locs ls hR hS hL => by
  subst hl
  exact lv_istore C.1 C.2.1 hd (gx_as_has hL) hn rfl (fun ls2 h2 => kk H locs ls2 hR hS (gx_s1_L (ls := ls) (v := gx_i x) h2))
theorem gx_lstore_n (C : gx_C D cl aty tb nb p s m meth c cc nL own ret) {k : Fin 4} {i : Nat} {x : Int64} {lv2 : List (Option gx_V)} (hd : decode cc pc = .ok (.lstore_n k, 1)) (hi : (k : Nat) = i) (hn : i + 1 < nL) (hl : gx_s2 lv i (gx_l x) = lv2) (kk : gx_W D cl nL p l e R s m args below meth c cells slots Q X (pc + 1) lv2 st) : gx_W D cl nL p l e R s m args below meth c cells slots Q X pc lv (gx_l x :: st) := fun H locs ls hR hS hL => by
  subst hl
  exact lv_lstore_n C.1 C.2.1 hd hi (gx_as_has hL) hn rfl (fun ls2 h2 => kk H locs ls2 hR hS (gx_s2_L (ls := ls) (v := gx_l x) h2))
theorem gx_lstore (C : gx_C D cl aty tb nb p s m meth c cc nL own ret) {i : Nat} {x : Int64} {lv2 : List (Option gx_V)} (hd : decode cc pc = .ok (.lstore i, 2)) (hn : i + 1 < nL) (hl : gx_s2 lv i (gx_l x) = lv2) (kk : gx_W D cl nL p l e R s m args below meth c cells slots Q X (pc + 2) lv2 st) : gx_W D cl nL p l e R s m args below meth c cells slots Q X pc lv (gx_l x :: st) := fun H locs ls hR hS hL => by
  subst hl
  exact lv_lstore C.1 C.2.1 hd (gx_as_has hL) hn rfl (fun ls2 h2 => kk H locs ls2 hR hS (gx_s2_L (ls := ls) (v := gx_l x) h2))
theorem gx_astore_n (C : gx_C D cl aty tb nb p s m meth c cc nL own ret) {k : Fin 4} {i : Nat} {x : Option Nat} {lv2 : List (Option gx_V)} (hd : decode cc pc = .ok (.astore_n k, 1)) (hi : (k : Nat) = i) (hn : i < nL) (hl : gx_s1 lv i (gx_r x) = lv2) (kk : gx_W D cl nL p l e R s m args below meth c cells slots Q X (pc + 1) lv2 st) : gx_W D cl nL p l e R s m args below meth c cells slots Q X pc lv (gx_r x :: st) := fun H locs ls hR hS hL => by
  subst hl
  cases x with
  | none => exact lv_astore_nN C.1 C.2.1 hd hi (gx_as_has hL) hn rfl (fun ls2 h2 => kk H locs ls2 hR hS (gx_s1_L (ls := ls) (v := gx_r none) h2))
  | some a => exact lv_astore_n C.1 C.2.1 hd hi (gx_as_has hL) hn rfl (fun ls2 h2 => kk H locs ls2 hR hS (gx_s1_L (ls := ls) (v := gx_r (some a)) h2))
theorem gx_astore (C : gx_C D cl aty tb nb p s m meth c cc nL own ret) {i : Nat} {x : Option Nat} {lv2 : List (Option gx_V)} (hd : decode cc pc = .ok (.astore i, 2)) (hn : i < nL) (hl : gx_s1 lv i (gx_r x) = lv2) (kk : gx_W D cl nL p l e R s m args below meth c cells slots Q X (pc + 2) lv2 st) : gx_W D cl nL p l e R s m args below meth c cells slots Q X pc lv (gx_r x :: st) := fun H locs ls hR hS hL => by
  subst hl
  cases x with
  | none => exact lv_astoreN C.1 C.2.1 hd (gx_as_has hL) hn rfl (fun ls2 h2 => kk H locs ls2 hR hS (gx_s1_L (ls := ls) (v := gx_r none) h2))
  | some a => exact lv_astore C.1 C.2.1 hd (gx_as_has hL) hn rfl (fun ls2 h2 => kk H locs ls2 hR hS (gx_s1_L (ls := ls) (v := gx_r (some a)) h2))
theorem gx_iinc (C : gx_C D cl aty tb nb p s m meth c cc nL own ret) {i : Nat} {n : Int} {x v : Int32} {lv2 : List (Option gx_V)} (hd : decode cc pc = .ok (.iinc i n, 3)) (hk : lv[i]? = some (some (gx_i x))) (hv : x + Int32.ofInt n = v) (hn : i < nL) (hl : gx_s1 lv i (gx_i v) = lv2) (kk : gx_W D cl nL p l e R s m args below meth c cells slots Q X (pc + 3) lv2 st) : gx_W D cl nL p l e R s m args below meth c cells slots Q X pc lv st := fun H locs ls hR hS hL => by
  subst hl
  obtain ⟨k, hk⟩ := List.getElem?_of_mem (gx_as_mem hk)
  exact lv_iinc C.1 C.2.1 hd (gx_as_has hL) hk hv hn rfl (fun ls2 h2 => kk H locs ls2 hR hS (gx_s1_L (ls := ls) (v := gx_i v) h2))
theorem gx_iadd (C : gx_C D cl aty tb nb p s m meth c cc nL own ret) {x y : Int32} (hd : decode cc pc = .ok (.iadd, 1)) (kk : gx_W D cl nL p l e R s m args below meth c cells slots Q X (pc + 1) lv (gx_i (x + y) :: st)) : gx_W D cl nL p l e R s m args below meth c cells slots Q X pc lv (gx_i y :: gx_i x :: st) := fun H locs ls hR hS hL => lv_iadd C.1 C.2.1 hd (kk H locs ls hR hS hL)
theorem gx_isub (C : gx_C D cl aty tb nb p s m meth c cc nL own ret) {x y : Int32} (hd : decode cc pc = .ok (.isub, 1)) (kk : gx_W D cl nL p l e R s m args below meth c cells slots Q X (pc + 1) lv (gx_i (x - y) :: st)) : gx_W D cl nL p l e R s m args below meth c cells slots Q X pc lv (gx_i y :: gx_i x :: st) := fun H locs ls hR hS hL => lv_isub C.1 C.2.1 hd (kk H locs ls hR hS hL)
theorem gx_imul (C : gx_C D cl aty tb nb p s m meth c cc nL own ret) {x y : Int32} (hd : decode cc pc = .ok (.imul, 1)) (kk : gx_W D cl nL p l e R s m args below meth c cells slots Q X (pc + 1) lv (gx_i (x * y) :: st)) : gx_W D cl nL p l e R s m args below meth c cells slots Q X pc lv (gx_i y :: gx_i x :: st) := fun H locs ls hR hS hL => lv_imul C.1 C.2.1 hd (kk H locs ls hR hS hL)
theorem gx_iand (C : gx_C D cl aty tb nb p s m meth c cc nL own ret) {x y : Int32} (hd : decode cc pc = .ok (.iand, 1)) (kk : gx_W D cl nL p l e R s m args below meth c cells slots Q X (pc + 1) lv (gx_i (x &&& y) :: st)) : gx_W D cl nL p l e R s m args below meth c cells slots Q X pc lv (gx_i y :: gx_i x :: st) := fun H locs ls hR hS hL => lv_iand C.1 C.2.1 hd (kk H locs ls hR hS hL)
theorem gx_ior (C : gx_C D cl aty tb nb p s m meth c cc nL own ret) {x y : Int32} (hd : decode cc pc = .ok (.ior, 1)) (kk : gx_W D cl nL p l e R s m args below meth c cells slots Q X (pc + 1) lv (gx_i (x ||| y) :: st)) : gx_W D cl nL p l e R s m args below meth c cells slots Q X pc lv (gx_i y :: gx_i x :: st) := fun H locs ls hR hS hL => lv_ior C.1 C.2.1 hd (kk H locs ls hR hS hL)
theorem gx_ixor (C : gx_C D cl aty tb nb p s m meth c cc nL own ret) {x y : Int32} (hd : decode cc pc = .ok (.ixor, 1)) (kk : gx_W D cl nL p l e R s m args below meth c cells slots Q X (pc + 1) lv (gx_i (x ^^^ y) :: st)) : gx_W D cl nL p l e R s m args below meth c cells slots Q X pc lv (gx_i y :: gx_i x :: st) := fun H locs ls hR hS hL => lv_ixor C.1 C.2.1 hd (kk H locs ls hR hS hL)
theorem gx_ishl (C : gx_C D cl aty tb nb p s m meth c cc nL own ret) {x y : Int32} (hd : decode cc pc = .ok (.ishl, 1)) (kk : gx_W D cl nL p l e R s m args below meth c cells slots Q X (pc + 1) lv (gx_i (x <<< (y &&& 31)) :: st)) : gx_W D cl nL p l e R s m args below meth c cells slots Q X pc lv (gx_i y :: gx_i x :: st) := fun H locs ls hR hS hL => lv_ishl C.1 C.2.1 hd (kk H locs ls hR hS hL)
theorem gx_ishr (C : gx_C D cl aty tb nb p s m meth c cc nL own ret) {x y : Int32} (hd : decode cc pc = .ok (.ishr, 1)) (kk : gx_W D cl nL p l e R s m args below meth c cells slots Q X (pc + 1) lv (gx_i (x >>> (y &&& 31)) :: st)) : gx_W D cl nL p l e R s m args below meth c cells slots Q X pc lv (gx_i y :: gx_i x :: st) := fun H locs ls hR hS hL => lv_ishr C.1 C.2.1 hd (kk H locs ls hR hS hL)
theorem gx_idiv (C : gx_C D cl aty tb nb p s m meth c cc nL own ret) {x y : Int32} (hd : decode cc pc = .ok (.idiv, 1)) (hne : ¬ y = 0) (kk : gx_W D cl nL p l e R s m args below meth c cells slots Q X (pc + 1) lv (gx_i (x / y) :: st)) : gx_W D cl nL p l e R s m args below meth c cells slots Q X pc lv (gx_i y :: gx_i x :: st) := fun H locs ls hR hS hL => lv_idiv C.1 C.2.1 hd hne (kk H locs ls hR hS hL)
theorem gx_irem (C : gx_C D cl aty tb nb p s m meth c cc nL own ret) {x y : Int32} (hd : decode cc pc = .ok (.irem, 1)) (hne : ¬ y = 0) (kk : gx_W D cl nL p l e R s m args below meth c cells slots Q X (pc + 1) lv (gx_i (x - x / y * y) :: st)) : gx_W D cl nL p l e R s m args below meth c cells slots Q X pc lv (gx_i y :: gx_i x :: st) := fun H locs ls hR hS hL => lv_irem C.1 C.2.1 hd hne (kk H locs ls hR hS hL)
theorem gx_ineg (C : gx_C D cl aty tb nb p s m meth c cc nL own ret) {x : Int32} (hd : decode cc pc = .ok (.ineg, 1)) (kk : gx_W D cl nL p l e R s m args below meth c cells slots Q X (pc + 1) lv (gx_i (-x) :: st)) : gx_W D cl nL p l e R s m args below meth c cells slots Q X pc lv (gx_i x :: st) := fun H locs ls hR hS hL => lv_ineg C.1 C.2.1 hd (kk H locs ls hR hS hL)
theorem gx_ladd (C : gx_C D cl aty tb nb p s m meth c cc nL own ret) {x y : Int64} (hd : decode cc pc = .ok (.ladd, 1)) (kk : gx_W D cl nL p l e R s m args below meth c cells slots Q X (pc + 1) lv (gx_l (x + y) :: st)) : gx_W D cl nL p l e R s m args below meth c cells slots Q X pc lv (gx_l y :: gx_l x :: st) := fun H locs ls hR hS hL => lv_ladd C.1 C.2.1 hd (kk H locs ls hR hS hL)
theorem gx_lsub (C : gx_C D cl aty tb nb p s m meth c cc nL own ret) {x y : Int64} (hd : decode cc pc = .ok (.lsub, 1)) (kk : gx_W D cl nL p l e R s m args below meth c cells slots Q X (pc + 1) lv (gx_l (x - y) :: st)) : gx_W D cl nL p l e R s m args below meth c cells slots Q X pc lv (gx_l y :: gx_l x :: st) := fun H locs ls hR hS hL => lv_lsub C.1 C.2.1 hd (kk H locs ls hR hS hL)
theorem gx_lmul (C : gx_C D cl aty tb nb p s m meth c cc nL own ret) {x y : Int64} (hd : decode cc pc = .ok (.lmul, 1)) (kk : gx_W D cl nL p l e R s m args below meth c cells slots Q X (pc + 1) lv (gx_l (x * y) :: st)) : gx_W D cl nL p l e R s m args below meth c cells slots Q X pc lv (gx_l y :: gx_l x :: st) := fun H locs ls hR hS hL => lv_lmul C.1 C.2.1 hd (kk H locs ls hR hS hL)
theorem gx_land (C : gx_C D cl aty tb nb p s m meth c cc nL own ret) {x y : Int64} (hd : decode cc pc = .ok (.land, 1)) (kk : gx_W D cl nL p l e R s m args below meth c cells slots Q X (pc + 1) lv (gx_l (x &&& y) :: st)) : gx_W D cl nL p l e R s m args below meth c cells slots Q X pc lv (gx_l y :: gx_l x :: st) := fun H locs ls hR hS hL => lv_land C.1 C.2.1 hd (kk H locs ls hR hS hL)
theorem gx_lor (C : gx_C D cl aty tb nb p s m meth c cc nL own ret) {x y : Int64} (hd : decode cc pc = .ok (.lor, 1)) (kk : gx_W D cl nL p l e R s m args below meth c cells slots Q X (pc + 1) lv (gx_l (x ||| y) :: st)) : gx_W D cl nL p l e R s m args below meth c cells slots Q X pc lv (gx_l y :: gx_l x :: st) := fun H locs ls hR hS hL => lv_lor C.1 C.2.1 hd (kk H locs ls hR hS hL)
theorem gx_lxor (C : gx_C D cl aty tb nb p s m meth c cc nL own ret) {x y : Int64} (hd : decode cc pc = .ok (.lxor, 1)) (kk : gx_W D cl nL p l e R s m args below meth c cells slots Q X (pc + 1) lv (gx_l (x ^^^ y) :: st)) : gx_W D cl nL p l e R s m args below meth c cells slots Q X pc lv (gx_l y :: gx_l x :: st) := fun H locs ls hR hS hL => lv_lxor C.1 C.2.1 hd (kk H locs ls hR hS hL)
theorem gx_lshl (C : gx_C D cl aty tb nb p s m meth c cc nL own ret) {x : Int64} {y : Int32} (hd : decode cc pc = .ok (.lshl, 1)) (kk : gx_W D cl nL p l e R s m args below meth c cells slots Q X (pc + 1) lv (gx_l (x <<< (y.toInt64 &&& 63)) :: st)) : gx_W D cl nL p l e R s m args below meth c cells slots Q X pc lv (gx_i y :: gx_l x :: st) := fun H locs ls hR hS hL => lv_lshl C.1 C.2.1 hd rfl (kk H locs ls hR hS hL)
theorem gx_lshr (C : gx_C D cl aty tb nb p s m meth c cc nL own ret) {x : Int64} {y : Int32} (hd : decode cc pc = .ok (.lshr, 1)) (kk : gx_W D cl nL p l e R s m args below meth c cells slots Q X (pc + 1) lv (gx_l (x >>> (y.toInt64 &&& 63)) :: st)) : gx_W D cl nL p l e R s m args below meth c cells slots Q X pc lv (gx_i y :: gx_l x :: st) := fun H locs ls hR hS hL => lv_lshr C.1 C.2.1 hd rfl (kk H locs ls hR hS hL)
theorem gx_lushr (C : gx_C D cl aty tb nb p s m meth c cc nL own ret) {x : Int64} {y : Int32} (hd : decode cc pc = .ok (.lushr, 1)) (kk : gx_W D cl nL p l e R s m args below meth c cells slots Q X (pc + 1) lv (gx_l ((x.toUInt64 >>> (y.toInt64.toUInt64 &&& Int64.toUInt64 63)).toInt64) :: st)) : gx_W D cl nL p l e R s m args below meth c cells slots Q X pc lv (gx_i y :: gx_l x :: st) := fun H locs ls hR hS hL => lv_lushr C.1 C.2.1 hd rfl (kk H locs ls hR hS hL)
theorem gx_iushr (C : gx_C D cl aty tb nb p s m meth c cc nL own ret) {x y : Int32} (hd : decode cc pc = .ok (.iushr, 1)) (kk : gx_W D cl nL p l e R s m args below meth c cells slots Q X (pc + 1) lv (gx_i ((x.toUInt32 >>> (y.toUInt32 &&& Int32.toUInt32 31)).toInt32) :: st)) : gx_W D cl nL p l e R s m args below meth c cells slots Q X pc lv (gx_i y :: gx_i x :: st) := fun H locs ls hR hS hL => lv_iushr C.1 C.2.1 hd rfl (kk H locs ls hR hS hL)
theorem gx_i2l (C : gx_C D cl aty tb nb p s m meth c cc nL own ret) {x : Int32} (hd : decode cc pc = .ok (.i2l, 1)) (kk : gx_W D cl nL p l e R s m args below meth c cells slots Q X (pc + 1) lv (gx_l x.toInt64 :: st)) : gx_W D cl nL p l e R s m args below meth c cells slots Q X pc lv (gx_i x :: st) := fun H locs ls hR hS hL => lv_i2l C.1 C.2.1 hd rfl (kk H locs ls hR hS hL)
theorem gx_l2i (C : gx_C D cl aty tb nb p s m meth c cc nL own ret) {x : Int64} (hd : decode cc pc = .ok (.l2i, 1)) (kk : gx_W D cl nL p l e R s m args below meth c cells slots Q X (pc + 1) lv (gx_i x.toInt32 :: st)) : gx_W D cl nL p l e R s m args below meth c cells slots Q X pc lv (gx_l x :: st) := fun H locs ls hR hS hL => lv_l2i C.1 C.2.1 hd rfl (kk H locs ls hR hS hL)
theorem gx_lcmp (C : gx_C D cl aty tb nb p s m meth c cc nL own ret) {x y : Int64} (hd : decode cc pc = .ok (.lcmp, 1)) (kk : gx_W D cl nL p l e R s m args below meth c cells slots Q X (pc + 1) lv (gx_i (lg_cmp x y) :: st)) : gx_W D cl nL p l e R s m args below meth c cells slots Q X pc lv (gx_l y :: gx_l x :: st) := fun H locs ls hR hS hL => W.lcmp C.1 C.2.1 hd (kk H locs ls hR hS hL)
theorem gx_dup (C : gx_C D cl aty tb nb p s m meth c cc nL own ret) {v : gx_V} (hd : decode cc pc = .ok (.dup, 1)) (h1 : gx_2 v = false) (kk : gx_W D cl nL p l e R s m args below meth c cells slots Q X (pc + 1) lv (v :: v :: st)) : gx_W D cl nL p l e R s m args below meth c cells slots Q X pc lv (v :: st) := fun H locs ls hR hS hL => lv_dup C.1 C.2.1 hd (by rw [gx_cat, h1]; rfl) (kk H locs ls hR hS hL)
theorem gx_pop (C : gx_C D cl aty tb nb p s m meth c cc nL own ret) {v : gx_V} (hd : decode cc pc = .ok (.pop, 1)) (h1 : gx_2 v = false) (kk : gx_W D cl nL p l e R s m args below meth c cells slots Q X (pc + 1) lv st) : gx_W D cl nL p l e R s m args below meth c cells slots Q X pc lv (v :: st) := fun H locs ls hR hS hL => lv_pop C.1 C.2.1 hd (by rw [gx_cat, h1]; rfl) (kk H locs ls hR hS hL)
theorem gx_dup_x1 (C : gx_C D cl aty tb nb p s m meth c cc nL own ret) {v w : gx_V} (hd : decode cc pc = .ok (.dup_x1, 1)) (h1 : gx_2 v = false) (h2 : gx_2 w = false) (kk : gx_W D cl nL p l e R s m args below meth c cells slots Q X (pc + 1) lv (v :: w :: v :: st)) : gx_W D cl nL p l e R s m args below meth c cells slots Q X pc lv (v :: w :: st) := fun H locs ls hR hS hL => lv_dup_x1 C.1 C.2.1 hd (by rw [gx_cat, h1]; rfl) (by rw [gx_cat, h2]; rfl) (kk H locs ls hR hS hL)
theorem gx_dup2 (C : gx_C D cl aty tb nb p s m meth c cc nL own ret) {v w : gx_V} (hd : decode cc pc = .ok (.dup2, 1)) (h1 : gx_2 v = false) (h2 : gx_2 w = false) (kk : gx_W D cl nL p l e R s m args below meth c cells slots Q X (pc + 1) lv (v :: w :: v :: w :: st)) : gx_W D cl nL p l e R s m args below meth c cells slots Q X pc lv (v :: w :: st) := fun H locs ls hR hS hL => lv_dup2_11 C.1 C.2.1 hd (by rw [gx_cat, h1]; rfl) (by rw [gx_cat, h2]; rfl) (kk H locs ls hR hS hL)
theorem gx_null (C : gx_C D cl aty tb nb p s m meth c cc nL own ret)  (hd : decode cc pc = .ok (.aconst_null, 1)) (kk : gx_W D cl nL p l e R s m args below meth c cells slots Q X (pc + 1) lv (gx_r none :: st)) : gx_W D cl nL p l e R s m args below meth c cells slots Q X pc lv st := fun H locs ls hR hS hL => lv_null C.1 C.2.1 hd (kk H locs ls hR hS hL)
theorem gx_goto (C : gx_C D cl aty tb nb p s m meth c cc nL own ret) {off : Int} {tgt : Nat} (hd : decode cc pc = .ok (.goto off, 3)) (ht : (pc : Int) + off = (tgt : Int)) (kk : gx_W D cl nL p l e R s m args below meth c cells slots Q X tgt lv st) : gx_W D cl nL p l e R s m args below meth c cells slots Q X pc lv st := fun H locs ls hR hS hL => lv_goto C.1 C.2.1 hd ht (kk H locs ls hR hS hL)
theorem gx_if_eq (C : gx_C D cl aty tb nb p s m meth c cc nL own ret) {x : Int32} {off : Int} {tgt : Nat} (hd : decode cc pc = .ok (.ifCond .eq off, 3)) (ht : (pc : Int) + off = (tgt : Int)) (kt : x = 0 → gx_W D cl nL p l e R s m args below meth c cells slots Q X tgt lv st) (kf : ¬ x = 0 → gx_W D cl nL p l e R s m args below meth c cells slots Q X (pc + 3) lv st) : gx_W D cl nL p l e R s m args below meth c cells slots Q X pc lv (gx_i x :: st) := fun H locs ls hR hS hL => lv_if_eq C.1 C.2.1 hd ht (fun q => kt q H locs ls hR hS hL) (fun q => kf q H locs ls hR hS hL)
theorem gx_if_ne (C : gx_C D cl aty tb nb p s m meth c cc nL own ret) {x : Int32} {off : Int} {tgt : Nat} (hd : decode cc pc = .ok (.ifCond .ne off, 3)) (ht : (pc : Int) + off = (tgt : Int)) (kt : ¬ x = 0 → gx_W D cl nL p l e R s m args below meth c cells slots Q X tgt lv st) (kf : x = 0 → gx_W D cl nL p l e R s m args below meth c cells slots Q X (pc + 3) lv st) : gx_W D cl nL p l e R s m args below meth c cells slots Q X pc lv (gx_i x :: st) := fun H locs ls hR hS hL => lv_if_ne C.1 C.2.1 hd ht (fun q => kt q H locs ls hR hS hL) (fun q => kf q H locs ls hR hS hL)
theorem gx_if_lt (C : gx_C D cl aty tb nb p s m meth c cc nL own ret) {x : Int32} {off : Int} {tgt : Nat} (hd : decode cc pc = .ok (.ifCond .lt off, 3)) (ht : (pc : Int) + off = (tgt : Int)) (kt : x < 0 → gx_W D cl nL p l e R s m args below meth c cells slots Q X tgt lv st) (kf : ¬ x < 0 → gx_W D cl nL p l e R s m args below meth c cells slots Q X (pc + 3) lv st) : gx_W D cl nL p l e R s m args below meth c cells slots Q X pc lv (gx_i x :: st) := fun H locs ls hR hS hL => lv_if_lt C.1 C.2.1 hd ht (fun q => kt q H locs ls hR hS hL) (fun q => kf q H locs ls hR hS hL)
theorem gx_if_ge (C : gx_C D cl aty tb nb p s m meth c cc nL own ret) {x : Int32} {off : Int} {tgt : Nat} (hd : decode cc pc = .ok (.ifCond .ge off, 3)) (ht : (pc : Int) + off = (tgt : Int)) (kt : 0 ≤ x → gx_W D cl nL p l e R s m args below meth c cells slots Q X tgt lv st) (kf : ¬ 0 ≤ x → gx_W D cl nL p l e R s m args below meth c cells slots Q X (pc + 3) lv st) : gx_W D cl nL p l e R s m args below meth c cells slots Q X pc lv (gx_i x :: st) := fun H locs ls hR hS hL => lv_if_ge C.1 C.2.1 hd ht (fun q => kt q H locs ls hR hS hL) (fun q => kf q H locs ls hR hS hL)
theorem gx_if_gt (C : gx_C D cl aty tb nb p s m meth c cc nL own ret) {x : Int32} {off : Int} {tgt : Nat} (hd : decode cc pc = .ok (.ifCond .gt off, 3)) (ht : (pc : Int) + off = (tgt : Int)) (kt : 0 < x → gx_W D cl nL p l e R s m args below meth c cells slots Q X tgt lv st) (kf : ¬ 0 < x → gx_W D cl nL p l e R s m args below meth c cells slots Q X (pc + 3) lv st) : gx_W D cl nL p l e R s m args below meth c cells slots Q X pc lv (gx_i x :: st) := fun H locs ls hR hS hL => lv_if_gt C.1 C.2.1 hd ht (fun q => kt q H locs ls hR hS hL) (fun q => kf q H locs ls hR hS hL)
theorem gx_if_le (C : gx_C D cl aty tb nb p s m meth c cc nL own ret) {x : Int32} {off : Int} {tgt : Nat} (hd : decode cc pc = .ok (.ifCond .le off, 3)) (ht : (pc : Int) + off = (tgt : Int)) (kt : x ≤ 0 → gx_W D cl nL p l e R s m args below meth c cells slots Q X tgt lv st) (kf : ¬ x ≤ 0 → gx_W D cl nL p l e R s m args below meth c cells slots Q X (pc + 3) lv st) : gx_W D cl nL p l e R s m args below meth c cells slots Q X pc lv (gx_i x :: st) := fun H locs ls hR hS hL => lv_if_le C.1 C.2.1 hd ht (fun q => kt q H locs ls hR hS hL) (fun q => kf q H locs ls hR hS hL)
theorem gx_icmp_eq (C : gx_C D cl aty tb nb p s m meth c cc nL own ret) {x y : Int32} {off : Int} {tgt : Nat} (hd : decode cc pc = .ok (.if_icmp .eq off, 3)) (ht : (pc : Int) + off = (tgt : Int)) (kt : x = y → gx_W D cl nL p l e R s m args below meth c cells slots Q X tgt lv st) (kf : ¬ x = y → gx_W D cl nL p l e R s m args below meth c cells slots Q X (pc + 3) lv st) : gx_W D cl nL p l e R s m args below meth c cells slots Q X pc lv (gx_i y :: gx_i x :: st) := fun H locs ls hR hS hL => lv_icmp_eq C.1 C.2.1 hd ht (fun q => kt q H locs ls hR hS hL) (fun q => kf q H locs ls hR hS hL)
theorem gx_icmp_ne (C : gx_C D cl aty tb nb p s m meth c cc nL own ret) {x y : Int32} {off : Int} {tgt : Nat} (hd : decode cc pc = .ok (.if_icmp .ne off, 3)) (ht : (pc : Int) + off = (tgt : Int)) (kt : ¬ x = y → gx_W D cl nL p l e R s m args below meth c cells slots Q X tgt lv st) (kf : x = y → gx_W D cl nL p l e R s m args below meth c cells slots Q X (pc + 3) lv st) : gx_W D cl nL p l e R s m args below meth c cells slots Q X pc lv (gx_i y :: gx_i x :: st) := fun H locs ls hR hS hL => lv_icmp_ne C.1 C.2.1 hd ht (fun q => kt q H locs ls hR hS hL) (fun q => kf q H locs ls hR hS hL)
theorem gx_icmp_lt (C : gx_C D cl aty tb nb p s m meth c cc nL own ret) {x y : Int32} {off : Int} {tgt : Nat} (hd : decode cc pc = .ok (.if_icmp .lt off, 3)) (ht : (pc : Int) + off = (tgt : Int)) (kt : x < y → gx_W D cl nL p l e R s m args below meth c cells slots Q X tgt lv st) (kf : ¬ x < y → gx_W D cl nL p l e R s m args below meth c cells slots Q X (pc + 3) lv st) : gx_W D cl nL p l e R s m args below meth c cells slots Q X pc lv (gx_i y :: gx_i x :: st) := fun H locs ls hR hS hL => lv_icmp_lt C.1 C.2.1 hd ht (fun q => kt q H locs ls hR hS hL) (fun q => kf q H locs ls hR hS hL)
theorem gx_icmp_ge (C : gx_C D cl aty tb nb p s m meth c cc nL own ret) {x y : Int32} {off : Int} {tgt : Nat} (hd : decode cc pc = .ok (.if_icmp .ge off, 3)) (ht : (pc : Int) + off = (tgt : Int)) (kt : y ≤ x → gx_W D cl nL p l e R s m args below meth c cells slots Q X tgt lv st) (kf : ¬ y ≤ x → gx_W D cl nL p l e R s m args below meth c cells slots Q X (pc + 3) lv st) : gx_W D cl nL p l e R s m args below meth c cells slots Q X pc lv (gx_i y :: gx_i x :: st) := fun H locs ls hR hS hL => lv_icmp_ge C.1 C.2.1 hd ht (fun q => kt q H locs ls hR hS hL) (fun q => kf q H locs ls hR hS hL)
theorem gx_icmp_gt (C : gx_C D cl aty tb nb p s m meth c cc nL own ret) {x y : Int32} {off : Int} {tgt : Nat} (hd : decode cc pc = .ok (.if_icmp .gt off, 3)) (ht : (pc : Int) + off = (tgt : Int)) (kt : y < x → gx_W D cl nL p l e R s m args below meth c cells slots Q X tgt lv st) (kf : ¬ y < x → gx_W D cl nL p l e R s m args below meth c cells slots Q X (pc + 3) lv st) : gx_W D cl nL p l e R s m args below meth c cells slots Q X pc lv (gx_i y :: gx_i x :: st) := fun H locs ls hR hS hL => lv_icmp_gt C.1 C.2.1 hd ht (fun q => kt q H locs ls hR hS hL) (fun q => kf q H locs ls hR hS hL)
theorem gx_icmp_le (C : gx_C D cl aty tb nb p s m meth c cc nL own ret) {x y : Int32} {off : Int} {tgt : Nat} (hd : decode cc pc = .ok (.if_icmp .le off, 3)) (ht : (pc : Int) + off = (tgt : Int)) (kt : x ≤ y → gx_W D cl nL p l e R s m args below meth c cells slots Q X tgt lv st) (kf : ¬ x ≤ y → gx_W D cl nL p l e R s m args below meth c cells slots Q X (pc + 3) lv st) : gx_W D cl nL p l e R s m args below meth c cells slots Q X pc lv (gx_i y :: gx_i x :: st) := fun H locs ls hR hS hL => lv_icmp_le C.1 C.2.1 hd ht (fun q => kt q H locs ls hR hS hL) (fun q => kf q H locs ls hR hS hL)
theorem gx_ifnull (C : gx_C D cl aty tb nb p s m meth c cc nL own ret) {x : Option Nat} {off : Int} {tgt : Nat} (hd : decode cc pc = .ok (.ifnull off, 3)) (ht : (pc : Int) + off = (tgt : Int)) (kt : x = none → gx_W D cl nL p l e R s m args below meth c cells slots Q X tgt lv st) (kf : ∀ a, x = some a → gx_W D cl nL p l e R s m args below meth c cells slots Q X (pc + 3) lv st) : gx_W D cl nL p l e R s m args below meth c cells slots Q X pc lv (gx_r x :: st) := fun H locs ls hR hS hL => by
  cases x with
  | none => exact lv_ifnullN C.1 C.2.1 hd ht (kt rfl H locs ls hR hS hL)
  | some a => exact lv_ifnull C.1 C.2.1 hd (kf a rfl H locs ls hR hS hL)
theorem gx_ifnonnull (C : gx_C D cl aty tb nb p s m meth c cc nL own ret) {x : Option Nat} {off : Int} {tgt : Nat} (hd : decode cc pc = .ok (.ifnonnull off, 3)) (ht : (pc : Int) + off = (tgt : Int)) (kt : ∀ a, x = some a → gx_W D cl nL p l e R s m args below meth c cells slots Q X tgt lv st) (kf : x = none → gx_W D cl nL p l e R s m args below meth c cells slots Q X (pc + 3) lv st) : gx_W D cl nL p l e R s m args below meth c cells slots Q X pc lv (gx_r x :: st) := fun H locs ls hR hS hL => by
  cases x with
  | none => exact lv_ifnonnullN C.1 C.2.1 hd (kf rfl H locs ls hR hS hL)
  | some a => exact lv_ifnonnull C.1 C.2.1 hd ht (kt a rfl H locs ls hR hS hL)
theorem gx_swOut (C : gx_C D cl aty tb nb p s m meth c cc nL own ret) {dflt lo hi : Int} {offs : Array Int} {len : Nat} {x : Int32} {tgt : Nat} (hd : decode cc pc = .ok (.tableswitch dflt lo hi offs, len)) (h : x.toInt < lo ∨ hi < x.toInt) (ht : (pc : Int) + dflt = (tgt : Int)) (kk : gx_W D cl nL p l e R s m args below meth c cells slots Q X tgt lv st) : gx_W D cl nL p l e R s m args below meth c cells slots Q X pc lv (gx_i x :: st) := fun H locs ls hR hS hL => lv_tableOut C.1 C.2.1 hd h ht (kk H locs ls hR hS hL)
theorem gx_swIn (C : gx_C D cl aty tb nb p s m meth c cc nL own ret) {dflt lo hi : Int} {offs : Array Int} {len : Nat} {x : Int32} {off : Int} {tgt : Nat} (hd : decode cc pc = .ok (.tableswitch dflt lo hi offs, len)) (h1 : ¬ x.toInt < lo) (h2 : ¬ hi < x.toInt) (ho : offs[(x.toInt - lo).toNat]? = some off) (ht : (pc : Int) + off = (tgt : Int)) (kk : gx_W D cl nL p l e R s m args below meth c cells slots Q X tgt lv st) : gx_W D cl nL p l e R s m args below meth c cells slots Q X pc lv (gx_i x :: st) := fun H locs ls hR hS hL => lv_tableIn C.1 C.2.1 hd h1 h2 ho ht (kk H locs ls hR hS hL)
theorem gx_sub (bs : List Bool) {lv2 : List (Option gx_V)} (hl : gx_mk bs lv = lv2) (kk : gx_W D cl nL p l e R s m args below meth c cells slots Q X pc lv2 st) : gx_W D cl nL p l e R s m args below meth c cells slots Q X pc lv st := fun H locs ls hR hS hL => kk H locs ls hR hS ⟨hL.1, hL.2.1, fun i v h => hL.2.2 i v (gx_mk_at bs lv i v (by rw [hl]; exact h))⟩
end GX
end
section
/-! ROWS over the world: fields, arrays, new cells, calls, ends -/
def gx_cc (cl : List vw_C) (tb : List Cond) (ci : Nat) (Cn : String) (T : u_T) (N : Nat) (ty : Nat → FieldType) : Prop := cl[ci]? = some (Cn, T, N) ∧ (∀ w ∈ u_ws Cn T N, w ∈ tb) ∧ (∀ k, k < N → parseFieldDescriptor (T k).2.2.1 = some (ty k)) ∧ ∀ a, a < N → ∀ b, b < N → a ≠ b → (T a).2.1 ≠ (T b).2.1
def gx_cd (tb : List Cond) (y : MethodName) (bytes : ByteArray) (maxL : Nat) (ret : Option FieldType) (n : Nat) : Prop := Cond.code y bytes maxL ret ∈ tb ∧ Cond.initialized y.cls ∈ tb ∧ y.cls ≠ "java/lang/invoke/MethodHandle" ∧ y.cls ≠ "java/lang/invoke/VarHandle" ∧ (parseMethodDescriptor y.desc).map (fun d => d.parameters.length) = some n
theorem gx_nz {x : Int32} (h : x = 0 ∨ x = 1) : narrow .boolean (gx_t (gx_i x)) = gx_t (gx_i x) ∧ fits .boolean (gx_t (gx_i x)) = true := by
  rcases h with rfl | rfl <;> exact ⟨rfl, by decide⟩
theorem gx_nr {C : String} (o : Option Nat) : narrow (.object C) (gx_t (gx_r o)) = gx_t (gx_r o) ∧ fits (.object C) (gx_t (gx_r o)) = true := by
  cases o <;> exact ⟨rfl, rfl⟩
theorem gx_sl_len : ∀ (vs : List gx_V), (lg_sl (vs.map gx_t)).length = (gx_en vs).length
  | [] => rfl
  | .inl x :: t => by
    have := gx_sl_len t
    simp only [lg_sl, gx_en, List.map_cons, List.flatMap_cons, List.length_append, List.length_cons] at this ⊢
    rw [this, gx_cat]
    simp [gx_2]
    omega
  | .inr (.inl x) :: t => by
    have := gx_sl_len t
    simp only [lg_sl, gx_en, List.map_cons, List.flatMap_cons, List.length_append, List.length_cons] at this ⊢
    rw [this, gx_cat]
    simp [gx_2]
    omega
  | .inr (.inr o) :: t => by
    have := gx_sl_len t
    simp only [lg_sl, gx_en, List.map_cons, List.flatMap_cons, List.length_append, List.length_cons] at this ⊢
    rw [this, gx_cat]
    simp [gx_2]
    omega
section GY
variable {p : Program} {l : Launch} {e : Env} {R : Room} {s : State} {m : MethodId} {args : Array Value} {below : List Frame} {meth : Method} {c : Code} {cells slots : Nat} {Q : State → Prop}
variable {D : gx_D} {cl : List vw_C} {aty : List FieldType} {tb nb : List Cond} {cc : ByteArray} {nL : Nat} {own : String} {ret : Option FieldType} {X : gx_H} {pc : Nat} {lv : List (Option gx_V)} {st : List gx_V}

theorem gx_get (C : gx_C D cl aty tb nb p s m meth c cc nL own ret) {ci N : Nat} {Cn : String} {T : u_T} {ty : Nat → FieldType} (Kc : gx_cc cl tb ci Cn T N ty) (k : Nat) {a idx : Nat} {v : gx_V} (hk : k < N) (hlink : Cond.fieldLink own idx (T k).1 (T k).2.1 (T k).2.2.1 ∈ tb) (h : gx_gf X a ci k = some (gx_t v)) (hd : decode cc pc = .ok (.getfield idx, 3)) (kk : gx_W D cl nL p l e R s m args below meth c cells slots Q X (pc + 3) lv (v :: st)) : gx_W D cl nL p l e R s m args below meth c cells slots Q X pc lv (gx_r (some a) :: st) := fun H locs ls hR hS hL => by
  obtain ⟨fs, h1, h2⟩ := gx_gf_s h
  exact va_get (D := D.1) (ci := ci) (v := gx_t v) (ws := [(a, gx_e D (.inr (ci, fs)))]) (tys := []) (Ts := tb) C.1 C.2.1 (fun w hw => C.2.2.2.2.2.2.2.2.1 w hw args) Kc.2.1 C.2.2.2.1 C.2.2.2.2.2.2.va (hR.one h1) 0 rfl Kc.1 k hk (C.2.2.2.2.2.2.2.2.1 _ hlink args) (fun _ h9 => h9) h2 hd (kk H locs ls hR hS hL)
theorem gx_getN (C : gx_C D cl aty tb nb p s m meth c cc nL own ret) {ci N : Nat} {Cn host : String} {T : u_T} {ty : Nat → FieldType} (Kc : gx_cc cl tb ci Cn T N ty) (k : Nat) {a idx : Nat} {v : gx_V} (hk : k < N) (hlink : Cond.fieldLinkNest own idx (T k).1 (T k).2.1 (T k).2.2.1 host ∈ nb) (h : gx_gf X a ci k = some (gx_t v)) (hd : decode cc pc = .ok (.getfield idx, 3)) (kk : gx_W D cl nL p l e R s m args below meth c cells slots Q X (pc + 3) lv (v :: st)) : gx_W D cl nL p l e R s m args below meth c cells slots Q X pc lv (gx_r (some a) :: st) := fun H locs ls hR hS hL => by
  obtain ⟨fs, h1, h2⟩ := gx_gf_s h
  exact va_getN (D := D.1) (ci := ci) (v := gx_t v) (ws := [(a, gx_e D (.inr (ci, fs)))]) (tys := []) (Ts := tb) C.1 C.2.1 (fun w hw => C.2.2.2.2.2.2.2.2.1 w hw args) Kc.2.1 C.2.2.2.1 C.2.2.2.2.2.2.va (hR.one h1) 0 rfl Kc.1 k hk (va_Nw.use rfl (C.2.2.2.2.2.2.2.2.2.1 _ hlink)) (fun _ h9 => h9) h2 hd (kk H locs ls hR hS hL)
theorem gx_put (C : gx_C D cl aty tb nb p s m meth c cc nL own ret) {ci N : Nat} {Cn : String} {T : u_T} {ty : Nat → FieldType} (Kc : gx_cc cl tb ci Cn T N ty) (k : Nat) {a idx : Nat} {v : gx_V} {X2 : gx_H} (hk : k < N) (hfin : (T k).2.2.2 = false) (hlink : Cond.fieldLink own idx (T k).1 (T k).2.1 (T k).2.2.1 ∈ tb) (hn : narrow (ty k) (gx_t v) = gx_t v ∧ fits (ty k) (gx_t v) = true) (h : gx_pf X a ci k (gx_t v) = some X2) (hd : decode cc pc = .ok (.putfield idx, 3)) (kk : gx_W D cl nL p l e R s m args below meth c cells slots Q X2 (pc + 3) lv st) : gx_W D cl nL p l e R s m args below meth c cells slots Q X pc lv (v :: gx_r (some a) :: st) := fun H locs ls hR hS hL => by
  obtain ⟨fs, h1, h2, rfl⟩ := gx_pf_s h
  have hap := va_apart (own := own) (fun w hw => C.2.2.2.2.2.2.2.2.1 w hw args) Kc.2.1 ty Kc.2.2.1 Kc.2.2.2 C.2.2.2.2.2.2.va Kc.1
  obtain ⟨r, g1, cell, q1, q2, q3, q4⟩ := (hR.2.2 a _ h1).2
  have hr : r = (Cn, T, N) := Option.some.inj (g1.symm.trans Kc.1)
  subst hr
  obtain ⟨hSl, hfc, kC, hkC, hkind⟩ := C.2.2.2.2.2.2.1 ci _ Kc.1
  obtain ⟨cf, kf, fi, f, hi, hsl⟩ := hSl k hk
  have hlay := C.2.2.2.2.2.2.2.2.1 _ (Kc.2.1 _ (u_in_lay hk)) args
  unfold u_lay at hlay
  rw [if_neg (by rw [hfin]; decide)] at hlay
  have hst := (u_facts hfc hkC (u_lays (fun w hw => C.2.2.2.2.2.2.2.2.1 w hw args) Kc.2.1 hk) hi).1
  have h6 := u_store hfc hkC hkind hlay hi (Kc.2.2.1 k hk) hn.1 hn.2
  refine W.putK C.1 C.2.1 (f := f) ⟨C.2.2.2.1, C.2.2.2.2.2.2.2.2.1 _ hlink args, ⟨_, _, _, hi⟩, hst⟩ (by rw [q2]; exact h6) q1 q3 (by rw [hsl]; exact k2_hasslot (q4 k hk)) rfl rfl hd fun H' e1 e2 e3 => ?_
  rw [hsl] at e1 ⊢
  exact kk H' _ ls (hR.put h1 e2 e3 ⟨_, Kc.1, t_OB.to (V := updV (vp_V fs) k (gx_t v)) ⟨_, e1, q2, q3, t_set q4 hap hk (gx_t v)⟩ (fun j _ => vp_updV_set h2 (gx_t v) j)⟩) (hS.put e2 e3 (hR.2.2 a _ h1).1) hL
theorem gx_putN (C : gx_C D cl aty tb nb p s m meth c cc nL own ret) {ci N : Nat} {Cn host : String} {T : u_T} {ty : Nat → FieldType} (Kc : gx_cc cl tb ci Cn T N ty) (k : Nat) {a idx : Nat} {v : gx_V} {X2 : gx_H} (hk : k < N) (hfin : (T k).2.2.2 = false) (hlink : Cond.fieldLinkNest own idx (T k).1 (T k).2.1 (T k).2.2.1 host ∈ nb) (hn : narrow (ty k) (gx_t v) = gx_t v ∧ fits (ty k) (gx_t v) = true) (h : gx_pf X a ci k (gx_t v) = some X2) (hd : decode cc pc = .ok (.putfield idx, 3)) (kk : gx_W D cl nL p l e R s m args below meth c cells slots Q X2 (pc + 3) lv st) : gx_W D cl nL p l e R s m args below meth c cells slots Q X pc lv (v :: gx_r (some a) :: st) := fun H locs ls hR hS hL => by
  obtain ⟨fs, h1, h2, rfl⟩ := gx_pf_s h
  have hap := va_apart (own := own) (fun w hw => C.2.2.2.2.2.2.2.2.1 w hw args) Kc.2.1 ty Kc.2.2.1 Kc.2.2.2 C.2.2.2.2.2.2.va Kc.1
  obtain ⟨r, g1, cell, q1, q2, q3, q4⟩ := (hR.2.2 a _ h1).2
  have hr : r = (Cn, T, N) := Option.some.inj (g1.symm.trans Kc.1)
  subst hr
  obtain ⟨hSl, hfc, kC, hkC, hkind⟩ := C.2.2.2.2.2.2.1 ci _ Kc.1
  obtain ⟨cf, kf, fi, f, hi, hsl⟩ := hSl k hk
  have hlay := C.2.2.2.2.2.2.2.2.1 _ (Kc.2.1 _ (u_in_lay hk)) args
  unfold u_lay at hlay
  rw [if_neg (by rw [hfin]; decide)] at hlay
  have hst := (u_facts hfc hkC (u_lays (fun w hw => C.2.2.2.2.2.2.2.2.1 w hw args) Kc.2.1 hk) hi).1
  have h6 := u_store hfc hkC hkind hlay hi (Kc.2.2.1 k hk) hn.1 hn.2
  refine va_WputK C.1 C.2.1 (f := f) C.2.2.2.1 (va_Nw.use rfl (C.2.2.2.2.2.2.2.2.2.1 _ hlink)) hi hst (by rw [q2]; exact h6) q1 q3 (by rw [hsl]; exact k2_hasslot (q4 k hk)) rfl rfl hd fun H' e1 e2 e3 => ?_
  rw [hsl] at e1 ⊢
  exact kk H' _ ls (hR.put h1 e2 e3 ⟨_, Kc.1, t_OB.to (V := updV (vp_V fs) k (gx_t v)) ⟨_, e1, q2, q3, t_set q4 hap hk (gx_t v)⟩ (fun j _ => vp_updV_set h2 (gx_t v) j)⟩) (hS.put e2 e3 (hR.2.2 a _ h1).1) hL
theorem gx_putF (C : gx_C D cl aty tb nb p s m meth c cc nL own ret) {ci N : Nat} {Cn : String} {T : u_T} {ty : Nat → FieldType} (Kc : gx_cc cl tb ci Cn T N ty) (k : Nat) {a idx : Nat} {v : gx_V} {X2 : gx_H} (hk : k < N) (hfin : (T k).2.2.2 = true) (hin2 : meth.name = "<init>") (hdecl : (T k).1 = own) (hlink : Cond.fieldLink own idx (T k).1 (T k).2.1 (T k).2.2.1 ∈ tb) (hn : narrow (ty k) (gx_t v) = gx_t v ∧ fits (ty k) (gx_t v) = true) (h : gx_pf X a ci k (gx_t v) = some X2) (hd : decode cc pc = .ok (.putfield idx, 3)) (kk : gx_W D cl nL p l e R s m args below meth c cells slots Q X2 (pc + 3) lv st) : gx_W D cl nL p l e R s m args below meth c cells slots Q X pc lv (v :: gx_r (some a) :: st) := fun H locs ls hR hS hL => by
  obtain ⟨fs, h1, h2, rfl⟩ := gx_pf_s h
  have hap := va_apart (own := own) (fun w hw => C.2.2.2.2.2.2.2.2.1 w hw args) Kc.2.1 ty Kc.2.2.1 Kc.2.2.2 C.2.2.2.2.2.2.va Kc.1
  obtain ⟨r, g1, cell, q1, q2, q3, q4⟩ := (hR.2.2 a _ h1).2
  have hr : r = (Cn, T, N) := Option.some.inj (g1.symm.trans Kc.1)
  subst hr
  obtain ⟨hSl, hfc, kC, hkC, hkind⟩ := C.2.2.2.2.2.2.1 ci _ Kc.1
  obtain ⟨cf, kf, fi, f, hi, hsl⟩ := hSl k hk
  have hlay := C.2.2.2.2.2.2.2.2.1 _ (Kc.2.1 _ (u_in_lay hk)) args
  unfold u_lay at hlay
  rw [if_pos hfin] at hlay
  have hst := (u_facts hfc hkC (u_lays (fun w hw => C.2.2.2.2.2.2.2.2.1 w hw args) Kc.2.1 hk) hi).1
  have hcf : m.cls = cf := by
    obtain ⟨_, _, c', _, _, _, -, -, hf', -, -, -, hown2, -⟩ := Cond.laysFinal_spec hlay
    have e1 : c' = cf := by have := hi.symm.trans hf'; simp at this; exact this.1.symm
    rw [hdecl] at hown2
    rw [← e1]; exact Option.some.inj (C.2.2.2.1.symm.trans hown2)
  have h6 := u_fits hfc hkC hkind (Or.inr hlay) hi (Kc.2.2.1 k hk) hn.1 hn.2
  refine W.putFinK C.1 C.2.1 C.2.2.2.1 (C.2.2.2.2.2.2.2.2.1 _ hlink args) hi hst hcf hin2 (by rw [q2]; exact h6) q1 q3 (by rw [hsl]; exact k2_hasslot (q4 k hk)) rfl rfl hd fun H' e1 e2 e3 => ?_
  rw [hsl] at e1 ⊢
  exact kk H' _ ls (hR.put h1 e2 e3 ⟨_, Kc.1, t_OB.to (V := updV (vp_V fs) k (gx_t v)) ⟨_, e1, q2, q3, t_set q4 hap hk (gx_t v)⟩ (fun j _ => vp_updV_set h2 (gx_t v) j)⟩) (hS.put e2 e3 (hR.2.2 a _ h1).1) hL
theorem gx_iald (C : gx_C D cl aty tb nb p s m meth c cc nL own ret) {a t : Nat} {i : Int32} {x : Int32} (ht : aty[t]? = some .int) (h : gx_gai X a t i = some x) (hd : decode cc pc = .ok (.iaload, 1)) (kk : gx_W D cl nL p l e R s m args below meth c cells slots Q X (pc + 1) lv (gx_i x :: st)) : gx_W D cl nL p l e R s m args below meth c cells slots Q X pc lv (gx_i i :: gx_r (some a) :: st) := fun H locs ls hR hS hL => by
  obtain ⟨n, f, h1, h2, rfl⟩ := gx_gai_s h
  exact va_iald (D := D.1) (ws := [(a, gx_e D (.inl (t, n, .inl f)))]) (tys := [(D.2.1 t, .int)]) (cl := cl) C.1 C.2.1 (C.2.2.2.2.2.2.va1 ht) (hR.one h1) 0 0 rfl rfl h2 hd (kk H locs ls hR hS hL)
theorem gx_zald (C : gx_C D cl aty tb nb p s m meth c cc nL own ret) {a t : Nat} {i : Int32} {x : Int32} (ht : aty[t]? = some .boolean) (h : gx_gai X a t i = some x) (hd : decode cc pc = .ok (.baload, 1)) (kk : gx_W D cl nL p l e R s m args below meth c cells slots Q X (pc + 1) lv (gx_i x :: st)) : gx_W D cl nL p l e R s m args below meth c cells slots Q X pc lv (gx_i i :: gx_r (some a) :: st) := fun H locs ls hR hS hL => by
  obtain ⟨n, f, h1, h2, rfl⟩ := gx_gai_s h
  exact va_zald (D := D.1) (ws := [(a, gx_e D (.inl (t, n, .inl f)))]) (tys := [(D.2.1 t, .boolean)]) (cl := cl) C.1 C.2.1 (C.2.2.2.2.2.2.va1 ht) (hR.one h1) 0 0 rfl rfl h2 hd (kk H locs ls hR hS hL)
theorem gx_lald (C : gx_C D cl aty tb nb p s m meth c cc nL own ret) {a t : Nat} {i : Int32} {x : Int64} (ht : aty[t]? = some .long) (h : gx_gal X a t i = some x) (hd : decode cc pc = .ok (.laload, 1)) (kk : gx_W D cl nL p l e R s m args below meth c cells slots Q X (pc + 1) lv (gx_l x :: st)) : gx_W D cl nL p l e R s m args below meth c cells slots Q X pc lv (gx_i i :: gx_r (some a) :: st) := fun H locs ls hR hS hL => by
  obtain ⟨n, f, h1, h2, rfl⟩ := gx_gal_s h
  exact va_lald (D := D.1) (ws := [(a, gx_e D (.inl (t, n, .inr (.inl f))))]) (tys := [(D.2.1 t, .long)]) (cl := cl) C.1 C.2.1 (C.2.2.2.2.2.2.va1 ht) (hR.one h1) 0 0 rfl rfl h2 hd (kk H locs ls hR hS hL)
theorem gx_aald (C : gx_C D cl aty tb nb p s m meth c cc nL own ret) {a t : Nat} {i : Int32} {x : Option Nat} {Cn : String} (ht : aty[t]? = some (.object Cn)) (h : gx_gar X a t i = some x) (hd : decode cc pc = .ok (.aaload, 1)) (kk : gx_W D cl nL p l e R s m args below meth c cells slots Q X (pc + 1) lv (gx_r x :: st)) : gx_W D cl nL p l e R s m args below meth c cells slots Q X pc lv (gx_i i :: gx_r (some a) :: st) := fun H locs ls hR hS hL => by
  obtain ⟨n, f, h1, h2, rfl⟩ := gx_gar_s h
  exact va_aldq (D := D.1) (C := Cn) (ws := [(a, gx_e D (.inl (t, n, .inr (.inr (.inr (.inr f))))))]) (tys := [(D.2.1 t, .object Cn)]) (cl := cl) C.1 C.2.1 (C.2.2.2.2.2.2.va1 ht) (hR.one h1) 0 0 rfl rfl h2 hd (kk H locs ls hR hS hL)
theorem gx_iast (C : gx_C D cl aty tb nb p s m meth c cc nL own ret) {a t : Nat} {i : Int32} {x : Int32} {X2 : gx_H} (ht : aty[t]? = some .int) (h : gx_pai X a t i x = some X2) (hd : decode cc pc = .ok (.iastore, 1)) (kk : gx_W D cl nL p l e R s m args below meth c cells slots Q X2 (pc + 1) lv st) : gx_W D cl nL p l e R s m args below meth c cells slots Q X pc lv (gx_i x :: gx_i i :: gx_r (some a) :: st) := fun H locs ls hR hS hL => by
  obtain ⟨n, f, h1, h2, rfl⟩ := gx_pai_s h
  refine W.iast C.1 C.2.1 (hR.2.2 a _ h1).2 ((C.2.2.2.2.2.2.2.1 t _ ht).1 n (fun j => .int (f j))) (fun q => by cases q) (by show ¬ (i < 0 ∨ (arrV _ _ _).slots.size ≤ _); rw [arrV_size]; exact h2) rfl rfl hd fun H1 e1 z oq => ?_
  refine kk H1 _ ls (hR.put h1 z oq ?_) (hS.put z oq (hR.2.2 a _ h1).1) hL
  show H1[a]? = some (vp_cell _ _)
  rw [e1]
  show some (Cell.setSlot (vp_cell _ _) _ _) = some (vp_cell _ _)
  rw [vp_cell_i, vp_cell_i, arrV_store]
  congr 2
  funext q
  by_cases hq : q = i.toNatClampNeg
  · subst hq
    simp [updV, upd, vp_nar]
    try rfl
  · simp [updV, upd, hq]
theorem gx_zast (C : gx_C D cl aty tb nb p s m meth c cc nL own ret) {a t : Nat} {i : Int32} {x : Int32} {X2 : gx_H} (ht : aty[t]? = some .boolean) (h : gx_pai X a t i (vp_nar .boolean x) = some X2) (hd : decode cc pc = .ok (.bastore, 1)) (kk : gx_W D cl nL p l e R s m args below meth c cells slots Q X2 (pc + 1) lv st) : gx_W D cl nL p l e R s m args below meth c cells slots Q X pc lv (gx_i x :: gx_i i :: gx_r (some a) :: st) := fun H locs ls hR hS hL => by
  obtain ⟨n, f, h1, h2, rfl⟩ := gx_pai_s h
  refine W.zast C.1 C.2.1 (hR.2.2 a _ h1).2 ((C.2.2.2.2.2.2.2.1 t _ ht).1 n (fun j => .int (f j))) (fun q => by cases q) (by show ¬ (i < 0 ∨ (arrV _ _ _).slots.size ≤ _); rw [arrV_size]; exact h2) rfl rfl hd fun H1 e1 z oq => ?_
  refine kk H1 _ ls (hR.put h1 z oq ?_) (hS.put z oq (hR.2.2 a _ h1).1) hL
  show H1[a]? = some (vp_cell _ _)
  rw [e1]
  show some (Cell.setSlot (vp_cell _ _) _ _) = some (vp_cell _ _)
  rw [vp_cell_i, vp_cell_i, arrV_store]
  congr 2
  funext q
  by_cases hq : q = i.toNatClampNeg
  · subst hq
    simp [updV, upd, vp_nar]
    try rfl
  · simp [updV, upd, hq]
theorem gx_last (C : gx_C D cl aty tb nb p s m meth c cc nL own ret) {a t : Nat} {i : Int32} {x : Int64} {X2 : gx_H} (ht : aty[t]? = some .long) (h : gx_pal X a t i x = some X2) (hd : decode cc pc = .ok (.lastore, 1)) (kk : gx_W D cl nL p l e R s m args below meth c cells slots Q X2 (pc + 1) lv st) : gx_W D cl nL p l e R s m args below meth c cells slots Q X pc lv (gx_l x :: gx_i i :: gx_r (some a) :: st) := fun H locs ls hR hS hL => by
  obtain ⟨n, f, h1, h2, rfl⟩ := gx_pal_s h
  refine W.last C.1 C.2.1 (hR.2.2 a _ h1).2 ((C.2.2.2.2.2.2.2.1 t _ ht).1 n (fun j => .long (f j))) (fun q => by cases q) (by show ¬ (i < 0 ∨ (arrV _ _ _).slots.size ≤ _); rw [arrV_size]; exact h2) rfl rfl hd fun H1 e1 z oq => ?_
  refine kk H1 _ ls (hR.put h1 z oq ?_) (hS.put z oq (hR.2.2 a _ h1).1) hL
  show H1[a]? = some (vp_cell _ _)
  rw [e1]
  show some (Cell.setSlot (vp_cell _ _) _ _) = some (vp_cell _ _)
  rw [vp_cell_l, vp_cell_l, arrV_store]
  congr 2
  funext q
  by_cases hq : q = i.toNatClampNeg
  · subst hq
    simp [updV, vp_updL, vp_nar]
    try rfl
  · simp [updV, vp_updL, hq]
theorem gx_aast (C : gx_C D cl aty tb nb p s m meth c cc nL own ret) {a t v ci N : Nat} {i : Int32} {X2 : gx_H} {Cn : String} {T : u_T} (ht : aty[t]? = some (.object Cn)) (hcl : cl[ci]? = some (Cn, T, N)) (ho : gx_is X v ci = true) (h : gx_par X a t i (some v) = some X2) (hd : decode cc pc = .ok (.aastore, 1)) (kk : gx_W D cl nL p l e R s m args below meth c cells slots Q X2 (pc + 1) lv st) : gx_W D cl nL p l e R s m args below meth c cells slots Q X pc lv (gx_r (some v) :: gx_i i :: gx_r (some a) :: st) := fun H locs ls hR hS hL => by
  obtain ⟨n, f, h1, h2, rfl⟩ := gx_par_s h
  obtain ⟨vs, hv⟩ := gx_is_s ho
  have hlt : i.toNatClampNeg < n := Nat.not_le.mp fun q => h2 (Or.inr q)
  have h0 : ¬ i < 0 := fun q => h2 (Or.inl q)
  obtain ⟨r', hr', cellV, g1, g2, g3, -⟩ := (hR.2.2 v _ hv).2
  have hcls := (C.2.2.2.2.2.2.1 ci _ hcl).2
  obtain ⟨kA, comp, k1, k2, k3, -⟩ := (C.2.2.2.2.2.2.2.1 t _ ht).2
  have hcomp : comp = D.1.1 ci := Option.some.inj (k3.symm.trans hcls.1)
  subst hcomp
  obtain ⟨kC, hkC, -⟩ := hcls.2
  refine W.aast C.1 C.2.1 (hR.2.2 a _ h1).2 (fun q h => by cases h) (fun h => by cases h) k1 k2 rfl hkC ⟨h0, by show _ < (arrV _ _ _).slots.size; rw [arrV_size]; exact hlt⟩ g1 (fun q h => by rw [g3] at h; cases h) (by rw [g2]; exact hkC) (by rw [g2]; exact va_assign hcls) rfl rfl hd fun H1 e1 z oq => ?_
  refine kk H1 _ ls (hR.put h1 z oq ?_) (hS.put z oq (hR.2.2 a _ h1).1) hL
  show H1[a]? = some (vp_cell _ _)
  rw [e1]
  show some (Cell.setSlot (vp_cell _ _) _ _) = some (vp_cell _ _)
  rw [vp_cell_q, vp_cell_q, arrV_store]
  congr 2
  funext q
  by_cases hq : q = i.toNatClampNeg
  · subst hq
    simp [updV, va_up, va_rf]
  · simp [updV, va_up, hq]
theorem gx_alen (C : gx_C D cl aty tb nb p s m meth c cc nL own ret) {a t : Nat} {x : Int32} {ty : FieldType} (ht : aty[t]? = some ty) (h : gx_len X a t = some x) (hd : decode cc pc = .ok (.arraylength, 1)) (kk : gx_W D cl nL p l e R s m args below meth c cells slots Q X (pc + 1) lv (gx_i x :: st)) : gx_W D cl nL p l e R s m args below meth c cells slots Q X pc lv (gx_r (some a) :: st) := fun H locs ls hR hS hL => by
  obtain ⟨b, h1, h2⟩ := gx_len_s h
  exact va_alen (D := D.1) (ws := [(a, gx_e D (.inl (t, b)))]) (tys := [(D.2.1 t, ty)]) (cl := cl) C.1 C.2.1 (C.2.2.2.2.2.2.va1 ht) (hR.one h1) 0 0 rfl rfl h2 hd (kk H locs ls hR hS hL)
theorem gx_new (C : gx_C D cl aty tb nb p s m meth c cc nL own ret) {ci N idx : Nat} {Cn : String} {T : u_T} {ty : Nat → FieldType} (Kc : gx_cc cl tb ci Cn T N ty) (fs : List Value) (hl : Cond.classLink own idx Cn ∈ tb) (hi : Cond.instantiable Cn N ∈ tb) (hini : Cond.initialized Cn ∈ tb) (hfs : ∀ j, j < N → defaultValue (ty j) = vp_V fs j) (hcells : cells + 1 ≤ R.cells) (hslots : slots + N ≤ R.slots) (hd : decode cc pc = .ok (.new idx, 3)) (kk : gx_W D cl nL p l e R s m args below meth c (cells + 1) (slots + N) Q (gx_nw X (.inr (ci, fs))) (pc + 3) lv (gx_r (some X.2) :: st)) : gx_W D cl nL p l e R s m args below meth c cells slots Q X pc lv st := fun H locs ls hR hS hL => by
  have hKn := C.2.2.2.2.2.2.1 ci _ Kc.1
  refine W.newcK C.1 C.2.1 C.2.2.2.1 (C.2.2.2.2.2.2.2.2.1 _ hl args) (C.2.2.2.2.2.2.2.2.1 _ hi args) (C.2.2.2.2.2.2.2.2.1 _ hini args) rfl hd hcells hslots hKn.2.1 hR.1 fun H1 kC hkC e1 z1 o1 => ?_
  have z : H1.size = H.size + 1 := by rw [z1, hR.1]
  have oq : ∀ q : Nat, q < H.size → H1[q]? = H[q]? := fun q hq => o1 q (by rw [← hR.1]; exact hq)
  exact kk H1 locs ls (hR.push (e := .inr (ci, fs)) z oq ⟨_, Kc.1, (u_born ty (fun w hw => C.2.2.2.2.2.2.2.2.1 w hw args) Kc.2.1 hKn hkC e1 Kc.2.2.1).to hfs⟩) ⟨Nat.le_trans hS.1 (by omega), fun x h1 h2 => (oq x (Nat.lt_of_lt_of_le h1 hS.1)).trans (hS.2.1 x h1 h2), hS.2.2⟩ hL
theorem gx_newa (C : gx_C D cl aty tb nb p s m meth c cc nL own ret) {t : Nat} {atype : ArrayType} {ty : FieldType} {n : Int32} {N' : Nat} {a0 : vp_A} (ht : aty[t]? = some ty) (hty : newarray.typeOf atype = ty) (hp : ∀ (U : State) (cA : ClassId), va_RA U cA ty → U.vm.findClass ("[" ++ ty.toString) = some cA) (harr : Cond.arrayClass ty ∈ tb) (ha : ∀ cA : ClassId, vp_cell cA a0 = arrV cA N' (fun _ => defaultValue ty)) (hn : ¬ n < 0) (hN : n.toNatClampNeg = N') (hbytes : N' * componentBytes ty ≤ 536870912) (hcells : cells + 1 ≤ R.cells) (hslots : slots + N' ≤ R.slots) (hd : decode cc pc = .ok (.newarray atype, 2)) (kk : gx_W D cl nL p l e R s m args below meth c (cells + 1) (slots + N') Q (gx_nw X (.inl (t, a0))) (pc + 2) lv (gx_r (some X.2) :: st)) : gx_W D cl nL p l e R s m args below meth c cells slots Q X pc lv (gx_i n :: st) := fun H locs ls hR hS hL => by
  subst hty
  refine va_newaK C.1 C.2.1 (C.2.2.2.2.2.2.2.2.1 _ harr args) rfl hd rfl hn hN hbytes hcells hslots hR.1 fun H1 cA e1 z1 o1 hAr hNm => ?_
  have hcA : cA = D.2.1 t := Option.some.inj (hNm.symm.trans (hp s _ (C.2.2.2.2.2.2.2.1 t _ ht).2))
  subst hcA
  have z : H1.size = H.size + 1 := by rw [z1, hR.1]
  have oq : ∀ q : Nat, q < H.size → H1[q]? = H[q]? := fun q hq => o1 q (by rw [← hR.1]; exact hq)
  exact kk H1 locs ls (hR.push (e := .inl (t, a0)) z oq (by show H1[X.2]? = some (vp_cell _ _); rw [ha]; exact e1)) ⟨Nat.le_trans hS.1 (by omega), fun x h1 h2 => (oq x (Nat.lt_of_lt_of_le h1 hS.1)).trans (hS.2.1 x h1 h2), hS.2.2⟩ hL
theorem gx_anew (C : gx_C D cl aty tb nb p s m meth c cc nL own ret) {t idx : Nat} {Cn : String} {n : Int32} {N' : Nat} (ht : aty[t]? = some (.object Cn)) (hl : Cond.classLink own idx Cn ∈ tb) (hov : Cond.arrayOver (.object Cn) ∈ nb) (hn : ¬ n < 0) (hN : n.toNatClampNeg = N') (hbytes : N' * 4 ≤ 536870912) (hcells : cells + 1 ≤ R.cells) (hslots : slots + N' ≤ R.slots) (hd : decode cc pc = .ok (.anewarray idx, 3)) (kk : gx_W D cl nL p l e R s m args below meth c (cells + 1) (slots + N') Q (gx_nw X (.inl (t, N', .inr (.inr (.inr (.inr (fun _ => none))))))) (pc + 3) lv (gx_r (some X.2) :: st)) : gx_W D cl nL p l e R s m args below meth c cells slots Q X pc lv (gx_i n :: st) := fun H locs ls hR hS hL => by
  subst hN
  refine W.anew C.1 C.2.1 C.2.2.2.1 (C.2.2.2.2.2.2.2.2.1 _ hl args) (va_AO.use (C.2.2.2.2.2.2.2.2.2.1 _ hov)) rfl hd rfl hn hbytes hcells hslots fun cA kA comp f1 f2 f3 f4 => ?_
  obtain ⟨kA2, comp2, k1, k2, k3, k4⟩ := (C.2.2.2.2.2.2.2.1 t _ ht).2
  have hcA : cA = D.2.1 t := Option.some.inj (f1.symm.trans k4)
  subst hcA
  generalize hH1 : H.push ({ cls := D.2.1 t, slots := Array.replicate n.toNatClampNeg .null, vm := .none } : Cell) = H1
  have z : H1.size = H.size + 1 := by rw [← hH1, Array.size_push]
  have e1 : H1[H.size]? = some (arrV (D.2.1 t) n.toNatClampNeg (fun _ => .null)) := by rw [← hH1, Array.getElem?_push_size, ← arrV_new]
  have oq : ∀ q : Nat, q < H.size → H1[q]? = H[q]? := fun q hq => by rw [← hH1, Array.getElem?_push, if_neg (Nat.ne_of_lt hq)]
  rw [hR.1]
  exact kk H1 locs ls (hR.push (e := .inl (t, n.toNatClampNeg, .inr (.inr (.inr (.inr (fun _ => none)))))) z oq (by show H1[X.2]? = some (vp_cell _ _); rw [vp_cell_q, ← hR.1]; exact e1)) ⟨Nat.le_trans hS.1 (by omega), fun x h1 h2 => (oq x (Nat.lt_of_lt_of_le h1 hS.1)).trans (hS.2.1 x h1 h2), hS.2.2⟩ hL
theorem gx_objInit (C : gx_C D cl aty tb nb p s m meth c cc nL own ret) {idx a : Nat} (hl : Cond.methodLink own idx Lib.objectInit ∈ tb) (hi : Cond.instanceMethod Lib.objectInit ∈ tb) (hc : Cond.code Lib.objectInit ⟨#[0xb1]⟩ 1 none ∈ tb) (hd : decode cc pc = .ok (.invokespecial idx, 3)) (hfr : 1 ≤ R.frames) (hlo : (st.map (fun v => if gx_2 v = true then 2 else 1)).sum + 12 ≤ R.locals) (kk : gx_W D cl nL p l e R s m args below meth c cells slots Q X (pc + 3) lv st) : gx_W D cl nL p l e R s m args below meth c cells slots Q X pc lv (gx_r (some a) :: st) := fun H locs ls hR hS hL => by
  refine W.objInit C.1 C.2.1 C.2.2.2.1 (C.2.2.2.2.2.2.2.2.1 _ hl args) (C.2.2.2.2.2.2.2.2.1 _ hi args) (C.2.2.2.2.2.2.2.2.1 _ hc args) rfl (by rw [C.2.2.1]; exact hL.1) rfl hd hfr ?_ (kk H locs ls hR hS hL)
  have e0 : (F0 m pc ls (List.map gx_t (gx_r (some a) :: st))).monitorRoom = 0 := rfl
  have e1 : (fun v : Value => v.category) ∘ gx_t = fun v => if gx_2 v = true then 2 else 1 := funext fun v => gx_cat v
  rw [e0, List.map_map, e1, Nat.mul_zero, Nat.zero_add]
  exact hlo
theorem gx_iret {x : Int32} (C : gx_C D cl aty tb nb p s m meth c cc nL own (some .int)) (hd : decode cc pc = .ok (.ireturn, 1)) : gx_W D cl nL p l e R s m args below meth c cells slots (MQ below (gx_Q D cl (some (gx_i x)) X) args s cells slots (gx_Z D)) X pc lv [gx_i x] := fun H locs ls hR hS hL => W.iret C.1 C.2.1 C.2.2.2.2.1  (fun t ht hW => ⟨rfl, by rw [ht]; exact hR, hS.F ht⟩) hS.2.2 hd C.2.2.2.2.2.1
theorem gx_zret {x : Int32} (hx : x = 0 ∨ x = 1) (C : gx_C D cl aty tb nb p s m meth c cc nL own (some .boolean)) (hd : decode cc pc = .ok (.ireturn, 1)) : gx_W D cl nL p l e R s m args below meth c cells slots (MQ below (gx_Q D cl (some (gx_i x)) X) args s cells slots (gx_Z D)) X pc lv [gx_i x] := fun H locs ls hR hS hL => W.zret C.1 C.2.1 C.2.2.2.2.1 (gx_nz hx).1 (fun t ht hW => ⟨rfl, by rw [ht]; exact hR, hS.F ht⟩) hS.2.2 hd C.2.2.2.2.2.1
theorem gx_lret {x : Int64} (C : gx_C D cl aty tb nb p s m meth c cc nL own (some .long)) (hd : decode cc pc = .ok (.lreturn, 1)) : gx_W D cl nL p l e R s m args below meth c cells slots (MQ below (gx_Q D cl (some (gx_l x)) X) args s cells slots (gx_Z D)) X pc lv [gx_l x] := fun H locs ls hR hS hL => W.lret C.1 C.2.1 C.2.2.2.2.1  (fun t ht hW => ⟨rfl, by rw [ht]; exact hR, hS.F ht⟩) hS.2.2 hd C.2.2.2.2.2.1
theorem gx_vret  (C : gx_C D cl aty tb nb p s m meth c cc nL own none) (hd : decode cc pc = .ok (.return_, 1)) : gx_W D cl nL p l e R s m args below meth c cells slots (MQ below (gx_Q D cl none X) args s cells slots (gx_Z D)) X pc lv [] := fun H locs ls hR hS hL => W.vret C.1 C.2.1 C.2.2.2.2.1  (fun t ht hW => ⟨rfl, by rw [ht]; exact hR, hS.F ht⟩) hS.2.2 hd C.2.2.2.2.2.1
theorem gx_aret {Cn : String} {x : Option Nat} (C : gx_C D cl aty tb nb p s m meth c cc nL own (some (.object Cn))) (hd : decode cc pc = .ok (.areturn, 1)) : gx_W D cl nL p l e R s m args below meth c cells slots (MQ below (gx_Q D cl (some (gx_r x)) X) args s cells slots (gx_Z D)) X pc lv [gx_r x] := fun H locs ls hR hS hL => W.aret C.1 C.2.1 C.2.2.2.2.1 (Or.inl ⟨_, rfl⟩) (by cases x <;> first | exact Or.inl rfl | exact Or.inr ⟨_, rfl⟩) (fun t ht hW => ⟨rfl, by rw [ht]; exact hR, hS.F ht⟩) hS.2.2 hd C.2.2.2.2.2.1
theorem gx_blind {D : gx_D} {cl : List vw_C} {aty : List FieldType} {tb nb : List Cond} {av : List gx_V} {X : gx_H} : FrameBlind (gx_Pc D cl aty tb nb av X) := fun a U g mk h => ⟨h.1, h.2.1, h.2.2.same rfl⟩
theorem gx_after {H : Heap} {locs : List Loc} {ls : Array Slot} {nc ns : Nat} {r : Option gx_V} {X2 : gx_H} {stk : List Value} {av : Array Value} (hR : gx_R D cl X H) (hS : va_S (gx_Z D) s.heap H locs) (hL : gx_L ls nL lv) (hr : va_Run p l e R s m args below meth c H locs cells slots nc ns (F0 m pc ls stk) (st.map gx_t) (gx_Q D cl r X2 av) (gx_Z D)) (kk : gx_W D cl nL p l e R s m args below meth c (cells + nc) (slots + ns) Q X2 (pc + 3) lv (r.toList ++ st)) : W p l e R s m args below meth c H locs cells slots Q (F0 m pc ls stk) := by
  intro T hT S
  obtain ⟨v, st₀, t, T', L, h0, S', hLc, e1, e2, ⟨hv, hX2, hz, hk⟩, go⟩ := hr T hT S
  have hv' : v = r.map gx_t := by
    have := hv
    simpa using this
  subst hv'
  rw [h0] at hz hk
  have hstk : (r.map gx_t).toList ++ st.map gx_t = (r.toList ++ st).map gx_t := by cases r <;> rfl
  obtain ⟨t2, a1, b1⟩ := kk t.heap (locs ++ L) ls hX2 ⟨Nat.le_trans hS.1 hz, fun q h1 h2 => by rw [hk q (Nat.lt_of_lt_of_le h1 hS.1) h2]; exact hS.2.1 q h1 h2, fun q hq => by
      rcases List.mem_append.mp hq with h | h
      · exact hS.2.2 q h
      · exact hLc q h⟩ hL T' e1 S'
  refine ⟨t2, go t2 ?_, b1⟩
  rw [hstk]
  exact a1
theorem gx_cb (C : gx_C D cl aty tb nb p s m meth c cc nL own ret) {y : MethodName} {bytes : ByteArray} {maxL : Nat} {retc : Option FieldType} {n fr lo nc ns idx : Nat} {r : Option gx_V} {X2 : gx_H} {stk stk2 : List gx_V} (cd : gx_cd tb y bytes maxL retc n) (hl : Cond.methodLink own idx y ∈ tb) (hR0 : fr + 1 ≤ R.frames ∧ 8 + (maxL + 11) + lo ≤ R.locals) : CallB R s args own idx y bytes maxL retc [.code y bytes maxL retc] (gx_rm fr lo nc ns) nc ns n := by
  refine ⟨rfl, rfl, hR0.1, hR0.2, fun w hw a' U hW => ?_, List.mem_cons_self, C.2.2.2.2.2.2.2.2.1 _ cd.1 args, C.2.2.2.2.2.2.2.2.1 _ cd.2.1 args, ⟨cd.2.2.1, cd.2.2.2.1⟩, fun sig h => ?_, C.2.2.2.2.2.2.2.2.1 _ hl args⟩
  · rw [List.mem_singleton.mp hw]
    exact (C.2.2.2.2.2.2.moved hW).2.2.1 _ cd.1 a'
  · have h2 := cd.2.2.2.2
    rw [h] at h2
    exact (Option.some.inj h2).symm
theorem gx_cn (C : gx_C D cl aty tb nb p s m meth c cc nL own ret) {y : MethodName} {bytes : ByteArray} {maxL : Nat} {retc : Option FieldType} {n fr lo nc ns idx : Nat} {r : Option gx_V} {X2 : gx_H} {stk stk2 : List gx_V} {host : String} (cd : gx_cd tb y bytes maxL retc n) (hl : Cond.methodLinkNest own idx y host ∈ nb) (hR0 : fr + 1 ≤ R.frames ∧ 8 + (maxL + 11) + lo ≤ R.locals) : va_CN R s args own idx y host bytes maxL retc [.code y bytes maxL retc] (gx_rm fr lo nc ns) nc ns n := by
  refine ⟨⟨rfl, rfl, hR0.1, hR0.2, fun w hw a' U hW => ?_, List.mem_cons_self⟩, C.2.2.2.2.2.2.2.2.1 _ cd.1 args, C.2.2.2.2.2.2.2.2.1 _ cd.2.1 args, ⟨cd.2.2.1, cd.2.2.2.1⟩, fun sig h => ?_, va_Nw.use rfl (C.2.2.2.2.2.2.2.2.2.1 _ hl)⟩
  · rw [List.mem_singleton.mp hw]
    exact (C.2.2.2.2.2.2.moved hW).2.2.1 _ cd.1 a'
  · have h2 := cd.2.2.2.2
    rw [h] at h2
    exact (Option.some.inj h2).symm
theorem gx_room {m : MethodId} {pc : Nat} {ls : Array Slot} {stk : List Value} (hst : (st.map (fun v => if gx_2 v = true then 2 else 1)).sum ≤ 8) : 2 * (F0 m pc ls stk).monitorRoom + ((st.map gx_t).map fun v => v.category).sum ≤ 8 := by
  refine lv_room ?_
  rw [List.map_map]
  have e : (fun v : Value => v.category) ∘ gx_t = fun v => if gx_2 v = true then 2 else 1 := funext fun v => gx_cat v
  rw [e]
  exact hst
theorem gx_recv (C : gx_C D cl aty tb nb p s m meth c cc nL own ret) {a ci N : Nat} {Cn : String} {T : u_T} {H : Heap} (hR : gx_R D cl X H) (hcl : cl[ci]? = some (Cn, T, N)) (ho : gx_is X a ci = true) : ∃ cell : Cell, H[a]? = some cell ∧ cell.vm.isStatics = false ∧ s.vm.findClass Cn = some cell.cls := by
  obtain ⟨fs, hv⟩ := gx_is_s ho
  exact va_recv (D := D.1) (ws := [(a, gx_e D (.inr (ci, fs)))]) C.2.2.2.2.2.2.va (hR.one hv) hcl (q0 := 0) rfl
theorem gx_callV (C : gx_C D cl aty tb nb p s m meth c cc nL own ret) {y : MethodName} {bytes : ByteArray} {maxL : Nat} {retc : Option FieldType} {n fr lo nc ns idx : Nat} {r : Option gx_V} {X2 : gx_H} {stk stk2 : List gx_V} {a ci N : Nat} {T : u_T} {As : List gx_V} (cd : gx_cd tb y bytes maxL retc n) (hi : Cond.instanceMethod y ∈ tb) (hs : Cond.selects y.cls y y ∈ tb) (hl : Cond.methodLink own idx y ∈ tb) (hcl : cl[ci]? = some (y.cls, T, N)) (ho : gx_is X a ci = true) (hM : gx_M D cl aty tb nb l y bytes maxL retc fr lo (gx_r (some a) :: As) X r X2 nc ns) (hn : As.length = n) (hR0 : fr + 1 ≤ R.frames ∧ 8 + (maxL + 11) + lo ≤ R.locals) (hc : cells + nc ≤ R.cells ∧ slots + ns ≤ R.slots) (hst : (st.map (fun v => if gx_2 v = true then 2 else 1)).sum ≤ 8) (hstk : stk = As.reverse ++ gx_r (some a) :: st) (hs2 : r.toList ++ st = stk2) (hd : decode cc pc = .ok (.invokevirtual idx, 3)) (kk : gx_W D cl nL p l e R s m args below meth c (cells + nc) (slots + ns) Q X2 (pc + 3) lv stk2) : gx_W D cl nL p l e R s m args below meth c cells slots Q X pc lv stk := fun H locs ls hR hS hL => by
  subst hstk
  subst hs2
  refine gx_after (X2 := X2) (r := r) (st := st) hR hS hL (va_runV (b := a) (As := As.map gx_t) (rest := st.map gx_t) (C := y.cls) (n := n) (Ts := []) (nL := nL) (own := own) ⟨C.1, C.2.1, C.2.2.1, C.2.2.2.1, fun w hw => by cases hw⟩ hM ⟨gx_cb C (n := n) (fr := fr) (lo := lo) (nc := nc) (ns := ns) (r := r) (X2 := X2) (stk := []) (stk2 := []) cd hl hR0, C.2.2.2.2.2.2.2.2.1 _ hi args, C.2.2.2.2.2.2.2.2.1 _ hs args⟩ ⟨gx_blind, gx_recv C hR hcl ho, fun U hU hW => ⟨rfl, by rw [hU]; exact hR, C.2.2.2.2.2.2.moved hW⟩⟩ rfl (by rw [List.length_map]; exact hn) hL.1 ?_ (gx_room hst) hd hc) kk
  show List.map gx_t (As.reverse ++ gx_r (some a) :: st) = _
  rw [List.map_append, List.map_reverse]
  rfl
theorem gx_callVN (C : gx_C D cl aty tb nb p s m meth c cc nL own ret) {y : MethodName} {bytes : ByteArray} {maxL : Nat} {retc : Option FieldType} {n fr lo nc ns idx : Nat} {r : Option gx_V} {X2 : gx_H} {stk stk2 : List gx_V} {host : String} {a ci N : Nat} {T : u_T} {As : List gx_V} (cd : gx_cd tb y bytes maxL retc n) (hi : Cond.instanceMethod y ∈ tb) (hs : Cond.selects y.cls y y ∈ tb) (hl : Cond.methodLinkNest own idx y host ∈ nb) (hcl : cl[ci]? = some (y.cls, T, N)) (ho : gx_is X a ci = true) (hM : gx_M D cl aty tb nb l y bytes maxL retc fr lo (gx_r (some a) :: As) X r X2 nc ns) (hn : As.length = n) (hR0 : fr + 1 ≤ R.frames ∧ 8 + (maxL + 11) + lo ≤ R.locals) (hc : cells + nc ≤ R.cells ∧ slots + ns ≤ R.slots) (hst : (st.map (fun v => if gx_2 v = true then 2 else 1)).sum ≤ 8) (hstk : stk = As.reverse ++ gx_r (some a) :: st) (hs2 : r.toList ++ st = stk2) (hd : decode cc pc = .ok (.invokevirtual idx, 3)) (kk : gx_W D cl nL p l e R s m args below meth c (cells + nc) (slots + ns) Q X2 (pc + 3) lv stk2) : gx_W D cl nL p l e R s m args below meth c cells slots Q X pc lv stk := fun H locs ls hR hS hL => by
  subst hstk
  subst hs2
  refine gx_after (X2 := X2) (r := r) (st := st) hR hS hL (va_runVN (b := a) (As := As.map gx_t) (rest := st.map gx_t) (C := y.cls) (n := n) (Ts := []) (nL := nL) (own := own) ⟨C.1, C.2.1, C.2.2.1, C.2.2.2.1, fun w hw => by cases hw⟩ hM ⟨gx_cn C (n := n) (fr := fr) (lo := lo) (nc := nc) (ns := ns) (r := r) (X2 := X2) (stk := []) (stk2 := []) cd hl hR0, C.2.2.2.2.2.2.2.2.1 _ hi args, C.2.2.2.2.2.2.2.2.1 _ hs args⟩ ⟨gx_blind, gx_recv C hR hcl ho, fun U hU hW => ⟨rfl, by rw [hU]; exact hR, C.2.2.2.2.2.2.moved hW⟩⟩ rfl (by rw [List.length_map]; exact hn) hL.1 ?_ (gx_room hst) hd hc) kk
  show List.map gx_t (As.reverse ++ gx_r (some a) :: st) = _
  rw [List.map_append, List.map_reverse]
  rfl
theorem gx_callI (C : gx_C D cl aty tb nb p s m meth c cc nL own ret) {y : MethodName} {bytes : ByteArray} {maxL : Nat} {retc : Option FieldType} {n fr lo nc ns idx : Nat} {r : Option gx_V} {X2 : gx_H} {stk stk2 : List gx_V} {a : Nat} {As : List gx_V} (cd : gx_cd tb y bytes maxL none n) (hi : Cond.instanceMethod y ∈ tb) (hy1 : y.name = "<init>") (hl : Cond.methodLink own idx y ∈ tb) (hM : gx_M D cl aty tb nb l y bytes maxL none fr lo (gx_r (some a) :: As) X r X2 nc ns) (hn : As.length = n) (hR0 : fr + 1 ≤ R.frames ∧ 8 + (maxL + 11) + lo ≤ R.locals) (hc : cells + nc ≤ R.cells ∧ slots + ns ≤ R.slots) (hst : (st.map (fun v => if gx_2 v = true then 2 else 1)).sum ≤ 8) (hstk : stk = As.reverse ++ gx_r (some a) :: st) (hs2 : r.toList ++ st = stk2) (hd : decode cc pc = .ok (.invokespecial idx, 3)) (kk : gx_W D cl nL p l e R s m args below meth c (cells + nc) (slots + ns) Q X2 (pc + 3) lv stk2) : gx_W D cl nL p l e R s m args below meth c cells slots Q X pc lv stk := fun H locs ls hR hS hL => by
  subst hstk
  subst hs2
  refine gx_after (X2 := X2) (r := r) (st := st) hR hS hL (va_runI (b := a) (As := As.map gx_t) (rest := st.map gx_t) (n := n) (Ts := []) (nL := nL) (own := own) ⟨C.1, C.2.1, C.2.2.1, C.2.2.2.1, fun w hw => by cases hw⟩ hM ⟨gx_cb C (n := n) (fr := fr) (lo := lo) (nc := nc) (ns := ns) (r := r) (X2 := X2) (stk := []) (stk2 := []) cd hl hR0, hy1, C.2.2.2.2.2.2.2.2.1 _ hi args⟩ ⟨gx_blind, fun U hU hW => ⟨rfl, by rw [hU]; exact hR, C.2.2.2.2.2.2.moved hW⟩⟩ rfl (by rw [List.length_map]; exact hn) hL.1 ?_ (gx_room hst) hd hc) kk
  show List.map gx_t (As.reverse ++ gx_r (some a) :: st) = _
  rw [List.map_append, List.map_reverse]
  rfl
theorem gx_callIN (C : gx_C D cl aty tb nb p s m meth c cc nL own ret) {y : MethodName} {bytes : ByteArray} {maxL : Nat} {retc : Option FieldType} {n fr lo nc ns idx : Nat} {r : Option gx_V} {X2 : gx_H} {stk stk2 : List gx_V} {host : String} {a : Nat} {As : List gx_V} (cd : gx_cd tb y bytes maxL none n) (hi : Cond.instanceMethod y ∈ tb) (hy1 : y.name = "<init>") (hl : Cond.methodLinkNest own idx y host ∈ nb) (hM : gx_M D cl aty tb nb l y bytes maxL none fr lo (gx_r (some a) :: As) X r X2 nc ns) (hn : As.length = n) (hR0 : fr + 1 ≤ R.frames ∧ 8 + (maxL + 11) + lo ≤ R.locals) (hc : cells + nc ≤ R.cells ∧ slots + ns ≤ R.slots) (hst : (st.map (fun v => if gx_2 v = true then 2 else 1)).sum ≤ 8) (hstk : stk = As.reverse ++ gx_r (some a) :: st) (hs2 : r.toList ++ st = stk2) (hd : decode cc pc = .ok (.invokespecial idx, 3)) (kk : gx_W D cl nL p l e R s m args below meth c (cells + nc) (slots + ns) Q X2 (pc + 3) lv stk2) : gx_W D cl nL p l e R s m args below meth c cells slots Q X pc lv stk := fun H locs ls hR hS hL => by
  subst hstk
  subst hs2
  refine gx_after (X2 := X2) (r := r) (st := st) hR hS hL (va_runIN (b := a) (As := As.map gx_t) (rest := st.map gx_t) (n := n) (Ts := []) (nL := nL) (own := own) ⟨C.1, C.2.1, C.2.2.1, C.2.2.2.1, fun w hw => by cases hw⟩ hM ⟨gx_cn C (n := n) (fr := fr) (lo := lo) (nc := nc) (ns := ns) (r := r) (X2 := X2) (stk := []) (stk2 := []) cd hl hR0, hy1, C.2.2.2.2.2.2.2.2.1 _ hi args⟩ ⟨gx_blind, fun U hU hW => ⟨rfl, by rw [hU]; exact hR, C.2.2.2.2.2.2.moved hW⟩⟩ rfl (by rw [List.length_map]; exact hn) hL.1 ?_ (gx_room hst) hd hc) kk
  show List.map gx_t (As.reverse ++ gx_r (some a) :: st) = _
  rw [List.map_append, List.map_reverse]
  rfl
theorem gx_callS (C : gx_C D cl aty tb nb p s m meth c cc nL own ret) {y : MethodName} {bytes : ByteArray} {maxL : Nat} {retc : Option FieldType} {n fr lo nc ns idx : Nat} {r : Option gx_V} {X2 : gx_H} {stk stk2 : List gx_V} {As : List gx_V} (cd : gx_cd tb y bytes maxL retc n) (hi : Cond.static y ∈ tb) (hl : Cond.methodLink own idx y ∈ tb) (hM : gx_M D cl aty tb nb l y bytes maxL retc fr lo As X r X2 nc ns) (hn : As.length = n) (hR0 : fr + 1 ≤ R.frames ∧ 8 + (maxL + 11) + lo ≤ R.locals) (hc : cells + nc ≤ R.cells ∧ slots + ns ≤ R.slots) (hst : (st.map (fun v => if gx_2 v = true then 2 else 1)).sum ≤ 8) (hstk : stk = As.reverse ++ st) (hs2 : r.toList ++ st = stk2) (hd : decode cc pc = .ok (.invokestatic idx, 3)) (kk : gx_W D cl nL p l e R s m args below meth c (cells + nc) (slots + ns) Q X2 (pc + 3) lv stk2) : gx_W D cl nL p l e R s m args below meth c cells slots Q X pc lv stk := fun H locs ls hR hS hL => by
  subst hstk
  subst hs2
  refine gx_after (X2 := X2) (r := r) (st := st) hR hS hL (va_runS (As := As.map gx_t) (rest := st.map gx_t) (n := n) (Ts := []) (nL := nL) (own := own) ⟨C.1, C.2.1, C.2.2.1, C.2.2.2.1, fun w hw => by cases hw⟩ hM ⟨gx_cb C (n := n) (fr := fr) (lo := lo) (nc := nc) (ns := ns) (r := r) (X2 := X2) (stk := []) (stk2 := []) cd hl hR0, C.2.2.2.2.2.2.2.2.1 _ hi args⟩ ⟨gx_blind, fun U hU hW => ⟨rfl, by rw [hU]; exact hR, C.2.2.2.2.2.2.moved hW⟩⟩ rfl (by rw [List.length_map]; exact hn) hL.1 ?_ (gx_room hst) hd hc) kk
  show List.map gx_t (As.reverse ++ st) = _
  rw [List.map_append, List.map_reverse]
theorem gx_callSN (C : gx_C D cl aty tb nb p s m meth c cc nL own ret) {y : MethodName} {bytes : ByteArray} {maxL : Nat} {retc : Option FieldType} {n fr lo nc ns idx : Nat} {r : Option gx_V} {X2 : gx_H} {stk stk2 : List gx_V} {host : String} {As : List gx_V} (cd : gx_cd tb y bytes maxL retc n) (hi : Cond.static y ∈ tb) (hl : Cond.methodLinkNest own idx y host ∈ nb) (hM : gx_M D cl aty tb nb l y bytes maxL retc fr lo As X r X2 nc ns) (hn : As.length = n) (hR0 : fr + 1 ≤ R.frames ∧ 8 + (maxL + 11) + lo ≤ R.locals) (hc : cells + nc ≤ R.cells ∧ slots + ns ≤ R.slots) (hst : (st.map (fun v => if gx_2 v = true then 2 else 1)).sum ≤ 8) (hstk : stk = As.reverse ++ st) (hs2 : r.toList ++ st = stk2) (hd : decode cc pc = .ok (.invokestatic idx, 3)) (kk : gx_W D cl nL p l e R s m args below meth c (cells + nc) (slots + ns) Q X2 (pc + 3) lv stk2) : gx_W D cl nL p l e R s m args below meth c cells slots Q X pc lv stk := fun H locs ls hR hS hL => by
  subst hstk
  subst hs2
  refine gx_after (X2 := X2) (r := r) (st := st) hR hS hL (va_runSN (As := As.map gx_t) (rest := st.map gx_t) (n := n) (Ts := []) (nL := nL) (own := own) ⟨C.1, C.2.1, C.2.2.1, C.2.2.2.1, fun w hw => by cases hw⟩ hM ⟨gx_cn C (n := n) (fr := fr) (lo := lo) (nc := nc) (ns := ns) (r := r) (X2 := X2) (stk := []) (stk2 := []) cd hl hR0, C.2.2.2.2.2.2.2.2.1 _ hi args, trivial⟩ ⟨gx_blind, fun U hU hW => ⟨rfl, by rw [hU]; exact hR, C.2.2.2.2.2.2.moved hW⟩⟩ rfl (by rw [List.length_map]; exact hn) hL.1 ?_ (gx_room hst) hd hc) kk
  show List.map gx_t (As.reverse ++ st) = _
  rw [List.map_append, List.map_reverse]
theorem gx_widen {k n : Nat} (h1 : cells ≤ k) (h2 : slots ≤ n) (kk : gx_W D cl nL p l e R s m args below meth c k n Q X pc lv st) : gx_W D cl nL p l e R s m args below meth c cells slots Q X pc lv st := fun H locs ls hR hS hL => W.widen h1 h2 (kk H locs ls hR hS hL)
end GY
theorem gx_enter {D : gx_D} {cl : List vw_C} {aty : List FieldType} {tb nb : List Cond} {l : Launch} {y : MethodName} {bytes : ByteArray} {maxL : Nat} {ret : Option FieldType} {fr lo : Nat} {av : List gx_V} {X : gx_H} {r : Option gx_V} {X2 : gx_H} {nc ns : Nat} (lv0 : List (Option gx_V)) (hlv : gx_pad maxL (gx_en av) = lv0) (hy : plainName y.cls = true) (hle : (gx_en av).length ≤ maxL)
    (body : ∀ (p : Program) (e : Env) (s : State) (m : MethodId) (below : List Frame) (meth : Method) (c : Code), gx_C D cl aty tb nb p s m meth c bytes maxL y.cls ret → meth.name = y.name →
      gx_W D cl maxL p l e (gx_rm fr lo nc ns) s m (av.map gx_t).toArray below meth c 0 0 (MQ below (gx_Q D cl r X2) (av.map gx_t).toArray s nc ns (gx_Z D)) X 0 lv0 []) : gx_M D cl aty tb nb l y bytes maxL ret fr lo av X r X2 nc ns := by
  subst hlv
  refine Met.ofW (cc := bytes) (maxL := maxL) (ret := ret) hy rfl ?_
  intro p e s m args below meth c s₁ B hml hv
  obtain ⟨rfl, hR, hK⟩ := hv
  have hW := body p e s m below meth c ⟨B.exec, B.bytes, hml, findClass_of_methodNamed B.named, B.returns, B.notSynchronized, hK⟩ (name_of_methodNamed B.named B.method).1
  have hl := lv_entry (av.map gx_t) (n := maxL) (by rw [gx_sl_len]; exact hle)
  rw [lg_entry_eq]
  exact hW s.heap [] _ hR va_S.rf ⟨hl.1, hl.2.1, fun i v h => by
    have h1 := gx_en_at av 0 i v (gx_pad_at h)
    rw [Nat.zero_add] at h1
    exact hl.2.2 _ h1⟩
end
section
/-! names of classes, fields, methods (as the program prints them), and their words in the tables -/
def RX0 : String := "GuardFlow$Body"
def TX0 : u_T := fun k => match k with
  | 0 => ("GuardFlow$Body", "place", "I", true)
  | 1 => ("GuardFlow$Body", "kind", "[I", true)
  | 2 => ("GuardFlow$Body", "number", "[I", true)
  | 3 => ("GuardFlow$Body", "from", "[I", true)
  | 4 => ("GuardFlow$Body", "to", "[I", true)
  | 5 => ("GuardFlow$Body", "target", "[I", true)
  | 6 => ("GuardFlow$Body", "length", "I", false)
  | 7 => ("GuardFlow$Body", "handlers", "I", false)
  | 8 => ("GuardFlow$Body", "may", "[J", true)
  | 9 => ("GuardFlow$Body", "waiting", "[Z", true)
  | 10 => ("GuardFlow$Body", "aimedAt", "[Z", true)
  | 11 => ("GuardFlow$Body", "entry", "J", false)
  | 12 => ("GuardFlow$Body", "exit", "J", false)
  | 13 => ("GuardFlow$Body", "all", "J", false)
  | _ => ("GuardFlow$Body", "grown", "Z", false)
def tyX0 : Nat → FieldType := fun k => match k with
  | 0 => .int
  | 1 => .array .int
  | 2 => .array .int
  | 3 => .array .int
  | 4 => .array .int
  | 5 => .array .int
  | 6 => .int
  | 7 => .int
  | 8 => .array .long
  | 9 => .array .boolean
  | 10 => .array .boolean
  | 11 => .long
  | 12 => .long
  | 13 => .long
  | _ => .boolean
theorem nmX0 : ∀ a, a < 15 → ∀ b, b < 15 → a ≠ b → (TX0 a).2.1 ≠ (TX0 b).2.1 := by decide +kernel
theorem tyX0_ok : ∀ k, k < 15 → parseFieldDescriptor (TX0 k).2.2.1 = some (tyX0 k) := by decide +kernel
def RX1 : String := "GuardFlow$Flow"
def TX1 : u_T := fun k => match k with
  | 0 => ("GuardFlow$Flow", "table", "LGuardFlow$Table;", true)
  | 1 => ("GuardFlow$Flow", "stack", "[I", true)
  | 2 => ("GuardFlow$Flow", "top", "I", false)
  | _ => ("GuardFlow$Flow", "someGrown", "Z", false)
def tyX1 : Nat → FieldType := fun k => match k with
  | 0 => .object "GuardFlow$Table"
  | 1 => .array .int
  | 2 => .int
  | _ => .boolean
theorem nmX1 : ∀ a, a < 4 → ∀ b, b < 4 → a ≠ b → (TX1 a).2.1 ≠ (TX1 b).2.1 := by decide +kernel
theorem tyX1_ok : ∀ k, k < 4 → parseFieldDescriptor (TX1 k).2.2.1 = some (tyX1 k) := by decide +kernel
def RX2 : String := "GuardFlow$Forger"
def TX2 : u_T := fun k => match k with
  | 0 => ("GuardFlow$Forger", "table", "LGuardFlow$Table;", true)
  | _ => ("GuardFlow$Forger", "places", "[I", true)
def tyX2 : Nat → FieldType := fun k => match k with
  | 0 => .object "GuardFlow$Table"
  | _ => .array .int
theorem nmX2 : ∀ a, a < 2 → ∀ b, b < 2 → a ≠ b → (TX2 a).2.1 ≠ (TX2 b).2.1 := by decide +kernel
theorem tyX2_ok : ∀ k, k < 2 → parseFieldDescriptor (TX2 k).2.2.1 = some (tyX2 k) := by decide +kernel
def RX3 : String := "GuardFlow$Program"
def TX3 : u_T := fun k => match k with
  | 0 => ("GuardFlow$Program", "bodies", "[LGuardFlow$Body;", true)
  | 1 => ("GuardFlow$Program", "count", "I", false)
  | _ => ("GuardFlow$Program", "settled", "Z", false)
def tyX3 : Nat → FieldType := fun k => match k with
  | 0 => .array (.object "GuardFlow$Body")
  | 1 => .int
  | _ => .boolean
theorem nmX3 : ∀ a, a < 3 → ∀ b, b < 3 → a ≠ b → (TX3 a).2.1 ≠ (TX3 b).2.1 := by decide +kernel
theorem tyX3_ok : ∀ k, k < 3 → parseFieldDescriptor (TX3 k).2.2.1 = some (tyX3 k) := by decide +kernel
def RX4 : String := "GuardFlow$Table"
def TX4 : u_T := fun k => match k with
  | 0 => ("GuardFlow$Table", "always", "[Z", true)
  | 1 => ("GuardFlow$Table", "ways", "[J", true)
  | 2 => ("GuardFlow$Table", "states", "I", false)
  | _ => ("GuardFlow$Table", "wayCount", "I", false)
def tyX4 : Nat → FieldType := fun k => match k with
  | 0 => .array .boolean
  | 1 => .array .long
  | 2 => .int
  | _ => .int
theorem nmX4 : ∀ a, a < 4 → ∀ b, b < 4 → a ≠ b → (TX4 a).2.1 ≠ (TX4 b).2.1 := by decide +kernel
theorem tyX4_ok : ∀ k, k < 4 → parseFieldDescriptor (TX4 k).2.2.1 = some (tyX4 k) := by decide +kernel
def RX5 : String := "GuardFlow"
def TX5 : u_T := fun k => match k with
  | 0 => ("GuardFlow", "table", "LGuardFlow$Table;", true)
  | 1 => ("GuardFlow", "flow", "LGuardFlow$Flow;", true)
  | 2 => ("GuardFlow", "forger", "LGuardFlow$Forger;", true)
  | 3 => ("GuardFlow", "current", "LGuardFlow$Program;", false)
  | 4 => ("GuardFlow", "beside", "LGuardFlow$Program;", false)
  | _ => ("GuardFlow", "somethingForged", "Z", false)
def tyX5 : Nat → FieldType := fun k => match k with
  | 0 => .object "GuardFlow$Table"
  | 1 => .object "GuardFlow$Flow"
  | 2 => .object "GuardFlow$Forger"
  | 3 => .object "GuardFlow$Program"
  | 4 => .object "GuardFlow$Program"
  | _ => .boolean
theorem nmX5 : ∀ a, a < 6 → ∀ b, b < 6 → a ≠ b → (TX5 a).2.1 ≠ (TX5 b).2.1 := by decide +kernel
theorem tyX5_ok : ∀ k, k < 6 → parseFieldDescriptor (TX5 k).2.2.1 = some (tyX5 k) := by decide +kernel
def RX6 : String := "GuardFlowModel"
def TX6 : u_T := fun k => match k with
  | 0 => ("GuardFlowModel", "thrown", "I", false)
  | 1 => ("GuardFlowModel", "states", "I", false)
  | 2 => ("GuardFlowModel", "ways", "[Z", true)
  | 3 => ("GuardFlowModel", "needed", "[Z", true)
  | 4 => ("GuardFlowModel", "many", "[I", true)
  | 5 => ("GuardFlowModel", "sizes", "[I", true)
  | 6 => ("GuardFlowModel", "handlers", "[I", true)
  | 7 => ("GuardFlowModel", "kinds", "[I", true)
  | 8 => ("GuardFlowModel", "numbers", "[I", true)
  | 9 => ("GuardFlowModel", "froms", "[I", true)
  | 10 => ("GuardFlowModel", "tos", "[I", true)
  | 11 => ("GuardFlowModel", "targets", "[I", true)
  | 12 => ("GuardFlowModel", "isForged", "Z", false)
  | 13 => ("GuardFlowModel", "found", "[Z", true)
  | 14 => ("GuardFlowModel", "mays", "[J", true)
  | 15 => ("GuardFlowModel", "entries", "[J", true)
  | 16 => ("GuardFlowModel", "exits", "[J", true)
  | 17 => ("GuardFlowModel", "alls", "[J", true)
  | 18 => ("GuardFlowModel", "more", "Z", false)
  | _ => ("GuardFlowModel", "shifts", "[I", true)
def tyX6 : Nat → FieldType := fun k => match k with
  | 0 => .int
  | 1 => .int
  | 2 => .array .boolean
  | 3 => .array .boolean
  | 4 => .array .int
  | 5 => .array .int
  | 6 => .array .int
  | 7 => .array .int
  | 8 => .array .int
  | 9 => .array .int
  | 10 => .array .int
  | 11 => .array .int
  | 12 => .boolean
  | 13 => .array .boolean
  | 14 => .array .long
  | 15 => .array .long
  | 16 => .array .long
  | 17 => .array .long
  | 18 => .boolean
  | _ => .array .int
theorem nmX6 : ∀ a, a < 20 → ∀ b, b < 20 → a ≠ b → (TX6 a).2.1 ≠ (TX6 b).2.1 := by decide +kernel
theorem tyX6_ok : ∀ k, k < 20 → parseFieldDescriptor (TX6 k).2.2.1 = some (tyX6 k) := by decide +kernel
def RJ13 : String := "java/lang/Long"
abbrev cJ13_bitCount_95d88 : ByteArray := prog_9_method_50_code
def yJ13_bitCount_95d88 : MethodName := ⟨RJ13, "bitCount", "(J)I"⟩
abbrev cX0_addHandler : ByteArray := prog_2_method_8_code
def yX0_addHandler : MethodName := ⟨RX0, "addHandler", "(III)V"⟩
abbrev cX0_hasInstruction : ByteArray := prog_2_method_3_code
def yX0_hasInstruction : MethodName := ⟨RX0, "hasInstruction", "(I)Z"⟩
abbrev cX0_canHandle : ByteArray := prog_2_method_7_code
def yX0_canHandle : MethodName := ⟨RX0, "canHandle", "(III)Z"⟩
abbrev cX0_canHold : ByteArray := prog_2_method_4_code
def yX0_canHold : MethodName := ⟨RX0, "canHold", "(II)Z"⟩
abbrev cX0_countOfKind : ByteArray := prog_2_method_10_code
def yX0_countOfKind : MethodName := ⟨RX0, "countOfKind", "(I)I"⟩
abbrev cX0_countReached : ByteArray := prog_2_method_11_code
def yX0_countReached : MethodName := ⟨RX0, "countReached", "()I"⟩
abbrev cX0_goesToNumber : ByteArray := prog_2_method_6_code
def yX0_goesToNumber : MethodName := ⟨RX0, "goesToNumber", "(I)Z"⟩
abbrev cX0_forgetSets : ByteArray := prog_2_method_12_code
def yX0_forgetSets : MethodName := ⟨RX0, "forgetSets", "()V"⟩
abbrev cX0_init : ByteArray := prog_2_method_1_code
def yX0_init : MethodName := ⟨RX0, "<init>", "(I)V"⟩
abbrev cX0_isGuarded : ByteArray := prog_2_method_9_code
def yX0_isGuarded : MethodName := ⟨RX0, "isGuarded", "(I)Z"⟩
abbrev cX0_put : ByteArray := prog_2_method_5_code
def yX0_put : MethodName := ⟨RX0, "put", "(III)V"⟩
abbrev cX0_renew : ByteArray := prog_2_method_2_code
def yX0_renew : MethodName := ⟨RX0, "renew", "(I)V"⟩
abbrev cX4_waysFrom : ByteArray := prog_6_method_8_code
def yX4_waysFrom : MethodName := ⟨RX4, "waysFrom", "(II)J"⟩
abbrev cX4_goneTo : ByteArray := prog_6_method_11_code
def yX4_goneTo : MethodName := ⟨RX4, "goneTo", "(IJ)J"⟩
abbrev cX1_afterOf : ByteArray := prog_3_method_5_code
def yX1_afterOf : MethodName := ⟨RX1, "afterOf", "(LGuardFlow$Body;ILGuardFlow$Body;)J"⟩
abbrev cX3_body : ByteArray := prog_5_method_3_code
def yX3_body : MethodName := ⟨RX3, "body", "(I)LGuardFlow$Body;"⟩
abbrev cX1_forgetAll : ByteArray := prog_3_method_3_code
def yX1_forgetAll : MethodName := ⟨RX1, "forgetAll", "(LGuardFlow$Program;)V"⟩
abbrev cX1_waitAt : ByteArray := prog_3_method_11_code
def yX1_waitAt : MethodName := ⟨RX1, "waitAt", "(LGuardFlow$Body;I)V"⟩
abbrev cX1_growMay : ByteArray := prog_3_method_9_code
def yX1_growMay : MethodName := ⟨RX1, "growMay", "(LGuardFlow$Body;IJ)V"⟩
abbrev cX1_growEntry : ByteArray := prog_3_method_8_code
def yX1_growEntry : MethodName := ⟨RX1, "growEntry", "(LGuardFlow$Body;J)V"⟩
abbrev cX1_growSummary : ByteArray := prog_3_method_10_code
def yX1_growSummary : MethodName := ⟨RX1, "growSummary", "(LGuardFlow$Body;JJ)V"⟩
abbrev cX1_init : ByteArray := prog_3_method_1_code
def yX1_init : MethodName := ⟨RX1, "<init>", "(LGuardFlow$Table;)V"⟩
abbrev cX1_passOn : ByteArray := prog_3_method_6_code
def yX1_passOn : MethodName := ⟨RX1, "passOn", "(LGuardFlow$Body;IJ)V"⟩
abbrev cX1_passToHandlers : ByteArray := prog_3_method_7_code
def yX1_passToHandlers : MethodName := ⟨RX1, "passToHandlers", "(LGuardFlow$Body;IJ)V"⟩
abbrev cX1_step : ByteArray := prog_3_method_4_code
def yX1_step : MethodName := ⟨RX1, "step", "(LGuardFlow$Program;I)V"⟩
abbrev cX1_wakeCallersIn : ByteArray := prog_3_method_13_code
def yX1_wakeCallersIn : MethodName := ⟨RX1, "wakeCallersIn", "(LGuardFlow$Program;LGuardFlow$Body;)V"⟩
abbrev cX1_wakeCallers : ByteArray := prog_3_method_12_code
def yX1_wakeCallers : MethodName := ⟨RX1, "wakeCallers", "(LGuardFlow$Program;)V"⟩
abbrev cX1_settle : ByteArray := prog_3_method_2_code
def yX1_settle : MethodName := ⟨RX1, "settle", "(LGuardFlow$Program;)V"⟩
abbrev cX2_copyHandlers : ByteArray := prog_4_method_7_code
def yX2_copyHandlers : MethodName := ⟨RX2, "copyHandlers", "(LGuardFlow$Body;LGuardFlow$Body;)V"⟩
abbrev cX4_bitOf : ByteArray := prog_6_method_9_code
def yX4_bitOf : MethodName := ⟨RX4, "bitOf", "(I)J"⟩
abbrev cX4_changesSome : ByteArray := prog_6_method_14_code
def yX4_changesSome : MethodName := ⟨RX4, "changesSome", "(IJ)Z"⟩
abbrev cX4_needsGuard : ByteArray := prog_6_method_12_code
def yX4_needsGuard : MethodName := ⟨RX4, "needsGuard", "(LGuardFlow$Body;I)Z"⟩
abbrev cX4_lacksGuard : ByteArray := prog_6_method_13_code
def yX4_lacksGuard : MethodName := ⟨RX4, "lacksGuard", "(LGuardFlow$Body;I)Z"⟩
abbrev cX2_copyInstructions : ByteArray := prog_4_method_5_code
def yX2_copyInstructions : MethodName := ⟨RX2, "copyInstructions", "(LGuardFlow$Body;LGuardFlow$Body;)V"⟩
abbrev cX3_clear : ByteArray := prog_5_method_2_code
def yX3_clear : MethodName := ⟨RX3, "clear", "()V"⟩
abbrev cX2_lackingIn : ByteArray := prog_4_method_3_code
def yX2_lackingIn : MethodName := ⟨RX2, "lackingIn", "(LGuardFlow$Body;)I"⟩
abbrev cX3_append : ByteArray := prog_5_method_4_code
def yX3_append : MethodName := ⟨RX3, "append", "(I)LGuardFlow$Body;"⟩
abbrev cX2_moveTargets : ByteArray := prog_4_method_6_code
def yX2_moveTargets : MethodName := ⟨RX2, "moveTargets", "(LGuardFlow$Body;)V"⟩
abbrev cX2_copyWithGuards : ByteArray := prog_4_method_4_code
def yX2_copyWithGuards : MethodName := ⟨RX2, "copyWithGuards", "(LGuardFlow$Program;LGuardFlow$Program;)V"⟩
abbrev cX2_countLacking : ByteArray := prog_4_method_2_code
def yX2_countLacking : MethodName := ⟨RX2, "countLacking", "(LGuardFlow$Program;)I"⟩
abbrev cX2_init : ByteArray := prog_4_method_1_code
def yX2_init : MethodName := ⟨RX2, "<init>", "(LGuardFlow$Table;)V"⟩
abbrev cX3_countInstructions : ByteArray := prog_5_method_5_code
def yX3_countInstructions : MethodName := ⟨RX3, "countInstructions", "()I"⟩
abbrev cX3_init : ByteArray := prog_5_method_1_code
def yX3_init : MethodName := ⟨RX3, "<init>", "()V"⟩
abbrev cX4_addWay : ByteArray := prog_6_method_7_code
def yX4_addWay : MethodName := ⟨RX4, "addWay", "(III)V"⟩
abbrev cX4_isCall : ByteArray := prog_6_method_3_code
def yX4_isCall : MethodName := ⟨RX4, "isCall", "(I)Z"⟩
abbrev cX4_isState : ByteArray := prog_6_method_5_code
def yX4_isState : MethodName := ⟨RX4, "isState", "(I)Z"⟩
abbrev cX4_canBe : ByteArray := prog_6_method_4_code
def yX4_canBe : MethodName := ⟨RX4, "canBe", "(III)Z"⟩
abbrev cX4_countAlways : ByteArray := prog_6_method_10_code
def yX4_countAlways : MethodName := ⟨RX4, "countAlways", "()I"⟩
abbrev cX4_hasWay : ByteArray := prog_6_method_6_code
def yX4_hasWay : MethodName := ⟨RX4, "hasWay", "(III)Z"⟩
abbrev cX4_init : ByteArray := prog_6_method_1_code
def yX4_init : MethodName := ⟨RX4, "<init>", "()V"⟩
abbrev cX4_renew : ByteArray := prog_6_method_2_code
def yX4_renew : MethodName := ⟨RX4, "renew", "(I)V"⟩
abbrev cX5_noteChange : ByteArray := prog_1_method_18_code
def yX5_noteChange : MethodName := ⟨RX5, "noteChange", "()V"⟩
abbrev cX5_always : ByteArray := prog_1_method_4_code
def yX5_always : MethodName := ⟨RX5, "always", "(IZ)Z"⟩
abbrev cX5_begin : ByteArray := prog_1_method_2_code
def yX5_begin : MethodName := ⟨RX5, "begin", "(I)Z"⟩
abbrev cX5_programOf : ByteArray := prog_1_method_19_code
def yX5_programOf : MethodName := ⟨RX5, "programOf", "(Z)LGuardFlow$Program;"⟩
abbrev cX5_firstUncertified : ByteArray := prog_1_method_21_code
def yX5_firstUncertified : MethodName := ⟨RX5, "firstUncertified", "(LGuardFlow$Body;)I"⟩
abbrev cX5_certify : ByteArray := prog_1_method_10_code
def yX5_certify : MethodName := ⟨RX5, "certify", "(Z)I"⟩
abbrev cX5_code : ByteArray := prog_1_method_6_code
def yX5_code : MethodName := ⟨RX5, "code", "(IIII)Z"⟩
abbrev cX5_forge : ByteArray := prog_1_method_8_code
def yX5_forge : MethodName := ⟨RX5, "forge", "()I"⟩
abbrev cX5_function : ByteArray := prog_1_method_5_code
def yX5_function : MethodName := ⟨RX5, "function", "(I)I"⟩
abbrev cX5_goes : ByteArray := prog_1_method_16_code
def yX5_goes : MethodName := ⟨RX5, "goes", "(III)Z"⟩
abbrev cX5_handler : ByteArray := prog_1_method_7_code
def yX5_handler : MethodName := ⟨RX5, "handler", "(IIII)Z"⟩
abbrev cX5_init : ByteArray := prog_1_method_1_code
def yX5_init : MethodName := ⟨RX5, "<init>", "()V"⟩
abbrev cX5_look : ByteArray := prog_1_method_17_code
def yX5_look : MethodName := ⟨RX5, "look", "(I)I"⟩
abbrev cX5_settledBody : ByteArray := prog_1_method_20_code
def yX5_settledBody : MethodName := ⟨RX5, "settledBody", "(ZI)LGuardFlow$Body;"⟩
abbrev cX5_may : ByteArray := prog_1_method_12_code
def yX5_may : MethodName := ⟨RX5, "may", "(ZII)J"⟩
abbrev cX5_of : ByteArray := prog_1_method_11_code
def yX5_of : MethodName := ⟨RX5, "of", "(ZIII)I"⟩
abbrev cX5_range : ByteArray := prog_1_method_15_code
def yX5_range : MethodName := ⟨RX5, "range", "(ZIII)I"⟩
abbrev cX5_set : ByteArray := prog_1_method_13_code
def yX5_set : MethodName := ⟨RX5, "set", "(ZII)J"⟩
abbrev cX5_size : ByteArray := prog_1_method_14_code
def yX5_size : MethodName := ⟨RX5, "size", "(ZII)I"⟩
abbrev cX5_take : ByteArray := prog_1_method_9_code
def yX5_take : MethodName := ⟨RX5, "take", "()Z"⟩
abbrev cX5_way : ByteArray := prog_1_method_3_code
def yX5_way : MethodName := ⟨RX5, "way", "(III)Z"⟩
abbrev cX6_change : ByteArray := prog_8_method_3_code
def yX6_change : MethodName := ⟨RX6, "change", "()V"⟩
abbrev cX6_always : ByteArray := prog_8_method_10_code
def yX6_always : MethodName := ⟨RX6, "always", "(IZ)Z"⟩
abbrev cX6_begin : ByteArray := prog_8_method_7_code
def yX6_begin : MethodName := ⟨RX6, "begin", "(I)Z"⟩
abbrev cX6_below : ByteArray := prog_8_method_13_code
def yX6_below : MethodName := ⟨RX6, "below", "(II)I"⟩
abbrev cX6_bits : ByteArray := prog_8_method_30_code
def yX6_bits : MethodName := ⟨RX6, "bits", "(J)I"⟩
abbrev cX6_isState : ByteArray := prog_8_method_4_code
def yX6_isState : MethodName := ⟨RX6, "isState", "(I)Z"⟩
abbrev cX6_canWay : ByteArray := prog_8_method_5_code
def yX6_canWay : MethodName := ⟨RX6, "canWay", "(III)Z"⟩
abbrev cX6_isGoal : ByteArray := prog_8_method_16_code
def yX6_isGoal : MethodName := ⟨RX6, "isGoal", "(III)Z"⟩
abbrev cX6_isGuarded : ByteArray := prog_8_method_17_code
def yX6_isGuarded : MethodName := ⟨RX6, "isGuarded", "(III)Z"⟩
abbrev cX6_join : ByteArray := prog_8_method_18_code
def yX6_join : MethodName := ⟨RX6, "join", "([JIJ)V"⟩
abbrev cX6_wayAt : ByteArray := prog_8_method_6_code
def yX6_wayAt : MethodName := ⟨RX6, "wayAt", "(III)I"⟩
abbrev cX6_led : ByteArray := prog_8_method_19_code
def yX6_led : MethodName := ⟨RX6, "led", "(JI)J"⟩
abbrev cX6_goOn : ByteArray := prog_8_method_20_code
def yX6_goOn : MethodName := ⟨RX6, "goOn", "(III)V"⟩
abbrev cX6_find : ByteArray := prog_8_method_21_code
def yX6_find : MethodName := ⟨RX6, "find", "(I)V"⟩
abbrev cX6_needs : ByteArray := prog_8_method_22_code
def yX6_needs : MethodName := ⟨RX6, "needs", "(III)Z"⟩
abbrev cX6_lacks : ByteArray := prog_8_method_23_code
def yX6_lacks : MethodName := ⟨RX6, "lacks", "(III)Z"⟩
abbrev cX6_certify : ByteArray := prog_8_method_28_code
def yX6_certify : MethodName := ⟨RX6, "certify", "(Z)I"⟩
abbrev cX6_isThere : ByteArray := prog_8_method_12_code
def yX6_isThere : MethodName := ⟨RX6, "isThere", "(III)Z"⟩
abbrev cX6_code : ByteArray := prog_8_method_14_code
def yX6_code : MethodName := ⟨RX6, "code", "(IIII)Z"⟩
abbrev cX6_comeTo : ByteArray := prog_8_method_35_code
def yX6_comeTo : MethodName := ⟨RX6, "comeTo", "(II)I"⟩
abbrev cX6_countOf : ByteArray := prog_8_method_34_code
def yX6_countOf : MethodName := ⟨RX6, "countOf", "(III)I"⟩
abbrev cX6_lacking : ByteArray := prog_8_method_24_code
def yX6_lacking : MethodName := ⟨RX6, "lacking", "(I)I"⟩
abbrev cX6_weave : ByteArray := prog_8_method_26_code
def yX6_weave : MethodName := ⟨RX6, "weave", "(I)V"⟩
abbrev cX6_forge : ByteArray := prog_8_method_25_code
def yX6_forge : MethodName := ⟨RX6, "forge", "()I"⟩
abbrev cX6_function : ByteArray := prog_8_method_11_code
def yX6_function : MethodName := ⟨RX6, "function", "(I)I"⟩
abbrev cX6_goes : ByteArray := prog_8_method_9_code
def yX6_goes : MethodName := ⟨RX6, "goes", "(III)Z"⟩
abbrev cX6_handler : ByteArray := prog_8_method_15_code
def yX6_handler : MethodName := ⟨RX6, "handler", "(IIII)Z"⟩
abbrev cX6_init : ByteArray := prog_8_method_1_code
def yX6_init : MethodName := ⟨RX6, "<init>", "()V"⟩
abbrev cX6_instructions : ByteArray := prog_8_method_38_code
def yX6_instructions : MethodName := ⟨RX6, "instructions", "(I)I"⟩
abbrev cX6_wayMany : ByteArray := prog_8_method_39_code
def yX6_wayMany : MethodName := ⟨RX6, "wayMany", "()I"⟩
abbrev cX6_neededMany : ByteArray := prog_8_method_40_code
def yX6_neededMany : MethodName := ⟨RX6, "neededMany", "()I"⟩
abbrev cX6_look : ByteArray := prog_8_method_41_code
def yX6_look : MethodName := ⟨RX6, "look", "(I)I"⟩
abbrev cX6_which : ByteArray := prog_8_method_29_code
def yX6_which : MethodName := ⟨RX6, "which", "(ZII)I"⟩
abbrev cX6_may : ByteArray := prog_8_method_32_code
def yX6_may : MethodName := ⟨RX6, "may", "(ZII)J"⟩
abbrev cX6_of : ByteArray := prog_8_method_31_code
def yX6_of : MethodName := ⟨RX6, "of", "(ZIII)I"⟩
abbrev cX6_range : ByteArray := prog_8_method_37_code
def yX6_range : MethodName := ⟨RX6, "range", "(ZIII)I"⟩
abbrev cX6_set : ByteArray := prog_8_method_33_code
def yX6_set : MethodName := ⟨RX6, "set", "(ZII)J"⟩
abbrev cX6_size : ByteArray := prog_8_method_36_code
def yX6_size : MethodName := ⟨RX6, "size", "(ZII)I"⟩
abbrev cX6_take : ByteArray := prog_8_method_27_code
def yX6_take : MethodName := ⟨RX6, "take", "()Z"⟩
abbrev cX6_way : ByteArray := prog_8_method_8_code
def yX6_way : MethodName := ⟨RX6, "way", "(III)Z"⟩
def R_law : String := "GuardFlowLaw"
abbrev gz_cl : List vw_C := [(RX0, TX0, 15), (RX1, TX1, 4), (RX2, TX2, 2), (RX3, TX3, 3), (RX4, TX4, 4), (RX5, TX5, 6), (RX6, TX6, 20)]
abbrev gz_at : List FieldType := [.int, .long, .boolean, .object RX0]
def gz_tb : List Cond := lw_tbl.filter goodWord
def gz_nb : List Cond := lw_tbl.filter gx_nest
theorem gz_mem {w : Cond} (i : Nat) (h : tables_1[i]? = some w) (hg : goodWord w = true) : w ∈ gz_tb := List.mem_filter.mpr ⟨List.mem_append_right _ (List.mem_of_getElem? h), hg⟩
theorem gz_sel {w : Cond} (h : w ∈ k2_sels lw_privs) (hg : goodWord w = true) : w ∈ gz_tb := List.mem_filter.mpr ⟨List.mem_append_left _ h, hg⟩
theorem gz_nst {w : Cond} (i : Nat) (h : tables_1[i]? = some w) (hg : gx_nest w = true) : w ∈ gz_nb := List.mem_filter.mpr ⟨List.mem_append_right _ (List.mem_of_getElem? h), hg⟩
theorem gz_c1 {w : Cond} (i : Nat) (h : tables_1_1[i]? = some w) (hg : goodWord w = true) : w ∈ gz_tb := List.mem_filter.mpr ⟨List.mem_append_right _ (show w ∈ tables_1_1 ++ (tables_1_2 ++ tables_1_3) from List.mem_append_left _ (List.mem_of_getElem? h)), hg⟩
theorem gz_c2 {w : Cond} (i : Nat) (h : tables_1_2[i]? = some w) (hg : goodWord w = true) : w ∈ gz_tb := List.mem_filter.mpr ⟨List.mem_append_right _ (show w ∈ tables_1_1 ++ (tables_1_2 ++ tables_1_3) from List.mem_append_right _ (List.mem_append_left _ (List.mem_of_getElem? h))), hg⟩
theorem gz_c3 {w : Cond} (i : Nat) (h : tables_1_3[i]? = some w) (hg : goodWord w = true) : w ∈ gz_tb := List.mem_filter.mpr ⟨List.mem_append_right _ (show w ∈ tables_1_1 ++ (tables_1_2 ++ tables_1_3) from List.mem_append_right _ (List.mem_append_right _ (List.mem_of_getElem? h))), hg⟩
theorem wl_2 : Cond.initialized RX4 ∈ gz_tb := gz_mem 2 (by decide +kernel) rfl
theorem wl_3 : Cond.initialized RX1 ∈ gz_tb := gz_mem 3 (by decide +kernel) rfl
theorem wl_4 : Cond.initialized RX2 ∈ gz_tb := gz_mem 4 (by decide +kernel) rfl
theorem wl_5 : Cond.initialized RX3 ∈ gz_tb := gz_mem 5 (by decide +kernel) rfl
theorem wl_7 : Cond.initialized RX0 ∈ gz_tb := gz_mem 7 (by decide +kernel) rfl
theorem wl_14 : Cond.methodLink RX5 1 Lib.objectInit ∈ gz_tb := gz_mem 14 (by decide +kernel) rfl
theorem wl_15 : Cond.instanceMethod Lib.objectInit ∈ gz_tb := gz_mem 15 (by decide +kernel) rfl
theorem wl_16 : Cond.code Lib.objectInit ⟨#[0xb1]⟩ 1 none ∈ gz_tb := (gz_c1 16 rfl rfl)
theorem wl_17 : Cond.classLink RX5 7 RX4 ∈ gz_tb := gz_mem 17 (by decide +kernel) rfl
theorem wl_18 : Cond.instantiable RX4 4 ∈ gz_tb := gz_mem 18 (by decide +kernel) rfl
theorem wn_19 : Cond.methodLinkNest RX5 9 yX4_init RX5 ∈ gz_nb := gz_nst 19 (by decide +kernel) rfl
theorem wl_20 : Cond.instanceMethod yX4_init ∈ gz_tb := gz_mem 20 (by decide +kernel) rfl
theorem wl_22 : Cond.methodLink RX4 3 Lib.objectInit ∈ gz_tb := gz_mem 22 (by decide +kernel) rfl
theorem wl_23 : Cond.fieldLink RX4 9 (TX4 0).1 (TX4 0).2.1 (TX4 0).2.2.1 ∈ gz_tb := gz_mem 23 (by decide +kernel) rfl
theorem wl_24 : Cond.fieldLink RX5 71 (TX4 0).1 (TX4 0).2.1 (TX4 0).2.2.1 ∈ gz_tb := gz_mem 24 (by decide +kernel) rfl
theorem wl_25 : Cond.fieldLink RX4 15 (TX4 1).1 (TX4 1).2.1 (TX4 1).2.2.1 ∈ gz_tb := gz_mem 25 (by decide +kernel) rfl
theorem wl_26 : Cond.fieldLink RX4 19 (TX4 2).1 (TX4 2).2.1 (TX4 2).2.2.1 ∈ gz_tb := gz_mem 26 (by decide +kernel) rfl
theorem wl_27 : Cond.fieldLink RX5 185 (TX4 2).1 (TX4 2).2.1 (TX4 2).2.2.1 ∈ gz_tb := gz_mem 27 (by decide +kernel) rfl
theorem wl_28 : Cond.fieldLink RX4 23 (TX4 3).1 (TX4 3).2.1 (TX4 3).2.2.1 ∈ gz_tb := gz_mem 28 (by decide +kernel) rfl
theorem wl_29 : Cond.fieldLink RX5 188 (TX4 3).1 (TX4 3).2.1 (TX4 3).2.2.1 ∈ gz_tb := gz_mem 29 (by decide +kernel) rfl
theorem wl_39 : Cond.arrayClass .boolean ∈ gz_tb := gz_mem 39 (by decide +kernel) rfl
theorem wl_40 : Cond.arrayClass .long ∈ gz_tb := gz_mem 40 (by decide +kernel) rfl
theorem wl_41 : Cond.classLink RX5 16 RX1 ∈ gz_tb := gz_mem 41 (by decide +kernel) rfl
theorem wl_42 : Cond.instantiable RX1 4 ∈ gz_tb := gz_mem 42 (by decide +kernel) rfl
theorem wl_43 : Cond.methodLink RX5 18 yX1_init ∈ gz_tb := gz_mem 43 (by decide +kernel) rfl
theorem wl_44 : Cond.instanceMethod yX1_init ∈ gz_tb := gz_mem 44 (by decide +kernel) rfl
theorem wl_46 : Cond.methodLink RX1 3 Lib.objectInit ∈ gz_tb := gz_mem 46 (by decide +kernel) rfl
theorem wl_47 : Cond.fieldLink RX1 15 (TX1 0).1 (TX1 0).2.1 (TX1 0).2.2.1 ∈ gz_tb := gz_mem 47 (by decide +kernel) rfl
theorem wl_48 : Cond.fieldLink RX1 9 (TX1 1).1 (TX1 1).2.1 (TX1 1).2.2.1 ∈ gz_tb := gz_mem 48 (by decide +kernel) rfl
theorem wl_49 : Cond.fieldLink RX1 38 (TX1 2).1 (TX1 2).2.1 (TX1 2).2.2.1 ∈ gz_tb := gz_mem 49 (by decide +kernel) rfl
theorem wl_50 : Cond.fieldLink RX1 42 (TX1 3).1 (TX1 3).2.1 (TX1 3).2.2.1 ∈ gz_tb := gz_mem 50 (by decide +kernel) rfl
theorem wl_60 : Cond.arrayClass .int ∈ gz_tb := gz_mem 60 (by decide +kernel) rfl
theorem wl_61 : Cond.classLink RX5 25 RX2 ∈ gz_tb := gz_mem 61 (by decide +kernel) rfl
theorem wl_62 : Cond.instantiable RX2 2 ∈ gz_tb := gz_mem 62 (by decide +kernel) rfl
theorem wl_63 : Cond.methodLink RX5 27 yX2_init ∈ gz_tb := gz_mem 63 (by decide +kernel) rfl
theorem wl_64 : Cond.instanceMethod yX2_init ∈ gz_tb := gz_mem 64 (by decide +kernel) rfl
theorem wl_66 : Cond.methodLink RX2 3 Lib.objectInit ∈ gz_tb := gz_mem 66 (by decide +kernel) rfl
theorem wl_67 : Cond.fieldLink RX2 15 (TX2 0).1 (TX2 0).2.1 (TX2 0).2.2.1 ∈ gz_tb := gz_mem 67 (by decide +kernel) rfl
theorem wl_68 : Cond.fieldLink RX2 9 (TX2 1).1 (TX2 1).2.1 (TX2 1).2.2.1 ∈ gz_tb := gz_mem 68 (by decide +kernel) rfl
theorem wl_74 : Cond.classLink RX5 32 RX3 ∈ gz_tb := gz_mem 74 (by decide +kernel) rfl
theorem wl_75 : Cond.instantiable RX3 3 ∈ gz_tb := gz_mem 75 (by decide +kernel) rfl
theorem wn_76 : Cond.methodLinkNest RX5 34 yX3_init RX5 ∈ gz_nb := gz_nst 76 (by decide +kernel) rfl
theorem wl_77 : Cond.instanceMethod yX3_init ∈ gz_tb := gz_mem 77 (by decide +kernel) rfl
theorem wl_79 : Cond.methodLink RX3 3 Lib.objectInit ∈ gz_tb := gz_mem 79 (by decide +kernel) rfl
theorem wl_80 : Cond.classLink RX3 9 RX0 ∈ gz_tb := gz_mem 80 (by decide +kernel) rfl
theorem wn_81 : Cond.arrayOver (.object RX0) ∈ gz_nb := gz_nst 81 (by decide +kernel) rfl
theorem wl_82 : Cond.fieldLink RX3 11 (TX3 0).1 (TX3 0).2.1 (TX3 0).2.2.1 ∈ gz_tb := gz_mem 82 (by decide +kernel) rfl
theorem wl_83 : Cond.fieldLink RX3 17 (TX3 1).1 (TX3 1).2.1 (TX3 1).2.2.1 ∈ gz_tb := gz_mem 83 (by decide +kernel) rfl
theorem wl_84 : Cond.fieldLink RX5 191 (TX3 1).1 (TX3 1).2.1 (TX3 1).2.2.1 ∈ gz_tb := gz_mem 84 (by decide +kernel) rfl
theorem wl_85 : Cond.fieldLink RX1 19 (TX3 2).1 (TX3 2).2.1 (TX3 2).2.2.1 ∈ gz_tb := gz_mem 85 (by decide +kernel) rfl
theorem wl_86 : Cond.fieldLink RX3 21 (TX3 2).1 (TX3 2).2.1 (TX3 2).2.2.1 ∈ gz_tb := gz_mem 86 (by decide +kernel) rfl
theorem wl_87 : Cond.fieldLink RX5 200 (TX3 2).1 (TX3 2).2.1 (TX3 2).2.2.1 ∈ gz_tb := gz_mem 87 (by decide +kernel) rfl
theorem wl_95 : Cond.fieldLink RX5 10 (TX5 0).1 (TX5 0).2.1 (TX5 0).2.2.1 ∈ gz_tb := gz_mem 95 (by decide +kernel) rfl
theorem wl_96 : Cond.fieldLink RX5 21 (TX5 1).1 (TX5 1).2.1 (TX5 1).2.2.1 ∈ gz_tb := gz_mem 96 (by decide +kernel) rfl
theorem wl_97 : Cond.fieldLink RX5 28 (TX5 2).1 (TX5 2).2.1 (TX5 2).2.2.1 ∈ gz_tb := gz_mem 97 (by decide +kernel) rfl
theorem wl_98 : Cond.fieldLink RX5 35 (TX5 3).1 (TX5 3).2.1 (TX5 3).2.2.1 ∈ gz_tb := gz_mem 98 (by decide +kernel) rfl
theorem wl_99 : Cond.fieldLink RX5 39 (TX5 4).1 (TX5 4).2.1 (TX5 4).2.2.1 ∈ gz_tb := gz_mem 99 (by decide +kernel) rfl
theorem wl_100 : Cond.fieldLink RX5 49 (TX5 5).1 (TX5 5).2.1 (TX5 5).2.2.1 ∈ gz_tb := gz_mem 100 (by decide +kernel) rfl
theorem wl_118 : Cond.methodLink RX5 42 yX4_renew ∈ gz_tb := gz_mem 118 (by decide +kernel) rfl
theorem wl_119 : Cond.instanceMethod yX4_renew ∈ gz_tb := gz_mem 119 (by decide +kernel) rfl
theorem wl_122 : Cond.methodLink RX5 46 yX3_clear ∈ gz_tb := gz_mem 122 (by decide +kernel) rfl
theorem wl_123 : Cond.instanceMethod yX3_clear ∈ gz_tb := gz_mem 123 (by decide +kernel) rfl
theorem wl_130 : Cond.methodLink RX5 53 yX4_canBe ∈ gz_tb := gz_mem 130 (by decide +kernel) rfl
theorem wl_131 : Cond.instanceMethod yX4_canBe ∈ gz_tb := gz_mem 131 (by decide +kernel) rfl
theorem wl_134 : Cond.methodLink RX4 26 yX4_isCall ∈ gz_tb := gz_mem 134 (by decide +kernel) rfl
theorem wl_135 : Cond.instanceMethod yX4_isCall ∈ gz_tb := gz_mem 135 (by decide +kernel) rfl
theorem wl_138 : Cond.methodLink RX4 30 yX4_isState ∈ gz_tb := gz_mem 138 (by decide +kernel) rfl
theorem wl_140 : Cond.instanceMethod yX4_isState ∈ gz_tb := gz_mem 140 (by decide +kernel) rfl
theorem wl_142 : Cond.methodLink RX5 57 yX4_hasWay ∈ gz_tb := gz_mem 142 (by decide +kernel) rfl
theorem wl_143 : Cond.instanceMethod yX4_hasWay ∈ gz_tb := gz_mem 143 (by decide +kernel) rfl
theorem wl_146 : Cond.methodLink RX4 33 yX4_waysFrom ∈ gz_tb := gz_mem 146 (by decide +kernel) rfl
theorem wl_148 : Cond.instanceMethod yX4_waysFrom ∈ gz_tb := gz_mem 148 (by decide +kernel) rfl
theorem wl_150 : Cond.methodLink RX4 37 yX4_bitOf ∈ gz_tb := gz_mem 150 (by decide +kernel) rfl
theorem wl_151 : Cond.static yX4_bitOf ∈ gz_tb := gz_mem 151 (by decide +kernel) rfl
theorem wl_153 : Cond.methodLink RX5 60 yX4_addWay ∈ gz_tb := gz_mem 153 (by decide +kernel) rfl
theorem wl_154 : Cond.instanceMethod yX4_addWay ∈ gz_tb := gz_mem 154 (by decide +kernel) rfl
theorem wl_157 : Cond.methodLink RX5 64 yX5_noteChange ∈ gz_tb := gz_mem 157 (by decide +kernel) rfl
theorem wl_159 : Cond.instanceMethod yX5_noteChange ∈ gz_tb := gz_mem 159 (by decide +kernel) rfl
theorem wl_165 : Cond.methodLink RX5 67 yX4_isCall ∈ gz_tb := gz_mem 165 (by decide +kernel) rfl
theorem wl_170 : Cond.methodLink RX5 75 yX3_append ∈ gz_tb := gz_mem 170 (by decide +kernel) rfl
theorem wl_171 : Cond.instanceMethod yX3_append ∈ gz_tb := gz_mem 171 (by decide +kernel) rfl
theorem wl_174 : Cond.instantiable RX0 15 ∈ gz_tb := gz_mem 174 (by decide +kernel) rfl
theorem wl_175 : Cond.methodLink RX3 25 yX0_init ∈ gz_tb := gz_mem 175 (by decide +kernel) rfl
theorem wl_176 : Cond.instanceMethod yX0_init ∈ gz_tb := gz_mem 176 (by decide +kernel) rfl
theorem wl_178 : Cond.methodLink RX0 3 Lib.objectInit ∈ gz_tb := gz_mem 178 (by decide +kernel) rfl
theorem wl_179 : Cond.fieldLink RX0 38 (TX0 0).1 (TX0 0).2.1 (TX0 0).2.2.1 ∈ gz_tb := gz_mem 179 (by decide +kernel) rfl
theorem wl_180 : Cond.fieldLink RX5 79 (TX0 0).1 (TX0 0).2.1 (TX0 0).2.2.1 ∈ gz_tb := gz_mem 180 (by decide +kernel) rfl
theorem wl_181 : Cond.fieldLink RX1 134 (TX0 0).1 (TX0 0).2.1 (TX0 0).2.2.1 ∈ gz_tb := gz_mem 181 (by decide +kernel) rfl
theorem wl_182 : Cond.fieldLink RX0 9 (TX0 1).1 (TX0 1).2.1 (TX0 1).2.2.1 ∈ gz_tb := gz_mem 182 (by decide +kernel) rfl
theorem wl_183 : Cond.fieldLink RX1 65 (TX0 1).1 (TX0 1).2.1 (TX0 1).2.2.1 ∈ gz_tb := gz_mem 183 (by decide +kernel) rfl
theorem wl_184 : Cond.fieldLink RX2 65 (TX0 1).1 (TX0 1).2.1 (TX0 1).2.2.1 ∈ gz_tb := gz_mem 184 (by decide +kernel) rfl
theorem wl_185 : Cond.fieldLink RX5 128 (TX0 1).1 (TX0 1).2.1 (TX0 1).2.2.1 ∈ gz_tb := gz_mem 185 (by decide +kernel) rfl
theorem wl_186 : Cond.fieldLink RX4 43 (TX0 1).1 (TX0 1).2.1 (TX0 1).2.2.1 ∈ gz_tb := gz_mem 186 (by decide +kernel) rfl
theorem wl_187 : Cond.fieldLink RX0 15 (TX0 2).1 (TX0 2).2.1 (TX0 2).2.2.1 ∈ gz_tb := gz_mem 187 (by decide +kernel) rfl
theorem wl_188 : Cond.fieldLink RX1 72 (TX0 2).1 (TX0 2).2.1 (TX0 2).2.2.1 ∈ gz_tb := gz_mem 188 (by decide +kernel) rfl
theorem wl_189 : Cond.fieldLink RX2 58 (TX0 2).1 (TX0 2).2.1 (TX0 2).2.2.1 ∈ gz_tb := gz_mem 189 (by decide +kernel) rfl
theorem wl_190 : Cond.fieldLink RX5 132 (TX0 2).1 (TX0 2).2.1 (TX0 2).2.2.1 ∈ gz_tb := gz_mem 190 (by decide +kernel) rfl
theorem wl_191 : Cond.fieldLink RX4 49 (TX0 2).1 (TX0 2).2.1 (TX0 2).2.2.1 ∈ gz_tb := gz_mem 191 (by decide +kernel) rfl
theorem wl_192 : Cond.fieldLink RX0 18 (TX0 3).1 (TX0 3).2.1 (TX0 3).2.2.1 ∈ gz_tb := gz_mem 192 (by decide +kernel) rfl
theorem wl_193 : Cond.fieldLink RX1 115 (TX0 3).1 (TX0 3).2.1 (TX0 3).2.2.1 ∈ gz_tb := gz_mem 193 (by decide +kernel) rfl
theorem wl_194 : Cond.fieldLink RX2 75 (TX0 3).1 (TX0 3).2.1 (TX0 3).2.2.1 ∈ gz_tb := gz_mem 194 (by decide +kernel) rfl
theorem wl_195 : Cond.fieldLink RX5 176 (TX0 3).1 (TX0 3).2.1 (TX0 3).2.2.1 ∈ gz_tb := gz_mem 195 (by decide +kernel) rfl
theorem wl_196 : Cond.fieldLink RX0 21 (TX0 4).1 (TX0 4).2.1 (TX0 4).2.2.1 ∈ gz_tb := gz_mem 196 (by decide +kernel) rfl
theorem wl_197 : Cond.fieldLink RX1 118 (TX0 4).1 (TX0 4).2.1 (TX0 4).2.2.1 ∈ gz_tb := gz_mem 197 (by decide +kernel) rfl
theorem wl_198 : Cond.fieldLink RX2 78 (TX0 4).1 (TX0 4).2.1 (TX0 4).2.2.1 ∈ gz_tb := gz_mem 198 (by decide +kernel) rfl
theorem wl_199 : Cond.fieldLink RX5 179 (TX0 4).1 (TX0 4).2.1 (TX0 4).2.2.1 ∈ gz_tb := gz_mem 199 (by decide +kernel) rfl
theorem wl_200 : Cond.fieldLink RX0 24 (TX0 5).1 (TX0 5).2.1 (TX0 5).2.2.1 ∈ gz_tb := gz_mem 200 (by decide +kernel) rfl
theorem wl_201 : Cond.fieldLink RX1 121 (TX0 5).1 (TX0 5).2.1 (TX0 5).2.2.1 ∈ gz_tb := gz_mem 201 (by decide +kernel) rfl
theorem wl_202 : Cond.fieldLink RX2 81 (TX0 5).1 (TX0 5).2.1 (TX0 5).2.2.1 ∈ gz_tb := gz_mem 202 (by decide +kernel) rfl
theorem wl_203 : Cond.fieldLink RX5 182 (TX0 5).1 (TX0 5).2.1 (TX0 5).2.2.1 ∈ gz_tb := gz_mem 203 (by decide +kernel) rfl
theorem wl_204 : Cond.fieldLink RX0 42 (TX0 6).1 (TX0 6).2.1 (TX0 6).2.2.1 ∈ gz_tb := gz_mem 204 (by decide +kernel) rfl
theorem wl_205 : Cond.fieldLink RX2 29 (TX0 6).1 (TX0 6).2.1 (TX0 6).2.2.1 ∈ gz_tb := gz_mem 205 (by decide +kernel) rfl
theorem wl_206 : Cond.fieldLink RX3 35 (TX0 6).1 (TX0 6).2.1 (TX0 6).2.2.1 ∈ gz_tb := gz_mem 206 (by decide +kernel) rfl
theorem wl_207 : Cond.fieldLink RX1 141 (TX0 6).1 (TX0 6).2.1 (TX0 6).2.2.1 ∈ gz_tb := gz_mem 207 (by decide +kernel) rfl
theorem wl_208 : Cond.fieldLink RX5 162 (TX0 6).1 (TX0 6).2.1 (TX0 6).2.2.1 ∈ gz_tb := gz_mem 208 (by decide +kernel) rfl
theorem wl_209 : Cond.fieldLink RX0 45 (TX0 7).1 (TX0 7).2.1 (TX0 7).2.2.1 ∈ gz_tb := gz_mem 209 (by decide +kernel) rfl
theorem wl_210 : Cond.fieldLink RX2 72 (TX0 7).1 (TX0 7).2.1 (TX0 7).2.2.1 ∈ gz_tb := gz_mem 210 (by decide +kernel) rfl
theorem wl_211 : Cond.fieldLink RX1 112 (TX0 7).1 (TX0 7).2.1 (TX0 7).2.2.1 ∈ gz_tb := gz_mem 211 (by decide +kernel) rfl
theorem wl_212 : Cond.fieldLink RX5 165 (TX0 7).1 (TX0 7).2.1 (TX0 7).2.2.1 ∈ gz_tb := gz_mem 212 (by decide +kernel) rfl
theorem wl_213 : Cond.fieldLink RX0 27 (TX0 8).1 (TX0 8).2.1 (TX0 8).2.2.1 ∈ gz_tb := gz_mem 213 (by decide +kernel) rfl
theorem wl_214 : Cond.fieldLink RX1 68 (TX0 8).1 (TX0 8).2.1 (TX0 8).2.2.1 ∈ gz_tb := gz_mem 214 (by decide +kernel) rfl
theorem wl_215 : Cond.fieldLink RX5 142 (TX0 8).1 (TX0 8).2.1 (TX0 8).2.2.1 ∈ gz_tb := gz_mem 215 (by decide +kernel) rfl
theorem wl_216 : Cond.fieldLink RX4 52 (TX0 8).1 (TX0 8).2.1 (TX0 8).2.2.1 ∈ gz_tb := gz_mem 216 (by decide +kernel) rfl
theorem wl_217 : Cond.fieldLink RX0 31 (TX0 9).1 (TX0 9).2.1 (TX0 9).2.2.1 ∈ gz_tb := gz_mem 217 (by decide +kernel) rfl
theorem wl_218 : Cond.fieldLink RX1 61 (TX0 9).1 (TX0 9).2.1 (TX0 9).2.2.1 ∈ gz_tb := gz_mem 218 (by decide +kernel) rfl
theorem wl_219 : Cond.fieldLink RX0 35 (TX0 10).1 (TX0 10).2.1 (TX0 10).2.2.1 ∈ gz_tb := gz_mem 219 (by decide +kernel) rfl
theorem wl_220 : Cond.fieldLink RX1 124 (TX0 11).1 (TX0 11).2.1 (TX0 11).2.2.1 ∈ gz_tb := gz_mem 220 (by decide +kernel) rfl
theorem wl_221 : Cond.fieldLink RX0 56 (TX0 11).1 (TX0 11).2.1 (TX0 11).2.2.1 ∈ gz_tb := gz_mem 221 (by decide +kernel) rfl
theorem wl_222 : Cond.fieldLink RX5 152 (TX0 11).1 (TX0 11).2.1 (TX0 11).2.2.1 ∈ gz_tb := gz_mem 222 (by decide +kernel) rfl
theorem wl_223 : Cond.fieldLink RX1 94 (TX0 12).1 (TX0 12).2.1 (TX0 12).2.2.1 ∈ gz_tb := gz_mem 223 (by decide +kernel) rfl
theorem wl_224 : Cond.fieldLink RX0 60 (TX0 12).1 (TX0 12).2.1 (TX0 12).2.2.1 ∈ gz_tb := gz_mem 224 (by decide +kernel) rfl
theorem wl_225 : Cond.fieldLink RX5 156 (TX0 12).1 (TX0 12).2.1 (TX0 12).2.2.1 ∈ gz_tb := gz_mem 225 (by decide +kernel) rfl
theorem wl_226 : Cond.fieldLink RX1 75 (TX0 13).1 (TX0 13).2.1 (TX0 13).2.2.1 ∈ gz_tb := gz_mem 226 (by decide +kernel) rfl
theorem wl_227 : Cond.fieldLink RX0 63 (TX0 13).1 (TX0 13).2.1 (TX0 13).2.2.1 ∈ gz_tb := gz_mem 227 (by decide +kernel) rfl
theorem wl_228 : Cond.fieldLink RX5 159 (TX0 13).1 (TX0 13).2.1 (TX0 13).2.2.1 ∈ gz_tb := gz_mem 228 (by decide +kernel) rfl
theorem wl_229 : Cond.fieldLink RX1 131 (TX0 14).1 (TX0 14).2.1 (TX0 14).2.2.1 ∈ gz_tb := gz_mem 229 (by decide +kernel) rfl
theorem wl_230 : Cond.fieldLink RX0 66 (TX0 14).1 (TX0 14).2.1 (TX0 14).2.2.1 ∈ gz_tb := gz_mem 230 (by decide +kernel) rfl
theorem wl_262 : Cond.methodLink RX3 28 yX0_renew ∈ gz_tb := gz_mem 262 (by decide +kernel) rfl
theorem wl_263 : Cond.instanceMethod yX0_renew ∈ gz_tb := gz_mem 263 (by decide +kernel) rfl
theorem wl_266 : Cond.methodLink RX0 48 yX0_put ∈ gz_tb := gz_mem 266 (by decide +kernel) rfl
theorem wl_267 : Cond.instanceMethod yX0_put ∈ gz_tb := gz_mem 267 (by decide +kernel) rfl
theorem wl_274 : Cond.methodLink RX5 85 yX3_body ∈ gz_tb := gz_mem 274 (by decide +kernel) rfl
theorem wl_275 : Cond.instanceMethod yX3_body ∈ gz_tb := gz_mem 275 (by decide +kernel) rfl
theorem wl_278 : Cond.methodLink RX5 88 yX0_hasInstruction ∈ gz_tb := gz_mem 278 (by decide +kernel) rfl
theorem wl_279 : Cond.instanceMethod yX0_hasInstruction ∈ gz_tb := gz_mem 279 (by decide +kernel) rfl
theorem wl_282 : Cond.methodLink RX5 91 yX0_canHold ∈ gz_tb := gz_mem 282 (by decide +kernel) rfl
theorem wl_283 : Cond.instanceMethod yX0_canHold ∈ gz_tb := gz_mem 283 (by decide +kernel) rfl
theorem wl_286 : Cond.methodLink RX0 52 yX0_hasInstruction ∈ gz_tb := gz_mem 286 (by decide +kernel) rfl
theorem wl_287 : Cond.methodLink RX5 95 yX0_put ∈ gz_tb := gz_mem 287 (by decide +kernel) rfl
theorem wl_292 : Cond.methodLink RX5 98 yX0_canHandle ∈ gz_tb := gz_mem 292 (by decide +kernel) rfl
theorem wl_293 : Cond.instanceMethod yX0_canHandle ∈ gz_tb := gz_mem 293 (by decide +kernel) rfl
theorem wl_296 : Cond.methodLink RX5 101 yX0_addHandler ∈ gz_tb := gz_mem 296 (by decide +kernel) rfl
theorem wl_297 : Cond.instanceMethod yX0_addHandler ∈ gz_tb := gz_mem 297 (by decide +kernel) rfl
theorem wl_304 : Cond.methodLink RX5 104 yX1_settle ∈ gz_tb := gz_mem 304 (by decide +kernel) rfl
theorem wl_305 : Cond.instanceMethod yX1_settle ∈ gz_tb := gz_mem 305 (by decide +kernel) rfl
theorem wl_308 : Cond.methodLink RX1 25 yX1_forgetAll ∈ gz_tb := gz_mem 308 (by decide +kernel) rfl
theorem wl_310 : Cond.instanceMethod yX1_forgetAll ∈ gz_tb := gz_mem 310 (by decide +kernel) rfl
theorem wl_312 : Cond.methodLink RX1 29 yX3_body ∈ gz_tb := gz_mem 312 (by decide +kernel) rfl
theorem wl_313 : Cond.methodLink RX1 52 yX0_forgetSets ∈ gz_tb := gz_mem 313 (by decide +kernel) rfl
theorem wl_314 : Cond.instanceMethod yX0_forgetSets ∈ gz_tb := gz_mem 314 (by decide +kernel) rfl
theorem wl_317 : Cond.methodLink RX0 70 yX0_goesToNumber ∈ gz_tb := gz_mem 317 (by decide +kernel) rfl
theorem wl_318 : Cond.instanceMethod yX0_goesToNumber ∈ gz_tb := gz_mem 318 (by decide +kernel) rfl
theorem wl_321 : Cond.methodLink RX1 33 yX1_growEntry ∈ gz_tb := gz_mem 321 (by decide +kernel) rfl
theorem wl_323 : Cond.instanceMethod yX1_growEntry ∈ gz_tb := gz_mem 323 (by decide +kernel) rfl
theorem wl_325 : Cond.methodLink RX1 109 yX1_growMay ∈ gz_tb := gz_mem 325 (by decide +kernel) rfl
theorem wl_327 : Cond.instanceMethod yX1_growMay ∈ gz_tb := gz_mem 327 (by decide +kernel) rfl
theorem wl_329 : Cond.methodLink RX1 57 yX0_hasInstruction ∈ gz_tb := gz_mem 329 (by decide +kernel) rfl
theorem wl_330 : Cond.methodLink RX1 127 yX1_waitAt ∈ gz_tb := gz_mem 330 (by decide +kernel) rfl
theorem wl_332 : Cond.instanceMethod yX1_waitAt ∈ gz_tb := gz_mem 332 (by decide +kernel) rfl
theorem wl_334 : Cond.constant RX1 37 1000000 ∈ gz_tb := gz_mem 334 (by decide +kernel) rfl
theorem wl_335 : Cond.methodLink RX1 45 yX1_step ∈ gz_tb := gz_mem 335 (by decide +kernel) rfl
theorem wl_337 : Cond.instanceMethod yX1_step ∈ gz_tb := gz_mem 337 (by decide +kernel) rfl
theorem wl_339 : Cond.methodLink RX1 79 yX1_afterOf ∈ gz_tb := gz_mem 339 (by decide +kernel) rfl
theorem wl_341 : Cond.instanceMethod yX1_afterOf ∈ gz_tb := gz_mem 341 (by decide +kernel) rfl
theorem wl_343 : Cond.methodLink RX1 97 yX4_goneTo ∈ gz_tb := gz_mem 343 (by decide +kernel) rfl
theorem wl_344 : Cond.instanceMethod yX4_goneTo ∈ gz_tb := gz_mem 344 (by decide +kernel) rfl
theorem wl_347 : Cond.constantLong RX4 41 1152921504606846975 ∈ gz_tb := gz_mem 347 (by decide +kernel) rfl
theorem wl_348 : Cond.methodLink RX1 103 yX0_isGuarded ∈ gz_tb := gz_mem 348 (by decide +kernel) rfl
theorem wl_349 : Cond.instanceMethod yX0_isGuarded ∈ gz_tb := gz_mem 349 (by decide +kernel) rfl
theorem wl_352 : Cond.methodLink RX1 83 yX1_growSummary ∈ gz_tb := gz_mem 352 (by decide +kernel) rfl
theorem wl_354 : Cond.instanceMethod yX1_growSummary ∈ gz_tb := gz_mem 354 (by decide +kernel) rfl
theorem wl_356 : Cond.methodLink RX1 87 yX1_passOn ∈ gz_tb := gz_mem 356 (by decide +kernel) rfl
theorem wl_358 : Cond.instanceMethod yX1_passOn ∈ gz_tb := gz_mem 358 (by decide +kernel) rfl
theorem wl_360 : Cond.methodLink RX1 106 yX0_goesToNumber ∈ gz_tb := gz_mem 360 (by decide +kernel) rfl
theorem wl_361 : Cond.methodLink RX1 91 yX1_passToHandlers ∈ gz_tb := gz_mem 361 (by decide +kernel) rfl
theorem wl_363 : Cond.instanceMethod yX1_passToHandlers ∈ gz_tb := gz_mem 363 (by decide +kernel) rfl
theorem wl_365 : Cond.methodLink RX1 49 yX1_wakeCallers ∈ gz_tb := gz_mem 365 (by decide +kernel) rfl
theorem wl_367 : Cond.instanceMethod yX1_wakeCallers ∈ gz_tb := gz_mem 367 (by decide +kernel) rfl
theorem wl_369 : Cond.methodLink RX1 137 yX1_wakeCallersIn ∈ gz_tb := gz_mem 369 (by decide +kernel) rfl
theorem wl_371 : Cond.instanceMethod yX1_wakeCallersIn ∈ gz_tb := gz_mem 371 (by decide +kernel) rfl
theorem wl_373 : Cond.methodLink RX5 108 yX2_countLacking ∈ gz_tb := gz_mem 373 (by decide +kernel) rfl
theorem wl_374 : Cond.instanceMethod yX2_countLacking ∈ gz_tb := gz_mem 374 (by decide +kernel) rfl
theorem wl_377 : Cond.methodLink RX2 19 yX3_body ∈ gz_tb := gz_mem 377 (by decide +kernel) rfl
theorem wl_378 : Cond.methodLink RX2 25 yX2_lackingIn ∈ gz_tb := gz_mem 378 (by decide +kernel) rfl
theorem wl_380 : Cond.instanceMethod yX2_lackingIn ∈ gz_tb := gz_mem 380 (by decide +kernel) rfl
theorem wl_382 : Cond.methodLink RX2 35 yX4_lacksGuard ∈ gz_tb := gz_mem 382 (by decide +kernel) rfl
theorem wl_383 : Cond.instanceMethod yX4_lacksGuard ∈ gz_tb := gz_mem 383 (by decide +kernel) rfl
theorem wl_386 : Cond.methodLink RX4 59 yX4_needsGuard ∈ gz_tb := gz_mem 386 (by decide +kernel) rfl
theorem wl_387 : Cond.instanceMethod yX4_needsGuard ∈ gz_tb := gz_mem 387 (by decide +kernel) rfl
theorem wl_390 : Cond.methodLink RX4 55 yX4_changesSome ∈ gz_tb := gz_mem 390 (by decide +kernel) rfl
theorem wl_392 : Cond.instanceMethod yX4_changesSome ∈ gz_tb := gz_mem 392 (by decide +kernel) rfl
theorem wl_394 : Cond.methodLink RX4 63 yX0_isGuarded ∈ gz_tb := gz_mem 394 (by decide +kernel) rfl
theorem wl_395 : Cond.methodLink RX5 112 yX2_copyWithGuards ∈ gz_tb := gz_mem 395 (by decide +kernel) rfl
theorem wl_396 : Cond.instanceMethod yX2_copyWithGuards ∈ gz_tb := gz_mem 396 (by decide +kernel) rfl
theorem wl_399 : Cond.methodLink RX2 41 yX3_clear ∈ gz_tb := gz_mem 399 (by decide +kernel) rfl
theorem wl_400 : Cond.methodLink RX2 44 yX3_append ∈ gz_tb := gz_mem 400 (by decide +kernel) rfl
theorem wl_401 : Cond.methodLink RX2 47 yX2_copyInstructions ∈ gz_tb := gz_mem 401 (by decide +kernel) rfl
theorem wl_403 : Cond.instanceMethod yX2_copyInstructions ∈ gz_tb := gz_mem 403 (by decide +kernel) rfl
theorem wl_405 : Cond.methodLink RX2 61 yX0_put ∈ gz_tb := gz_mem 405 (by decide +kernel) rfl
theorem wl_406 : Cond.methodLink RX2 51 yX2_moveTargets ∈ gz_tb := gz_mem 406 (by decide +kernel) rfl
theorem wl_408 : Cond.instanceMethod yX2_moveTargets ∈ gz_tb := gz_mem 408 (by decide +kernel) rfl
theorem wl_410 : Cond.methodLink RX2 68 yX0_goesToNumber ∈ gz_tb := gz_mem 410 (by decide +kernel) rfl
theorem wl_411 : Cond.methodLink RX2 55 yX2_copyHandlers ∈ gz_tb := gz_mem 411 (by decide +kernel) rfl
theorem wl_413 : Cond.instanceMethod yX2_copyHandlers ∈ gz_tb := gz_mem 413 (by decide +kernel) rfl
theorem wl_415 : Cond.methodLink RX2 84 yX0_addHandler ∈ gz_tb := gz_mem 415 (by decide +kernel) rfl
theorem wl_424 : Cond.methodLink RX5 116 yX5_programOf ∈ gz_tb := gz_mem 424 (by decide +kernel) rfl
theorem wl_426 : Cond.instanceMethod yX5_programOf ∈ gz_tb := gz_mem 426 (by decide +kernel) rfl
theorem wl_428 : Cond.methodLink RX5 120 yX5_firstUncertified ∈ gz_tb := gz_mem 428 (by decide +kernel) rfl
theorem wl_430 : Cond.instanceMethod yX5_firstUncertified ∈ gz_tb := gz_mem 430 (by decide +kernel) rfl
theorem wl_432 : Cond.methodLink RX5 135 yX0_isGuarded ∈ gz_tb := gz_mem 432 (by decide +kernel) rfl
theorem wl_433 : Cond.methodLink RX5 203 yX4_lacksGuard ∈ gz_tb := gz_mem 433 (by decide +kernel) rfl
theorem wl_438 : Cond.methodLink RX5 124 yX5_settledBody ∈ gz_tb := gz_mem 438 (by decide +kernel) rfl
theorem wl_440 : Cond.instanceMethod yX5_settledBody ∈ gz_tb := gz_mem 440 (by decide +kernel) rfl
theorem wl_442 : Cond.methodLink RX5 138 yX4_needsGuard ∈ gz_tb := gz_mem 442 (by decide +kernel) rfl
theorem wl_443 : Cond.methodLink RX5 146 yJ13_bitCount_95d88 ∈ gz_tb := gz_mem 443 (by decide +kernel) rfl
theorem wl_444 : Cond.static yJ13_bitCount_95d88 ∈ gz_tb := gz_mem 444 (by decide +kernel) rfl
theorem wl_446 : Cond.constantLong RJ13 314 6148914691236517205 ∈ gz_tb := gz_mem 446 (by decide +kernel) rfl
theorem wl_447 : Cond.constantLong RJ13 316 3689348814741910323 ∈ gz_tb := gz_mem 447 (by decide +kernel) rfl
theorem wl_448 : Cond.constantLong RJ13 318 1085102592571150095 ∈ gz_tb := gz_mem 448 (by decide +kernel) rfl
theorem wl_461 : Cond.methodLink RX5 168 yX0_countOfKind ∈ gz_tb := gz_mem 461 (by decide +kernel) rfl
theorem wl_462 : Cond.instanceMethod yX0_countOfKind ∈ gz_tb := gz_mem 462 (by decide +kernel) rfl
theorem wl_465 : Cond.methodLink RX5 172 yX0_countReached ∈ gz_tb := gz_mem 465 (by decide +kernel) rfl
theorem wl_466 : Cond.instanceMethod yX0_countReached ∈ gz_tb := gz_mem 466 (by decide +kernel) rfl
theorem wl_481 : Cond.methodLink RX5 194 yX3_countInstructions ∈ gz_tb := gz_mem 481 (by decide +kernel) rfl
theorem wl_482 : Cond.instanceMethod yX3_countInstructions ∈ gz_tb := gz_mem 482 (by decide +kernel) rfl
theorem wl_485 : Cond.methodLink RX3 31 yX3_body ∈ gz_tb := gz_mem 485 (by decide +kernel) rfl
theorem wl_486 : Cond.methodLink RX5 197 yX4_countAlways ∈ gz_tb := gz_mem 486 (by decide +kernel) rfl
theorem wl_487 : Cond.instanceMethod yX4_countAlways ∈ gz_tb := gz_mem 487 (by decide +kernel) rfl
theorem wl_495 : Cond.methodLink RX6 1 Lib.objectInit ∈ gz_tb := gz_mem 495 (by decide +kernel) rfl
theorem wl_496 : Cond.constant RX6 13 58560 ∈ gz_tb := gz_mem 496 (by decide +kernel) rfl
theorem wl_497 : Cond.fieldLink RX6 65 (TX6 0).1 (TX6 0).2.1 (TX6 0).2.2.1 ∈ gz_tb := gz_mem 497 (by decide +kernel) rfl
theorem wl_498 : Cond.fieldLink RX6 7 (TX6 1).1 (TX6 1).2.1 (TX6 1).2.2.1 ∈ gz_tb := gz_mem 498 (by decide +kernel) rfl
theorem wl_499 : Cond.fieldLink RX6 14 (TX6 2).1 (TX6 2).2.1 (TX6 2).2.2.1 ∈ gz_tb := gz_mem 499 (by decide +kernel) rfl
theorem wl_500 : Cond.fieldLink RX6 18 (TX6 3).1 (TX6 3).2.1 (TX6 3).2.2.1 ∈ gz_tb := gz_mem 500 (by decide +kernel) rfl
theorem wl_501 : Cond.fieldLink RX6 21 (TX6 4).1 (TX6 4).2.1 (TX6 4).2.2.1 ∈ gz_tb := gz_mem 501 (by decide +kernel) rfl
theorem wl_502 : Cond.fieldLink RX6 25 (TX6 5).1 (TX6 5).2.1 (TX6 5).2.2.1 ∈ gz_tb := gz_mem 502 (by decide +kernel) rfl
theorem wl_503 : Cond.fieldLink RX6 28 (TX6 6).1 (TX6 6).2.1 (TX6 6).2.2.1 ∈ gz_tb := gz_mem 503 (by decide +kernel) rfl
theorem wl_504 : Cond.fieldLink RX6 31 (TX6 7).1 (TX6 7).2.1 (TX6 7).2.2.1 ∈ gz_tb := gz_mem 504 (by decide +kernel) rfl
theorem wl_505 : Cond.fieldLink RX6 34 (TX6 8).1 (TX6 8).2.1 (TX6 8).2.2.1 ∈ gz_tb := gz_mem 505 (by decide +kernel) rfl
theorem wl_506 : Cond.fieldLink RX6 37 (TX6 9).1 (TX6 9).2.1 (TX6 9).2.2.1 ∈ gz_tb := gz_mem 506 (by decide +kernel) rfl
theorem wl_507 : Cond.fieldLink RX6 40 (TX6 10).1 (TX6 10).2.1 (TX6 10).2.2.1 ∈ gz_tb := gz_mem 507 (by decide +kernel) rfl
theorem wl_508 : Cond.fieldLink RX6 43 (TX6 11).1 (TX6 11).2.1 (TX6 11).2.2.1 ∈ gz_tb := gz_mem 508 (by decide +kernel) rfl
theorem wl_509 : Cond.fieldLink RX6 68 (TX6 12).1 (TX6 12).2.1 (TX6 12).2.2.1 ∈ gz_tb := gz_mem 509 (by decide +kernel) rfl
theorem wl_510 : Cond.fieldLink RX6 46 (TX6 13).1 (TX6 13).2.1 (TX6 13).2.2.1 ∈ gz_tb := gz_mem 510 (by decide +kernel) rfl
theorem wl_511 : Cond.fieldLink RX6 49 (TX6 14).1 (TX6 14).2.1 (TX6 14).2.2.1 ∈ gz_tb := gz_mem 511 (by decide +kernel) rfl
theorem wl_512 : Cond.fieldLink RX6 53 (TX6 15).1 (TX6 15).2.1 (TX6 15).2.2.1 ∈ gz_tb := gz_mem 512 (by decide +kernel) rfl
theorem wl_513 : Cond.fieldLink RX6 56 (TX6 16).1 (TX6 16).2.1 (TX6 16).2.2.1 ∈ gz_tb := gz_mem 513 (by decide +kernel) rfl
theorem wl_514 : Cond.fieldLink RX6 59 (TX6 17).1 (TX6 17).2.1 (TX6 17).2.2.1 ∈ gz_tb := gz_mem 514 (by decide +kernel) rfl
theorem wl_515 : Cond.fieldLink RX6 97 (TX6 18).1 (TX6 18).2.1 (TX6 18).2.2.1 ∈ gz_tb := gz_mem 515 (by decide +kernel) rfl
theorem wl_516 : Cond.fieldLink RX6 62 (TX6 19).1 (TX6 19).2.1 (TX6 19).2.2.1 ∈ gz_tb := gz_mem 516 (by decide +kernel) rfl
theorem wl_562 : Cond.methodLink RX6 76 yX6_change ∈ gz_tb := gz_mem 562 (by decide +kernel) rfl
theorem wl_564 : Cond.instanceMethod yX6_change ∈ gz_tb := gz_mem 564 (by decide +kernel) rfl
theorem wl_570 : Cond.methodLink RX6 79 yX6_canWay ∈ gz_tb := gz_mem 570 (by decide +kernel) rfl
theorem wl_572 : Cond.instanceMethod yX6_canWay ∈ gz_tb := gz_mem 572 (by decide +kernel) rfl
theorem wl_574 : Cond.methodLink RX6 72 yX6_isState ∈ gz_tb := gz_mem 574 (by decide +kernel) rfl
theorem wl_576 : Cond.instanceMethod yX6_isState ∈ gz_tb := gz_mem 576 (by decide +kernel) rfl
theorem wl_578 : Cond.methodLink RX6 83 yX6_wayAt ∈ gz_tb := gz_mem 578 (by decide +kernel) rfl
theorem wl_579 : Cond.static yX6_wayAt ∈ gz_tb := gz_mem 579 (by decide +kernel) rfl
theorem wl_597 : Cond.methodLink RX6 87 yX6_isThere ∈ gz_tb := gz_mem 597 (by decide +kernel) rfl
theorem wl_599 : Cond.instanceMethod yX6_isThere ∈ gz_tb := gz_mem 599 (by decide +kernel) rfl
theorem wl_601 : Cond.methodLink RX6 90 yX6_below ∈ gz_tb := gz_mem 601 (by decide +kernel) rfl
theorem wl_603 : Cond.instanceMethod yX6_below ∈ gz_tb := gz_mem 603 (by decide +kernel) rfl
theorem wl_613 : Cond.methodLink RX6 125 yX6_lacking ∈ gz_tb := gz_mem 613 (by decide +kernel) rfl
theorem wl_615 : Cond.instanceMethod yX6_lacking ∈ gz_tb := gz_mem 615 (by decide +kernel) rfl
theorem wl_617 : Cond.methodLink RX6 122 yX6_lacks ∈ gz_tb := gz_mem 617 (by decide +kernel) rfl
theorem wl_619 : Cond.instanceMethod yX6_lacks ∈ gz_tb := gz_mem 619 (by decide +kernel) rfl
theorem wl_621 : Cond.methodLink RX6 119 yX6_needs ∈ gz_tb := gz_mem 621 (by decide +kernel) rfl
theorem wl_623 : Cond.instanceMethod yX6_needs ∈ gz_tb := gz_mem 623 (by decide +kernel) rfl
theorem wl_625 : Cond.methodLink RX6 115 yX6_find ∈ gz_tb := gz_mem 625 (by decide +kernel) rfl
theorem wl_627 : Cond.instanceMethod yX6_find ∈ gz_tb := gz_mem 627 (by decide +kernel) rfl
theorem wl_629 : Cond.methodLink RX6 107 yX6_join ∈ gz_tb := gz_mem 629 (by decide +kernel) rfl
theorem wl_631 : Cond.instanceMethod yX6_join ∈ gz_tb := gz_mem 631 (by decide +kernel) rfl
theorem wl_633 : Cond.methodLink RX6 111 yX6_goOn ∈ gz_tb := gz_mem 633 (by decide +kernel) rfl
theorem wl_635 : Cond.instanceMethod yX6_goOn ∈ gz_tb := gz_mem 635 (by decide +kernel) rfl
theorem wl_637 : Cond.methodLink RX6 100 yX6_isGuarded ∈ gz_tb := gz_mem 637 (by decide +kernel) rfl
theorem wl_639 : Cond.instanceMethod yX6_isGuarded ∈ gz_tb := gz_mem 639 (by decide +kernel) rfl
theorem wl_641 : Cond.methodLink RX6 94 yX6_isGoal ∈ gz_tb := gz_mem 641 (by decide +kernel) rfl
theorem wl_643 : Cond.instanceMethod yX6_isGoal ∈ gz_tb := gz_mem 643 (by decide +kernel) rfl
theorem wl_645 : Cond.methodLink RX6 103 yX6_led ∈ gz_tb := gz_mem 645 (by decide +kernel) rfl
theorem wl_647 : Cond.instanceMethod yX6_led ∈ gz_tb := gz_mem 647 (by decide +kernel) rfl
theorem wl_649 : Cond.methodLink RX6 129 yX6_weave ∈ gz_tb := gz_mem 649 (by decide +kernel) rfl
theorem wl_651 : Cond.instanceMethod yX6_weave ∈ gz_tb := gz_mem 651 (by decide +kernel) rfl
theorem wl_665 : Cond.methodLink RX6 132 yX6_which ∈ gz_tb := gz_mem 665 (by decide +kernel) rfl
theorem wl_667 : Cond.instanceMethod yX6_which ∈ gz_tb := gz_mem 667 (by decide +kernel) rfl
theorem wl_669 : Cond.methodLink RX6 136 yX6_bits ∈ gz_tb := gz_mem 669 (by decide +kernel) rfl
theorem wl_671 : Cond.instanceMethod yX6_bits ∈ gz_tb := gz_mem 671 (by decide +kernel) rfl
theorem wl_685 : Cond.methodLink RX6 140 yX6_countOf ∈ gz_tb := gz_mem 685 (by decide +kernel) rfl
theorem wl_687 : Cond.instanceMethod yX6_countOf ∈ gz_tb := gz_mem 687 (by decide +kernel) rfl
theorem wl_689 : Cond.methodLink RX6 143 yX6_comeTo ∈ gz_tb := gz_mem 689 (by decide +kernel) rfl
theorem wl_691 : Cond.instanceMethod yX6_comeTo ∈ gz_tb := gz_mem 691 (by decide +kernel) rfl
theorem wl_701 : Cond.methodLink RX6 146 yX6_wayMany ∈ gz_tb := gz_mem 701 (by decide +kernel) rfl
theorem wl_703 : Cond.instanceMethod yX6_wayMany ∈ gz_tb := gz_mem 703 (by decide +kernel) rfl
theorem wl_705 : Cond.methodLink RX6 150 yX6_instructions ∈ gz_tb := gz_mem 705 (by decide +kernel) rfl
theorem wl_707 : Cond.instanceMethod yX6_instructions ∈ gz_tb := gz_mem 707 (by decide +kernel) rfl
theorem wl_709 : Cond.methodLink RX6 153 yX6_neededMany ∈ gz_tb := gz_mem 709 (by decide +kernel) rfl
theorem wl_711 : Cond.instanceMethod yX6_neededMany ∈ gz_tb := gz_mem 711 (by decide +kernel) rfl
theorem kcX0 : gx_cc gz_cl gz_tb 0 RX0 TX0 15 tyX0 := ⟨rfl, fun w hw => List.mem_filter.mpr ⟨(show ∀ w ∈ u_ws RX0 TX0 15, w ∈ lw_tbl by decide +kernel) w hw, (show ∀ w ∈ u_ws RX0 TX0 15, goodWord w = true by decide +kernel) w hw⟩, tyX0_ok, nmX0⟩
theorem dfX0 : ∀ j, j < 15 → defaultValue (tyX0 j) = vp_V [.int 0, .null, .null, .null, .null, .null, .int 0, .int 0, .null, .null, .null, .long 0, .long 0, .long 0, .int 0] j := by decide +kernel
theorem kcX1 : gx_cc gz_cl gz_tb 1 RX1 TX1 4 tyX1 := ⟨rfl, fun w hw => List.mem_filter.mpr ⟨(show ∀ w ∈ u_ws RX1 TX1 4, w ∈ lw_tbl by decide +kernel) w hw, (show ∀ w ∈ u_ws RX1 TX1 4, goodWord w = true by decide +kernel) w hw⟩, tyX1_ok, nmX1⟩
theorem dfX1 : ∀ j, j < 4 → defaultValue (tyX1 j) = vp_V [.null, .null, .int 0, .int 0] j := by decide +kernel
theorem kcX2 : gx_cc gz_cl gz_tb 2 RX2 TX2 2 tyX2 := ⟨rfl, fun w hw => List.mem_filter.mpr ⟨(show ∀ w ∈ u_ws RX2 TX2 2, w ∈ lw_tbl by decide +kernel) w hw, (show ∀ w ∈ u_ws RX2 TX2 2, goodWord w = true by decide +kernel) w hw⟩, tyX2_ok, nmX2⟩
theorem dfX2 : ∀ j, j < 2 → defaultValue (tyX2 j) = vp_V [.null, .null] j := by decide +kernel
theorem kcX3 : gx_cc gz_cl gz_tb 3 RX3 TX3 3 tyX3 := ⟨rfl, fun w hw => List.mem_filter.mpr ⟨(show ∀ w ∈ u_ws RX3 TX3 3, w ∈ lw_tbl by decide +kernel) w hw, (show ∀ w ∈ u_ws RX3 TX3 3, goodWord w = true by decide +kernel) w hw⟩, tyX3_ok, nmX3⟩
theorem dfX3 : ∀ j, j < 3 → defaultValue (tyX3 j) = vp_V [.null, .int 0, .int 0] j := by decide +kernel
theorem kcX4 : gx_cc gz_cl gz_tb 4 RX4 TX4 4 tyX4 := ⟨rfl, fun w hw => List.mem_filter.mpr ⟨(show ∀ w ∈ u_ws RX4 TX4 4, w ∈ lw_tbl by decide +kernel) w hw, (show ∀ w ∈ u_ws RX4 TX4 4, goodWord w = true by decide +kernel) w hw⟩, tyX4_ok, nmX4⟩
theorem dfX4 : ∀ j, j < 4 → defaultValue (tyX4 j) = vp_V [.null, .null, .int 0, .int 0] j := by decide +kernel
theorem kcX5 : gx_cc gz_cl gz_tb 5 RX5 TX5 6 tyX5 := ⟨rfl, fun w hw => List.mem_filter.mpr ⟨(show ∀ w ∈ u_ws RX5 TX5 6, w ∈ lw_tbl by decide +kernel) w hw, (show ∀ w ∈ u_ws RX5 TX5 6, goodWord w = true by decide +kernel) w hw⟩, tyX5_ok, nmX5⟩
theorem dfX5 : ∀ j, j < 6 → defaultValue (tyX5 j) = vp_V [.null, .null, .null, .null, .null, .int 0] j := by decide +kernel
theorem kcX6 : gx_cc gz_cl gz_tb 6 RX6 TX6 20 tyX6 := ⟨rfl, fun w hw => List.mem_filter.mpr ⟨(show ∀ w ∈ u_ws RX6 TX6 20, w ∈ lw_tbl by decide +kernel) w hw, (show ∀ w ∈ u_ws RX6 TX6 20, goodWord w = true by decide +kernel) w hw⟩, tyX6_ok, nmX6⟩
theorem dfX6 : ∀ j, j < 20 → defaultValue (tyX6 j) = vp_V [.int 0, .int 0, .null, .null, .null, .null, .null, .null, .null, .null, .null, .null, .int 0, .null, .null, .null, .null, .null, .int 0, .null] j := by decide +kernel
set_option maxRecDepth 20000 in
theorem cd_J13_bitCount_95d88 : gx_cd gz_tb yJ13_bitCount_95d88 cJ13_bitCount_95d88 2 (some .int) 1 := ⟨(gz_c2 205 rfl rfl), gz_mem 8 (by decide +kernel) rfl, by decide +kernel, by decide +kernel, by decide +kernel⟩
set_option maxRecDepth 20000 in
theorem cd_X0_addHandler : gx_cd gz_tb yX0_addHandler cX0_addHandler 4 none 3 := ⟨(gz_c2 59 rfl rfl), gz_mem 7 (by decide +kernel) rfl, by decide +kernel, by decide +kernel, by decide +kernel⟩
theorem ws_X0_addHandler : Cond.selects yX0_addHandler.cls yX0_addHandler yX0_addHandler ∈ gz_tb := gz_mem 298 (by decide +kernel) rfl
set_option maxRecDepth 20000 in
theorem cd_X0_hasInstruction : gx_cd gz_tb yX0_hasInstruction cX0_hasInstruction 2 (some .boolean) 1 := ⟨(gz_c2 41 rfl rfl), gz_mem 7 (by decide +kernel) rfl, by decide +kernel, by decide +kernel, by decide +kernel⟩
theorem ws_X0_hasInstruction : Cond.selects yX0_hasInstruction.cls yX0_hasInstruction yX0_hasInstruction ∈ gz_tb := gz_mem 280 (by decide +kernel) rfl
set_option maxRecDepth 20000 in
theorem cd_X0_canHandle : gx_cd gz_tb yX0_canHandle cX0_canHandle 4 (some .boolean) 3 := ⟨(gz_c2 55 rfl rfl), gz_mem 7 (by decide +kernel) rfl, by decide +kernel, by decide +kernel, by decide +kernel⟩
theorem ws_X0_canHandle : Cond.selects yX0_canHandle.cls yX0_canHandle yX0_canHandle ∈ gz_tb := gz_mem 294 (by decide +kernel) rfl
set_option maxRecDepth 20000 in
theorem cd_X0_canHold : gx_cd gz_tb yX0_canHold cX0_canHold 3 (some .boolean) 2 := ⟨(gz_c2 45 rfl rfl), gz_mem 7 (by decide +kernel) rfl, by decide +kernel, by decide +kernel, by decide +kernel⟩
theorem ws_X0_canHold : Cond.selects yX0_canHold.cls yX0_canHold yX0_canHold ∈ gz_tb := gz_mem 284 (by decide +kernel) rfl
set_option maxRecDepth 20000 in
theorem cd_X0_countOfKind : gx_cd gz_tb yX0_countOfKind cX0_countOfKind 4 (some .int) 1 := ⟨(gz_c2 224 rfl rfl), gz_mem 7 (by decide +kernel) rfl, by decide +kernel, by decide +kernel, by decide +kernel⟩
theorem ws_X0_countOfKind : Cond.selects yX0_countOfKind.cls yX0_countOfKind yX0_countOfKind ∈ gz_tb := gz_mem 463 (by decide +kernel) rfl
set_option maxRecDepth 20000 in
theorem cd_X0_countReached : gx_cd gz_tb yX0_countReached cX0_countReached 3 (some .int) 0 := ⟨(gz_c2 228 rfl rfl), gz_mem 7 (by decide +kernel) rfl, by decide +kernel, by decide +kernel, by decide +kernel⟩
theorem ws_X0_countReached : Cond.selects yX0_countReached.cls yX0_countReached yX0_countReached ∈ gz_tb := gz_mem 467 (by decide +kernel) rfl
set_option maxRecDepth 20000 in
theorem cd_X0_goesToNumber : gx_cd gz_tb yX0_goesToNumber cX0_goesToNumber 2 (some .boolean) 1 := ⟨(gz_c2 80 rfl rfl), gz_mem 7 (by decide +kernel) rfl, by decide +kernel, by decide +kernel, by decide +kernel⟩
theorem ws_X0_goesToNumber : Cond.selects yX0_goesToNumber.cls yX0_goesToNumber yX0_goesToNumber ∈ gz_tb := gz_mem 319 (by decide +kernel) rfl
set_option maxRecDepth 20000 in
theorem cd_X0_forgetSets : gx_cd gz_tb yX0_forgetSets cX0_forgetSets 2 none 0 := ⟨(gz_c2 76 rfl rfl), gz_mem 7 (by decide +kernel) rfl, by decide +kernel, by decide +kernel, by decide +kernel⟩
theorem ws_X0_forgetSets : Cond.selects yX0_forgetSets.cls yX0_forgetSets yX0_forgetSets ∈ gz_tb := gz_mem 315 (by decide +kernel) rfl
set_option maxRecDepth 20000 in
theorem cd_X0_init : gx_cd gz_tb yX0_init cX0_init 2 none 1 := ⟨(gz_c1 177 rfl rfl), gz_mem 7 (by decide +kernel) rfl, by decide +kernel, by decide +kernel, by decide +kernel⟩
set_option maxRecDepth 20000 in
theorem cd_X0_isGuarded : gx_cd gz_tb yX0_isGuarded cX0_isGuarded 2 (some .boolean) 1 := ⟨(gz_c2 111 rfl rfl), gz_mem 7 (by decide +kernel) rfl, by decide +kernel, by decide +kernel, by decide +kernel⟩
theorem ws_X0_isGuarded : Cond.selects yX0_isGuarded.cls yX0_isGuarded yX0_isGuarded ∈ gz_tb := gz_mem 350 (by decide +kernel) rfl
set_option maxRecDepth 20000 in
theorem cd_X0_put : gx_cd gz_tb yX0_put cX0_put 4 none 3 := ⟨(gz_c2 29 rfl rfl), gz_mem 7 (by decide +kernel) rfl, by decide +kernel, by decide +kernel, by decide +kernel⟩
theorem ws_X0_put : Cond.selects yX0_put.cls yX0_put yX0_put ∈ gz_tb := gz_mem 268 (by decide +kernel) rfl
set_option maxRecDepth 20000 in
theorem cd_X0_renew : gx_cd gz_tb yX0_renew cX0_renew 3 none 1 := ⟨(gz_c2 25 rfl rfl), gz_mem 7 (by decide +kernel) rfl, by decide +kernel, by decide +kernel, by decide +kernel⟩
theorem ws_X0_renew : Cond.selects yX0_renew.cls yX0_renew yX0_renew ∈ gz_tb := gz_mem 264 (by decide +kernel) rfl
set_option maxRecDepth 20000 in
theorem cd_X4_waysFrom : gx_cd gz_tb yX4_waysFrom cX4_waysFrom 3 (some .long) 2 := ⟨(gz_c1 149 rfl rfl), gz_mem 2 (by decide +kernel) rfl, by decide +kernel, by decide +kernel, by decide +kernel⟩
theorem ws_X4_waysFrom : Cond.selects yX4_waysFrom.cls yX4_waysFrom yX4_waysFrom ∈ gz_tb := gz_sel (by decide +kernel) rfl
set_option maxRecDepth 20000 in
theorem cd_X4_goneTo : gx_cd gz_tb yX4_goneTo cX4_goneTo 7 (some .long) 2 := ⟨(gz_c2 106 rfl rfl), gz_mem 2 (by decide +kernel) rfl, by decide +kernel, by decide +kernel, by decide +kernel⟩
theorem ws_X4_goneTo : Cond.selects yX4_goneTo.cls yX4_goneTo yX4_goneTo ∈ gz_tb := gz_mem 345 (by decide +kernel) rfl
set_option maxRecDepth 20000 in
theorem cd_X1_afterOf : gx_cd gz_tb yX1_afterOf cX1_afterOf 4 (some .long) 3 := ⟨(gz_c2 102 rfl rfl), gz_mem 3 (by decide +kernel) rfl, by decide +kernel, by decide +kernel, by decide +kernel⟩
theorem ws_X1_afterOf : Cond.selects yX1_afterOf.cls yX1_afterOf yX1_afterOf ∈ gz_tb := gz_sel (by decide +kernel) rfl
set_option maxRecDepth 20000 in
theorem cd_X3_body : gx_cd gz_tb yX3_body cX3_body 2 (some (.object "GuardFlow$Body")) 1 := ⟨(gz_c2 37 rfl rfl), gz_mem 5 (by decide +kernel) rfl, by decide +kernel, by decide +kernel, by decide +kernel⟩
theorem ws_X3_body : Cond.selects yX3_body.cls yX3_body yX3_body ∈ gz_tb := gz_mem 276 (by decide +kernel) rfl
set_option maxRecDepth 20000 in
theorem cd_X1_forgetAll : gx_cd gz_tb yX1_forgetAll cX1_forgetAll 4 none 1 := ⟨(gz_c2 71 rfl rfl), gz_mem 3 (by decide +kernel) rfl, by decide +kernel, by decide +kernel, by decide +kernel⟩
theorem ws_X1_forgetAll : Cond.selects yX1_forgetAll.cls yX1_forgetAll yX1_forgetAll ∈ gz_tb := gz_sel (by decide +kernel) rfl
set_option maxRecDepth 20000 in
theorem cd_X1_waitAt : gx_cd gz_tb yX1_waitAt cX1_waitAt 3 none 2 := ⟨(gz_c2 93 rfl rfl), gz_mem 3 (by decide +kernel) rfl, by decide +kernel, by decide +kernel, by decide +kernel⟩
theorem ws_X1_waitAt : Cond.selects yX1_waitAt.cls yX1_waitAt yX1_waitAt ∈ gz_tb := gz_sel (by decide +kernel) rfl
set_option maxRecDepth 20000 in
theorem cd_X1_growMay : gx_cd gz_tb yX1_growMay cX1_growMay 5 none 3 := ⟨(gz_c2 88 rfl rfl), gz_mem 3 (by decide +kernel) rfl, by decide +kernel, by decide +kernel, by decide +kernel⟩
theorem ws_X1_growMay : Cond.selects yX1_growMay.cls yX1_growMay yX1_growMay ∈ gz_tb := gz_sel (by decide +kernel) rfl
set_option maxRecDepth 20000 in
theorem cd_X1_growEntry : gx_cd gz_tb yX1_growEntry cX1_growEntry 4 none 2 := ⟨(gz_c2 84 rfl rfl), gz_mem 3 (by decide +kernel) rfl, by decide +kernel, by decide +kernel, by decide +kernel⟩
theorem ws_X1_growEntry : Cond.selects yX1_growEntry.cls yX1_growEntry yX1_growEntry ∈ gz_tb := gz_sel (by decide +kernel) rfl
set_option maxRecDepth 20000 in
theorem cd_X1_growSummary : gx_cd gz_tb yX1_growSummary cX1_growSummary 6 none 3 := ⟨(gz_c2 115 rfl rfl), gz_mem 3 (by decide +kernel) rfl, by decide +kernel, by decide +kernel, by decide +kernel⟩
theorem ws_X1_growSummary : Cond.selects yX1_growSummary.cls yX1_growSummary yX1_growSummary ∈ gz_tb := gz_sel (by decide +kernel) rfl
set_option maxRecDepth 20000 in
theorem cd_X1_init : gx_cd gz_tb yX1_init cX1_init 2 none 1 := ⟨(gz_c1 45 rfl rfl), gz_mem 3 (by decide +kernel) rfl, by decide +kernel, by decide +kernel, by decide +kernel⟩
set_option maxRecDepth 20000 in
theorem cd_X1_passOn : gx_cd gz_tb yX1_passOn cX1_passOn 6 none 3 := ⟨(gz_c2 119 rfl rfl), gz_mem 3 (by decide +kernel) rfl, by decide +kernel, by decide +kernel, by decide +kernel⟩
theorem ws_X1_passOn : Cond.selects yX1_passOn.cls yX1_passOn yX1_passOn ∈ gz_tb := gz_sel (by decide +kernel) rfl
set_option maxRecDepth 20000 in
theorem cd_X1_passToHandlers : gx_cd gz_tb yX1_passToHandlers cX1_passToHandlers 6 none 3 := ⟨(gz_c2 124 rfl rfl), gz_mem 3 (by decide +kernel) rfl, by decide +kernel, by decide +kernel, by decide +kernel⟩
theorem ws_X1_passToHandlers : Cond.selects yX1_passToHandlers.cls yX1_passToHandlers yX1_passToHandlers ∈ gz_tb := gz_sel (by decide +kernel) rfl
set_option maxRecDepth 20000 in
theorem cd_X1_step : gx_cd gz_tb yX1_step cX1_step 13 none 2 := ⟨(gz_c2 98 rfl rfl), gz_mem 3 (by decide +kernel) rfl, by decide +kernel, by decide +kernel, by decide +kernel⟩
theorem ws_X1_step : Cond.selects yX1_step.cls yX1_step yX1_step ∈ gz_tb := gz_sel (by decide +kernel) rfl
set_option maxRecDepth 20000 in
theorem cd_X1_wakeCallersIn : gx_cd gz_tb yX1_wakeCallersIn cX1_wakeCallersIn 5 none 2 := ⟨(gz_c2 132 rfl rfl), gz_mem 3 (by decide +kernel) rfl, by decide +kernel, by decide +kernel, by decide +kernel⟩
theorem ws_X1_wakeCallersIn : Cond.selects yX1_wakeCallersIn.cls yX1_wakeCallersIn yX1_wakeCallersIn ∈ gz_tb := gz_sel (by decide +kernel) rfl
set_option maxRecDepth 20000 in
theorem cd_X1_wakeCallers : gx_cd gz_tb yX1_wakeCallers cX1_wakeCallers 4 none 1 := ⟨(gz_c2 128 rfl rfl), gz_mem 3 (by decide +kernel) rfl, by decide +kernel, by decide +kernel, by decide +kernel⟩
theorem ws_X1_wakeCallers : Cond.selects yX1_wakeCallers.cls yX1_wakeCallers yX1_wakeCallers ∈ gz_tb := gz_sel (by decide +kernel) rfl
set_option maxRecDepth 20000 in
theorem cd_X1_settle : gx_cd gz_tb yX1_settle cX1_settle 4 none 1 := ⟨(gz_c2 67 rfl rfl), gz_mem 3 (by decide +kernel) rfl, by decide +kernel, by decide +kernel, by decide +kernel⟩
theorem ws_X1_settle : Cond.selects yX1_settle.cls yX1_settle yX1_settle ∈ gz_tb := gz_mem 306 (by decide +kernel) rfl
set_option maxRecDepth 20000 in
theorem cd_X2_copyHandlers : gx_cd gz_tb yX2_copyHandlers cX2_copyHandlers 4 none 2 := ⟨(gz_c2 174 rfl rfl), gz_mem 4 (by decide +kernel) rfl, by decide +kernel, by decide +kernel, by decide +kernel⟩
theorem ws_X2_copyHandlers : Cond.selects yX2_copyHandlers.cls yX2_copyHandlers yX2_copyHandlers ∈ gz_tb := gz_sel (by decide +kernel) rfl
set_option maxRecDepth 20000 in
theorem cd_X4_bitOf : gx_cd gz_tb yX4_bitOf cX4_bitOf 1 (some .long) 1 := ⟨(gz_c1 152 rfl rfl), gz_mem 2 (by decide +kernel) rfl, by decide +kernel, by decide +kernel, by decide +kernel⟩
set_option maxRecDepth 20000 in
theorem cd_X4_changesSome : gx_cd gz_tb yX4_changesSome cX4_changesSome 5 (some .boolean) 2 := ⟨(gz_c2 153 rfl rfl), gz_mem 2 (by decide +kernel) rfl, by decide +kernel, by decide +kernel, by decide +kernel⟩
theorem ws_X4_changesSome : Cond.selects yX4_changesSome.cls yX4_changesSome yX4_changesSome ∈ gz_tb := gz_sel (by decide +kernel) rfl
set_option maxRecDepth 20000 in
theorem cd_X4_needsGuard : gx_cd gz_tb yX4_needsGuard cX4_needsGuard 4 (some .boolean) 2 := ⟨(gz_c2 149 rfl rfl), gz_mem 2 (by decide +kernel) rfl, by decide +kernel, by decide +kernel, by decide +kernel⟩
theorem ws_X4_needsGuard : Cond.selects yX4_needsGuard.cls yX4_needsGuard yX4_needsGuard ∈ gz_tb := gz_mem 388 (by decide +kernel) rfl
set_option maxRecDepth 20000 in
theorem cd_X4_lacksGuard : gx_cd gz_tb yX4_lacksGuard cX4_lacksGuard 3 (some .boolean) 2 := ⟨(gz_c2 145 rfl rfl), gz_mem 2 (by decide +kernel) rfl, by decide +kernel, by decide +kernel, by decide +kernel⟩
theorem ws_X4_lacksGuard : Cond.selects yX4_lacksGuard.cls yX4_lacksGuard yX4_lacksGuard ∈ gz_tb := gz_mem 384 (by decide +kernel) rfl
set_option maxRecDepth 20000 in
theorem cd_X2_copyInstructions : gx_cd gz_tb yX2_copyInstructions cX2_copyInstructions 5 none 2 := ⟨(gz_c2 164 rfl rfl), gz_mem 4 (by decide +kernel) rfl, by decide +kernel, by decide +kernel, by decide +kernel⟩
theorem ws_X2_copyInstructions : Cond.selects yX2_copyInstructions.cls yX2_copyInstructions yX2_copyInstructions ∈ gz_tb := gz_sel (by decide +kernel) rfl
set_option maxRecDepth 20000 in
theorem cd_X3_clear : gx_cd gz_tb yX3_clear cX3_clear 1 none 0 := ⟨(gz_c1 125 rfl rfl), gz_mem 5 (by decide +kernel) rfl, by decide +kernel, by decide +kernel, by decide +kernel⟩
theorem ws_X3_clear : Cond.selects yX3_clear.cls yX3_clear yX3_clear ∈ gz_tb := gz_mem 124 (by decide +kernel) rfl
set_option maxRecDepth 20000 in
theorem cd_X2_lackingIn : gx_cd gz_tb yX2_lackingIn cX2_lackingIn 4 (some .int) 1 := ⟨(gz_c2 141 rfl rfl), gz_mem 4 (by decide +kernel) rfl, by decide +kernel, by decide +kernel, by decide +kernel⟩
theorem ws_X2_lackingIn : Cond.selects yX2_lackingIn.cls yX2_lackingIn yX2_lackingIn ∈ gz_tb := gz_sel (by decide +kernel) rfl
set_option maxRecDepth 20000 in
theorem cd_X3_append : gx_cd gz_tb yX3_append cX3_append 3 (some (.object "GuardFlow$Body")) 1 := ⟨(gz_c1 173 rfl rfl), gz_mem 5 (by decide +kernel) rfl, by decide +kernel, by decide +kernel, by decide +kernel⟩
theorem ws_X3_append : Cond.selects yX3_append.cls yX3_append yX3_append ∈ gz_tb := gz_mem 172 (by decide +kernel) rfl
set_option maxRecDepth 20000 in
theorem cd_X2_moveTargets : gx_cd gz_tb yX2_moveTargets cX2_moveTargets 3 none 1 := ⟨(gz_c2 169 rfl rfl), gz_mem 4 (by decide +kernel) rfl, by decide +kernel, by decide +kernel, by decide +kernel⟩
theorem ws_X2_moveTargets : Cond.selects yX2_moveTargets.cls yX2_moveTargets yX2_moveTargets ∈ gz_tb := gz_sel (by decide +kernel) rfl
set_option maxRecDepth 20000 in
theorem cd_X2_copyWithGuards : gx_cd gz_tb yX2_copyWithGuards cX2_copyWithGuards 6 none 2 := ⟨(gz_c2 158 rfl rfl), gz_mem 4 (by decide +kernel) rfl, by decide +kernel, by decide +kernel, by decide +kernel⟩
theorem ws_X2_copyWithGuards : Cond.selects yX2_copyWithGuards.cls yX2_copyWithGuards yX2_copyWithGuards ∈ gz_tb := gz_mem 397 (by decide +kernel) rfl
set_option maxRecDepth 20000 in
theorem cd_X2_countLacking : gx_cd gz_tb yX2_countLacking cX2_countLacking 6 (some .int) 1 := ⟨(gz_c2 136 rfl rfl), gz_mem 4 (by decide +kernel) rfl, by decide +kernel, by decide +kernel, by decide +kernel⟩
theorem ws_X2_countLacking : Cond.selects yX2_countLacking.cls yX2_countLacking yX2_countLacking ∈ gz_tb := gz_mem 375 (by decide +kernel) rfl
set_option maxRecDepth 20000 in
theorem cd_X2_init : gx_cd gz_tb yX2_init cX2_init 2 none 1 := ⟨(gz_c1 65 rfl rfl), gz_mem 4 (by decide +kernel) rfl, by decide +kernel, by decide +kernel, by decide +kernel⟩
set_option maxRecDepth 20000 in
theorem cd_X3_countInstructions : gx_cd gz_tb yX3_countInstructions cX3_countInstructions 4 (some .int) 0 := ⟨(gz_c3 4 rfl rfl), gz_mem 5 (by decide +kernel) rfl, by decide +kernel, by decide +kernel, by decide +kernel⟩
theorem ws_X3_countInstructions : Cond.selects yX3_countInstructions.cls yX3_countInstructions yX3_countInstructions ∈ gz_tb := gz_mem 483 (by decide +kernel) rfl
set_option maxRecDepth 20000 in
theorem cd_X3_init : gx_cd gz_tb yX3_init cX3_init 1 none 0 := ⟨(gz_c1 78 rfl rfl), gz_mem 5 (by decide +kernel) rfl, by decide +kernel, by decide +kernel, by decide +kernel⟩
set_option maxRecDepth 20000 in
theorem cd_X4_addWay : gx_cd gz_tb yX4_addWay cX4_addWay 4 none 3 := ⟨(gz_c1 156 rfl rfl), gz_mem 2 (by decide +kernel) rfl, by decide +kernel, by decide +kernel, by decide +kernel⟩
theorem ws_X4_addWay : Cond.selects yX4_addWay.cls yX4_addWay yX4_addWay ∈ gz_tb := gz_mem 155 (by decide +kernel) rfl
set_option maxRecDepth 20000 in
theorem cd_X4_isCall : gx_cd gz_tb yX4_isCall cX4_isCall 2 (some .boolean) 1 := ⟨(gz_c1 137 rfl rfl), gz_mem 2 (by decide +kernel) rfl, by decide +kernel, by decide +kernel, by decide +kernel⟩
theorem ws_X4_isCall : Cond.selects yX4_isCall.cls yX4_isCall yX4_isCall ∈ gz_tb := gz_mem 136 (by decide +kernel) rfl
set_option maxRecDepth 20000 in
theorem cd_X4_isState : gx_cd gz_tb yX4_isState cX4_isState 2 (some .boolean) 1 := ⟨(gz_c1 141 rfl rfl), gz_mem 2 (by decide +kernel) rfl, by decide +kernel, by decide +kernel, by decide +kernel⟩
theorem ws_X4_isState : Cond.selects yX4_isState.cls yX4_isState yX4_isState ∈ gz_tb := gz_sel (by decide +kernel) rfl
set_option maxRecDepth 20000 in
theorem cd_X4_canBe : gx_cd gz_tb yX4_canBe cX4_canBe 4 (some .boolean) 3 := ⟨(gz_c1 133 rfl rfl), gz_mem 2 (by decide +kernel) rfl, by decide +kernel, by decide +kernel, by decide +kernel⟩
theorem ws_X4_canBe : Cond.selects yX4_canBe.cls yX4_canBe yX4_canBe ∈ gz_tb := gz_mem 132 (by decide +kernel) rfl
set_option maxRecDepth 20000 in
theorem cd_X4_countAlways : gx_cd gz_tb yX4_countAlways cX4_countAlways 3 (some .int) 0 := ⟨(gz_c3 9 rfl rfl), gz_mem 2 (by decide +kernel) rfl, by decide +kernel, by decide +kernel, by decide +kernel⟩
theorem ws_X4_countAlways : Cond.selects yX4_countAlways.cls yX4_countAlways yX4_countAlways ∈ gz_tb := gz_mem 488 (by decide +kernel) rfl
set_option maxRecDepth 20000 in
theorem cd_X4_hasWay : gx_cd gz_tb yX4_hasWay cX4_hasWay 4 (some .boolean) 3 := ⟨(gz_c1 145 rfl rfl), gz_mem 2 (by decide +kernel) rfl, by decide +kernel, by decide +kernel, by decide +kernel⟩
theorem ws_X4_hasWay : Cond.selects yX4_hasWay.cls yX4_hasWay yX4_hasWay ∈ gz_tb := gz_mem 144 (by decide +kernel) rfl
set_option maxRecDepth 20000 in
theorem cd_X4_init : gx_cd gz_tb yX4_init cX4_init 1 none 0 := ⟨(gz_c1 21 rfl rfl), gz_mem 2 (by decide +kernel) rfl, by decide +kernel, by decide +kernel, by decide +kernel⟩
set_option maxRecDepth 20000 in
theorem cd_X4_renew : gx_cd gz_tb yX4_renew cX4_renew 3 none 1 := ⟨(gz_c1 121 rfl rfl), gz_mem 2 (by decide +kernel) rfl, by decide +kernel, by decide +kernel, by decide +kernel⟩
theorem ws_X4_renew : Cond.selects yX4_renew.cls yX4_renew yX4_renew ∈ gz_tb := gz_mem 120 (by decide +kernel) rfl
set_option maxRecDepth 20000 in
theorem cd_X5_noteChange : gx_cd gz_tb yX5_noteChange cX5_noteChange 1 none 0 := ⟨(gz_c1 160 rfl rfl), gz_mem 1 (by decide +kernel) rfl, by decide +kernel, by decide +kernel, by decide +kernel⟩
theorem ws_X5_noteChange : Cond.selects yX5_noteChange.cls yX5_noteChange yX5_noteChange ∈ gz_tb := gz_sel (by decide +kernel) rfl
set_option maxRecDepth 20000 in
theorem cd_X5_always : gx_cd gz_tb yX5_always cX5_always 3 (some .boolean) 2 := ⟨(gz_c1 164 rfl rfl), gz_mem 1 (by decide +kernel) rfl, by decide +kernel, by decide +kernel, by decide +kernel⟩
theorem ws_X5_always : Cond.selects yX5_always.cls yX5_always yX5_always ∈ gz_tb := gz_mem 163 (by decide +kernel) rfl
set_option maxRecDepth 20000 in
theorem cd_X5_begin : gx_cd gz_tb yX5_begin cX5_begin 2 (some .boolean) 1 := ⟨(gz_c1 117 rfl rfl), gz_mem 1 (by decide +kernel) rfl, by decide +kernel, by decide +kernel, by decide +kernel⟩
theorem ws_X5_begin : Cond.selects yX5_begin.cls yX5_begin yX5_begin ∈ gz_tb := gz_mem 116 (by decide +kernel) rfl
set_option maxRecDepth 20000 in
theorem cd_X5_programOf : gx_cd gz_tb yX5_programOf cX5_programOf 2 (some (.object "GuardFlow$Program")) 1 := ⟨(gz_c2 187 rfl rfl), gz_mem 1 (by decide +kernel) rfl, by decide +kernel, by decide +kernel, by decide +kernel⟩
theorem ws_X5_programOf : Cond.selects yX5_programOf.cls yX5_programOf yX5_programOf ∈ gz_tb := gz_sel (by decide +kernel) rfl
set_option maxRecDepth 20000 in
theorem cd_X5_firstUncertified : gx_cd gz_tb yX5_firstUncertified cX5_firstUncertified 4 (some .int) 1 := ⟨(gz_c2 191 rfl rfl), gz_mem 1 (by decide +kernel) rfl, by decide +kernel, by decide +kernel, by decide +kernel⟩
theorem ws_X5_firstUncertified : Cond.selects yX5_firstUncertified.cls yX5_firstUncertified yX5_firstUncertified ∈ gz_tb := gz_sel (by decide +kernel) rfl
set_option maxRecDepth 20000 in
theorem cd_X5_certify : gx_cd gz_tb yX5_certify cX5_certify 6 (some .int) 1 := ⟨(gz_c2 183 rfl rfl), gz_mem 1 (by decide +kernel) rfl, by decide +kernel, by decide +kernel, by decide +kernel⟩
theorem ws_X5_certify : Cond.selects yX5_certify.cls yX5_certify yX5_certify ∈ gz_tb := gz_mem 422 (by decide +kernel) rfl
set_option maxRecDepth 20000 in
theorem cd_X5_code : gx_cd gz_tb yX5_code cX5_code 6 (some .boolean) 4 := ⟨(gz_c2 33 rfl rfl), gz_mem 1 (by decide +kernel) rfl, by decide +kernel, by decide +kernel, by decide +kernel⟩
theorem ws_X5_code : Cond.selects yX5_code.cls yX5_code yX5_code ∈ gz_tb := gz_mem 272 (by decide +kernel) rfl
set_option maxRecDepth 20000 in
theorem cd_X5_forge : gx_cd gz_tb yX5_forge cX5_forge 2 (some .int) 0 := ⟨(gz_c2 63 rfl rfl), gz_mem 1 (by decide +kernel) rfl, by decide +kernel, by decide +kernel, by decide +kernel⟩
theorem ws_X5_forge : Cond.selects yX5_forge.cls yX5_forge yX5_forge ∈ gz_tb := gz_mem 302 (by decide +kernel) rfl
set_option maxRecDepth 20000 in
theorem cd_X5_function : gx_cd gz_tb yX5_function cX5_function 3 (some .int) 1 := ⟨(gz_c1 169 rfl rfl), gz_mem 1 (by decide +kernel) rfl, by decide +kernel, by decide +kernel, by decide +kernel⟩
theorem ws_X5_function : Cond.selects yX5_function.cls yX5_function yX5_function ∈ gz_tb := gz_mem 168 (by decide +kernel) rfl
set_option maxRecDepth 20000 in
theorem cd_X5_goes : gx_cd gz_tb yX5_goes cX5_goes 4 (some .boolean) 3 := ⟨(gz_c2 236 rfl rfl), gz_mem 1 (by decide +kernel) rfl, by decide +kernel, by decide +kernel, by decide +kernel⟩
theorem ws_X5_goes : Cond.selects yX5_goes.cls yX5_goes yX5_goes ∈ gz_tb := gz_mem 475 (by decide +kernel) rfl
set_option maxRecDepth 20000 in
theorem cd_X5_handler : gx_cd gz_tb yX5_handler cX5_handler 6 (some .boolean) 4 := ⟨(gz_c2 51 rfl rfl), gz_mem 1 (by decide +kernel) rfl, by decide +kernel, by decide +kernel, by decide +kernel⟩
theorem ws_X5_handler : Cond.selects yX5_handler.cls yX5_handler yX5_handler ∈ gz_tb := gz_mem 290 (by decide +kernel) rfl
set_option maxRecDepth 20000 in
theorem cd_X5_init : gx_cd gz_tb yX5_init cX5_init 1 none 0 := ⟨(gz_c1 13 rfl rfl), gz_mem 1 (by decide +kernel) rfl, by decide +kernel, by decide +kernel, by decide +kernel⟩
set_option maxRecDepth 20000 in
theorem cd_X5_look : gx_cd gz_tb yX5_look cX5_look 2 (some .int) 1 := ⟨(gz_c3 0 rfl rfl), gz_mem 1 (by decide +kernel) rfl, by decide +kernel, by decide +kernel, by decide +kernel⟩
theorem ws_X5_look : Cond.selects yX5_look.cls yX5_look yX5_look ∈ gz_tb := gz_mem 479 (by decide +kernel) rfl
set_option maxRecDepth 20000 in
theorem cd_X5_settledBody : gx_cd gz_tb yX5_settledBody cX5_settledBody 5 (some (.object "GuardFlow$Body")) 2 := ⟨(gz_c2 201 rfl rfl), gz_mem 1 (by decide +kernel) rfl, by decide +kernel, by decide +kernel, by decide +kernel⟩
theorem ws_X5_settledBody : Cond.selects yX5_settledBody.cls yX5_settledBody yX5_settledBody ∈ gz_tb := gz_sel (by decide +kernel) rfl
set_option maxRecDepth 20000 in
theorem cd_X5_may : gx_cd gz_tb yX5_may cX5_may 5 (some .long) 3 := ⟨(gz_c2 212 rfl rfl), gz_mem 1 (by decide +kernel) rfl, by decide +kernel, by decide +kernel, by decide +kernel⟩
theorem ws_X5_may : Cond.selects yX5_may.cls yX5_may yX5_may ∈ gz_tb := gz_mem 451 (by decide +kernel) rfl
set_option maxRecDepth 20000 in
theorem cd_X5_of : gx_cd gz_tb yX5_of cX5_of 6 (some .int) 4 := ⟨(gz_c2 197 rfl rfl), gz_mem 1 (by decide +kernel) rfl, by decide +kernel, by decide +kernel, by decide +kernel⟩
theorem ws_X5_of : Cond.selects yX5_of.cls yX5_of yX5_of ∈ gz_tb := gz_mem 436 (by decide +kernel) rfl
set_option maxRecDepth 20000 in
theorem cd_X5_range : gx_cd gz_tb yX5_range cX5_range 7 (some .int) 4 := ⟨(gz_c2 232 rfl rfl), gz_mem 1 (by decide +kernel) rfl, by decide +kernel, by decide +kernel, by decide +kernel⟩
theorem ws_X5_range : Cond.selects yX5_range.cls yX5_range yX5_range ∈ gz_tb := gz_mem 471 (by decide +kernel) rfl
set_option maxRecDepth 20000 in
theorem cd_X5_set : gx_cd gz_tb yX5_set cX5_set 5 (some .long) 3 := ⟨(gz_c2 216 rfl rfl), gz_mem 1 (by decide +kernel) rfl, by decide +kernel, by decide +kernel, by decide +kernel⟩
theorem ws_X5_set : Cond.selects yX5_set.cls yX5_set yX5_set ∈ gz_tb := gz_mem 455 (by decide +kernel) rfl
set_option maxRecDepth 20000 in
theorem cd_X5_size : gx_cd gz_tb yX5_size cX5_size 5 (some .int) 3 := ⟨(gz_c2 220 rfl rfl), gz_mem 1 (by decide +kernel) rfl, by decide +kernel, by decide +kernel, by decide +kernel⟩
theorem ws_X5_size : Cond.selects yX5_size.cls yX5_size yX5_size ∈ gz_tb := gz_mem 459 (by decide +kernel) rfl
set_option maxRecDepth 20000 in
theorem cd_X5_take : gx_cd gz_tb yX5_take cX5_take 2 (some .boolean) 0 := ⟨(gz_c2 179 rfl rfl), gz_mem 1 (by decide +kernel) rfl, by decide +kernel, by decide +kernel, by decide +kernel⟩
theorem ws_X5_take : Cond.selects yX5_take.cls yX5_take yX5_take ∈ gz_tb := gz_mem 418 (by decide +kernel) rfl
set_option maxRecDepth 20000 in
theorem cd_X5_way : gx_cd gz_tb yX5_way cX5_way 4 (some .boolean) 3 := ⟨(gz_c1 129 rfl rfl), gz_mem 1 (by decide +kernel) rfl, by decide +kernel, by decide +kernel, by decide +kernel⟩
theorem ws_X5_way : Cond.selects yX5_way.cls yX5_way yX5_way ∈ gz_tb := gz_mem 128 (by decide +kernel) rfl
set_option maxRecDepth 20000 in
theorem cd_X6_change : gx_cd gz_tb yX6_change cX6_change 1 none 0 := ⟨(gz_c3 85 rfl rfl), gz_mem 6 (by decide +kernel) rfl, by decide +kernel, by decide +kernel, by decide +kernel⟩
theorem ws_X6_change : Cond.selects yX6_change.cls yX6_change yX6_change ∈ gz_tb := gz_sel (by decide +kernel) rfl
set_option maxRecDepth 20000 in
theorem cd_X6_always : gx_cd gz_tb yX6_always cX6_always 3 (some .boolean) 2 := ⟨(gz_c3 108 rfl rfl), gz_mem 6 (by decide +kernel) rfl, by decide +kernel, by decide +kernel, by decide +kernel⟩
theorem ws_X6_always : Cond.selects yX6_always.cls yX6_always yX6_always ∈ gz_tb := gz_mem 587 (by decide +kernel) rfl
set_option maxRecDepth 20000 in
theorem cd_X6_begin : gx_cd gz_tb yX6_begin cX6_begin 3 (some .boolean) 1 := ⟨(gz_c3 81 rfl rfl), gz_mem 6 (by decide +kernel) rfl, by decide +kernel, by decide +kernel, by decide +kernel⟩
theorem ws_X6_begin : Cond.selects yX6_begin.cls yX6_begin yX6_begin ∈ gz_tb := gz_mem 560 (by decide +kernel) rfl
set_option maxRecDepth 20000 in
theorem cd_X6_below : gx_cd gz_tb yX6_below cX6_below 3 (some .int) 2 := ⟨(gz_c3 124 rfl rfl), gz_mem 6 (by decide +kernel) rfl, by decide +kernel, by decide +kernel, by decide +kernel⟩
theorem ws_X6_below : Cond.selects yX6_below.cls yX6_below yX6_below ∈ gz_tb := gz_sel (by decide +kernel) rfl
set_option maxRecDepth 20000 in
theorem cd_X6_bits : gx_cd gz_tb yX6_bits cX6_bits 5 (some .int) 1 := ⟨(gz_c3 192 rfl rfl), gz_mem 6 (by decide +kernel) rfl, by decide +kernel, by decide +kernel, by decide +kernel⟩
theorem ws_X6_bits : Cond.selects yX6_bits.cls yX6_bits yX6_bits ∈ gz_tb := gz_sel (by decide +kernel) rfl
set_option maxRecDepth 20000 in
theorem cd_X6_isState : gx_cd gz_tb yX6_isState cX6_isState 2 (some .boolean) 1 := ⟨(gz_c3 97 rfl rfl), gz_mem 6 (by decide +kernel) rfl, by decide +kernel, by decide +kernel, by decide +kernel⟩
theorem ws_X6_isState : Cond.selects yX6_isState.cls yX6_isState yX6_isState ∈ gz_tb := gz_sel (by decide +kernel) rfl
set_option maxRecDepth 20000 in
theorem cd_X6_canWay : gx_cd gz_tb yX6_canWay cX6_canWay 4 (some .boolean) 3 := ⟨(gz_c3 93 rfl rfl), gz_mem 6 (by decide +kernel) rfl, by decide +kernel, by decide +kernel, by decide +kernel⟩
theorem ws_X6_canWay : Cond.selects yX6_canWay.cls yX6_canWay yX6_canWay ∈ gz_tb := gz_sel (by decide +kernel) rfl
set_option maxRecDepth 20000 in
theorem cd_X6_isGoal : gx_cd gz_tb yX6_isGoal cX6_isGoal 6 (some .boolean) 3 := ⟨(gz_c3 164 rfl rfl), gz_mem 6 (by decide +kernel) rfl, by decide +kernel, by decide +kernel, by decide +kernel⟩
theorem ws_X6_isGoal : Cond.selects yX6_isGoal.cls yX6_isGoal yX6_isGoal ∈ gz_tb := gz_sel (by decide +kernel) rfl
set_option maxRecDepth 20000 in
theorem cd_X6_isGuarded : gx_cd gz_tb yX6_isGuarded cX6_isGuarded 5 (some .boolean) 3 := ⟨(gz_c3 160 rfl rfl), gz_mem 6 (by decide +kernel) rfl, by decide +kernel, by decide +kernel, by decide +kernel⟩
theorem ws_X6_isGuarded : Cond.selects yX6_isGuarded.cls yX6_isGuarded yX6_isGuarded ∈ gz_tb := gz_sel (by decide +kernel) rfl
set_option maxRecDepth 20000 in
theorem cd_X6_join : gx_cd gz_tb yX6_join cX6_join 5 none 3 := ⟨(gz_c3 152 rfl rfl), gz_mem 6 (by decide +kernel) rfl, by decide +kernel, by decide +kernel, by decide +kernel⟩
theorem ws_X6_join : Cond.selects yX6_join.cls yX6_join yX6_join ∈ gz_tb := gz_sel (by decide +kernel) rfl
set_option maxRecDepth 20000 in
theorem cd_X6_wayAt : gx_cd gz_tb yX6_wayAt cX6_wayAt 3 (some .int) 3 := ⟨(gz_c3 100 rfl rfl), gz_mem 6 (by decide +kernel) rfl, by decide +kernel, by decide +kernel, by decide +kernel⟩
set_option maxRecDepth 20000 in
theorem cd_X6_led : gx_cd gz_tb yX6_led cX6_led 8 (some .long) 2 := ⟨(gz_c3 168 rfl rfl), gz_mem 6 (by decide +kernel) rfl, by decide +kernel, by decide +kernel, by decide +kernel⟩
theorem ws_X6_led : Cond.selects yX6_led.cls yX6_led yX6_led ∈ gz_tb := gz_sel (by decide +kernel) rfl
set_option maxRecDepth 20000 in
theorem cd_X6_goOn : gx_cd gz_tb yX6_goOn cX6_goOn 15 none 3 := ⟨(gz_c3 156 rfl rfl), gz_mem 6 (by decide +kernel) rfl, by decide +kernel, by decide +kernel, by decide +kernel⟩
theorem ws_X6_goOn : Cond.selects yX6_goOn.cls yX6_goOn yX6_goOn ∈ gz_tb := gz_sel (by decide +kernel) rfl
set_option maxRecDepth 20000 in
theorem cd_X6_find : gx_cd gz_tb yX6_find cX6_find 4 none 1 := ⟨(gz_c3 148 rfl rfl), gz_mem 6 (by decide +kernel) rfl, by decide +kernel, by decide +kernel, by decide +kernel⟩
theorem ws_X6_find : Cond.selects yX6_find.cls yX6_find yX6_find ∈ gz_tb := gz_sel (by decide +kernel) rfl
set_option maxRecDepth 20000 in
theorem cd_X6_needs : gx_cd gz_tb yX6_needs cX6_needs 10 (some .boolean) 3 := ⟨(gz_c3 144 rfl rfl), gz_mem 6 (by decide +kernel) rfl, by decide +kernel, by decide +kernel, by decide +kernel⟩
theorem ws_X6_needs : Cond.selects yX6_needs.cls yX6_needs yX6_needs ∈ gz_tb := gz_sel (by decide +kernel) rfl
set_option maxRecDepth 20000 in
theorem cd_X6_lacks : gx_cd gz_tb yX6_lacks cX6_lacks 4 (some .boolean) 3 := ⟨(gz_c3 140 rfl rfl), gz_mem 6 (by decide +kernel) rfl, by decide +kernel, by decide +kernel, by decide +kernel⟩
theorem ws_X6_lacks : Cond.selects yX6_lacks.cls yX6_lacks yX6_lacks ∈ gz_tb := gz_sel (by decide +kernel) rfl
set_option maxRecDepth 20000 in
theorem cd_X6_certify : gx_cd gz_tb yX6_certify cX6_certify 8 (some .int) 1 := ⟨(gz_c3 180 rfl rfl), gz_mem 6 (by decide +kernel) rfl, by decide +kernel, by decide +kernel, by decide +kernel⟩
theorem ws_X6_certify : Cond.selects yX6_certify.cls yX6_certify yX6_certify ∈ gz_tb := gz_mem 659 (by decide +kernel) rfl
set_option maxRecDepth 20000 in
theorem cd_X6_isThere : gx_cd gz_tb yX6_isThere cX6_isThere 4 (some .boolean) 3 := ⟨(gz_c3 120 rfl rfl), gz_mem 6 (by decide +kernel) rfl, by decide +kernel, by decide +kernel, by decide +kernel⟩
theorem ws_X6_isThere : Cond.selects yX6_isThere.cls yX6_isThere yX6_isThere ∈ gz_tb := gz_sel (by decide +kernel) rfl
set_option maxRecDepth 20000 in
theorem cd_X6_code : gx_cd gz_tb yX6_code cX6_code 5 (some .boolean) 4 := ⟨(gz_c3 116 rfl rfl), gz_mem 6 (by decide +kernel) rfl, by decide +kernel, by decide +kernel, by decide +kernel⟩
theorem ws_X6_code : Cond.selects yX6_code.cls yX6_code yX6_code ∈ gz_tb := gz_mem 595 (by decide +kernel) rfl
set_option maxRecDepth 20000 in
theorem cd_X6_comeTo : gx_cd gz_tb yX6_comeTo cX6_comeTo 5 (some .int) 2 := ⟨(gz_c3 212 rfl rfl), gz_mem 6 (by decide +kernel) rfl, by decide +kernel, by decide +kernel, by decide +kernel⟩
theorem ws_X6_comeTo : Cond.selects yX6_comeTo.cls yX6_comeTo yX6_comeTo ∈ gz_tb := gz_sel (by decide +kernel) rfl
set_option maxRecDepth 20000 in
theorem cd_X6_countOf : gx_cd gz_tb yX6_countOf cX6_countOf 6 (some .int) 3 := ⟨(gz_c3 208 rfl rfl), gz_mem 6 (by decide +kernel) rfl, by decide +kernel, by decide +kernel, by decide +kernel⟩
theorem ws_X6_countOf : Cond.selects yX6_countOf.cls yX6_countOf yX6_countOf ∈ gz_tb := gz_sel (by decide +kernel) rfl
set_option maxRecDepth 20000 in
theorem cd_X6_lacking : gx_cd gz_tb yX6_lacking cX6_lacking 4 (some .int) 1 := ⟨(gz_c3 136 rfl rfl), gz_mem 6 (by decide +kernel) rfl, by decide +kernel, by decide +kernel, by decide +kernel⟩
theorem ws_X6_lacking : Cond.selects yX6_lacking.cls yX6_lacking yX6_lacking ∈ gz_tb := gz_sel (by decide +kernel) rfl
set_option maxRecDepth 20000 in
theorem cd_X6_weave : gx_cd gz_tb yX6_weave cX6_weave 6 none 1 := ⟨(gz_c3 172 rfl rfl), gz_mem 6 (by decide +kernel) rfl, by decide +kernel, by decide +kernel, by decide +kernel⟩
theorem ws_X6_weave : Cond.selects yX6_weave.cls yX6_weave yX6_weave ∈ gz_tb := gz_sel (by decide +kernel) rfl
set_option maxRecDepth 20000 in
theorem cd_X6_forge : gx_cd gz_tb yX6_forge cX6_forge 4 (some .int) 0 := ⟨(gz_c3 132 rfl rfl), gz_mem 6 (by decide +kernel) rfl, by decide +kernel, by decide +kernel, by decide +kernel⟩
theorem ws_X6_forge : Cond.selects yX6_forge.cls yX6_forge yX6_forge ∈ gz_tb := gz_mem 611 (by decide +kernel) rfl
set_option maxRecDepth 20000 in
theorem cd_X6_function : gx_cd gz_tb yX6_function cX6_function 4 (some .int) 1 := ⟨(gz_c3 112 rfl rfl), gz_mem 6 (by decide +kernel) rfl, by decide +kernel, by decide +kernel, by decide +kernel⟩
theorem ws_X6_function : Cond.selects yX6_function.cls yX6_function yX6_function ∈ gz_tb := gz_mem 591 (by decide +kernel) rfl
set_option maxRecDepth 20000 in
theorem cd_X6_goes : gx_cd gz_tb yX6_goes cX6_goes 4 (some .boolean) 3 := ⟨(gz_c3 104 rfl rfl), gz_mem 6 (by decide +kernel) rfl, by decide +kernel, by decide +kernel, by decide +kernel⟩
theorem ws_X6_goes : Cond.selects yX6_goes.cls yX6_goes yX6_goes ∈ gz_tb := gz_mem 583 (by decide +kernel) rfl
set_option maxRecDepth 20000 in
theorem cd_X6_handler : gx_cd gz_tb yX6_handler cX6_handler 6 (some .boolean) 4 := ⟨(gz_c3 128 rfl rfl), gz_mem 6 (by decide +kernel) rfl, by decide +kernel, by decide +kernel, by decide +kernel⟩
theorem ws_X6_handler : Cond.selects yX6_handler.cls yX6_handler yX6_handler ∈ gz_tb := gz_mem 607 (by decide +kernel) rfl
set_option maxRecDepth 20000 in
theorem cd_X6_init : gx_cd gz_tb yX6_init cX6_init 1 none 0 := ⟨(gz_c3 14 rfl rfl), gz_mem 6 (by decide +kernel) rfl, by decide +kernel, by decide +kernel, by decide +kernel⟩
set_option maxRecDepth 20000 in
theorem cd_X6_instructions : gx_cd gz_tb yX6_instructions cX6_instructions 4 (some .int) 1 := ⟨(gz_c3 228 rfl rfl), gz_mem 6 (by decide +kernel) rfl, by decide +kernel, by decide +kernel, by decide +kernel⟩
theorem ws_X6_instructions : Cond.selects yX6_instructions.cls yX6_instructions yX6_instructions ∈ gz_tb := gz_sel (by decide +kernel) rfl
set_option maxRecDepth 20000 in
theorem cd_X6_wayMany : gx_cd gz_tb yX6_wayMany cX6_wayMany 3 (some .int) 0 := ⟨(gz_c3 224 rfl rfl), gz_mem 6 (by decide +kernel) rfl, by decide +kernel, by decide +kernel, by decide +kernel⟩
theorem ws_X6_wayMany : Cond.selects yX6_wayMany.cls yX6_wayMany yX6_wayMany ∈ gz_tb := gz_sel (by decide +kernel) rfl
set_option maxRecDepth 20000 in
theorem cd_X6_neededMany : gx_cd gz_tb yX6_neededMany cX6_neededMany 3 (some .int) 0 := ⟨(gz_c3 232 rfl rfl), gz_mem 6 (by decide +kernel) rfl, by decide +kernel, by decide +kernel, by decide +kernel⟩
theorem ws_X6_neededMany : Cond.selects yX6_neededMany.cls yX6_neededMany yX6_neededMany ∈ gz_tb := gz_sel (by decide +kernel) rfl
set_option maxRecDepth 20000 in
theorem cd_X6_look : gx_cd gz_tb yX6_look cX6_look 2 (some .int) 1 := ⟨(gz_c3 220 rfl rfl), gz_mem 6 (by decide +kernel) rfl, by decide +kernel, by decide +kernel, by decide +kernel⟩
theorem ws_X6_look : Cond.selects yX6_look.cls yX6_look yX6_look ∈ gz_tb := gz_mem 699 (by decide +kernel) rfl
set_option maxRecDepth 20000 in
theorem cd_X6_which : gx_cd gz_tb yX6_which cX6_which 5 (some .int) 3 := ⟨(gz_c3 188 rfl rfl), gz_mem 6 (by decide +kernel) rfl, by decide +kernel, by decide +kernel, by decide +kernel⟩
theorem ws_X6_which : Cond.selects yX6_which.cls yX6_which yX6_which ∈ gz_tb := gz_sel (by decide +kernel) rfl
set_option maxRecDepth 20000 in
theorem cd_X6_may : gx_cd gz_tb yX6_may cX6_may 5 (some .long) 3 := ⟨(gz_c3 196 rfl rfl), gz_mem 6 (by decide +kernel) rfl, by decide +kernel, by decide +kernel, by decide +kernel⟩
theorem ws_X6_may : Cond.selects yX6_may.cls yX6_may yX6_may ∈ gz_tb := gz_mem 675 (by decide +kernel) rfl
set_option maxRecDepth 20000 in
theorem cd_X6_of : gx_cd gz_tb yX6_of cX6_of 7 (some .int) 4 := ⟨(gz_c3 184 rfl rfl), gz_mem 6 (by decide +kernel) rfl, by decide +kernel, by decide +kernel, by decide +kernel⟩
theorem ws_X6_of : Cond.selects yX6_of.cls yX6_of yX6_of ∈ gz_tb := gz_mem 663 (by decide +kernel) rfl
set_option maxRecDepth 20000 in
theorem cd_X6_range : gx_cd gz_tb yX6_range cX6_range 7 (some .int) 4 := ⟨(gz_c3 216 rfl rfl), gz_mem 6 (by decide +kernel) rfl, by decide +kernel, by decide +kernel, by decide +kernel⟩
theorem ws_X6_range : Cond.selects yX6_range.cls yX6_range yX6_range ∈ gz_tb := gz_mem 695 (by decide +kernel) rfl
set_option maxRecDepth 20000 in
theorem cd_X6_set : gx_cd gz_tb yX6_set cX6_set 5 (some .long) 3 := ⟨(gz_c3 200 rfl rfl), gz_mem 6 (by decide +kernel) rfl, by decide +kernel, by decide +kernel, by decide +kernel⟩
theorem ws_X6_set : Cond.selects yX6_set.cls yX6_set yX6_set ∈ gz_tb := gz_mem 679 (by decide +kernel) rfl
set_option maxRecDepth 20000 in
theorem cd_X6_size : gx_cd gz_tb yX6_size cX6_size 5 (some .int) 3 := ⟨(gz_c3 204 rfl rfl), gz_mem 6 (by decide +kernel) rfl, by decide +kernel, by decide +kernel, by decide +kernel⟩
theorem ws_X6_size : Cond.selects yX6_size.cls yX6_size yX6_size ∈ gz_tb := gz_mem 683 (by decide +kernel) rfl
set_option maxRecDepth 20000 in
theorem cd_X6_take : gx_cd gz_tb yX6_take cX6_take 2 (some .boolean) 0 := ⟨(gz_c3 176 rfl rfl), gz_mem 6 (by decide +kernel) rfl, by decide +kernel, by decide +kernel, by decide +kernel⟩
theorem ws_X6_take : Cond.selects yX6_take.cls yX6_take yX6_take ∈ gz_tb := gz_mem 655 (by decide +kernel) rfl
set_option maxRecDepth 20000 in
theorem cd_X6_way : gx_cd gz_tb yX6_way cX6_way 4 (some .boolean) 3 := ⟨(gz_c3 89 rfl rfl), gz_mem 6 (by decide +kernel) rfl, by decide +kernel, by decide +kernel, by decide +kernel⟩
theorem ws_X6_way : Cond.selects yX6_way.cls yX6_way yX6_way ∈ gz_tb := gz_mem 568 (by decide +kernel) rfl
end
section
/-! methods: J13_bitCount_95d88, X0_addHandler, X0_hasInstruction, X0_canHandle, X0_canHold, X0_countOfKind, X0_countReached, X0_goesToNumber, X0_forgetSets, X0_init -/
theorem dJ13_bitCount_95d88_0 : decode cJ13_bitCount_95d88 0 = .ok (.lload_n 0, 1) := by decide +kernel
theorem dJ13_bitCount_95d88_1 : decode cJ13_bitCount_95d88 1 = .ok (.lload_n 0, 1) := by decide +kernel
theorem dJ13_bitCount_95d88_2 : decode cJ13_bitCount_95d88 2 = .ok (.iconst 1, 1) := by decide +kernel
theorem dJ13_bitCount_95d88_3 : decode cJ13_bitCount_95d88 3 = .ok (.lushr, 1) := by decide +kernel
theorem dJ13_bitCount_95d88_4 : decode cJ13_bitCount_95d88 4 = .ok (.ldc2_w 314, 3) := by decide +kernel
theorem dJ13_bitCount_95d88_7 : decode cJ13_bitCount_95d88 7 = .ok (.land, 1) := by decide +kernel
theorem dJ13_bitCount_95d88_8 : decode cJ13_bitCount_95d88 8 = .ok (.lsub, 1) := by decide +kernel
theorem dJ13_bitCount_95d88_9 : decode cJ13_bitCount_95d88 9 = .ok (.lstore_n 0, 1) := by decide +kernel
theorem dJ13_bitCount_95d88_10 : decode cJ13_bitCount_95d88 10 = .ok (.lload_n 0, 1) := by decide +kernel
theorem dJ13_bitCount_95d88_11 : decode cJ13_bitCount_95d88 11 = .ok (.ldc2_w 316, 3) := by decide +kernel
theorem dJ13_bitCount_95d88_14 : decode cJ13_bitCount_95d88 14 = .ok (.land, 1) := by decide +kernel
theorem dJ13_bitCount_95d88_15 : decode cJ13_bitCount_95d88 15 = .ok (.lload_n 0, 1) := by decide +kernel
theorem dJ13_bitCount_95d88_16 : decode cJ13_bitCount_95d88 16 = .ok (.iconst 2, 1) := by decide +kernel
theorem dJ13_bitCount_95d88_17 : decode cJ13_bitCount_95d88 17 = .ok (.lushr, 1) := by decide +kernel
theorem dJ13_bitCount_95d88_18 : decode cJ13_bitCount_95d88 18 = .ok (.ldc2_w 316, 3) := by decide +kernel
theorem dJ13_bitCount_95d88_21 : decode cJ13_bitCount_95d88 21 = .ok (.land, 1) := by decide +kernel
theorem dJ13_bitCount_95d88_22 : decode cJ13_bitCount_95d88 22 = .ok (.ladd, 1) := by decide +kernel
theorem dJ13_bitCount_95d88_23 : decode cJ13_bitCount_95d88 23 = .ok (.lstore_n 0, 1) := by decide +kernel
theorem dJ13_bitCount_95d88_24 : decode cJ13_bitCount_95d88 24 = .ok (.lload_n 0, 1) := by decide +kernel
theorem dJ13_bitCount_95d88_25 : decode cJ13_bitCount_95d88 25 = .ok (.lload_n 0, 1) := by decide +kernel
theorem dJ13_bitCount_95d88_26 : decode cJ13_bitCount_95d88 26 = .ok (.iconst 4, 1) := by decide +kernel
theorem dJ13_bitCount_95d88_27 : decode cJ13_bitCount_95d88 27 = .ok (.lushr, 1) := by decide +kernel
theorem dJ13_bitCount_95d88_28 : decode cJ13_bitCount_95d88 28 = .ok (.ladd, 1) := by decide +kernel
theorem dJ13_bitCount_95d88_29 : decode cJ13_bitCount_95d88 29 = .ok (.ldc2_w 318, 3) := by decide +kernel
theorem dJ13_bitCount_95d88_32 : decode cJ13_bitCount_95d88 32 = .ok (.land, 1) := by decide +kernel
theorem dJ13_bitCount_95d88_33 : decode cJ13_bitCount_95d88 33 = .ok (.lstore_n 0, 1) := by decide +kernel
theorem dJ13_bitCount_95d88_34 : decode cJ13_bitCount_95d88 34 = .ok (.lload_n 0, 1) := by decide +kernel
theorem dJ13_bitCount_95d88_35 : decode cJ13_bitCount_95d88 35 = .ok (.lload_n 0, 1) := by decide +kernel
theorem dJ13_bitCount_95d88_36 : decode cJ13_bitCount_95d88 36 = .ok (.bipush 8, 2) := by decide +kernel
theorem dJ13_bitCount_95d88_38 : decode cJ13_bitCount_95d88 38 = .ok (.lushr, 1) := by decide +kernel
theorem dJ13_bitCount_95d88_39 : decode cJ13_bitCount_95d88 39 = .ok (.ladd, 1) := by decide +kernel
theorem dJ13_bitCount_95d88_40 : decode cJ13_bitCount_95d88 40 = .ok (.lstore_n 0, 1) := by decide +kernel
theorem dJ13_bitCount_95d88_41 : decode cJ13_bitCount_95d88 41 = .ok (.lload_n 0, 1) := by decide +kernel
theorem dJ13_bitCount_95d88_42 : decode cJ13_bitCount_95d88 42 = .ok (.lload_n 0, 1) := by decide +kernel
theorem dJ13_bitCount_95d88_43 : decode cJ13_bitCount_95d88 43 = .ok (.bipush 16, 2) := by decide +kernel
theorem dJ13_bitCount_95d88_45 : decode cJ13_bitCount_95d88 45 = .ok (.lushr, 1) := by decide +kernel
theorem dJ13_bitCount_95d88_46 : decode cJ13_bitCount_95d88 46 = .ok (.ladd, 1) := by decide +kernel
theorem dJ13_bitCount_95d88_47 : decode cJ13_bitCount_95d88 47 = .ok (.lstore_n 0, 1) := by decide +kernel
theorem dJ13_bitCount_95d88_48 : decode cJ13_bitCount_95d88 48 = .ok (.lload_n 0, 1) := by decide +kernel
theorem dJ13_bitCount_95d88_49 : decode cJ13_bitCount_95d88 49 = .ok (.lload_n 0, 1) := by decide +kernel
theorem dJ13_bitCount_95d88_50 : decode cJ13_bitCount_95d88 50 = .ok (.bipush 32, 2) := by decide +kernel
theorem dJ13_bitCount_95d88_52 : decode cJ13_bitCount_95d88 52 = .ok (.lushr, 1) := by decide +kernel
theorem dJ13_bitCount_95d88_53 : decode cJ13_bitCount_95d88 53 = .ok (.ladd, 1) := by decide +kernel
theorem dJ13_bitCount_95d88_54 : decode cJ13_bitCount_95d88 54 = .ok (.lstore_n 0, 1) := by decide +kernel
theorem dJ13_bitCount_95d88_55 : decode cJ13_bitCount_95d88 55 = .ok (.lload_n 0, 1) := by decide +kernel
theorem dJ13_bitCount_95d88_56 : decode cJ13_bitCount_95d88 56 = .ok (.l2i, 1) := by decide +kernel
theorem dJ13_bitCount_95d88_57 : decode cJ13_bitCount_95d88 57 = .ok (.bipush 127, 2) := by decide +kernel
theorem dJ13_bitCount_95d88_59 : decode cJ13_bitCount_95d88 59 = .ok (.iand, 1) := by decide +kernel
theorem dJ13_bitCount_95d88_60 : decode cJ13_bitCount_95d88 60 = .ok (.ireturn, 1) := by decide +kernel
def gm_J13_bitCount_95d88 (fu : Nat) (l_0 : Int64) (X : gx_H) : Option (Int32 × gx_H) :=
  (some (l_0 - (((l_0.toUInt64 >>> ((1 : Int32).toInt64.toUInt64 &&& Int64.toUInt64 63)).toInt64) &&& (6148914691236517205 : Int64)))).bind fun z1 =>
  (some ((z1 &&& (3689348814741910323 : Int64)) + (((z1.toUInt64 >>> ((2 : Int32).toInt64.toUInt64 &&& Int64.toUInt64 63)).toInt64) &&& (3689348814741910323 : Int64)))).bind fun z2 =>
  (some ((z2 + ((z2.toUInt64 >>> ((4 : Int32).toInt64.toUInt64 &&& Int64.toUInt64 63)).toInt64)) &&& (1085102592571150095 : Int64))).bind fun z3 =>
  (some (z3 + ((z3.toUInt64 >>> ((8 : Int32).toInt64.toUInt64 &&& Int64.toUInt64 63)).toInt64))).bind fun z4 =>
  (some (z4 + ((z4.toUInt64 >>> ((16 : Int32).toInt64.toUInt64 &&& Int64.toUInt64 63)).toInt64))).bind fun z5 =>
  (some (z5 + ((z5.toUInt64 >>> ((32 : Int32).toInt64.toUInt64 &&& Int64.toUInt64 63)).toInt64))).bind fun z6 =>
  some ((z6.toInt32 &&& (127 : Int32)), X)
set_option maxHeartbeats 1000000 in
set_option maxRecDepth 20000 in
theorem gc_J13_bitCount_95d88 {l : Launch} {D : gx_D} (fu : Nat) (l_0 : Int64) (X : gx_H) (r : Int32) (X2 : gx_H) (h : gm_J13_bitCount_95d88 fu l_0 X = some (r, X2)) : gx_M D gz_cl gz_at gz_tb gz_nb l yJ13_bitCount_95d88 cJ13_bitCount_95d88 2 (some .int) 0 0 [gx_l l_0] X (some (gx_i r)) X2 0 0 := by
  unfold gm_J13_bitCount_95d88 at h
  refine gx_enter [some (gx_l l_0), none] rfl (by decide) (Nat.le_of_ble_eq_true rfl) ?_
  intro p e s m below meth c C _
  refine gx_lload_n C dJ13_bitCount_95d88_0 rfl rfl ?_
  refine gx_lload_n C dJ13_bitCount_95d88_1 rfl rfl ?_
  refine gx_iconst (v := 1) C dJ13_bitCount_95d88_2 (by decide) ?_
  refine gx_lushr C dJ13_bitCount_95d88_3 ?_
  refine gx_ldc2 (v := 6148914691236517205) C wl_446 dJ13_bitCount_95d88_4 ?_
  refine gx_land C dJ13_bitCount_95d88_7 ?_
  refine gx_lsub C dJ13_bitCount_95d88_8 ?_
  obtain ⟨z1, ez1, h⟩ := gx_bd h
  rw [Option.some.inj ez1]
  refine gx_lstore_n (lv2 := [some (gx_l z1), none]) C dJ13_bitCount_95d88_9 rfl (by decide) rfl ?_
  refine gx_lload_n C dJ13_bitCount_95d88_10 rfl rfl ?_
  refine gx_ldc2 (v := 3689348814741910323) C wl_447 dJ13_bitCount_95d88_11 ?_
  refine gx_land C dJ13_bitCount_95d88_14 ?_
  refine gx_lload_n C dJ13_bitCount_95d88_15 rfl rfl ?_
  refine gx_iconst (v := 2) C dJ13_bitCount_95d88_16 (by decide) ?_
  refine gx_lushr C dJ13_bitCount_95d88_17 ?_
  refine gx_ldc2 (v := 3689348814741910323) C wl_447 dJ13_bitCount_95d88_18 ?_
  refine gx_land C dJ13_bitCount_95d88_21 ?_
  refine gx_ladd C dJ13_bitCount_95d88_22 ?_
  obtain ⟨z2, ez2, h⟩ := gx_bd h
  rw [Option.some.inj ez2]
  refine gx_lstore_n (lv2 := [some (gx_l z2), none]) C dJ13_bitCount_95d88_23 rfl (by decide) rfl ?_
  refine gx_lload_n C dJ13_bitCount_95d88_24 rfl rfl ?_
  refine gx_lload_n C dJ13_bitCount_95d88_25 rfl rfl ?_
  refine gx_iconst (v := 4) C dJ13_bitCount_95d88_26 (by decide) ?_
  refine gx_lushr C dJ13_bitCount_95d88_27 ?_
  refine gx_ladd C dJ13_bitCount_95d88_28 ?_
  refine gx_ldc2 (v := 1085102592571150095) C wl_448 dJ13_bitCount_95d88_29 ?_
  refine gx_land C dJ13_bitCount_95d88_32 ?_
  obtain ⟨z3, ez3, h⟩ := gx_bd h
  rw [Option.some.inj ez3]
  refine gx_lstore_n (lv2 := [some (gx_l z3), none]) C dJ13_bitCount_95d88_33 rfl (by decide) rfl ?_
  refine gx_lload_n C dJ13_bitCount_95d88_34 rfl rfl ?_
  refine gx_lload_n C dJ13_bitCount_95d88_35 rfl rfl ?_
  refine gx_bipush (v := 8) C dJ13_bitCount_95d88_36 (by decide) ?_
  refine gx_lushr C dJ13_bitCount_95d88_38 ?_
  refine gx_ladd C dJ13_bitCount_95d88_39 ?_
  obtain ⟨z4, ez4, h⟩ := gx_bd h
  rw [Option.some.inj ez4]
  refine gx_lstore_n (lv2 := [some (gx_l z4), none]) C dJ13_bitCount_95d88_40 rfl (by decide) rfl ?_
  refine gx_lload_n C dJ13_bitCount_95d88_41 rfl rfl ?_
  refine gx_lload_n C dJ13_bitCount_95d88_42 rfl rfl ?_
  refine gx_bipush (v := 16) C dJ13_bitCount_95d88_43 (by decide) ?_
  refine gx_lushr C dJ13_bitCount_95d88_45 ?_
  refine gx_ladd C dJ13_bitCount_95d88_46 ?_
  obtain ⟨z5, ez5, h⟩ := gx_bd h
  rw [Option.some.inj ez5]
  refine gx_lstore_n (lv2 := [some (gx_l z5), none]) C dJ13_bitCount_95d88_47 rfl (by decide) rfl ?_
  refine gx_lload_n C dJ13_bitCount_95d88_48 rfl rfl ?_
  refine gx_lload_n C dJ13_bitCount_95d88_49 rfl rfl ?_
  refine gx_bipush (v := 32) C dJ13_bitCount_95d88_50 (by decide) ?_
  refine gx_lushr C dJ13_bitCount_95d88_52 ?_
  refine gx_ladd C dJ13_bitCount_95d88_53 ?_
  obtain ⟨z6, ez6, h⟩ := gx_bd h
  rw [Option.some.inj ez6]
  refine gx_lstore_n (lv2 := [some (gx_l z6), none]) C dJ13_bitCount_95d88_54 rfl (by decide) rfl ?_
  refine gx_lload_n C dJ13_bitCount_95d88_55 rfl rfl ?_
  refine gx_l2i C dJ13_bitCount_95d88_56 ?_
  refine gx_bipush (v := 127) C dJ13_bitCount_95d88_57 (by decide) ?_
  refine gx_iand C dJ13_bitCount_95d88_59 ?_
  cases h
  exact gx_iret C dJ13_bitCount_95d88_60
theorem dX0_addHandler_0 : decode cX0_addHandler 0 = .ok (.aload_n 0, 1) := by decide +kernel
theorem dX0_addHandler_1 : decode cX0_addHandler 1 = .ok (.getfield 18, 3) := by decide +kernel
theorem dX0_addHandler_4 : decode cX0_addHandler 4 = .ok (.aload_n 0, 1) := by decide +kernel
theorem dX0_addHandler_5 : decode cX0_addHandler 5 = .ok (.getfield 45, 3) := by decide +kernel
theorem dX0_addHandler_8 : decode cX0_addHandler 8 = .ok (.iload_n 1, 1) := by decide +kernel
theorem dX0_addHandler_9 : decode cX0_addHandler 9 = .ok (.iastore, 1) := by decide +kernel
theorem dX0_addHandler_10 : decode cX0_addHandler 10 = .ok (.aload_n 0, 1) := by decide +kernel
theorem dX0_addHandler_11 : decode cX0_addHandler 11 = .ok (.getfield 21, 3) := by decide +kernel
theorem dX0_addHandler_14 : decode cX0_addHandler 14 = .ok (.aload_n 0, 1) := by decide +kernel
theorem dX0_addHandler_15 : decode cX0_addHandler 15 = .ok (.getfield 45, 3) := by decide +kernel
theorem dX0_addHandler_18 : decode cX0_addHandler 18 = .ok (.iload_n 2, 1) := by decide +kernel
theorem dX0_addHandler_19 : decode cX0_addHandler 19 = .ok (.iastore, 1) := by decide +kernel
theorem dX0_addHandler_20 : decode cX0_addHandler 20 = .ok (.aload_n 0, 1) := by decide +kernel
theorem dX0_addHandler_21 : decode cX0_addHandler 21 = .ok (.getfield 24, 3) := by decide +kernel
theorem dX0_addHandler_24 : decode cX0_addHandler 24 = .ok (.aload_n 0, 1) := by decide +kernel
theorem dX0_addHandler_25 : decode cX0_addHandler 25 = .ok (.getfield 45, 3) := by decide +kernel
theorem dX0_addHandler_28 : decode cX0_addHandler 28 = .ok (.iload_n 3, 1) := by decide +kernel
theorem dX0_addHandler_29 : decode cX0_addHandler 29 = .ok (.iastore, 1) := by decide +kernel
theorem dX0_addHandler_30 : decode cX0_addHandler 30 = .ok (.aload_n 0, 1) := by decide +kernel
theorem dX0_addHandler_31 : decode cX0_addHandler 31 = .ok (.dup, 1) := by decide +kernel
theorem dX0_addHandler_32 : decode cX0_addHandler 32 = .ok (.getfield 45, 3) := by decide +kernel
theorem dX0_addHandler_35 : decode cX0_addHandler 35 = .ok (.iconst 1, 1) := by decide +kernel
theorem dX0_addHandler_36 : decode cX0_addHandler 36 = .ok (.iadd, 1) := by decide +kernel
theorem dX0_addHandler_37 : decode cX0_addHandler 37 = .ok (.putfield 45, 3) := by decide +kernel
theorem dX0_addHandler_40 : decode cX0_addHandler 40 = .ok (.return_, 1) := by decide +kernel
def gm_X0_addHandler (fu : Nat) (this : Nat) (p_0 : Int32) (p_1 : Int32) (p_2 : Int32) (X : gx_H) : Option gx_H :=
  (gx_gd X this 0 3).bind fun a1 =>
  (gx_gi X this 0 7).bind fun v2 =>
  (gx_pai X a1 0 v2 p_0).bind fun X3 =>
  (gx_gd X3 this 0 4).bind fun a4 =>
  (gx_gi X3 this 0 7).bind fun v5 =>
  (gx_pai X3 a4 0 v5 p_1).bind fun X6 =>
  (gx_gd X6 this 0 5).bind fun a7 =>
  (gx_gi X6 this 0 7).bind fun v8 =>
  (gx_pai X6 a7 0 v8 p_2).bind fun X9 =>
  (gx_gi X9 this 0 7).bind fun v10 =>
  (gx_pf X9 this 0 7 (.int (v10 + (1 : Int32)))).bind fun X11 =>
  some X11
set_option maxHeartbeats 1000000 in
set_option maxRecDepth 20000 in
theorem gc_X0_addHandler {l : Launch} {D : gx_D} (fu : Nat) (this : Nat) (p_0 : Int32) (p_1 : Int32) (p_2 : Int32) (X : gx_H) (X2 : gx_H) (h : gm_X0_addHandler fu this p_0 p_1 p_2 X = some X2) : gx_M D gz_cl gz_at gz_tb gz_nb l yX0_addHandler cX0_addHandler 4 none 0 0 [gx_r (some this), gx_i p_0, gx_i p_1, gx_i p_2] X none X2 0 0 := by
  unfold gm_X0_addHandler at h
  refine gx_enter [some (gx_r (some this)), some (gx_i p_0), some (gx_i p_1), some (gx_i p_2)] rfl (by decide) (Nat.le_of_ble_eq_true rfl) ?_
  intro p e s m below meth c C _
  refine gx_aload_n C dX0_addHandler_0 rfl rfl ?_
  obtain ⟨a1, ea1, h⟩ := gx_bd h
  refine gx_get C kcX0 3 (by decide) wl_192 (gx_gd_s ea1) dX0_addHandler_1 ?_
  refine gx_aload_n C dX0_addHandler_4 rfl rfl ?_
  obtain ⟨v2, ev2, h⟩ := gx_bd h
  refine gx_get C kcX0 7 (by decide) wl_209 (gx_gi_s ev2) dX0_addHandler_5 ?_
  refine gx_iload_n C dX0_addHandler_8 rfl rfl ?_
  obtain ⟨X3, eX3, h⟩ := gx_bd h
  refine gx_iast C (t := 0) rfl eX3 dX0_addHandler_9 ?_
  refine gx_aload_n C dX0_addHandler_10 rfl rfl ?_
  obtain ⟨a4, ea4, h⟩ := gx_bd h
  refine gx_get C kcX0 4 (by decide) wl_196 (gx_gd_s ea4) dX0_addHandler_11 ?_
  refine gx_aload_n C dX0_addHandler_14 rfl rfl ?_
  obtain ⟨v5, ev5, h⟩ := gx_bd h
  refine gx_get C kcX0 7 (by decide) wl_209 (gx_gi_s ev5) dX0_addHandler_15 ?_
  refine gx_iload_n C dX0_addHandler_18 rfl rfl ?_
  obtain ⟨X6, eX6, h⟩ := gx_bd h
  refine gx_iast C (t := 0) rfl eX6 dX0_addHandler_19 ?_
  refine gx_aload_n C dX0_addHandler_20 rfl rfl ?_
  obtain ⟨a7, ea7, h⟩ := gx_bd h
  refine gx_get C kcX0 5 (by decide) wl_200 (gx_gd_s ea7) dX0_addHandler_21 ?_
  refine gx_aload_n C dX0_addHandler_24 rfl rfl ?_
  obtain ⟨v8, ev8, h⟩ := gx_bd h
  refine gx_get C kcX0 7 (by decide) wl_209 (gx_gi_s ev8) dX0_addHandler_25 ?_
  refine gx_iload_n C dX0_addHandler_28 rfl rfl ?_
  obtain ⟨X9, eX9, h⟩ := gx_bd h
  refine gx_iast C (t := 0) rfl eX9 dX0_addHandler_29 ?_
  refine gx_aload_n C dX0_addHandler_30 rfl rfl ?_
  refine gx_dup C dX0_addHandler_31 rfl ?_
  obtain ⟨v10, ev10, h⟩ := gx_bd h
  refine gx_get C kcX0 7 (by decide) wl_209 (gx_gi_s ev10) dX0_addHandler_32 ?_
  refine gx_iconst (v := 1) C dX0_addHandler_35 (by decide) ?_
  refine gx_iadd C dX0_addHandler_36 ?_
  obtain ⟨X11, eX11, h⟩ := gx_bd h
  refine gx_put C kcX0 7 (by decide) rfl wl_209 ⟨rfl, rfl⟩ eX11 dX0_addHandler_37 ?_
  cases h
  exact gx_vret C dX0_addHandler_40
theorem dX0_hasInstruction_0 : decode cX0_hasInstruction 0 = .ok (.iload_n 1, 1) := by decide +kernel
theorem dX0_hasInstruction_1 : decode cX0_hasInstruction 1 = .ok (.ifCond .lt 15, 3) := by decide +kernel
theorem dX0_hasInstruction_4 : decode cX0_hasInstruction 4 = .ok (.iload_n 1, 1) := by decide +kernel
theorem dX0_hasInstruction_5 : decode cX0_hasInstruction 5 = .ok (.aload_n 0, 1) := by decide +kernel
theorem dX0_hasInstruction_6 : decode cX0_hasInstruction 6 = .ok (.getfield 42, 3) := by decide +kernel
theorem dX0_hasInstruction_9 : decode cX0_hasInstruction 9 = .ok (.if_icmp .ge 7, 3) := by decide +kernel
theorem dX0_hasInstruction_12 : decode cX0_hasInstruction 12 = .ok (.iconst 1, 1) := by decide +kernel
theorem dX0_hasInstruction_13 : decode cX0_hasInstruction 13 = .ok (.goto 4, 3) := by decide +kernel
theorem dX0_hasInstruction_16 : decode cX0_hasInstruction 16 = .ok (.iconst 0, 1) := by decide +kernel
theorem dX0_hasInstruction_17 : decode cX0_hasInstruction 17 = .ok (.ireturn, 1) := by decide +kernel
def gm_X0_hasInstruction_16 (fu : Nat)  (X : gx_H) : Option (Int32 × gx_H) :=
  some ((0 : Int32), X)
set_option maxHeartbeats 1000000 in
set_option maxRecDepth 20000 in
theorem gt_X0_hasInstruction_16 {p : Program} {l : Launch} {e : Env} {s : State} {m : MethodId} {args : Array Value} {below : List Frame} {meth : Method} {c : Code} {D : gx_D} {r : Int32} {X2 : gx_H}  (C : gx_C D gz_cl gz_at gz_tb gz_nb p s m meth c cX0_hasInstruction 2 RX0 (some .boolean)) (fu : Nat)  (X : gx_H) (h : gm_X0_hasInstruction_16 fu   X = some (r, X2)) : gx_W D gz_cl 2 p l e (gx_rm 0 0 0 0) s m args below meth c 0 0 (MQ below (gx_Q D gz_cl (some (gx_i r)) X2) args s 0 0 (gx_Z D)) X 16 [none, none] [] := by
  unfold gm_X0_hasInstruction_16 at h
  refine gx_iconst (v := 0) C dX0_hasInstruction_16 (by decide) ?_
  cases h
  exact gx_zret (Or.inl rfl) C dX0_hasInstruction_17
def gm_X0_hasInstruction (fu : Nat) (this : Nat) (p_0 : Int32) (X : gx_H) : Option (Int32 × gx_H) :=
  if p_0 < 0 then (
  gm_X0_hasInstruction_16 fu   X) else (
  (gx_gi X this 0 6).bind fun v2 =>
  if v2 ≤ p_0 then (
  gm_X0_hasInstruction_16 fu   X) else (
  some ((1 : Int32), X)))
set_option maxHeartbeats 1000000 in
set_option maxRecDepth 20000 in
theorem gc_X0_hasInstruction {l : Launch} {D : gx_D} (fu : Nat) (this : Nat) (p_0 : Int32) (X : gx_H) (r : Int32) (X2 : gx_H) (h : gm_X0_hasInstruction fu this p_0 X = some (r, X2)) : gx_M D gz_cl gz_at gz_tb gz_nb l yX0_hasInstruction cX0_hasInstruction 2 (some .boolean) 0 0 [gx_r (some this), gx_i p_0] X (some (gx_i r)) X2 0 0 := by
  unfold gm_X0_hasInstruction at h
  refine gx_enter [some (gx_r (some this)), some (gx_i p_0)] rfl (by decide) (Nat.le_of_ble_eq_true rfl) ?_
  intro p e s m below meth c C _
  refine gx_iload_n C dX0_hasInstruction_0 rfl rfl ?_
  refine gx_if_lt (tgt := 16) C dX0_hasInstruction_1 (by decide) (fun q1 => ?_) (fun q1 => ?_)
  · rw [if_pos q1] at h
    refine gx_sub (lv2 := [none, none]) [false, false] rfl ?_
    exact gt_X0_hasInstruction_16 C fu   X h
  · rw [if_neg q1] at h
    refine gx_iload_n C dX0_hasInstruction_4 rfl rfl ?_
    refine gx_aload_n C dX0_hasInstruction_5 rfl rfl ?_
    obtain ⟨v2, ev2, h⟩ := gx_bd h
    refine gx_get C kcX0 6 (by decide) wl_204 (gx_gi_s ev2) dX0_hasInstruction_6 ?_
    refine gx_icmp_ge (tgt := 16) C dX0_hasInstruction_9 (by decide) (fun q3 => ?_) (fun q3 => ?_)
    · rw [if_pos q3] at h
      refine gx_sub (lv2 := [none, none]) [false, false] rfl ?_
      exact gt_X0_hasInstruction_16 C fu   X h
    · rw [if_neg q3] at h
      refine gx_iconst (v := 1) C dX0_hasInstruction_12 (by decide) ?_
      refine gx_goto (tgt := 17) C dX0_hasInstruction_13 (by decide) ?_
      cases h
      exact gx_zret (Or.inr rfl) C dX0_hasInstruction_17
theorem dX0_canHandle_0 : decode cX0_canHandle 0 = .ok (.aload_n 0, 1) := by decide +kernel
theorem dX0_canHandle_1 : decode cX0_canHandle 1 = .ok (.getfield 45, 3) := by decide +kernel
theorem dX0_canHandle_4 : decode cX0_canHandle 4 = .ok (.bipush 6, 2) := by decide +kernel
theorem dX0_canHandle_6 : decode cX0_canHandle 6 = .ok (.if_icmp .ge 32, 3) := by decide +kernel
theorem dX0_canHandle_9 : decode cX0_canHandle 9 = .ok (.iload_n 1, 1) := by decide +kernel
theorem dX0_canHandle_10 : decode cX0_canHandle 10 = .ok (.ifCond .lt 28, 3) := by decide +kernel
theorem dX0_canHandle_13 : decode cX0_canHandle 13 = .ok (.iload_n 1, 1) := by decide +kernel
theorem dX0_canHandle_14 : decode cX0_canHandle 14 = .ok (.iload_n 2, 1) := by decide +kernel
theorem dX0_canHandle_15 : decode cX0_canHandle 15 = .ok (.if_icmp .ge 23, 3) := by decide +kernel
theorem dX0_canHandle_18 : decode cX0_canHandle 18 = .ok (.iload_n 2, 1) := by decide +kernel
theorem dX0_canHandle_19 : decode cX0_canHandle 19 = .ok (.aload_n 0, 1) := by decide +kernel
theorem dX0_canHandle_20 : decode cX0_canHandle 20 = .ok (.getfield 42, 3) := by decide +kernel
theorem dX0_canHandle_23 : decode cX0_canHandle 23 = .ok (.if_icmp .gt 15, 3) := by decide +kernel
theorem dX0_canHandle_26 : decode cX0_canHandle 26 = .ok (.aload_n 0, 1) := by decide +kernel
theorem dX0_canHandle_27 : decode cX0_canHandle 27 = .ok (.iload_n 3, 1) := by decide +kernel
theorem dX0_canHandle_28 : decode cX0_canHandle 28 = .ok (.invokevirtual 52, 3) := by decide +kernel
theorem dX0_canHandle_31 : decode cX0_canHandle 31 = .ok (.ifCond .eq 7, 3) := by decide +kernel
theorem dX0_canHandle_34 : decode cX0_canHandle 34 = .ok (.iconst 1, 1) := by decide +kernel
theorem dX0_canHandle_35 : decode cX0_canHandle 35 = .ok (.goto 4, 3) := by decide +kernel
theorem dX0_canHandle_38 : decode cX0_canHandle 38 = .ok (.iconst 0, 1) := by decide +kernel
theorem dX0_canHandle_39 : decode cX0_canHandle 39 = .ok (.ireturn, 1) := by decide +kernel
def gm_X0_canHandle_38 (fu : Nat)  (X : gx_H) : Option (Int32 × gx_H) :=
  some ((0 : Int32), X)
set_option maxHeartbeats 1000000 in
set_option maxRecDepth 20000 in
theorem gt_X0_canHandle_38 {p : Program} {l : Launch} {e : Env} {s : State} {m : MethodId} {args : Array Value} {below : List Frame} {meth : Method} {c : Code} {D : gx_D} {r : Int32} {X2 : gx_H}  (C : gx_C D gz_cl gz_at gz_tb gz_nb p s m meth c cX0_canHandle 4 RX0 (some .boolean)) (fu : Nat)  (X : gx_H) (h : gm_X0_canHandle_38 fu   X = some (r, X2)) : gx_W D gz_cl 4 p l e (gx_rm 1 21 0 0) s m args below meth c 0 0 (MQ below (gx_Q D gz_cl (some (gx_i r)) X2) args s 0 0 (gx_Z D)) X 38 [none, none, none, none] [] := by
  unfold gm_X0_canHandle_38 at h
  refine gx_iconst (v := 0) C dX0_canHandle_38 (by decide) ?_
  cases h
  exact gx_zret (Or.inl rfl) C dX0_canHandle_39
def gm_X0_canHandle (fu : Nat) (this : Nat) (p_0 : Int32) (p_1 : Int32) (p_2 : Int32) (X : gx_H) : Option (Int32 × gx_H) :=
  (gx_gi X this 0 7).bind fun v1 =>
  if (6 : Int32) ≤ v1 then (
  gm_X0_canHandle_38 fu   X) else (
  if p_0 < 0 then (
  gm_X0_canHandle_38 fu   X) else (
  if p_1 ≤ p_0 then (
  gm_X0_canHandle_38 fu   X) else (
  (gx_gi X this 0 6).bind fun v5 =>
  if v5 < p_1 then (
  gm_X0_canHandle_38 fu   X) else (
  gx_ob X this 0 <|
  gx_b2 (gm_X0_hasInstruction fu this p_2 X) fun v9 X8 =>
  if v9 = 0 then (
  gm_X0_canHandle_38 fu   X8) else (
  some ((1 : Int32), X8))))))
set_option maxHeartbeats 1000000 in
set_option maxRecDepth 20000 in
theorem gc_X0_canHandle {l : Launch} {D : gx_D} (fu : Nat) (this : Nat) (p_0 : Int32) (p_1 : Int32) (p_2 : Int32) (X : gx_H) (r : Int32) (X2 : gx_H) (h : gm_X0_canHandle fu this p_0 p_1 p_2 X = some (r, X2)) : gx_M D gz_cl gz_at gz_tb gz_nb l yX0_canHandle cX0_canHandle 4 (some .boolean) 1 21 [gx_r (some this), gx_i p_0, gx_i p_1, gx_i p_2] X (some (gx_i r)) X2 0 0 := by
  unfold gm_X0_canHandle at h
  refine gx_enter [some (gx_r (some this)), some (gx_i p_0), some (gx_i p_1), some (gx_i p_2)] rfl (by decide) (Nat.le_of_ble_eq_true rfl) ?_
  intro p e s m below meth c C _
  refine gx_aload_n C dX0_canHandle_0 rfl rfl ?_
  obtain ⟨v1, ev1, h⟩ := gx_bd h
  refine gx_get C kcX0 7 (by decide) wl_209 (gx_gi_s ev1) dX0_canHandle_1 ?_
  refine gx_bipush (v := 6) C dX0_canHandle_4 (by decide) ?_
  refine gx_icmp_ge (tgt := 38) C dX0_canHandle_6 (by decide) (fun q2 => ?_) (fun q2 => ?_)
  · rw [if_pos q2] at h
    refine gx_sub (lv2 := [none, none, none, none]) [false, false, false, false] rfl ?_
    exact gt_X0_canHandle_38 C fu   X h
  · rw [if_neg q2] at h
    refine gx_iload_n C dX0_canHandle_9 rfl rfl ?_
    refine gx_if_lt (tgt := 38) C dX0_canHandle_10 (by decide) (fun q3 => ?_) (fun q3 => ?_)
    · rw [if_pos q3] at h
      refine gx_sub (lv2 := [none, none, none, none]) [false, false, false, false] rfl ?_
      exact gt_X0_canHandle_38 C fu   X h
    · rw [if_neg q3] at h
      refine gx_iload_n C dX0_canHandle_13 rfl rfl ?_
      refine gx_iload_n C dX0_canHandle_14 rfl rfl ?_
      refine gx_icmp_ge (tgt := 38) C dX0_canHandle_15 (by decide) (fun q4 => ?_) (fun q4 => ?_)
      · rw [if_pos q4] at h
        refine gx_sub (lv2 := [none, none, none, none]) [false, false, false, false] rfl ?_
        exact gt_X0_canHandle_38 C fu   X h
      · rw [if_neg q4] at h
        refine gx_iload_n C dX0_canHandle_18 rfl rfl ?_
        refine gx_aload_n C dX0_canHandle_19 rfl rfl ?_
        obtain ⟨v5, ev5, h⟩ := gx_bd h
        refine gx_get C kcX0 6 (by decide) wl_204 (gx_gi_s ev5) dX0_canHandle_20 ?_
        refine gx_icmp_gt (tgt := 38) C dX0_canHandle_23 (by decide) (fun q6 => ?_) (fun q6 => ?_)
        · rw [if_pos q6] at h
          refine gx_sub (lv2 := [none, none, none, none]) [false, false, false, false] rfl ?_
          exact gt_X0_canHandle_38 C fu   X h
        · rw [if_neg q6] at h
          refine gx_aload_n C dX0_canHandle_26 rfl rfl ?_
          refine gx_iload_n C dX0_canHandle_27 rfl rfl ?_
          obtain ⟨ho7, h⟩ := gx_obs h
          obtain ⟨v9, X8, eX8, h⟩ := gx_bd2 h
          refine gx_callV (As := [gx_i p_2]) (st := []) (stk2 := [gx_i v9]) C cd_X0_hasInstruction wl_279 ws_X0_hasInstruction wl_286 rfl ho7 (gc_X0_hasInstruction fu this p_2 X v9 X8 eX8) rfl ⟨Nat.le_of_ble_eq_true rfl, Nat.le_of_ble_eq_true rfl⟩ ⟨Nat.le_of_ble_eq_true rfl, Nat.le_of_ble_eq_true rfl⟩ (Nat.le_of_ble_eq_true rfl) rfl rfl dX0_canHandle_28 ?_
          refine gx_if_eq (tgt := 38) C dX0_canHandle_31 (by decide) (fun q10 => ?_) (fun q10 => ?_)
          · rw [if_pos q10] at h
            refine gx_sub (lv2 := [none, none, none, none]) [false, false, false, false] rfl ?_
            exact gt_X0_canHandle_38 C fu   X8 h
          · rw [if_neg q10] at h
            refine gx_iconst (v := 1) C dX0_canHandle_34 (by decide) ?_
            refine gx_goto (tgt := 39) C dX0_canHandle_35 (by decide) ?_
            cases h
            exact gx_zret (Or.inr rfl) C dX0_canHandle_39
theorem dX0_canHold_0 : decode cX0_canHold 0 = .ok (.iload_n 1, 1) := by decide +kernel
theorem dX0_canHold_1 : decode cX0_canHold 1 = .ok (.tableswitch 99 0 8 #[89, 51, 51, 57, 73, 73, 89, 89, 89], 51) := by decide +kernel
theorem dX0_canHold_52 : decode cX0_canHold 52 = .ok (.aload_n 0, 1) := by decide +kernel
theorem dX0_canHold_53 : decode cX0_canHold 53 = .ok (.iload_n 2, 1) := by decide +kernel
theorem dX0_canHold_54 : decode cX0_canHold 54 = .ok (.invokevirtual 52, 3) := by decide +kernel
theorem dX0_canHold_57 : decode cX0_canHold 57 = .ok (.ireturn, 1) := by decide +kernel
theorem dX0_canHold_58 : decode cX0_canHold 58 = .ok (.iload_n 2, 1) := by decide +kernel
theorem dX0_canHold_59 : decode cX0_canHold 59 = .ok (.ifCond .lt 13, 3) := by decide +kernel
theorem dX0_canHold_62 : decode cX0_canHold 62 = .ok (.iload_n 2, 1) := by decide +kernel
theorem dX0_canHold_63 : decode cX0_canHold 63 = .ok (.bipush 8, 2) := by decide +kernel
theorem dX0_canHold_65 : decode cX0_canHold 65 = .ok (.if_icmp .ge 7, 3) := by decide +kernel
theorem dX0_canHold_68 : decode cX0_canHold 68 = .ok (.iconst 1, 1) := by decide +kernel
theorem dX0_canHold_69 : decode cX0_canHold 69 = .ok (.goto 4, 3) := by decide +kernel
theorem dX0_canHold_72 : decode cX0_canHold 72 = .ok (.iconst 0, 1) := by decide +kernel
theorem dX0_canHold_73 : decode cX0_canHold 73 = .ok (.ireturn, 1) := by decide +kernel
theorem dX0_canHold_74 : decode cX0_canHold 74 = .ok (.iload_n 2, 1) := by decide +kernel
theorem dX0_canHold_75 : decode cX0_canHold 75 = .ok (.ifCond .lt 13, 3) := by decide +kernel
theorem dX0_canHold_78 : decode cX0_canHold 78 = .ok (.iload_n 2, 1) := by decide +kernel
theorem dX0_canHold_79 : decode cX0_canHold 79 = .ok (.bipush 16, 2) := by decide +kernel
theorem dX0_canHold_81 : decode cX0_canHold 81 = .ok (.if_icmp .ge 7, 3) := by decide +kernel
theorem dX0_canHold_84 : decode cX0_canHold 84 = .ok (.iconst 1, 1) := by decide +kernel
theorem dX0_canHold_85 : decode cX0_canHold 85 = .ok (.goto 4, 3) := by decide +kernel
theorem dX0_canHold_88 : decode cX0_canHold 88 = .ok (.iconst 0, 1) := by decide +kernel
theorem dX0_canHold_89 : decode cX0_canHold 89 = .ok (.ireturn, 1) := by decide +kernel
theorem dX0_canHold_90 : decode cX0_canHold 90 = .ok (.iload_n 2, 1) := by decide +kernel
theorem dX0_canHold_91 : decode cX0_canHold 91 = .ok (.ifCond .ne 7, 3) := by decide +kernel
theorem dX0_canHold_94 : decode cX0_canHold 94 = .ok (.iconst 1, 1) := by decide +kernel
theorem dX0_canHold_95 : decode cX0_canHold 95 = .ok (.goto 4, 3) := by decide +kernel
theorem dX0_canHold_98 : decode cX0_canHold 98 = .ok (.iconst 0, 1) := by decide +kernel
theorem dX0_canHold_99 : decode cX0_canHold 99 = .ok (.ireturn, 1) := by decide +kernel
theorem dX0_canHold_100 : decode cX0_canHold 100 = .ok (.iconst 0, 1) := by decide +kernel
theorem dX0_canHold_101 : decode cX0_canHold 101 = .ok (.ireturn, 1) := by decide +kernel
def gm_X0_canHold_52 (fu : Nat) (a0 : Nat) (x2 : Int32) (X : gx_H) : Option (Int32 × gx_H) :=
  gx_ob X a0 0 <|
  gx_b2 (gm_X0_hasInstruction fu a0 x2 X) fun v3 X2 =>
  (gx_bz v3).bind fun z4 =>
  some (v3, X2)
set_option maxHeartbeats 1000000 in
set_option maxRecDepth 20000 in
theorem gt_X0_canHold_52 {p : Program} {l : Launch} {e : Env} {s : State} {m : MethodId} {args : Array Value} {below : List Frame} {meth : Method} {c : Code} {D : gx_D} {r : Int32} {X2 : gx_H}  (C : gx_C D gz_cl gz_at gz_tb gz_nb p s m meth c cX0_canHold 3 RX0 (some .boolean)) (fu : Nat) (a0 : Nat) (x2 : Int32) (X : gx_H) (h : gm_X0_canHold_52 fu  a0 x2 X = some (r, X2)) : gx_W D gz_cl 3 p l e (gx_rm 1 21 0 0) s m args below meth c 0 0 (MQ below (gx_Q D gz_cl (some (gx_i r)) X2) args s 0 0 (gx_Z D)) X 52 [some (gx_r (some a0)), none, some (gx_i x2)] [] := by
  unfold gm_X0_canHold_52 at h
  refine gx_aload_n C dX0_canHold_52 rfl rfl ?_
  refine gx_iload_n C dX0_canHold_53 rfl rfl ?_
  obtain ⟨ho1, h⟩ := gx_obs h
  obtain ⟨v3, X2, eX2, h⟩ := gx_bd2 h
  refine gx_callV (As := [gx_i x2]) (st := []) (stk2 := [gx_i v3]) C cd_X0_hasInstruction wl_279 ws_X0_hasInstruction wl_286 rfl ho1 (gc_X0_hasInstruction fu a0 x2 X v3 X2 eX2) rfl ⟨Nat.le_of_ble_eq_true rfl, Nat.le_of_ble_eq_true rfl⟩ ⟨Nat.le_of_ble_eq_true rfl, Nat.le_of_ble_eq_true rfl⟩ (Nat.le_of_ble_eq_true rfl) rfl rfl dX0_canHold_54 ?_
  obtain ⟨z4, ez4, h⟩ := gx_bd h
  cases h
  exact gx_zret (gx_bz_s ez4).2 C dX0_canHold_57
def gm_X0_canHold_72 (fu : Nat)  (X : gx_H) : Option (Int32 × gx_H) :=
  some ((0 : Int32), X)
set_option maxHeartbeats 1000000 in
set_option maxRecDepth 20000 in
theorem gt_X0_canHold_72 {p : Program} {l : Launch} {e : Env} {s : State} {m : MethodId} {args : Array Value} {below : List Frame} {meth : Method} {c : Code} {D : gx_D} {r : Int32} {X2 : gx_H}  (C : gx_C D gz_cl gz_at gz_tb gz_nb p s m meth c cX0_canHold 3 RX0 (some .boolean)) (fu : Nat)  (X : gx_H) (h : gm_X0_canHold_72 fu   X = some (r, X2)) : gx_W D gz_cl 3 p l e (gx_rm 1 21 0 0) s m args below meth c 0 0 (MQ below (gx_Q D gz_cl (some (gx_i r)) X2) args s 0 0 (gx_Z D)) X 72 [none, none, none] [] := by
  unfold gm_X0_canHold_72 at h
  refine gx_iconst (v := 0) C dX0_canHold_72 (by decide) ?_
  cases h
  exact gx_zret (Or.inl rfl) C dX0_canHold_73
def gm_X0_canHold_88 (fu : Nat)  (X : gx_H) : Option (Int32 × gx_H) :=
  some ((0 : Int32), X)
set_option maxHeartbeats 1000000 in
set_option maxRecDepth 20000 in
theorem gt_X0_canHold_88 {p : Program} {l : Launch} {e : Env} {s : State} {m : MethodId} {args : Array Value} {below : List Frame} {meth : Method} {c : Code} {D : gx_D} {r : Int32} {X2 : gx_H}  (C : gx_C D gz_cl gz_at gz_tb gz_nb p s m meth c cX0_canHold 3 RX0 (some .boolean)) (fu : Nat)  (X : gx_H) (h : gm_X0_canHold_88 fu   X = some (r, X2)) : gx_W D gz_cl 3 p l e (gx_rm 1 21 0 0) s m args below meth c 0 0 (MQ below (gx_Q D gz_cl (some (gx_i r)) X2) args s 0 0 (gx_Z D)) X 88 [none, none, none] [] := by
  unfold gm_X0_canHold_88 at h
  refine gx_iconst (v := 0) C dX0_canHold_88 (by decide) ?_
  cases h
  exact gx_zret (Or.inl rfl) C dX0_canHold_89
def gm_X0_canHold_74 (fu : Nat) (x2 : Int32) (X : gx_H) : Option (Int32 × gx_H) :=
  if x2 < 0 then (
  gm_X0_canHold_88 fu   X) else (
  if (16 : Int32) ≤ x2 then (
  gm_X0_canHold_88 fu   X) else (
  some ((1 : Int32), X)))
set_option maxHeartbeats 1000000 in
set_option maxRecDepth 20000 in
theorem gt_X0_canHold_74 {p : Program} {l : Launch} {e : Env} {s : State} {m : MethodId} {args : Array Value} {below : List Frame} {meth : Method} {c : Code} {D : gx_D} {r : Int32} {X2 : gx_H}  (C : gx_C D gz_cl gz_at gz_tb gz_nb p s m meth c cX0_canHold 3 RX0 (some .boolean)) (fu : Nat) (x2 : Int32) (X : gx_H) (h : gm_X0_canHold_74 fu  x2 X = some (r, X2)) : gx_W D gz_cl 3 p l e (gx_rm 1 21 0 0) s m args below meth c 0 0 (MQ below (gx_Q D gz_cl (some (gx_i r)) X2) args s 0 0 (gx_Z D)) X 74 [none, none, some (gx_i x2)] [] := by
  unfold gm_X0_canHold_74 at h
  refine gx_iload_n C dX0_canHold_74 rfl rfl ?_
  refine gx_if_lt (tgt := 88) C dX0_canHold_75 (by decide) (fun q5 => ?_) (fun q5 => ?_)
  · rw [if_pos q5] at h
    refine gx_sub (lv2 := [none, none, none]) [false, false, false] rfl ?_
    exact gt_X0_canHold_88 C fu   X h
  · rw [if_neg q5] at h
    refine gx_iload_n C dX0_canHold_78 rfl rfl ?_
    refine gx_bipush (v := 16) C dX0_canHold_79 (by decide) ?_
    refine gx_icmp_ge (tgt := 88) C dX0_canHold_81 (by decide) (fun q6 => ?_) (fun q6 => ?_)
    · rw [if_pos q6] at h
      refine gx_sub (lv2 := [none, none, none]) [false, false, false] rfl ?_
      exact gt_X0_canHold_88 C fu   X h
    · rw [if_neg q6] at h
      refine gx_iconst (v := 1) C dX0_canHold_84 (by decide) ?_
      refine gx_goto (tgt := 89) C dX0_canHold_85 (by decide) ?_
      cases h
      exact gx_zret (Or.inr rfl) C dX0_canHold_89
def gm_X0_canHold_90 (fu : Nat) (x2 : Int32) (X : gx_H) : Option (Int32 × gx_H) :=
  if x2 = 0 then (
  some ((1 : Int32), X)) else (
  some ((0 : Int32), X))
set_option maxHeartbeats 1000000 in
set_option maxRecDepth 20000 in
theorem gt_X0_canHold_90 {p : Program} {l : Launch} {e : Env} {s : State} {m : MethodId} {args : Array Value} {below : List Frame} {meth : Method} {c : Code} {D : gx_D} {r : Int32} {X2 : gx_H}  (C : gx_C D gz_cl gz_at gz_tb gz_nb p s m meth c cX0_canHold 3 RX0 (some .boolean)) (fu : Nat) (x2 : Int32) (X : gx_H) (h : gm_X0_canHold_90 fu  x2 X = some (r, X2)) : gx_W D gz_cl 3 p l e (gx_rm 1 21 0 0) s m args below meth c 0 0 (MQ below (gx_Q D gz_cl (some (gx_i r)) X2) args s 0 0 (gx_Z D)) X 90 [none, none, some (gx_i x2)] [] := by
  unfold gm_X0_canHold_90 at h
  refine gx_iload_n C dX0_canHold_90 rfl rfl ?_
  refine gx_if_ne (tgt := 98) C dX0_canHold_91 (by decide) (fun q7 => ?_) (fun q7 => ?_)
  · rw [if_neg q7] at h
    refine gx_iconst (v := 0) C dX0_canHold_98 (by decide) ?_
    cases h
    exact gx_zret (Or.inl rfl) C dX0_canHold_99
  · rw [if_pos q7] at h
    refine gx_iconst (v := 1) C dX0_canHold_94 (by decide) ?_
    refine gx_goto (tgt := 99) C dX0_canHold_95 (by decide) ?_
    cases h
    exact gx_zret (Or.inr rfl) C dX0_canHold_99
def gm_X0_canHold (fu : Nat) (this : Nat) (p_0 : Int32) (p_1 : Int32) (X : gx_H) : Option (Int32 × gx_H) :=
  if p_0 = (0 : Int32) then (
  gm_X0_canHold_90 fu  p_1 X) else (
  if p_0 = (1 : Int32) then (
  gm_X0_canHold_52 fu  this p_1 X) else (
  if p_0 = (2 : Int32) then (
  gm_X0_canHold_52 fu  this p_1 X) else (
  if p_0 = (3 : Int32) then (
  if p_1 < 0 then (
  gm_X0_canHold_72 fu   X) else (
  if (8 : Int32) ≤ p_1 then (
  gm_X0_canHold_72 fu   X) else (
  some ((1 : Int32), X)))) else (
  if p_0 = (4 : Int32) then (
  gm_X0_canHold_74 fu  p_1 X) else (
  if p_0 = (5 : Int32) then (
  gm_X0_canHold_74 fu  p_1 X) else (
  if p_0 = (6 : Int32) then (
  gm_X0_canHold_90 fu  p_1 X) else (
  if p_0 = (7 : Int32) then (
  gm_X0_canHold_90 fu  p_1 X) else (
  if p_0 = (8 : Int32) then (
  gm_X0_canHold_90 fu  p_1 X) else (
  some ((0 : Int32), X))))))))))
set_option maxHeartbeats 1000000 in
set_option maxRecDepth 20000 in
theorem gc_X0_canHold {l : Launch} {D : gx_D} (fu : Nat) (this : Nat) (p_0 : Int32) (p_1 : Int32) (X : gx_H) (r : Int32) (X2 : gx_H) (h : gm_X0_canHold fu this p_0 p_1 X = some (r, X2)) : gx_M D gz_cl gz_at gz_tb gz_nb l yX0_canHold cX0_canHold 3 (some .boolean) 1 21 [gx_r (some this), gx_i p_0, gx_i p_1] X (some (gx_i r)) X2 0 0 := by
  unfold gm_X0_canHold at h
  refine gx_enter [some (gx_r (some this)), some (gx_i p_0), some (gx_i p_1)] rfl (by decide) (Nat.le_of_ble_eq_true rfl) ?_
  intro p e s m below meth c C _
  refine gx_iload_n C dX0_canHold_0 rfl rfl ?_
  by_cases q8_0 : p_0 = (0 : Int32)
  · rw [if_pos q8_0] at h
    refine gx_swIn (tgt := 90) (off := 89) C dX0_canHold_1 (by rw [q8_0]; decide) (by rw [q8_0]; decide) (by rw [q8_0]; decide) (by decide) ?_
    refine gx_sub (lv2 := [none, none, some (gx_i p_1)]) [false, false, true] rfl ?_
    exact gt_X0_canHold_90 C fu  p_1 X h
  rw [if_neg q8_0] at h
  by_cases q8_1 : p_0 = (1 : Int32)
  · rw [if_pos q8_1] at h
    refine gx_swIn (tgt := 52) (off := 51) C dX0_canHold_1 (by rw [q8_1]; decide) (by rw [q8_1]; decide) (by rw [q8_1]; decide) (by decide) ?_
    refine gx_sub (lv2 := [some (gx_r (some this)), none, some (gx_i p_1)]) [true, false, true] rfl ?_
    exact gt_X0_canHold_52 C fu  this p_1 X h
  rw [if_neg q8_1] at h
  by_cases q8_2 : p_0 = (2 : Int32)
  · rw [if_pos q8_2] at h
    refine gx_swIn (tgt := 52) (off := 51) C dX0_canHold_1 (by rw [q8_2]; decide) (by rw [q8_2]; decide) (by rw [q8_2]; decide) (by decide) ?_
    refine gx_sub (lv2 := [some (gx_r (some this)), none, some (gx_i p_1)]) [true, false, true] rfl ?_
    exact gt_X0_canHold_52 C fu  this p_1 X h
  rw [if_neg q8_2] at h
  by_cases q8_3 : p_0 = (3 : Int32)
  · rw [if_pos q8_3] at h
    refine gx_swIn (tgt := 58) (off := 57) C dX0_canHold_1 (by rw [q8_3]; decide) (by rw [q8_3]; decide) (by rw [q8_3]; decide) (by decide) ?_
    refine gx_iload_n C dX0_canHold_58 rfl rfl ?_
    refine gx_if_lt (tgt := 72) C dX0_canHold_59 (by decide) (fun q9 => ?_) (fun q9 => ?_)
    · rw [if_pos q9] at h
      refine gx_sub (lv2 := [none, none, none]) [false, false, false] rfl ?_
      exact gt_X0_canHold_72 C fu   X h
    · rw [if_neg q9] at h
      refine gx_iload_n C dX0_canHold_62 rfl rfl ?_
      refine gx_bipush (v := 8) C dX0_canHold_63 (by decide) ?_
      refine gx_icmp_ge (tgt := 72) C dX0_canHold_65 (by decide) (fun q10 => ?_) (fun q10 => ?_)
      · rw [if_pos q10] at h
        refine gx_sub (lv2 := [none, none, none]) [false, false, false] rfl ?_
        exact gt_X0_canHold_72 C fu   X h
      · rw [if_neg q10] at h
        refine gx_iconst (v := 1) C dX0_canHold_68 (by decide) ?_
        refine gx_goto (tgt := 73) C dX0_canHold_69 (by decide) ?_
        cases h
        exact gx_zret (Or.inr rfl) C dX0_canHold_73
  rw [if_neg q8_3] at h
  by_cases q8_4 : p_0 = (4 : Int32)
  · rw [if_pos q8_4] at h
    refine gx_swIn (tgt := 74) (off := 73) C dX0_canHold_1 (by rw [q8_4]; decide) (by rw [q8_4]; decide) (by rw [q8_4]; decide) (by decide) ?_
    refine gx_sub (lv2 := [none, none, some (gx_i p_1)]) [false, false, true] rfl ?_
    exact gt_X0_canHold_74 C fu  p_1 X h
  rw [if_neg q8_4] at h
  by_cases q8_5 : p_0 = (5 : Int32)
  · rw [if_pos q8_5] at h
    refine gx_swIn (tgt := 74) (off := 73) C dX0_canHold_1 (by rw [q8_5]; decide) (by rw [q8_5]; decide) (by rw [q8_5]; decide) (by decide) ?_
    refine gx_sub (lv2 := [none, none, some (gx_i p_1)]) [false, false, true] rfl ?_
    exact gt_X0_canHold_74 C fu  p_1 X h
  rw [if_neg q8_5] at h
  by_cases q8_6 : p_0 = (6 : Int32)
  · rw [if_pos q8_6] at h
    refine gx_swIn (tgt := 90) (off := 89) C dX0_canHold_1 (by rw [q8_6]; decide) (by rw [q8_6]; decide) (by rw [q8_6]; decide) (by decide) ?_
    refine gx_sub (lv2 := [none, none, some (gx_i p_1)]) [false, false, true] rfl ?_
    exact gt_X0_canHold_90 C fu  p_1 X h
  rw [if_neg q8_6] at h
  by_cases q8_7 : p_0 = (7 : Int32)
  · rw [if_pos q8_7] at h
    refine gx_swIn (tgt := 90) (off := 89) C dX0_canHold_1 (by rw [q8_7]; decide) (by rw [q8_7]; decide) (by rw [q8_7]; decide) (by decide) ?_
    refine gx_sub (lv2 := [none, none, some (gx_i p_1)]) [false, false, true] rfl ?_
    exact gt_X0_canHold_90 C fu  p_1 X h
  rw [if_neg q8_7] at h
  by_cases q8_8 : p_0 = (8 : Int32)
  · rw [if_pos q8_8] at h
    refine gx_swIn (tgt := 90) (off := 89) C dX0_canHold_1 (by rw [q8_8]; decide) (by rw [q8_8]; decide) (by rw [q8_8]; decide) (by decide) ?_
    refine gx_sub (lv2 := [none, none, some (gx_i p_1)]) [false, false, true] rfl ?_
    exact gt_X0_canHold_90 C fu  p_1 X h
  rw [if_neg q8_8] at h
  refine gx_swOut (tgt := 100) C dX0_canHold_1 (by have n0 := lv_neT q8_0 (a := 0) (by decide); have n1 := lv_neT q8_1 (a := 1) (by decide); have n2 := lv_neT q8_2 (a := 2) (by decide); have n3 := lv_neT q8_3 (a := 3) (by decide); have n4 := lv_neT q8_4 (a := 4) (by decide); have n5 := lv_neT q8_5 (a := 5) (by decide); have n6 := lv_neT q8_6 (a := 6) (by decide); have n7 := lv_neT q8_7 (a := 7) (by decide); have n8 := lv_neT q8_8 (a := 8) (by decide); omega) (by decide) ?_
  refine gx_iconst (v := 0) C dX0_canHold_100 (by decide) ?_
  cases h
  exact gx_zret (Or.inl rfl) C dX0_canHold_101
theorem dX0_countOfKind_0 : decode cX0_countOfKind 0 = .ok (.iconst 0, 1) := by decide +kernel
theorem dX0_countOfKind_1 : decode cX0_countOfKind 1 = .ok (.istore_n 2, 1) := by decide +kernel
theorem dX0_countOfKind_2 : decode cX0_countOfKind 2 = .ok (.iconst 0, 1) := by decide +kernel
theorem dX0_countOfKind_3 : decode cX0_countOfKind 3 = .ok (.istore_n 3, 1) := by decide +kernel
theorem dX0_countOfKind_4 : decode cX0_countOfKind 4 = .ok (.iload_n 3, 1) := by decide +kernel
theorem dX0_countOfKind_5 : decode cX0_countOfKind 5 = .ok (.aload_n 0, 1) := by decide +kernel
theorem dX0_countOfKind_6 : decode cX0_countOfKind 6 = .ok (.getfield 42, 3) := by decide +kernel
theorem dX0_countOfKind_9 : decode cX0_countOfKind 9 = .ok (.if_icmp .ge 27, 3) := by decide +kernel
theorem dX0_countOfKind_12 : decode cX0_countOfKind 12 = .ok (.iload_n 2, 1) := by decide +kernel
theorem dX0_countOfKind_13 : decode cX0_countOfKind 13 = .ok (.aload_n 0, 1) := by decide +kernel
theorem dX0_countOfKind_14 : decode cX0_countOfKind 14 = .ok (.getfield 9, 3) := by decide +kernel
theorem dX0_countOfKind_17 : decode cX0_countOfKind 17 = .ok (.iload_n 3, 1) := by decide +kernel
theorem dX0_countOfKind_18 : decode cX0_countOfKind 18 = .ok (.iaload, 1) := by decide +kernel
theorem dX0_countOfKind_19 : decode cX0_countOfKind 19 = .ok (.iload_n 1, 1) := by decide +kernel
theorem dX0_countOfKind_20 : decode cX0_countOfKind 20 = .ok (.if_icmp .ne 7, 3) := by decide +kernel
theorem dX0_countOfKind_23 : decode cX0_countOfKind 23 = .ok (.iconst 1, 1) := by decide +kernel
theorem dX0_countOfKind_24 : decode cX0_countOfKind 24 = .ok (.goto 4, 3) := by decide +kernel
theorem dX0_countOfKind_27 : decode cX0_countOfKind 27 = .ok (.iconst 0, 1) := by decide +kernel
theorem dX0_countOfKind_28 : decode cX0_countOfKind 28 = .ok (.iadd, 1) := by decide +kernel
theorem dX0_countOfKind_29 : decode cX0_countOfKind 29 = .ok (.istore_n 2, 1) := by decide +kernel
theorem dX0_countOfKind_30 : decode cX0_countOfKind 30 = .ok (.iinc 3 1, 3) := by decide +kernel
theorem dX0_countOfKind_33 : decode cX0_countOfKind 33 = .ok (.goto (-29), 3) := by decide +kernel
theorem dX0_countOfKind_36 : decode cX0_countOfKind 36 = .ok (.iload_n 2, 1) := by decide +kernel
theorem dX0_countOfKind_37 : decode cX0_countOfKind 37 = .ok (.ireturn, 1) := by decide +kernel
def gm_X0_countOfKind_28 (fu : Nat) (K4 : Nat → Int32 → Int32 → Int32 → gx_H → Option (Int32 × gx_H)) (a0 : Nat) (x1 : Int32) (x3 : Int32) (sx0 : Int32) (sx1 : Int32) (X : gx_H) : Option (Int32 × gx_H) :=
  K4 a0 x1 (sx0 + sx1) (x3 + 1) X
set_option maxHeartbeats 1000000 in
set_option maxRecDepth 20000 in
theorem gt_X0_countOfKind_28 {p : Program} {l : Launch} {e : Env} {s : State} {m : MethodId} {args : Array Value} {below : List Frame} {meth : Method} {c : Code} {D : gx_D} {r : Int32} {X2 : gx_H}  (C : gx_C D gz_cl gz_at gz_tb gz_nb p s m meth c cX0_countOfKind 4 RX0 (some .int)) (fu : Nat) (K4 : Nat → Int32 → Int32 → Int32 → gx_H → Option (Int32 × gx_H)) (hK4 : ∀ (a0 : Nat) (x1 : Int32) (x2 : Int32) (x3 : Int32) (X : gx_H), K4 a0 x1 x2 x3 X = some (r, X2) → gx_W D gz_cl 4 p l e (gx_rm 0 0 0 0) s m args below meth c 0 0 (MQ below (gx_Q D gz_cl (some (gx_i r)) X2) args s 0 0 (gx_Z D)) X 4 [some (gx_r (some a0)), some (gx_i x1), some (gx_i x2), some (gx_i x3)] []) (a0 : Nat) (x1 : Int32) (x3 : Int32) (sx0 : Int32) (sx1 : Int32) (X : gx_H) (h : gm_X0_countOfKind_28 fu K4 a0 x1 x3 sx0 sx1 X = some (r, X2)) : gx_W D gz_cl 4 p l e (gx_rm 0 0 0 0) s m args below meth c 0 0 (MQ below (gx_Q D gz_cl (some (gx_i r)) X2) args s 0 0 (gx_Z D)) X 28 [some (gx_r (some a0)), some (gx_i x1), none, some (gx_i x3)] [gx_i sx1, gx_i sx0] := by
  unfold gm_X0_countOfKind_28 at h
  refine gx_iadd C dX0_countOfKind_28 ?_
  refine gx_istore_n (lv2 := [some (gx_r (some a0)), some (gx_i x1), some (gx_i (sx0 + sx1)), some (gx_i x3)]) C dX0_countOfKind_29 rfl (by decide) rfl ?_
  refine gx_iinc (v := (x3 + 1)) (lv2 := [some (gx_r (some a0)), some (gx_i x1), some (gx_i (sx0 + sx1)), some (gx_i (x3 + 1))]) C dX0_countOfKind_30 rfl rfl (by decide) rfl ?_
  refine gx_goto (tgt := 4) C dX0_countOfKind_33 (by decide) ?_
  exact hK4 a0 x1 (sx0 + sx1) (x3 + 1) X h
def gm_X0_countOfKind_4 (fu : Nat) : Nat → Nat → Int32 → Int32 → Int32 → gx_H → Option (Int32 × gx_H)
  | 0, _, _, _, _, _ => none
  | n + 1, a0, x1, x2, x3, X =>
    (gx_gi X a0 0 6).bind fun v1 =>
    if v1 ≤ x3 then (
    some (x2, X)) else (
    (gx_gd X a0 0 1).bind fun a3 =>
    (gx_gai X a3 0 x3).bind fun v4 =>
    if v4 = x1 then (
    gm_X0_countOfKind_28 fu (gm_X0_countOfKind_4 fu  n) a0 x1 x3 x2 (1 : Int32) X) else (
    gm_X0_countOfKind_28 fu (gm_X0_countOfKind_4 fu  n) a0 x1 x3 x2 (0 : Int32) X))
set_option maxHeartbeats 1000000 in
set_option maxRecDepth 20000 in
theorem gt_X0_countOfKind_4 {p : Program} {l : Launch} {e : Env} {s : State} {m : MethodId} {args : Array Value} {below : List Frame} {meth : Method} {c : Code} {D : gx_D} {r : Int32} {X2 : gx_H}  (C : gx_C D gz_cl gz_at gz_tb gz_nb p s m meth c cX0_countOfKind 4 RX0 (some .int)) (fu : Nat) : ∀ (n : Nat) (a0 : Nat) (x1 : Int32) (x2 : Int32) (x3 : Int32) (X : gx_H) , gm_X0_countOfKind_4 fu  n a0 x1 x2 x3 X = some (r, X2) → gx_W D gz_cl 4 p l e (gx_rm 0 0 0 0) s m args below meth c 0 0 (MQ below (gx_Q D gz_cl (some (gx_i r)) X2) args s 0 0 (gx_Z D)) X 4 [some (gx_r (some a0)), some (gx_i x1), some (gx_i x2), some (gx_i x3)] [] := by
  intro n
  induction n with
  | zero =>
    intro a0 x1 x2 x3 X h
    have h : none = some _ := h
    cases h
  | succ n ih =>
    intro a0 x1 x2 x3 X h
    rw [gm_X0_countOfKind_4] at h
    refine gx_iload_n C dX0_countOfKind_4 rfl rfl ?_
    refine gx_aload_n C dX0_countOfKind_5 rfl rfl ?_
    obtain ⟨v1, ev1, h⟩ := gx_bd h
    refine gx_get C kcX0 6 (by decide) wl_204 (gx_gi_s ev1) dX0_countOfKind_6 ?_
    refine gx_icmp_ge (tgt := 36) C dX0_countOfKind_9 (by decide) (fun q2 => ?_) (fun q2 => ?_)
    · rw [if_pos q2] at h
      refine gx_iload_n C dX0_countOfKind_36 rfl rfl ?_
      cases h
      exact gx_iret C dX0_countOfKind_37
    · rw [if_neg q2] at h
      refine gx_iload_n C dX0_countOfKind_12 rfl rfl ?_
      refine gx_aload_n C dX0_countOfKind_13 rfl rfl ?_
      obtain ⟨a3, ea3, h⟩ := gx_bd h
      refine gx_get C kcX0 1 (by decide) wl_182 (gx_gd_s ea3) dX0_countOfKind_14 ?_
      refine gx_iload_n C dX0_countOfKind_17 rfl rfl ?_
      obtain ⟨v4, ev4, h⟩ := gx_bd h
      refine gx_iald C (t := 0) rfl ev4 dX0_countOfKind_18 ?_
      refine gx_iload_n C dX0_countOfKind_19 rfl rfl ?_
      refine gx_icmp_ne (tgt := 27) C dX0_countOfKind_20 (by decide) (fun q5 => ?_) (fun q5 => ?_)
      · rw [if_neg q5] at h
        refine gx_iconst (v := 0) C dX0_countOfKind_27 (by decide) ?_
        refine gx_sub (lv2 := [some (gx_r (some a0)), some (gx_i x1), none, some (gx_i x3)]) [true, true, false, true] rfl ?_
        exact gt_X0_countOfKind_28 C fu (gm_X0_countOfKind_4 fu  n) ih a0 x1 x3 x2 (0 : Int32) X h
      · rw [if_pos q5] at h
        refine gx_iconst (v := 1) C dX0_countOfKind_23 (by decide) ?_
        refine gx_goto (tgt := 28) C dX0_countOfKind_24 (by decide) ?_
        refine gx_sub (lv2 := [some (gx_r (some a0)), some (gx_i x1), none, some (gx_i x3)]) [true, true, false, true] rfl ?_
        exact gt_X0_countOfKind_28 C fu (gm_X0_countOfKind_4 fu  n) ih a0 x1 x3 x2 (1 : Int32) X h
def gm_X0_countOfKind (fu : Nat) (this : Nat) (p_0 : Int32) (X : gx_H) : Option (Int32 × gx_H) :=
  gm_X0_countOfKind_4 fu  fu this p_0 (0 : Int32) (0 : Int32) X
set_option maxHeartbeats 1000000 in
set_option maxRecDepth 20000 in
theorem gc_X0_countOfKind {l : Launch} {D : gx_D} (fu : Nat) (this : Nat) (p_0 : Int32) (X : gx_H) (r : Int32) (X2 : gx_H) (h : gm_X0_countOfKind fu this p_0 X = some (r, X2)) : gx_M D gz_cl gz_at gz_tb gz_nb l yX0_countOfKind cX0_countOfKind 4 (some .int) 0 0 [gx_r (some this), gx_i p_0] X (some (gx_i r)) X2 0 0 := by
  unfold gm_X0_countOfKind at h
  refine gx_enter [some (gx_r (some this)), some (gx_i p_0), none, none] rfl (by decide) (Nat.le_of_ble_eq_true rfl) ?_
  intro p e s m below meth c C _
  refine gx_iconst (v := 0) C dX0_countOfKind_0 (by decide) ?_
  refine gx_istore_n (lv2 := [some (gx_r (some this)), some (gx_i p_0), some (gx_i (0 : Int32)), none]) C dX0_countOfKind_1 rfl (by decide) rfl ?_
  refine gx_iconst (v := 0) C dX0_countOfKind_2 (by decide) ?_
  refine gx_istore_n (lv2 := [some (gx_r (some this)), some (gx_i p_0), some (gx_i (0 : Int32)), some (gx_i (0 : Int32))]) C dX0_countOfKind_3 rfl (by decide) rfl ?_
  exact gt_X0_countOfKind_4 C fu  fu this p_0 (0 : Int32) (0 : Int32) X h
theorem dX0_countReached_0 : decode cX0_countReached 0 = .ok (.iconst 0, 1) := by decide +kernel
theorem dX0_countReached_1 : decode cX0_countReached 1 = .ok (.istore_n 1, 1) := by decide +kernel
theorem dX0_countReached_2 : decode cX0_countReached 2 = .ok (.iconst 0, 1) := by decide +kernel
theorem dX0_countReached_3 : decode cX0_countReached 3 = .ok (.istore_n 2, 1) := by decide +kernel
theorem dX0_countReached_4 : decode cX0_countReached 4 = .ok (.iload_n 2, 1) := by decide +kernel
theorem dX0_countReached_5 : decode cX0_countReached 5 = .ok (.aload_n 0, 1) := by decide +kernel
theorem dX0_countReached_6 : decode cX0_countReached 6 = .ok (.getfield 42, 3) := by decide +kernel
theorem dX0_countReached_9 : decode cX0_countReached 9 = .ok (.if_icmp .ge 28, 3) := by decide +kernel
theorem dX0_countReached_12 : decode cX0_countReached 12 = .ok (.iload_n 1, 1) := by decide +kernel
theorem dX0_countReached_13 : decode cX0_countReached 13 = .ok (.aload_n 0, 1) := by decide +kernel
theorem dX0_countReached_14 : decode cX0_countReached 14 = .ok (.getfield 27, 3) := by decide +kernel
theorem dX0_countReached_17 : decode cX0_countReached 17 = .ok (.iload_n 2, 1) := by decide +kernel
theorem dX0_countReached_18 : decode cX0_countReached 18 = .ok (.laload, 1) := by decide +kernel
theorem dX0_countReached_19 : decode cX0_countReached 19 = .ok (.lconst 0, 1) := by decide +kernel
theorem dX0_countReached_20 : decode cX0_countReached 20 = .ok (.lcmp, 1) := by decide +kernel
theorem dX0_countReached_21 : decode cX0_countReached 21 = .ok (.ifCond .eq 7, 3) := by decide +kernel
theorem dX0_countReached_24 : decode cX0_countReached 24 = .ok (.iconst 1, 1) := by decide +kernel
theorem dX0_countReached_25 : decode cX0_countReached 25 = .ok (.goto 4, 3) := by decide +kernel
theorem dX0_countReached_28 : decode cX0_countReached 28 = .ok (.iconst 0, 1) := by decide +kernel
theorem dX0_countReached_29 : decode cX0_countReached 29 = .ok (.iadd, 1) := by decide +kernel
theorem dX0_countReached_30 : decode cX0_countReached 30 = .ok (.istore_n 1, 1) := by decide +kernel
theorem dX0_countReached_31 : decode cX0_countReached 31 = .ok (.iinc 2 1, 3) := by decide +kernel
theorem dX0_countReached_34 : decode cX0_countReached 34 = .ok (.goto (-30), 3) := by decide +kernel
theorem dX0_countReached_37 : decode cX0_countReached 37 = .ok (.iload_n 1, 1) := by decide +kernel
theorem dX0_countReached_38 : decode cX0_countReached 38 = .ok (.ireturn, 1) := by decide +kernel
def gm_X0_countReached_29 (fu : Nat) (K4 : Nat → Int32 → Int32 → gx_H → Option (Int32 × gx_H)) (a0 : Nat) (x2 : Int32) (sx0 : Int32) (sx1 : Int32) (X : gx_H) : Option (Int32 × gx_H) :=
  K4 a0 (sx0 + sx1) (x2 + 1) X
set_option maxHeartbeats 1000000 in
set_option maxRecDepth 20000 in
theorem gt_X0_countReached_29 {p : Program} {l : Launch} {e : Env} {s : State} {m : MethodId} {args : Array Value} {below : List Frame} {meth : Method} {c : Code} {D : gx_D} {r : Int32} {X2 : gx_H}  (C : gx_C D gz_cl gz_at gz_tb gz_nb p s m meth c cX0_countReached 3 RX0 (some .int)) (fu : Nat) (K4 : Nat → Int32 → Int32 → gx_H → Option (Int32 × gx_H)) (hK4 : ∀ (a0 : Nat) (x1 : Int32) (x2 : Int32) (X : gx_H), K4 a0 x1 x2 X = some (r, X2) → gx_W D gz_cl 3 p l e (gx_rm 0 0 0 0) s m args below meth c 0 0 (MQ below (gx_Q D gz_cl (some (gx_i r)) X2) args s 0 0 (gx_Z D)) X 4 [some (gx_r (some a0)), some (gx_i x1), some (gx_i x2)] []) (a0 : Nat) (x2 : Int32) (sx0 : Int32) (sx1 : Int32) (X : gx_H) (h : gm_X0_countReached_29 fu K4 a0 x2 sx0 sx1 X = some (r, X2)) : gx_W D gz_cl 3 p l e (gx_rm 0 0 0 0) s m args below meth c 0 0 (MQ below (gx_Q D gz_cl (some (gx_i r)) X2) args s 0 0 (gx_Z D)) X 29 [some (gx_r (some a0)), none, some (gx_i x2)] [gx_i sx1, gx_i sx0] := by
  unfold gm_X0_countReached_29 at h
  refine gx_iadd C dX0_countReached_29 ?_
  refine gx_istore_n (lv2 := [some (gx_r (some a0)), some (gx_i (sx0 + sx1)), some (gx_i x2)]) C dX0_countReached_30 rfl (by decide) rfl ?_
  refine gx_iinc (v := (x2 + 1)) (lv2 := [some (gx_r (some a0)), some (gx_i (sx0 + sx1)), some (gx_i (x2 + 1))]) C dX0_countReached_31 rfl rfl (by decide) rfl ?_
  refine gx_goto (tgt := 4) C dX0_countReached_34 (by decide) ?_
  exact hK4 a0 (sx0 + sx1) (x2 + 1) X h
def gm_X0_countReached_4 (fu : Nat) : Nat → Nat → Int32 → Int32 → gx_H → Option (Int32 × gx_H)
  | 0, _, _, _, _ => none
  | n + 1, a0, x1, x2, X =>
    (gx_gi X a0 0 6).bind fun v1 =>
    if v1 ≤ x2 then (
    some (x1, X)) else (
    (gx_gd X a0 0 8).bind fun a3 =>
    (gx_gal X a3 1 x2).bind fun v4 =>
    if (lg_cmp v4 (0 : Int64)) = 0 then (
    gm_X0_countReached_29 fu (gm_X0_countReached_4 fu  n) a0 x2 x1 (0 : Int32) X) else (
    gm_X0_countReached_29 fu (gm_X0_countReached_4 fu  n) a0 x2 x1 (1 : Int32) X))
set_option maxHeartbeats 1000000 in
set_option maxRecDepth 20000 in
theorem gt_X0_countReached_4 {p : Program} {l : Launch} {e : Env} {s : State} {m : MethodId} {args : Array Value} {below : List Frame} {meth : Method} {c : Code} {D : gx_D} {r : Int32} {X2 : gx_H}  (C : gx_C D gz_cl gz_at gz_tb gz_nb p s m meth c cX0_countReached 3 RX0 (some .int)) (fu : Nat) : ∀ (n : Nat) (a0 : Nat) (x1 : Int32) (x2 : Int32) (X : gx_H) , gm_X0_countReached_4 fu  n a0 x1 x2 X = some (r, X2) → gx_W D gz_cl 3 p l e (gx_rm 0 0 0 0) s m args below meth c 0 0 (MQ below (gx_Q D gz_cl (some (gx_i r)) X2) args s 0 0 (gx_Z D)) X 4 [some (gx_r (some a0)), some (gx_i x1), some (gx_i x2)] [] := by
  intro n
  induction n with
  | zero =>
    intro a0 x1 x2 X h
    have h : none = some _ := h
    cases h
  | succ n ih =>
    intro a0 x1 x2 X h
    rw [gm_X0_countReached_4] at h
    refine gx_iload_n C dX0_countReached_4 rfl rfl ?_
    refine gx_aload_n C dX0_countReached_5 rfl rfl ?_
    obtain ⟨v1, ev1, h⟩ := gx_bd h
    refine gx_get C kcX0 6 (by decide) wl_204 (gx_gi_s ev1) dX0_countReached_6 ?_
    refine gx_icmp_ge (tgt := 37) C dX0_countReached_9 (by decide) (fun q2 => ?_) (fun q2 => ?_)
    · rw [if_pos q2] at h
      refine gx_iload_n C dX0_countReached_37 rfl rfl ?_
      cases h
      exact gx_iret C dX0_countReached_38
    · rw [if_neg q2] at h
      refine gx_iload_n C dX0_countReached_12 rfl rfl ?_
      refine gx_aload_n C dX0_countReached_13 rfl rfl ?_
      obtain ⟨a3, ea3, h⟩ := gx_bd h
      refine gx_get C kcX0 8 (by decide) wl_213 (gx_gd_s ea3) dX0_countReached_14 ?_
      refine gx_iload_n C dX0_countReached_17 rfl rfl ?_
      obtain ⟨v4, ev4, h⟩ := gx_bd h
      refine gx_lald C (t := 1) rfl ev4 dX0_countReached_18 ?_
      refine gx_lconst (v := 0) C dX0_countReached_19 (by decide) ?_
      refine gx_lcmp C dX0_countReached_20 ?_
      refine gx_if_eq (tgt := 28) C dX0_countReached_21 (by decide) (fun q5 => ?_) (fun q5 => ?_)
      · rw [if_pos q5] at h
        refine gx_iconst (v := 0) C dX0_countReached_28 (by decide) ?_
        refine gx_sub (lv2 := [some (gx_r (some a0)), none, some (gx_i x2)]) [true, false, true] rfl ?_
        exact gt_X0_countReached_29 C fu (gm_X0_countReached_4 fu  n) ih a0 x2 x1 (0 : Int32) X h
      · rw [if_neg q5] at h
        refine gx_iconst (v := 1) C dX0_countReached_24 (by decide) ?_
        refine gx_goto (tgt := 29) C dX0_countReached_25 (by decide) ?_
        refine gx_sub (lv2 := [some (gx_r (some a0)), none, some (gx_i x2)]) [true, false, true] rfl ?_
        exact gt_X0_countReached_29 C fu (gm_X0_countReached_4 fu  n) ih a0 x2 x1 (1 : Int32) X h
def gm_X0_countReached (fu : Nat) (this : Nat) (X : gx_H) : Option (Int32 × gx_H) :=
  gm_X0_countReached_4 fu  fu this (0 : Int32) (0 : Int32) X
set_option maxHeartbeats 1000000 in
set_option maxRecDepth 20000 in
theorem gc_X0_countReached {l : Launch} {D : gx_D} (fu : Nat) (this : Nat) (X : gx_H) (r : Int32) (X2 : gx_H) (h : gm_X0_countReached fu this X = some (r, X2)) : gx_M D gz_cl gz_at gz_tb gz_nb l yX0_countReached cX0_countReached 3 (some .int) 0 0 [gx_r (some this)] X (some (gx_i r)) X2 0 0 := by
  unfold gm_X0_countReached at h
  refine gx_enter [some (gx_r (some this)), none, none] rfl (by decide) (Nat.le_of_ble_eq_true rfl) ?_
  intro p e s m below meth c C _
  refine gx_iconst (v := 0) C dX0_countReached_0 (by decide) ?_
  refine gx_istore_n (lv2 := [some (gx_r (some this)), some (gx_i (0 : Int32)), none]) C dX0_countReached_1 rfl (by decide) rfl ?_
  refine gx_iconst (v := 0) C dX0_countReached_2 (by decide) ?_
  refine gx_istore_n (lv2 := [some (gx_r (some this)), some (gx_i (0 : Int32)), some (gx_i (0 : Int32))]) C dX0_countReached_3 rfl (by decide) rfl ?_
  exact gt_X0_countReached_4 C fu  fu this (0 : Int32) (0 : Int32) X h
theorem dX0_goesToNumber_0 : decode cX0_goesToNumber 0 = .ok (.aload_n 0, 1) := by decide +kernel
theorem dX0_goesToNumber_1 : decode cX0_goesToNumber 1 = .ok (.getfield 9, 3) := by decide +kernel
theorem dX0_goesToNumber_4 : decode cX0_goesToNumber 4 = .ok (.iload_n 1, 1) := by decide +kernel
theorem dX0_goesToNumber_5 : decode cX0_goesToNumber 5 = .ok (.iaload, 1) := by decide +kernel
theorem dX0_goesToNumber_6 : decode cX0_goesToNumber 6 = .ok (.iconst 1, 1) := by decide +kernel
theorem dX0_goesToNumber_7 : decode cX0_goesToNumber 7 = .ok (.if_icmp .eq 13, 3) := by decide +kernel
theorem dX0_goesToNumber_10 : decode cX0_goesToNumber 10 = .ok (.aload_n 0, 1) := by decide +kernel
theorem dX0_goesToNumber_11 : decode cX0_goesToNumber 11 = .ok (.getfield 9, 3) := by decide +kernel
theorem dX0_goesToNumber_14 : decode cX0_goesToNumber 14 = .ok (.iload_n 1, 1) := by decide +kernel
theorem dX0_goesToNumber_15 : decode cX0_goesToNumber 15 = .ok (.iaload, 1) := by decide +kernel
theorem dX0_goesToNumber_16 : decode cX0_goesToNumber 16 = .ok (.iconst 2, 1) := by decide +kernel
theorem dX0_goesToNumber_17 : decode cX0_goesToNumber 17 = .ok (.if_icmp .ne 7, 3) := by decide +kernel
theorem dX0_goesToNumber_20 : decode cX0_goesToNumber 20 = .ok (.iconst 1, 1) := by decide +kernel
theorem dX0_goesToNumber_21 : decode cX0_goesToNumber 21 = .ok (.goto 4, 3) := by decide +kernel
theorem dX0_goesToNumber_24 : decode cX0_goesToNumber 24 = .ok (.iconst 0, 1) := by decide +kernel
theorem dX0_goesToNumber_25 : decode cX0_goesToNumber 25 = .ok (.ireturn, 1) := by decide +kernel
def gm_X0_goesToNumber_20 (fu : Nat)  (X : gx_H) : Option (Int32 × gx_H) :=
  some ((1 : Int32), X)
set_option maxHeartbeats 1000000 in
set_option maxRecDepth 20000 in
theorem gt_X0_goesToNumber_20 {p : Program} {l : Launch} {e : Env} {s : State} {m : MethodId} {args : Array Value} {below : List Frame} {meth : Method} {c : Code} {D : gx_D} {r : Int32} {X2 : gx_H}  (C : gx_C D gz_cl gz_at gz_tb gz_nb p s m meth c cX0_goesToNumber 2 RX0 (some .boolean)) (fu : Nat)  (X : gx_H) (h : gm_X0_goesToNumber_20 fu   X = some (r, X2)) : gx_W D gz_cl 2 p l e (gx_rm 0 0 0 0) s m args below meth c 0 0 (MQ below (gx_Q D gz_cl (some (gx_i r)) X2) args s 0 0 (gx_Z D)) X 20 [none, none] [] := by
  unfold gm_X0_goesToNumber_20 at h
  refine gx_iconst (v := 1) C dX0_goesToNumber_20 (by decide) ?_
  refine gx_goto (tgt := 25) C dX0_goesToNumber_21 (by decide) ?_
  cases h
  exact gx_zret (Or.inr rfl) C dX0_goesToNumber_25
def gm_X0_goesToNumber (fu : Nat) (this : Nat) (p_0 : Int32) (X : gx_H) : Option (Int32 × gx_H) :=
  (gx_gd X this 0 1).bind fun a1 =>
  (gx_gai X a1 0 p_0).bind fun v2 =>
  if v2 = (1 : Int32) then (
  gm_X0_goesToNumber_20 fu   X) else (
  (gx_gd X this 0 1).bind fun a4 =>
  (gx_gai X a4 0 p_0).bind fun v5 =>
  if v5 = (2 : Int32) then (
  gm_X0_goesToNumber_20 fu   X) else (
  some ((0 : Int32), X)))
set_option maxHeartbeats 1000000 in
set_option maxRecDepth 20000 in
theorem gc_X0_goesToNumber {l : Launch} {D : gx_D} (fu : Nat) (this : Nat) (p_0 : Int32) (X : gx_H) (r : Int32) (X2 : gx_H) (h : gm_X0_goesToNumber fu this p_0 X = some (r, X2)) : gx_M D gz_cl gz_at gz_tb gz_nb l yX0_goesToNumber cX0_goesToNumber 2 (some .boolean) 0 0 [gx_r (some this), gx_i p_0] X (some (gx_i r)) X2 0 0 := by
  unfold gm_X0_goesToNumber at h
  refine gx_enter [some (gx_r (some this)), some (gx_i p_0)] rfl (by decide) (Nat.le_of_ble_eq_true rfl) ?_
  intro p e s m below meth c C _
  refine gx_aload_n C dX0_goesToNumber_0 rfl rfl ?_
  obtain ⟨a1, ea1, h⟩ := gx_bd h
  refine gx_get C kcX0 1 (by decide) wl_182 (gx_gd_s ea1) dX0_goesToNumber_1 ?_
  refine gx_iload_n C dX0_goesToNumber_4 rfl rfl ?_
  obtain ⟨v2, ev2, h⟩ := gx_bd h
  refine gx_iald C (t := 0) rfl ev2 dX0_goesToNumber_5 ?_
  refine gx_iconst (v := 1) C dX0_goesToNumber_6 (by decide) ?_
  refine gx_icmp_eq (tgt := 20) C dX0_goesToNumber_7 (by decide) (fun q3 => ?_) (fun q3 => ?_)
  · rw [if_pos q3] at h
    refine gx_sub (lv2 := [none, none]) [false, false] rfl ?_
    exact gt_X0_goesToNumber_20 C fu   X h
  · rw [if_neg q3] at h
    refine gx_aload_n C dX0_goesToNumber_10 rfl rfl ?_
    obtain ⟨a4, ea4, h⟩ := gx_bd h
    refine gx_get C kcX0 1 (by decide) wl_182 (gx_gd_s ea4) dX0_goesToNumber_11 ?_
    refine gx_iload_n C dX0_goesToNumber_14 rfl rfl ?_
    obtain ⟨v5, ev5, h⟩ := gx_bd h
    refine gx_iald C (t := 0) rfl ev5 dX0_goesToNumber_15 ?_
    refine gx_iconst (v := 2) C dX0_goesToNumber_16 (by decide) ?_
    refine gx_icmp_ne (tgt := 24) C dX0_goesToNumber_17 (by decide) (fun q6 => ?_) (fun q6 => ?_)
    · rw [if_neg q6] at h
      refine gx_iconst (v := 0) C dX0_goesToNumber_24 (by decide) ?_
      cases h
      exact gx_zret (Or.inl rfl) C dX0_goesToNumber_25
    · rw [if_pos q6] at h
      refine gx_sub (lv2 := [none, none]) [false, false] rfl ?_
      exact gt_X0_goesToNumber_20 C fu   X h
theorem dX0_forgetSets_0 : decode cX0_forgetSets 0 = .ok (.aload_n 0, 1) := by decide +kernel
theorem dX0_forgetSets_1 : decode cX0_forgetSets 1 = .ok (.lconst 0, 1) := by decide +kernel
theorem dX0_forgetSets_2 : decode cX0_forgetSets 2 = .ok (.putfield 56, 3) := by decide +kernel
theorem dX0_forgetSets_5 : decode cX0_forgetSets 5 = .ok (.aload_n 0, 1) := by decide +kernel
theorem dX0_forgetSets_6 : decode cX0_forgetSets 6 = .ok (.lconst 0, 1) := by decide +kernel
theorem dX0_forgetSets_7 : decode cX0_forgetSets 7 = .ok (.putfield 60, 3) := by decide +kernel
theorem dX0_forgetSets_10 : decode cX0_forgetSets 10 = .ok (.aload_n 0, 1) := by decide +kernel
theorem dX0_forgetSets_11 : decode cX0_forgetSets 11 = .ok (.lconst 0, 1) := by decide +kernel
theorem dX0_forgetSets_12 : decode cX0_forgetSets 12 = .ok (.putfield 63, 3) := by decide +kernel
theorem dX0_forgetSets_15 : decode cX0_forgetSets 15 = .ok (.aload_n 0, 1) := by decide +kernel
theorem dX0_forgetSets_16 : decode cX0_forgetSets 16 = .ok (.iconst 0, 1) := by decide +kernel
theorem dX0_forgetSets_17 : decode cX0_forgetSets 17 = .ok (.putfield 66, 3) := by decide +kernel
theorem dX0_forgetSets_20 : decode cX0_forgetSets 20 = .ok (.iconst 0, 1) := by decide +kernel
theorem dX0_forgetSets_21 : decode cX0_forgetSets 21 = .ok (.istore_n 1, 1) := by decide +kernel
theorem dX0_forgetSets_22 : decode cX0_forgetSets 22 = .ok (.iload_n 1, 1) := by decide +kernel
theorem dX0_forgetSets_23 : decode cX0_forgetSets 23 = .ok (.aload_n 0, 1) := by decide +kernel
theorem dX0_forgetSets_24 : decode cX0_forgetSets 24 = .ok (.getfield 42, 3) := by decide +kernel
theorem dX0_forgetSets_27 : decode cX0_forgetSets 27 = .ok (.if_icmp .ge 30, 3) := by decide +kernel
theorem dX0_forgetSets_30 : decode cX0_forgetSets 30 = .ok (.aload_n 0, 1) := by decide +kernel
theorem dX0_forgetSets_31 : decode cX0_forgetSets 31 = .ok (.getfield 27, 3) := by decide +kernel
theorem dX0_forgetSets_34 : decode cX0_forgetSets 34 = .ok (.iload_n 1, 1) := by decide +kernel
theorem dX0_forgetSets_35 : decode cX0_forgetSets 35 = .ok (.lconst 0, 1) := by decide +kernel
theorem dX0_forgetSets_36 : decode cX0_forgetSets 36 = .ok (.lastore, 1) := by decide +kernel
theorem dX0_forgetSets_37 : decode cX0_forgetSets 37 = .ok (.aload_n 0, 1) := by decide +kernel
theorem dX0_forgetSets_38 : decode cX0_forgetSets 38 = .ok (.getfield 31, 3) := by decide +kernel
theorem dX0_forgetSets_41 : decode cX0_forgetSets 41 = .ok (.iload_n 1, 1) := by decide +kernel
theorem dX0_forgetSets_42 : decode cX0_forgetSets 42 = .ok (.iconst 0, 1) := by decide +kernel
theorem dX0_forgetSets_43 : decode cX0_forgetSets 43 = .ok (.bastore, 1) := by decide +kernel
theorem dX0_forgetSets_44 : decode cX0_forgetSets 44 = .ok (.aload_n 0, 1) := by decide +kernel
theorem dX0_forgetSets_45 : decode cX0_forgetSets 45 = .ok (.getfield 35, 3) := by decide +kernel
theorem dX0_forgetSets_48 : decode cX0_forgetSets 48 = .ok (.iload_n 1, 1) := by decide +kernel
theorem dX0_forgetSets_49 : decode cX0_forgetSets 49 = .ok (.iconst 0, 1) := by decide +kernel
theorem dX0_forgetSets_50 : decode cX0_forgetSets 50 = .ok (.bastore, 1) := by decide +kernel
theorem dX0_forgetSets_51 : decode cX0_forgetSets 51 = .ok (.iinc 1 1, 3) := by decide +kernel
theorem dX0_forgetSets_54 : decode cX0_forgetSets 54 = .ok (.goto (-32), 3) := by decide +kernel
theorem dX0_forgetSets_57 : decode cX0_forgetSets 57 = .ok (.iconst 0, 1) := by decide +kernel
theorem dX0_forgetSets_58 : decode cX0_forgetSets 58 = .ok (.istore_n 1, 1) := by decide +kernel
theorem dX0_forgetSets_59 : decode cX0_forgetSets 59 = .ok (.iload_n 1, 1) := by decide +kernel
theorem dX0_forgetSets_60 : decode cX0_forgetSets 60 = .ok (.aload_n 0, 1) := by decide +kernel
theorem dX0_forgetSets_61 : decode cX0_forgetSets 61 = .ok (.getfield 42, 3) := by decide +kernel
theorem dX0_forgetSets_64 : decode cX0_forgetSets 64 = .ok (.if_icmp .ge 29, 3) := by decide +kernel
theorem dX0_forgetSets_67 : decode cX0_forgetSets 67 = .ok (.aload_n 0, 1) := by decide +kernel
theorem dX0_forgetSets_68 : decode cX0_forgetSets 68 = .ok (.iload_n 1, 1) := by decide +kernel
theorem dX0_forgetSets_69 : decode cX0_forgetSets 69 = .ok (.invokevirtual 70, 3) := by decide +kernel
theorem dX0_forgetSets_72 : decode cX0_forgetSets 72 = .ok (.ifCond .eq 15, 3) := by decide +kernel
theorem dX0_forgetSets_75 : decode cX0_forgetSets 75 = .ok (.aload_n 0, 1) := by decide +kernel
theorem dX0_forgetSets_76 : decode cX0_forgetSets 76 = .ok (.getfield 35, 3) := by decide +kernel
theorem dX0_forgetSets_79 : decode cX0_forgetSets 79 = .ok (.aload_n 0, 1) := by decide +kernel
theorem dX0_forgetSets_80 : decode cX0_forgetSets 80 = .ok (.getfield 15, 3) := by decide +kernel
theorem dX0_forgetSets_83 : decode cX0_forgetSets 83 = .ok (.iload_n 1, 1) := by decide +kernel
theorem dX0_forgetSets_84 : decode cX0_forgetSets 84 = .ok (.iaload, 1) := by decide +kernel
theorem dX0_forgetSets_85 : decode cX0_forgetSets 85 = .ok (.iconst 1, 1) := by decide +kernel
theorem dX0_forgetSets_86 : decode cX0_forgetSets 86 = .ok (.bastore, 1) := by decide +kernel
theorem dX0_forgetSets_87 : decode cX0_forgetSets 87 = .ok (.iinc 1 1, 3) := by decide +kernel
theorem dX0_forgetSets_90 : decode cX0_forgetSets 90 = .ok (.goto (-31), 3) := by decide +kernel
theorem dX0_forgetSets_93 : decode cX0_forgetSets 93 = .ok (.iconst 0, 1) := by decide +kernel
theorem dX0_forgetSets_94 : decode cX0_forgetSets 94 = .ok (.istore_n 1, 1) := by decide +kernel
theorem dX0_forgetSets_95 : decode cX0_forgetSets 95 = .ok (.iload_n 1, 1) := by decide +kernel
theorem dX0_forgetSets_96 : decode cX0_forgetSets 96 = .ok (.aload_n 0, 1) := by decide +kernel
theorem dX0_forgetSets_97 : decode cX0_forgetSets 97 = .ok (.getfield 45, 3) := by decide +kernel
theorem dX0_forgetSets_100 : decode cX0_forgetSets 100 = .ok (.if_icmp .ge 21, 3) := by decide +kernel
theorem dX0_forgetSets_103 : decode cX0_forgetSets 103 = .ok (.aload_n 0, 1) := by decide +kernel
theorem dX0_forgetSets_104 : decode cX0_forgetSets 104 = .ok (.getfield 35, 3) := by decide +kernel
theorem dX0_forgetSets_107 : decode cX0_forgetSets 107 = .ok (.aload_n 0, 1) := by decide +kernel
theorem dX0_forgetSets_108 : decode cX0_forgetSets 108 = .ok (.getfield 24, 3) := by decide +kernel
theorem dX0_forgetSets_111 : decode cX0_forgetSets 111 = .ok (.iload_n 1, 1) := by decide +kernel
theorem dX0_forgetSets_112 : decode cX0_forgetSets 112 = .ok (.iaload, 1) := by decide +kernel
theorem dX0_forgetSets_113 : decode cX0_forgetSets 113 = .ok (.iconst 1, 1) := by decide +kernel
theorem dX0_forgetSets_114 : decode cX0_forgetSets 114 = .ok (.bastore, 1) := by decide +kernel
theorem dX0_forgetSets_115 : decode cX0_forgetSets 115 = .ok (.iinc 1 1, 3) := by decide +kernel
theorem dX0_forgetSets_118 : decode cX0_forgetSets 118 = .ok (.goto (-23), 3) := by decide +kernel
theorem dX0_forgetSets_121 : decode cX0_forgetSets 121 = .ok (.return_, 1) := by decide +kernel
def gm_X0_forgetSets_87 (fu : Nat) (K59 : Nat → Int32 → gx_H → Option gx_H) (a0 : Nat) (x1 : Int32) (X : gx_H) : Option gx_H :=
  K59 a0 (x1 + 1) X
set_option maxHeartbeats 1000000 in
set_option maxRecDepth 20000 in
theorem gt_X0_forgetSets_87 {p : Program} {l : Launch} {e : Env} {s : State} {m : MethodId} {args : Array Value} {below : List Frame} {meth : Method} {c : Code} {D : gx_D} {X2 : gx_H}  (C : gx_C D gz_cl gz_at gz_tb gz_nb p s m meth c cX0_forgetSets 2 RX0 none) (fu : Nat) (K59 : Nat → Int32 → gx_H → Option gx_H) (hK59 : ∀ (a0 : Nat) (x1 : Int32) (X : gx_H), K59 a0 x1 X = some X2 → gx_W D gz_cl 2 p l e (gx_rm 1 21 0 0) s m args below meth c 0 0 (MQ below (gx_Q D gz_cl none X2) args s 0 0 (gx_Z D)) X 59 [some (gx_r (some a0)), some (gx_i x1)] []) (a0 : Nat) (x1 : Int32) (X : gx_H) (h : gm_X0_forgetSets_87 fu K59 a0 x1 X = some X2) : gx_W D gz_cl 2 p l e (gx_rm 1 21 0 0) s m args below meth c 0 0 (MQ below (gx_Q D gz_cl none X2) args s 0 0 (gx_Z D)) X 87 [some (gx_r (some a0)), some (gx_i x1)] [] := by
  unfold gm_X0_forgetSets_87 at h
  refine gx_iinc (v := (x1 + 1)) (lv2 := [some (gx_r (some a0)), some (gx_i (x1 + 1))]) C dX0_forgetSets_87 rfl rfl (by decide) rfl ?_
  refine gx_goto (tgt := 59) C dX0_forgetSets_90 (by decide) ?_
  exact hK59 a0 (x1 + 1) X h
def gm_X0_forgetSets_95 (fu : Nat) : Nat → Nat → Int32 → gx_H → Option gx_H
  | 0, _, _, _ => none
  | n + 1, a0, x1, X =>
    (gx_gi X a0 0 7).bind fun v1 =>
    if v1 ≤ x1 then (
    some X) else (
    (gx_gd X a0 0 10).bind fun a3 =>
    (gx_gd X a0 0 5).bind fun a4 =>
    (gx_gai X a4 0 x1).bind fun v5 =>
    (gx_pai X a3 2 v5 (vp_nar .boolean (1 : Int32))).bind fun X6 =>
    (gm_X0_forgetSets_95 fu  n) a0 (x1 + 1) X6)
set_option maxHeartbeats 1000000 in
set_option maxRecDepth 20000 in
theorem gt_X0_forgetSets_95 {p : Program} {l : Launch} {e : Env} {s : State} {m : MethodId} {args : Array Value} {below : List Frame} {meth : Method} {c : Code} {D : gx_D} {X2 : gx_H}  (C : gx_C D gz_cl gz_at gz_tb gz_nb p s m meth c cX0_forgetSets 2 RX0 none) (fu : Nat) : ∀ (n : Nat) (a0 : Nat) (x1 : Int32) (X : gx_H) , gm_X0_forgetSets_95 fu  n a0 x1 X = some X2 → gx_W D gz_cl 2 p l e (gx_rm 1 21 0 0) s m args below meth c 0 0 (MQ below (gx_Q D gz_cl none X2) args s 0 0 (gx_Z D)) X 95 [some (gx_r (some a0)), some (gx_i x1)] [] := by
  intro n
  induction n with
  | zero =>
    intro a0 x1 X h
    have h : none = some _ := h
    cases h
  | succ n ih =>
    intro a0 x1 X h
    rw [gm_X0_forgetSets_95] at h
    refine gx_iload_n C dX0_forgetSets_95 rfl rfl ?_
    refine gx_aload_n C dX0_forgetSets_96 rfl rfl ?_
    obtain ⟨v1, ev1, h⟩ := gx_bd h
    refine gx_get C kcX0 7 (by decide) wl_209 (gx_gi_s ev1) dX0_forgetSets_97 ?_
    refine gx_icmp_ge (tgt := 121) C dX0_forgetSets_100 (by decide) (fun q2 => ?_) (fun q2 => ?_)
    · rw [if_pos q2] at h
      cases h
      exact gx_vret C dX0_forgetSets_121
    · rw [if_neg q2] at h
      refine gx_aload_n C dX0_forgetSets_103 rfl rfl ?_
      obtain ⟨a3, ea3, h⟩ := gx_bd h
      refine gx_get C kcX0 10 (by decide) wl_219 (gx_gd_s ea3) dX0_forgetSets_104 ?_
      refine gx_aload_n C dX0_forgetSets_107 rfl rfl ?_
      obtain ⟨a4, ea4, h⟩ := gx_bd h
      refine gx_get C kcX0 5 (by decide) wl_200 (gx_gd_s ea4) dX0_forgetSets_108 ?_
      refine gx_iload_n C dX0_forgetSets_111 rfl rfl ?_
      obtain ⟨v5, ev5, h⟩ := gx_bd h
      refine gx_iald C (t := 0) rfl ev5 dX0_forgetSets_112 ?_
      refine gx_iconst (v := 1) C dX0_forgetSets_113 (by decide) ?_
      obtain ⟨X6, eX6, h⟩ := gx_bd h
      refine gx_zast C (t := 2) rfl eX6 dX0_forgetSets_114 ?_
      refine gx_iinc (v := (x1 + 1)) (lv2 := [some (gx_r (some a0)), some (gx_i (x1 + 1))]) C dX0_forgetSets_115 rfl rfl (by decide) rfl ?_
      refine gx_goto (tgt := 95) C dX0_forgetSets_118 (by decide) ?_
      exact ih a0 (x1 + 1) X6 h
def gm_X0_forgetSets_59 (fu : Nat) : Nat → Nat → Int32 → gx_H → Option gx_H
  | 0, _, _, _ => none
  | n + 1, a0, x1, X =>
    (gx_gi X a0 0 6).bind fun v7 =>
    if v7 ≤ x1 then (
    gm_X0_forgetSets_95 fu  fu a0 (0 : Int32) X) else (
    gx_ob X a0 0 <|
    gx_b2 (gm_X0_goesToNumber fu a0 x1 X) fun v11 X10 =>
    if v11 = 0 then (
    gm_X0_forgetSets_87 fu (gm_X0_forgetSets_59 fu  n) a0 x1 X10) else (
    (gx_gd X10 a0 0 10).bind fun a13 =>
    (gx_gd X10 a0 0 2).bind fun a14 =>
    (gx_gai X10 a14 0 x1).bind fun v15 =>
    (gx_pai X10 a13 2 v15 (vp_nar .boolean (1 : Int32))).bind fun X16 =>
    gm_X0_forgetSets_87 fu (gm_X0_forgetSets_59 fu  n) a0 x1 X16))
set_option maxHeartbeats 1000000 in
set_option maxRecDepth 20000 in
theorem gt_X0_forgetSets_59 {p : Program} {l : Launch} {e : Env} {s : State} {m : MethodId} {args : Array Value} {below : List Frame} {meth : Method} {c : Code} {D : gx_D} {X2 : gx_H}  (C : gx_C D gz_cl gz_at gz_tb gz_nb p s m meth c cX0_forgetSets 2 RX0 none) (fu : Nat) : ∀ (n : Nat) (a0 : Nat) (x1 : Int32) (X : gx_H) , gm_X0_forgetSets_59 fu  n a0 x1 X = some X2 → gx_W D gz_cl 2 p l e (gx_rm 1 21 0 0) s m args below meth c 0 0 (MQ below (gx_Q D gz_cl none X2) args s 0 0 (gx_Z D)) X 59 [some (gx_r (some a0)), some (gx_i x1)] [] := by
  intro n
  induction n with
  | zero =>
    intro a0 x1 X h
    have h : none = some _ := h
    cases h
  | succ n ih =>
    intro a0 x1 X h
    rw [gm_X0_forgetSets_59] at h
    refine gx_iload_n C dX0_forgetSets_59 rfl rfl ?_
    refine gx_aload_n C dX0_forgetSets_60 rfl rfl ?_
    obtain ⟨v7, ev7, h⟩ := gx_bd h
    refine gx_get C kcX0 6 (by decide) wl_204 (gx_gi_s ev7) dX0_forgetSets_61 ?_
    refine gx_icmp_ge (tgt := 93) C dX0_forgetSets_64 (by decide) (fun q8 => ?_) (fun q8 => ?_)
    · rw [if_pos q8] at h
      refine gx_iconst (v := 0) C dX0_forgetSets_93 (by decide) ?_
      refine gx_istore_n (lv2 := [some (gx_r (some a0)), some (gx_i (0 : Int32))]) C dX0_forgetSets_94 rfl (by decide) rfl ?_
      exact gt_X0_forgetSets_95 C fu  fu a0 (0 : Int32) X h
    · rw [if_neg q8] at h
      refine gx_aload_n C dX0_forgetSets_67 rfl rfl ?_
      refine gx_iload_n C dX0_forgetSets_68 rfl rfl ?_
      obtain ⟨ho9, h⟩ := gx_obs h
      obtain ⟨v11, X10, eX10, h⟩ := gx_bd2 h
      refine gx_callV (As := [gx_i x1]) (st := []) (stk2 := [gx_i v11]) C cd_X0_goesToNumber wl_318 ws_X0_goesToNumber wl_317 rfl ho9 (gc_X0_goesToNumber fu a0 x1 X v11 X10 eX10) rfl ⟨Nat.le_of_ble_eq_true rfl, Nat.le_of_ble_eq_true rfl⟩ ⟨Nat.le_of_ble_eq_true rfl, Nat.le_of_ble_eq_true rfl⟩ (Nat.le_of_ble_eq_true rfl) rfl rfl dX0_forgetSets_69 ?_
      refine gx_if_eq (tgt := 87) C dX0_forgetSets_72 (by decide) (fun q12 => ?_) (fun q12 => ?_)
      · rw [if_pos q12] at h
        exact gt_X0_forgetSets_87 C fu (gm_X0_forgetSets_59 fu  n) ih a0 x1 X10 h
      · rw [if_neg q12] at h
        refine gx_aload_n C dX0_forgetSets_75 rfl rfl ?_
        obtain ⟨a13, ea13, h⟩ := gx_bd h
        refine gx_get C kcX0 10 (by decide) wl_219 (gx_gd_s ea13) dX0_forgetSets_76 ?_
        refine gx_aload_n C dX0_forgetSets_79 rfl rfl ?_
        obtain ⟨a14, ea14, h⟩ := gx_bd h
        refine gx_get C kcX0 2 (by decide) wl_187 (gx_gd_s ea14) dX0_forgetSets_80 ?_
        refine gx_iload_n C dX0_forgetSets_83 rfl rfl ?_
        obtain ⟨v15, ev15, h⟩ := gx_bd h
        refine gx_iald C (t := 0) rfl ev15 dX0_forgetSets_84 ?_
        refine gx_iconst (v := 1) C dX0_forgetSets_85 (by decide) ?_
        obtain ⟨X16, eX16, h⟩ := gx_bd h
        refine gx_zast C (t := 2) rfl eX16 dX0_forgetSets_86 ?_
        exact gt_X0_forgetSets_87 C fu (gm_X0_forgetSets_59 fu  n) ih a0 x1 X16 h
def gm_X0_forgetSets_22 (fu : Nat) : Nat → Nat → Int32 → gx_H → Option gx_H
  | 0, _, _, _ => none
  | n + 1, a0, x1, X =>
    (gx_gi X a0 0 6).bind fun v17 =>
    if v17 ≤ x1 then (
    gm_X0_forgetSets_59 fu  fu a0 (0 : Int32) X) else (
    (gx_gd X a0 0 8).bind fun a19 =>
    (gx_pal X a19 1 x1 (0 : Int64)).bind fun X20 =>
    (gx_gd X20 a0 0 9).bind fun a21 =>
    (gx_pai X20 a21 2 x1 (vp_nar .boolean (0 : Int32))).bind fun X22 =>
    (gx_gd X22 a0 0 10).bind fun a23 =>
    (gx_pai X22 a23 2 x1 (vp_nar .boolean (0 : Int32))).bind fun X24 =>
    (gm_X0_forgetSets_22 fu  n) a0 (x1 + 1) X24)
set_option maxHeartbeats 1000000 in
set_option maxRecDepth 20000 in
theorem gt_X0_forgetSets_22 {p : Program} {l : Launch} {e : Env} {s : State} {m : MethodId} {args : Array Value} {below : List Frame} {meth : Method} {c : Code} {D : gx_D} {X2 : gx_H}  (C : gx_C D gz_cl gz_at gz_tb gz_nb p s m meth c cX0_forgetSets 2 RX0 none) (fu : Nat) : ∀ (n : Nat) (a0 : Nat) (x1 : Int32) (X : gx_H) , gm_X0_forgetSets_22 fu  n a0 x1 X = some X2 → gx_W D gz_cl 2 p l e (gx_rm 1 21 0 0) s m args below meth c 0 0 (MQ below (gx_Q D gz_cl none X2) args s 0 0 (gx_Z D)) X 22 [some (gx_r (some a0)), some (gx_i x1)] [] := by
  intro n
  induction n with
  | zero =>
    intro a0 x1 X h
    have h : none = some _ := h
    cases h
  | succ n ih =>
    intro a0 x1 X h
    rw [gm_X0_forgetSets_22] at h
    refine gx_iload_n C dX0_forgetSets_22 rfl rfl ?_
    refine gx_aload_n C dX0_forgetSets_23 rfl rfl ?_
    obtain ⟨v17, ev17, h⟩ := gx_bd h
    refine gx_get C kcX0 6 (by decide) wl_204 (gx_gi_s ev17) dX0_forgetSets_24 ?_
    refine gx_icmp_ge (tgt := 57) C dX0_forgetSets_27 (by decide) (fun q18 => ?_) (fun q18 => ?_)
    · rw [if_pos q18] at h
      refine gx_iconst (v := 0) C dX0_forgetSets_57 (by decide) ?_
      refine gx_istore_n (lv2 := [some (gx_r (some a0)), some (gx_i (0 : Int32))]) C dX0_forgetSets_58 rfl (by decide) rfl ?_
      exact gt_X0_forgetSets_59 C fu  fu a0 (0 : Int32) X h
    · rw [if_neg q18] at h
      refine gx_aload_n C dX0_forgetSets_30 rfl rfl ?_
      obtain ⟨a19, ea19, h⟩ := gx_bd h
      refine gx_get C kcX0 8 (by decide) wl_213 (gx_gd_s ea19) dX0_forgetSets_31 ?_
      refine gx_iload_n C dX0_forgetSets_34 rfl rfl ?_
      refine gx_lconst (v := 0) C dX0_forgetSets_35 (by decide) ?_
      obtain ⟨X20, eX20, h⟩ := gx_bd h
      refine gx_last C (t := 1) rfl eX20 dX0_forgetSets_36 ?_
      refine gx_aload_n C dX0_forgetSets_37 rfl rfl ?_
      obtain ⟨a21, ea21, h⟩ := gx_bd h
      refine gx_get C kcX0 9 (by decide) wl_217 (gx_gd_s ea21) dX0_forgetSets_38 ?_
      refine gx_iload_n C dX0_forgetSets_41 rfl rfl ?_
      refine gx_iconst (v := 0) C dX0_forgetSets_42 (by decide) ?_
      obtain ⟨X22, eX22, h⟩ := gx_bd h
      refine gx_zast C (t := 2) rfl eX22 dX0_forgetSets_43 ?_
      refine gx_aload_n C dX0_forgetSets_44 rfl rfl ?_
      obtain ⟨a23, ea23, h⟩ := gx_bd h
      refine gx_get C kcX0 10 (by decide) wl_219 (gx_gd_s ea23) dX0_forgetSets_45 ?_
      refine gx_iload_n C dX0_forgetSets_48 rfl rfl ?_
      refine gx_iconst (v := 0) C dX0_forgetSets_49 (by decide) ?_
      obtain ⟨X24, eX24, h⟩ := gx_bd h
      refine gx_zast C (t := 2) rfl eX24 dX0_forgetSets_50 ?_
      refine gx_iinc (v := (x1 + 1)) (lv2 := [some (gx_r (some a0)), some (gx_i (x1 + 1))]) C dX0_forgetSets_51 rfl rfl (by decide) rfl ?_
      refine gx_goto (tgt := 22) C dX0_forgetSets_54 (by decide) ?_
      exact ih a0 (x1 + 1) X24 h
def gm_X0_forgetSets (fu : Nat) (this : Nat) (X : gx_H) : Option gx_H :=
  (gx_pf X this 0 11 (.long (0 : Int64))).bind fun X25 =>
  (gx_pf X25 this 0 12 (.long (0 : Int64))).bind fun X26 =>
  (gx_pf X26 this 0 13 (.long (0 : Int64))).bind fun X27 =>
  (gx_pf X27 this 0 14 (.int (0 : Int32))).bind fun X28 =>
  gm_X0_forgetSets_22 fu  fu this (0 : Int32) X28
set_option maxHeartbeats 1000000 in
set_option maxRecDepth 20000 in
theorem gc_X0_forgetSets {l : Launch} {D : gx_D} (fu : Nat) (this : Nat) (X : gx_H) (X2 : gx_H) (h : gm_X0_forgetSets fu this X = some X2) : gx_M D gz_cl gz_at gz_tb gz_nb l yX0_forgetSets cX0_forgetSets 2 none 1 21 [gx_r (some this)] X none X2 0 0 := by
  unfold gm_X0_forgetSets at h
  refine gx_enter [some (gx_r (some this)), none] rfl (by decide) (Nat.le_of_ble_eq_true rfl) ?_
  intro p e s m below meth c C _
  refine gx_aload_n C dX0_forgetSets_0 rfl rfl ?_
  refine gx_lconst (v := 0) C dX0_forgetSets_1 (by decide) ?_
  obtain ⟨X25, eX25, h⟩ := gx_bd h
  refine gx_put C kcX0 11 (by decide) rfl wl_221 ⟨rfl, rfl⟩ eX25 dX0_forgetSets_2 ?_
  refine gx_aload_n C dX0_forgetSets_5 rfl rfl ?_
  refine gx_lconst (v := 0) C dX0_forgetSets_6 (by decide) ?_
  obtain ⟨X26, eX26, h⟩ := gx_bd h
  refine gx_put C kcX0 12 (by decide) rfl wl_224 ⟨rfl, rfl⟩ eX26 dX0_forgetSets_7 ?_
  refine gx_aload_n C dX0_forgetSets_10 rfl rfl ?_
  refine gx_lconst (v := 0) C dX0_forgetSets_11 (by decide) ?_
  obtain ⟨X27, eX27, h⟩ := gx_bd h
  refine gx_put C kcX0 13 (by decide) rfl wl_227 ⟨rfl, rfl⟩ eX27 dX0_forgetSets_12 ?_
  refine gx_aload_n C dX0_forgetSets_15 rfl rfl ?_
  refine gx_iconst (v := 0) C dX0_forgetSets_16 (by decide) ?_
  obtain ⟨X28, eX28, h⟩ := gx_bd h
  refine gx_put C kcX0 14 (by decide) rfl wl_230 (gx_nz (Or.inl rfl)) eX28 dX0_forgetSets_17 ?_
  refine gx_iconst (v := 0) C dX0_forgetSets_20 (by decide) ?_
  refine gx_istore_n (lv2 := [some (gx_r (some this)), some (gx_i (0 : Int32))]) C dX0_forgetSets_21 rfl (by decide) rfl ?_
  exact gt_X0_forgetSets_22 C fu  fu this (0 : Int32) X28 h
theorem dX0_init_0 : decode cX0_init 0 = .ok (.aload_n 0, 1) := by decide +kernel
theorem dX0_init_1 : decode cX0_init 1 = .ok (.invokespecial 3, 3) := by decide +kernel
theorem dX0_init_4 : decode cX0_init 4 = .ok (.aload_n 0, 1) := by decide +kernel
theorem dX0_init_5 : decode cX0_init 5 = .ok (.sipush 200, 3) := by decide +kernel
theorem dX0_init_8 : decode cX0_init 8 = .ok (.newarray .int, 2) := by decide +kernel
theorem dX0_init_10 : decode cX0_init 10 = .ok (.putfield 9, 3) := by decide +kernel
theorem dX0_init_13 : decode cX0_init 13 = .ok (.aload_n 0, 1) := by decide +kernel
theorem dX0_init_14 : decode cX0_init 14 = .ok (.sipush 200, 3) := by decide +kernel
theorem dX0_init_17 : decode cX0_init 17 = .ok (.newarray .int, 2) := by decide +kernel
theorem dX0_init_19 : decode cX0_init 19 = .ok (.putfield 15, 3) := by decide +kernel
theorem dX0_init_22 : decode cX0_init 22 = .ok (.aload_n 0, 1) := by decide +kernel
theorem dX0_init_23 : decode cX0_init 23 = .ok (.bipush 6, 2) := by decide +kernel
theorem dX0_init_25 : decode cX0_init 25 = .ok (.newarray .int, 2) := by decide +kernel
theorem dX0_init_27 : decode cX0_init 27 = .ok (.putfield 18, 3) := by decide +kernel
theorem dX0_init_30 : decode cX0_init 30 = .ok (.aload_n 0, 1) := by decide +kernel
theorem dX0_init_31 : decode cX0_init 31 = .ok (.bipush 6, 2) := by decide +kernel
theorem dX0_init_33 : decode cX0_init 33 = .ok (.newarray .int, 2) := by decide +kernel
theorem dX0_init_35 : decode cX0_init 35 = .ok (.putfield 21, 3) := by decide +kernel
theorem dX0_init_38 : decode cX0_init 38 = .ok (.aload_n 0, 1) := by decide +kernel
theorem dX0_init_39 : decode cX0_init 39 = .ok (.bipush 6, 2) := by decide +kernel
theorem dX0_init_41 : decode cX0_init 41 = .ok (.newarray .int, 2) := by decide +kernel
theorem dX0_init_43 : decode cX0_init 43 = .ok (.putfield 24, 3) := by decide +kernel
theorem dX0_init_46 : decode cX0_init 46 = .ok (.aload_n 0, 1) := by decide +kernel
theorem dX0_init_47 : decode cX0_init 47 = .ok (.sipush 200, 3) := by decide +kernel
theorem dX0_init_50 : decode cX0_init 50 = .ok (.newarray .long, 2) := by decide +kernel
theorem dX0_init_52 : decode cX0_init 52 = .ok (.putfield 27, 3) := by decide +kernel
theorem dX0_init_55 : decode cX0_init 55 = .ok (.aload_n 0, 1) := by decide +kernel
theorem dX0_init_56 : decode cX0_init 56 = .ok (.sipush 200, 3) := by decide +kernel
theorem dX0_init_59 : decode cX0_init 59 = .ok (.newarray .boolean, 2) := by decide +kernel
theorem dX0_init_61 : decode cX0_init 61 = .ok (.putfield 31, 3) := by decide +kernel
theorem dX0_init_64 : decode cX0_init 64 = .ok (.aload_n 0, 1) := by decide +kernel
theorem dX0_init_65 : decode cX0_init 65 = .ok (.sipush 200, 3) := by decide +kernel
theorem dX0_init_68 : decode cX0_init 68 = .ok (.newarray .boolean, 2) := by decide +kernel
theorem dX0_init_70 : decode cX0_init 70 = .ok (.putfield 35, 3) := by decide +kernel
theorem dX0_init_73 : decode cX0_init 73 = .ok (.aload_n 0, 1) := by decide +kernel
theorem dX0_init_74 : decode cX0_init 74 = .ok (.iload_n 1, 1) := by decide +kernel
theorem dX0_init_75 : decode cX0_init 75 = .ok (.putfield 38, 3) := by decide +kernel
theorem dX0_init_78 : decode cX0_init 78 = .ok (.return_, 1) := by decide +kernel
def gm_X0_init (fu : Nat) (this : Nat) (p_0 : Int32) (X : gx_H) : Option (Unit × gx_H × Nat × Nat) :=
  gx_ad 1 200 <|
  (gx_pf (gx_nw X (.inl (0, 200, .inl fun _ => 0))) this 0 1 (.ref X.2)).bind fun X2 =>
  gx_ad 1 200 <|
  (gx_pf (gx_nw X2 (.inl (0, 200, .inl fun _ => 0))) this 0 2 (.ref X2.2)).bind fun X4 =>
  gx_ad 1 6 <|
  (gx_pf (gx_nw X4 (.inl (0, 6, .inl fun _ => 0))) this 0 3 (.ref X4.2)).bind fun X6 =>
  gx_ad 1 6 <|
  (gx_pf (gx_nw X6 (.inl (0, 6, .inl fun _ => 0))) this 0 4 (.ref X6.2)).bind fun X8 =>
  gx_ad 1 6 <|
  (gx_pf (gx_nw X8 (.inl (0, 6, .inl fun _ => 0))) this 0 5 (.ref X8.2)).bind fun X10 =>
  gx_ad 1 200 <|
  (gx_pf (gx_nw X10 (.inl (1, 200, .inr (.inl fun _ => 0)))) this 0 8 (.ref X10.2)).bind fun X12 =>
  gx_ad 1 200 <|
  (gx_pf (gx_nw X12 (.inl (2, 200, .inl fun _ => 0))) this 0 9 (.ref X12.2)).bind fun X14 =>
  gx_ad 1 200 <|
  (gx_pf (gx_nw X14 (.inl (2, 200, .inl fun _ => 0))) this 0 10 (.ref X14.2)).bind fun X16 =>
  (gx_pf X16 this 0 0 (.int p_0)).bind fun X17 =>
  some ((), X17, 0, 0)
set_option maxHeartbeats 1000000 in
set_option maxRecDepth 20000 in
theorem gc_X0_init {l : Launch} {D : gx_D} (fu : Nat) (this : Nat) (p_0 : Int32) (X : gx_H) (X2 : gx_H) (tc ts : Nat) (h : gm_X0_init fu this p_0 X = some ((), X2, tc, ts)) : gx_M D gz_cl gz_at gz_tb gz_nb l yX0_init cX0_init 2 none 1 20 [gx_r (some this), gx_i p_0] X none X2 tc ts := by
  unfold gm_X0_init at h
  refine gx_enter [some (gx_r (some this)), some (gx_i p_0)] rfl (by decide) (Nat.le_of_ble_eq_true rfl) ?_
  intro p e s m below meth c C hin
  have h1 : 0 + tc = tc := Nat.zero_add tc
  have h2 : 0 + ts = ts := Nat.zero_add ts
  refine gx_aload_n C dX0_init_0 rfl rfl ?_
  refine gx_objInit C wl_178 wl_15 wl_16 dX0_init_1 (Nat.le_of_ble_eq_true rfl) (Nat.le_of_ble_eq_true rfl) ?_
  refine gx_aload_n C dX0_init_4 rfl rfl ?_
  refine gx_sipush (v := 200) C dX0_init_5 (by decide) ?_
  obtain ⟨c1, s1, h, ec1, es1⟩ := gx_add h
  refine gx_newa (t := 0) (N' := 200) (a0 := (200, .inl fun _ => 0)) C rfl rfl (fun _ _ q => q) wl_60 (fun _ => rfl) (by decide) (by decide) (by decide) (show 0 + 1 ≤ tc by omega) (show 0 + 200 ≤ ts by omega) dX0_init_8 ?_
  obtain ⟨X2, eX2, h⟩ := gx_bd h
  refine gx_putF C kcX0 1 (by decide) rfl hin rfl wl_182 ⟨rfl, rfl⟩ eX2 dX0_init_10 ?_
  refine gx_aload_n C dX0_init_13 rfl rfl ?_
  refine gx_sipush (v := 200) C dX0_init_14 (by decide) ?_
  obtain ⟨c3, s3, h, ec3, es3⟩ := gx_add h
  refine gx_newa (t := 0) (N' := 200) (a0 := (200, .inl fun _ => 0)) C rfl rfl (fun _ _ q => q) wl_60 (fun _ => rfl) (by decide) (by decide) (by decide) (show 0 + 1 + 1 ≤ tc by omega) (show 0 + 200 + 200 ≤ ts by omega) dX0_init_17 ?_
  obtain ⟨X4, eX4, h⟩ := gx_bd h
  refine gx_putF C kcX0 2 (by decide) rfl hin rfl wl_187 ⟨rfl, rfl⟩ eX4 dX0_init_19 ?_
  refine gx_aload_n C dX0_init_22 rfl rfl ?_
  refine gx_bipush (v := 6) C dX0_init_23 (by decide) ?_
  obtain ⟨c5, s5, h, ec5, es5⟩ := gx_add h
  refine gx_newa (t := 0) (N' := 6) (a0 := (6, .inl fun _ => 0)) C rfl rfl (fun _ _ q => q) wl_60 (fun _ => rfl) (by decide) (by decide) (by decide) (show 0 + 1 + 1 + 1 ≤ tc by omega) (show 0 + 200 + 200 + 6 ≤ ts by omega) dX0_init_25 ?_
  obtain ⟨X6, eX6, h⟩ := gx_bd h
  refine gx_putF C kcX0 3 (by decide) rfl hin rfl wl_192 ⟨rfl, rfl⟩ eX6 dX0_init_27 ?_
  refine gx_aload_n C dX0_init_30 rfl rfl ?_
  refine gx_bipush (v := 6) C dX0_init_31 (by decide) ?_
  obtain ⟨c7, s7, h, ec7, es7⟩ := gx_add h
  refine gx_newa (t := 0) (N' := 6) (a0 := (6, .inl fun _ => 0)) C rfl rfl (fun _ _ q => q) wl_60 (fun _ => rfl) (by decide) (by decide) (by decide) (show 0 + 1 + 1 + 1 + 1 ≤ tc by omega) (show 0 + 200 + 200 + 6 + 6 ≤ ts by omega) dX0_init_33 ?_
  obtain ⟨X8, eX8, h⟩ := gx_bd h
  refine gx_putF C kcX0 4 (by decide) rfl hin rfl wl_196 ⟨rfl, rfl⟩ eX8 dX0_init_35 ?_
  refine gx_aload_n C dX0_init_38 rfl rfl ?_
  refine gx_bipush (v := 6) C dX0_init_39 (by decide) ?_
  obtain ⟨c9, s9, h, ec9, es9⟩ := gx_add h
  refine gx_newa (t := 0) (N' := 6) (a0 := (6, .inl fun _ => 0)) C rfl rfl (fun _ _ q => q) wl_60 (fun _ => rfl) (by decide) (by decide) (by decide) (show 0 + 1 + 1 + 1 + 1 + 1 ≤ tc by omega) (show 0 + 200 + 200 + 6 + 6 + 6 ≤ ts by omega) dX0_init_41 ?_
  obtain ⟨X10, eX10, h⟩ := gx_bd h
  refine gx_putF C kcX0 5 (by decide) rfl hin rfl wl_200 ⟨rfl, rfl⟩ eX10 dX0_init_43 ?_
  refine gx_aload_n C dX0_init_46 rfl rfl ?_
  refine gx_sipush (v := 200) C dX0_init_47 (by decide) ?_
  obtain ⟨c11, s11, h, ec11, es11⟩ := gx_add h
  refine gx_newa (t := 1) (N' := 200) (a0 := (200, .inr (.inl fun _ => 0))) C rfl rfl (fun _ _ q => q) wl_40 (fun _ => rfl) (by decide) (by decide) (by decide) (show 0 + 1 + 1 + 1 + 1 + 1 + 1 ≤ tc by omega) (show 0 + 200 + 200 + 6 + 6 + 6 + 200 ≤ ts by omega) dX0_init_50 ?_
  obtain ⟨X12, eX12, h⟩ := gx_bd h
  refine gx_putF C kcX0 8 (by decide) rfl hin rfl wl_213 ⟨rfl, rfl⟩ eX12 dX0_init_52 ?_
  refine gx_aload_n C dX0_init_55 rfl rfl ?_
  refine gx_sipush (v := 200) C dX0_init_56 (by decide) ?_
  obtain ⟨c13, s13, h, ec13, es13⟩ := gx_add h
  refine gx_newa (t := 2) (N' := 200) (a0 := (200, .inl fun _ => 0)) C rfl rfl (fun _ _ q => q) wl_39 (fun _ => rfl) (by decide) (by decide) (by decide) (show 0 + 1 + 1 + 1 + 1 + 1 + 1 + 1 ≤ tc by omega) (show 0 + 200 + 200 + 6 + 6 + 6 + 200 + 200 ≤ ts by omega) dX0_init_59 ?_
  obtain ⟨X14, eX14, h⟩ := gx_bd h
  refine gx_putF C kcX0 9 (by decide) rfl hin rfl wl_217 ⟨rfl, rfl⟩ eX14 dX0_init_61 ?_
  refine gx_aload_n C dX0_init_64 rfl rfl ?_
  refine gx_sipush (v := 200) C dX0_init_65 (by decide) ?_
  obtain ⟨c15, s15, h, ec15, es15⟩ := gx_add h
  refine gx_newa (t := 2) (N' := 200) (a0 := (200, .inl fun _ => 0)) C rfl rfl (fun _ _ q => q) wl_39 (fun _ => rfl) (by decide) (by decide) (by decide) (show 0 + 1 + 1 + 1 + 1 + 1 + 1 + 1 + 1 ≤ tc by omega) (show 0 + 200 + 200 + 6 + 6 + 6 + 200 + 200 + 200 ≤ ts by omega) dX0_init_68 ?_
  obtain ⟨X16, eX16, h⟩ := gx_bd h
  refine gx_putF C kcX0 10 (by decide) rfl hin rfl wl_219 ⟨rfl, rfl⟩ eX16 dX0_init_70 ?_
  refine gx_aload_n C dX0_init_73 rfl rfl ?_
  refine gx_iload_n C dX0_init_74 rfl rfl ?_
  obtain ⟨X17, eX17, h⟩ := gx_bd h
  refine gx_putF C kcX0 0 (by decide) rfl hin rfl wl_179 ⟨rfl, rfl⟩ eX17 dX0_init_75 ?_
  cases h
  have z1 := h1
  have z2 := h2
  refine gx_widen (k := tc) (n := ts) (by omega) (by omega) ?_
  exact gx_vret C dX0_init_78
end
