section
-- ===== PART A: goes FIRST, ahead of the names: the tables' words, and 'selects' of the private methods out of them =====
/-- a private method of a class that the tables say can be made, by its rows of tables_1 -/
def lw_okq (q : MethodName × Nat) : Prop := (q.1.cls ≠ "java/lang/invoke/MethodHandle" ∧ q.1.cls ≠ "java/lang/invoke/VarHandle") ∧ Cond.instantiable q.1.cls q.2 ∈ tables_1 ∧ Cond.privateMethod q.1 ∈ tables_1 ∧ Cond.instanceMethod q.1 ∈ tables_1
theorem lw_p0 : lw_okq (⟨"CallTowers$Script", "readItem", "(LCallTowers$Tower;Z)Z"⟩, 4) := ⟨⟨by decide +kernel, by decide +kernel⟩, List.mem_of_getElem? (i := 24) (by decide +kernel), List.mem_of_getElem? (i := 307) (by decide +kernel), List.mem_of_getElem? (i := 308) (by decide +kernel)⟩
theorem lw_p1 : lw_okq (⟨"CallTowers$Script", "readStates", "(LCallTowers$Tower;)Z"⟩, 4) := ⟨⟨by decide +kernel, by decide +kernel⟩, List.mem_of_getElem? (i := 24) (by decide +kernel), List.mem_of_getElem? (i := 311) (by decide +kernel), List.mem_of_getElem? (i := 312) (by decide +kernel)⟩
theorem lw_p2 : lw_okq (⟨"CallTowers$Script", "readDigit", "(I)I"⟩, 4) := ⟨⟨by decide +kernel, by decide +kernel⟩, List.mem_of_getElem? (i := 24) (by decide +kernel), List.mem_of_getElem? (i := 315) (by decide +kernel), List.mem_of_getElem? (i := 316) (by decide +kernel)⟩
theorem lw_p3 : lw_okq (⟨"CallTowers$Script", "readSign", "(C)Z"⟩, 4) := ⟨⟨by decide +kernel, by decide +kernel⟩, List.mem_of_getElem? (i := 24) (by decide +kernel), List.mem_of_getElem? (i := 319) (by decide +kernel), List.mem_of_getElem? (i := 320) (by decide +kernel)⟩
theorem lw_p4 : lw_okq (⟨"CallTowers$Script", "readRule", "(LCallTowers$Tower;)Z"⟩, 4) := ⟨⟨by decide +kernel, by decide +kernel⟩, List.mem_of_getElem? (i := 24) (by decide +kernel), List.mem_of_getElem? (i := 323) (by decide +kernel), List.mem_of_getElem? (i := 324) (by decide +kernel)⟩
theorem lw_p5 : lw_okq (⟨"CallTowers$Script", "readLetter", "()I"⟩, 4) := ⟨⟨by decide +kernel, by decide +kernel⟩, List.mem_of_getElem? (i := 24) (by decide +kernel), List.mem_of_getElem? (i := 327) (by decide +kernel), List.mem_of_getElem? (i := 328) (by decide +kernel)⟩
theorem lw_p6 : lw_okq (⟨"CallTowers$Script", "readWord", "(I)I"⟩, 4) := ⟨⟨by decide +kernel, by decide +kernel⟩, List.mem_of_getElem? (i := 24) (by decide +kernel), List.mem_of_getElem? (i := 331) (by decide +kernel), List.mem_of_getElem? (i := 332) (by decide +kernel)⟩
theorem lw_p7 : lw_okq (⟨"CallTowers$Script", "wordFrom", "(I)I"⟩, 4) := ⟨⟨by decide +kernel, by decide +kernel⟩, List.mem_of_getElem? (i := 24) (by decide +kernel), List.mem_of_getElem? (i := 335) (by decide +kernel), List.mem_of_getElem? (i := 336) (by decide +kernel)⟩
theorem lw_p8 : lw_okq (⟨"CallTowers$Script", "readTarget", "(LCallTowers$Tower;)Z"⟩, 4) := ⟨⟨by decide +kernel, by decide +kernel⟩, List.mem_of_getElem? (i := 24) (by decide +kernel), List.mem_of_getElem? (i := 346) (by decide +kernel), List.mem_of_getElem? (i := 347) (by decide +kernel)⟩
theorem lw_p9 : lw_okq (⟨"CallTowers$Script", "readConfiguration", "(LCallTowers$Tower;)Z"⟩, 4) := ⟨⟨by decide +kernel, by decide +kernel⟩, List.mem_of_getElem? (i := 24) (by decide +kernel), List.mem_of_getElem? (i := 354) (by decide +kernel), List.mem_of_getElem? (i := 355) (by decide +kernel)⟩
theorem lw_p10 : lw_okq (⟨"CallTowers$Script", "readMode", "(LCallTowers$Tower;)Z"⟩, 4) := ⟨⟨by decide +kernel, by decide +kernel⟩, List.mem_of_getElem? (i := 24) (by decide +kernel), List.mem_of_getElem? (i := 362) (by decide +kernel), List.mem_of_getElem? (i := 363) (by decide +kernel)⟩
theorem lw_p11 : lw_okq (⟨"CallTowers", "noteNewRules", "()V"⟩, 16) := ⟨⟨by decide +kernel, by decide +kernel⟩, List.mem_of_getElem? (i := 16) (by decide +kernel), List.mem_of_getElem? (i := 443) (by decide +kernel), List.mem_of_getElem? (i := 444) (by decide +kernel)⟩
theorem lw_p12 : lw_okq (⟨"CallTowers", "isRule", "(I)Z"⟩, 16) := ⟨⟨by decide +kernel, by decide +kernel⟩, List.mem_of_getElem? (i := 16) (by decide +kernel), List.mem_of_getElem? (i := 451) (by decide +kernel), List.mem_of_getElem? (i := 452) (by decide +kernel)⟩
theorem lw_p13 : lw_okq (⟨"CallTowers", "remember", "()V"⟩, 16) := ⟨⟨by decide +kernel, by decide +kernel⟩, List.mem_of_getElem? (i := 16) (by decide +kernel), List.mem_of_getElem? (i := 479) (by decide +kernel), List.mem_of_getElem? (i := 480) (by decide +kernel)⟩
theorem lw_p14 : lw_okq (⟨"CallTowers", "isState", "(I)Z"⟩, 16) := ⟨⟨by decide +kernel, by decide +kernel⟩, List.mem_of_getElem? (i := 16) (by decide +kernel), List.mem_of_getElem? (i := 517) (by decide +kernel), List.mem_of_getElem? (i := 518) (by decide +kernel)⟩
theorem lw_p15 : lw_okq (⟨"CallTowers", "renewNet", "()V"⟩, 16) := ⟨⟨by decide +kernel, by decide +kernel⟩, List.mem_of_getElem? (i := 16) (by decide +kernel), List.mem_of_getElem? (i := 553) (by decide +kernel), List.mem_of_getElem? (i := 554) (by decide +kernel)⟩
def lw_privs_1 : List (MethodName × Nat) := [(⟨"CallTowers$Script", "readItem", "(LCallTowers$Tower;Z)Z"⟩, 4), (⟨"CallTowers$Script", "readStates", "(LCallTowers$Tower;)Z"⟩, 4), (⟨"CallTowers$Script", "readDigit", "(I)I"⟩, 4), (⟨"CallTowers$Script", "readSign", "(C)Z"⟩, 4), (⟨"CallTowers$Script", "readRule", "(LCallTowers$Tower;)Z"⟩, 4), (⟨"CallTowers$Script", "readLetter", "()I"⟩, 4), (⟨"CallTowers$Script", "readWord", "(I)I"⟩, 4), (⟨"CallTowers$Script", "wordFrom", "(I)I"⟩, 4), (⟨"CallTowers$Script", "readTarget", "(LCallTowers$Tower;)Z"⟩, 4), (⟨"CallTowers$Script", "readConfiguration", "(LCallTowers$Tower;)Z"⟩, 4), (⟨"CallTowers$Script", "readMode", "(LCallTowers$Tower;)Z"⟩, 4), (⟨"CallTowers", "noteNewRules", "()V"⟩, 16), (⟨"CallTowers", "isRule", "(I)Z"⟩, 16), (⟨"CallTowers", "remember", "()V"⟩, 16), (⟨"CallTowers", "isState", "(I)Z"⟩, 16), (⟨"CallTowers", "renewNet", "()V"⟩, 16)]
theorem lw_r1 : ∀ q ∈ lw_privs_1, lw_okq q := List.forall_mem_cons.mpr ⟨lw_p0, List.forall_mem_cons.mpr ⟨lw_p1, List.forall_mem_cons.mpr ⟨lw_p2, List.forall_mem_cons.mpr ⟨lw_p3, List.forall_mem_cons.mpr ⟨lw_p4, List.forall_mem_cons.mpr ⟨lw_p5, List.forall_mem_cons.mpr ⟨lw_p6, List.forall_mem_cons.mpr ⟨lw_p7, List.forall_mem_cons.mpr ⟨lw_p8, List.forall_mem_cons.mpr ⟨lw_p9, List.forall_mem_cons.mpr ⟨lw_p10, List.forall_mem_cons.mpr ⟨lw_p11, List.forall_mem_cons.mpr ⟨lw_p12, List.forall_mem_cons.mpr ⟨lw_p13, List.forall_mem_cons.mpr ⟨lw_p14, List.forall_mem_cons.mpr ⟨lw_p15, fun _ h => absurd h List.not_mem_nil⟩⟩⟩⟩⟩⟩⟩⟩⟩⟩⟩⟩⟩⟩⟩⟩
theorem lw_p16 : lw_okq (⟨"CallTowers$Net", "layTargets", "(LCallTowers$Tower;)V"⟩, 11) := ⟨⟨by decide +kernel, by decide +kernel⟩, List.mem_of_getElem? (i := 154) (by decide +kernel), List.mem_of_getElem? (i := 561) (by decide +kernel), List.mem_of_getElem? (i := 562) (by decide +kernel)⟩
theorem lw_p17 : lw_okq (⟨"CallTowers$Net", "layAnyLetter", "(II)V"⟩, 11) := ⟨⟨by decide +kernel, by decide +kernel⟩, List.mem_of_getElem? (i := 154) (by decide +kernel), List.mem_of_getElem? (i := 566) (by decide +kernel), List.mem_of_getElem? (i := 567) (by decide +kernel)⟩
theorem lw_p18 : lw_okq (⟨"CallTowers$Net", "countEdges", "()I"⟩, 11) := ⟨⟨by decide +kernel, by decide +kernel⟩, List.mem_of_getElem? (i := 154) (by decide +kernel), List.mem_of_getElem? (i := 573) (by decide +kernel), List.mem_of_getElem? (i := 574) (by decide +kernel)⟩
theorem lw_p19 : lw_okq (⟨"CallTowers$Net", "playRound", "(LCallTowers$Tower;)Z"⟩, 11) := ⟨⟨by decide +kernel, by decide +kernel⟩, List.mem_of_getElem? (i := 154) (by decide +kernel), List.mem_of_getElem? (i := 578) (by decide +kernel), List.mem_of_getElem? (i := 579) (by decide +kernel)⟩
theorem lw_p20 : lw_okq (⟨"CallTowers$Net", "startAt", "(I)V"⟩, 11) := ⟨⟨by decide +kernel, by decide +kernel⟩, List.mem_of_getElem? (i := 154) (by decide +kernel), List.mem_of_getElem? (i := 582) (by decide +kernel), List.mem_of_getElem? (i := 583) (by decide +kernel)⟩
theorem lw_p21 : lw_okq (⟨"CallTowers$Net", "readOn", "(I)V"⟩, 11) := ⟨⟨by decide +kernel, by decide +kernel⟩, List.mem_of_getElem? (i := 154) (by decide +kernel), List.mem_of_getElem? (i := 588) (by decide +kernel), List.mem_of_getElem? (i := 589) (by decide +kernel)⟩
theorem lw_p22 : lw_okq (⟨"CallTowers$Net", "joined", "(II)I"⟩, 11) := ⟨⟨by decide +kernel, by decide +kernel⟩, List.mem_of_getElem? (i := 154) (by decide +kernel), List.mem_of_getElem? (i := 592) (by decide +kernel), List.mem_of_getElem? (i := 593) (by decide +kernel)⟩
theorem lw_p23 : lw_okq (⟨"CallTowers$Net", "drawEdges", "(II)Z"⟩, 11) := ⟨⟨by decide +kernel, by decide +kernel⟩, List.mem_of_getElem? (i := 154) (by decide +kernel), List.mem_of_getElem? (i := 603) (by decide +kernel), List.mem_of_getElem? (i := 604) (by decide +kernel)⟩
theorem lw_p24 : lw_okq (⟨"CallTowers", "renewRoute", "()V"⟩, 16) := ⟨⟨by decide +kernel, by decide +kernel⟩, List.mem_of_getElem? (i := 16) (by decide +kernel), List.mem_of_getElem? (i := 615) (by decide +kernel), List.mem_of_getElem? (i := 616) (by decide +kernel)⟩
theorem lw_p25 : lw_okq (⟨"CallTowers$Route", "fillTail", "(ILCallTowers$Net;)V"⟩, 7) := ⟨⟨by decide +kernel, by decide +kernel⟩, List.mem_of_getElem? (i := 200) (by decide +kernel), List.mem_of_getElem? (i := 627) (by decide +kernel), List.mem_of_getElem? (i := 628) (by decide +kernel)⟩
theorem lw_p26 : lw_okq (⟨"CallTowers$Route", "advance", "(LCallTowers$Tower;LCallTowers$Net;)I"⟩, 7) := ⟨⟨by decide +kernel, by decide +kernel⟩, List.mem_of_getElem? (i := 200) (by decide +kernel), List.mem_of_getElem? (i := 644) (by decide +kernel), List.mem_of_getElem? (i := 645) (by decide +kernel)⟩
theorem lw_p27 : lw_okq (⟨"CallTowers$Route", "stepsAfter", "(IILCallTowers$Net;)I"⟩, 7) := ⟨⟨by decide +kernel, by decide +kernel⟩, List.mem_of_getElem? (i := 200) (by decide +kernel), List.mem_of_getElem? (i := 648) (by decide +kernel), List.mem_of_getElem? (i := 649) (by decide +kernel)⟩
theorem lw_p28 : lw_okq (⟨"CallTowers$Route", "replaceTop", "(ILCallTowers$Net;)V"⟩, 7) := ⟨⟨by decide +kernel, by decide +kernel⟩, List.mem_of_getElem? (i := 200) (by decide +kernel), List.mem_of_getElem? (i := 660) (by decide +kernel), List.mem_of_getElem? (i := 661) (by decide +kernel)⟩
theorem lw_p29 : lw_okq (⟨"CallTowers$Reach", "settleFalls", "(LCallTowers$Tower;)V"⟩, 3) := ⟨⟨by decide +kernel, by decide +kernel⟩, List.mem_of_getElem? (i := 229) (by decide +kernel), List.mem_of_getElem? (i := 672) (by decide +kernel), List.mem_of_getElem? (i := 673) (by decide +kernel)⟩
theorem lw_p30 : lw_okq (⟨"CallTowers$Reach", "afterWord", "(II)I"⟩, 3) := ⟨⟨by decide +kernel, by decide +kernel⟩, List.mem_of_getElem? (i := 229) (by decide +kernel), List.mem_of_getElem? (i := 676) (by decide +kernel), List.mem_of_getElem? (i := 677) (by decide +kernel)⟩
theorem lw_p31 : lw_okq (⟨"CallTowers$Reach", "afterLetter", "(II)I"⟩, 3) := ⟨⟨by decide +kernel, by decide +kernel⟩, List.mem_of_getElem? (i := 229) (by decide +kernel), List.mem_of_getElem? (i := 682) (by decide +kernel), List.mem_of_getElem? (i := 683) (by decide +kernel)⟩
def lw_privs_2 : List (MethodName × Nat) := [(⟨"CallTowers$Net", "layTargets", "(LCallTowers$Tower;)V"⟩, 11), (⟨"CallTowers$Net", "layAnyLetter", "(II)V"⟩, 11), (⟨"CallTowers$Net", "countEdges", "()I"⟩, 11), (⟨"CallTowers$Net", "playRound", "(LCallTowers$Tower;)Z"⟩, 11), (⟨"CallTowers$Net", "startAt", "(I)V"⟩, 11), (⟨"CallTowers$Net", "readOn", "(I)V"⟩, 11), (⟨"CallTowers$Net", "joined", "(II)I"⟩, 11), (⟨"CallTowers$Net", "drawEdges", "(II)Z"⟩, 11), (⟨"CallTowers", "renewRoute", "()V"⟩, 16), (⟨"CallTowers$Route", "fillTail", "(ILCallTowers$Net;)V"⟩, 7), (⟨"CallTowers$Route", "advance", "(LCallTowers$Tower;LCallTowers$Net;)I"⟩, 7), (⟨"CallTowers$Route", "stepsAfter", "(IILCallTowers$Net;)I"⟩, 7), (⟨"CallTowers$Route", "replaceTop", "(ILCallTowers$Net;)V"⟩, 7), (⟨"CallTowers$Reach", "settleFalls", "(LCallTowers$Tower;)V"⟩, 3), (⟨"CallTowers$Reach", "afterWord", "(II)I"⟩, 3), (⟨"CallTowers$Reach", "afterLetter", "(II)I"⟩, 3)]
theorem lw_r2 : ∀ q ∈ lw_privs_2, lw_okq q := List.forall_mem_cons.mpr ⟨lw_p16, List.forall_mem_cons.mpr ⟨lw_p17, List.forall_mem_cons.mpr ⟨lw_p18, List.forall_mem_cons.mpr ⟨lw_p19, List.forall_mem_cons.mpr ⟨lw_p20, List.forall_mem_cons.mpr ⟨lw_p21, List.forall_mem_cons.mpr ⟨lw_p22, List.forall_mem_cons.mpr ⟨lw_p23, List.forall_mem_cons.mpr ⟨lw_p24, List.forall_mem_cons.mpr ⟨lw_p25, List.forall_mem_cons.mpr ⟨lw_p26, List.forall_mem_cons.mpr ⟨lw_p27, List.forall_mem_cons.mpr ⟨lw_p28, List.forall_mem_cons.mpr ⟨lw_p29, List.forall_mem_cons.mpr ⟨lw_p30, List.forall_mem_cons.mpr ⟨lw_p31, fun _ h => absurd h List.not_mem_nil⟩⟩⟩⟩⟩⟩⟩⟩⟩⟩⟩⟩⟩⟩⟩⟩
theorem lw_p32 : lw_okq (⟨"CallTowers$Reach", "descend", "(LCallTowers$Tower;)V"⟩, 3) := ⟨⟨by decide +kernel, by decide +kernel⟩, List.mem_of_getElem? (i := 229) (by decide +kernel), List.mem_of_getElem? (i := 687) (by decide +kernel), List.mem_of_getElem? (i := 688) (by decide +kernel)⟩
theorem lw_p33 : lw_okq (⟨"CallTowers$Reach", "spread", "(LCallTowers$Tower;)Z"⟩, 3) := ⟨⟨by decide +kernel, by decide +kernel⟩, List.mem_of_getElem? (i := 229) (by decide +kernel), List.mem_of_getElem? (i := 694) (by decide +kernel), List.mem_of_getElem? (i := 695) (by decide +kernel)⟩
theorem lw_p34 : lw_okq (⟨"CallTowers", "priceWith", "(II)I"⟩, 16) := ⟨⟨by decide +kernel, by decide +kernel⟩, List.mem_of_getElem? (i := 16) (by decide +kernel), List.mem_of_getElem? (i := 744) (by decide +kernel), List.mem_of_getElem? (i := 745) (by decide +kernel)⟩
theorem lw_p35 : lw_okq (⟨"CallTowersModel", "readsBack", "([II)V"⟩, 38) := ⟨⟨by decide +kernel, by decide +kernel⟩, List.mem_of_getElem? (i := 776) (by decide +kernel), List.mem_of_getElem? (i := 901) (by decide +kernel), List.mem_of_getElem? (i := 902) (by decide +kernel)⟩
theorem lw_p36 : lw_okq (⟨"CallTowersModel", "writes", "([II)V"⟩, 38) := ⟨⟨by decide +kernel, by decide +kernel⟩, List.mem_of_getElem? (i := 776) (by decide +kernel), List.mem_of_getElem? (i := 909) (by decide +kernel), List.mem_of_getElem? (i := 910) (by decide +kernel)⟩
theorem lw_p37 : lw_okq (⟨"CallTowersModel", "isRule", "(I)Z"⟩, 38) := ⟨⟨by decide +kernel, by decide +kernel⟩, List.mem_of_getElem? (i := 776) (by decide +kernel), List.mem_of_getElem? (i := 921) (by decide +kernel), List.mem_of_getElem? (i := 922) (by decide +kernel)⟩
theorem lw_p38 : lw_okq (⟨"CallTowersModel", "notes", "()V"⟩, 38) := ⟨⟨by decide +kernel, by decide +kernel⟩, List.mem_of_getElem? (i := 776) (by decide +kernel), List.mem_of_getElem? (i := 943) (by decide +kernel), List.mem_of_getElem? (i := 944) (by decide +kernel)⟩
theorem lw_p39 : lw_okq (⟨"CallTowersModel", "fits", "(III)Z"⟩, 38) := ⟨⟨by decide +kernel, by decide +kernel⟩, List.mem_of_getElem? (i := 776) (by decide +kernel), List.mem_of_getElem? (i := 955) (by decide +kernel), List.mem_of_getElem? (i := 956) (by decide +kernel)⟩
theorem lw_p40 : lw_okq (⟨"CallTowersModel", "steps", "(I)V"⟩, 38) := ⟨⟨by decide +kernel, by decide +kernel⟩, List.mem_of_getElem? (i := 776) (by decide +kernel), List.mem_of_getElem? (i := 959) (by decide +kernel), List.mem_of_getElem? (i := 960) (by decide +kernel)⟩
theorem lw_p41 : lw_okq (⟨"CallTowersModel", "isState", "(I)Z"⟩, 38) := ⟨⟨by decide +kernel, by decide +kernel⟩, List.mem_of_getElem? (i := 776) (by decide +kernel), List.mem_of_getElem? (i := 967) (by decide +kernel), List.mem_of_getElem? (i := 968) (by decide +kernel)⟩
theorem lw_p42 : lw_okq (⟨"CallTowersModel", "enters", "(IIIII)V"⟩, 38) := ⟨⟨by decide +kernel, by decide +kernel⟩, List.mem_of_getElem? (i := 776) (by decide +kernel), List.mem_of_getElem? (i := 975) (by decide +kernel), List.mem_of_getElem? (i := 976) (by decide +kernel)⟩
theorem lw_p43 : lw_okq (⟨"CallTowersModel", "priceWithout", "(I)I"⟩, 38) := ⟨⟨by decide +kernel, by decide +kernel⟩, List.mem_of_getElem? (i := 776) (by decide +kernel), List.mem_of_getElem? (i := 995) (by decide +kernel), List.mem_of_getElem? (i := 996) (by decide +kernel)⟩
theorem lw_p44 : lw_okq (⟨"CallTowersModel", "grows", "(II)V"⟩, 38) := ⟨⟨by decide +kernel, by decide +kernel⟩, List.mem_of_getElem? (i := 776) (by decide +kernel), List.mem_of_getElem? (i := 999) (by decide +kernel), List.mem_of_getElem? (i := 1000) (by decide +kernel)⟩
theorem lw_p45 : lw_okq (⟨"CallTowersModel", "begins", "()V"⟩, 38) := ⟨⟨by decide +kernel, by decide +kernel⟩, List.mem_of_getElem? (i := 776) (by decide +kernel), List.mem_of_getElem? (i := 1003) (by decide +kernel), List.mem_of_getElem? (i := 1004) (by decide +kernel)⟩
theorem lw_p46 : lw_okq (⟨"CallTowersModel", "targetEdges", "(I)V"⟩, 38) := ⟨⟨by decide +kernel, by decide +kernel⟩, List.mem_of_getElem? (i := 776) (by decide +kernel), List.mem_of_getElem? (i := 1010) (by decide +kernel), List.mem_of_getElem? (i := 1011) (by decide +kernel)⟩
theorem lw_p47 : lw_okq (⟨"CallTowersModel", "edges", "()I"⟩, 38) := ⟨⟨by decide +kernel, by decide +kernel⟩, List.mem_of_getElem? (i := 776) (by decide +kernel), List.mem_of_getElem? (i := 1014) (by decide +kernel), List.mem_of_getElem? (i := 1015) (by decide +kernel)⟩
def lw_privs_3 : List (MethodName × Nat) := [(⟨"CallTowers$Reach", "descend", "(LCallTowers$Tower;)V"⟩, 3), (⟨"CallTowers$Reach", "spread", "(LCallTowers$Tower;)Z"⟩, 3), (⟨"CallTowers", "priceWith", "(II)I"⟩, 16), (⟨"CallTowersModel", "readsBack", "([II)V"⟩, 38), (⟨"CallTowersModel", "writes", "([II)V"⟩, 38), (⟨"CallTowersModel", "isRule", "(I)Z"⟩, 38), (⟨"CallTowersModel", "notes", "()V"⟩, 38), (⟨"CallTowersModel", "fits", "(III)Z"⟩, 38), (⟨"CallTowersModel", "steps", "(I)V"⟩, 38), (⟨"CallTowersModel", "isState", "(I)Z"⟩, 38), (⟨"CallTowersModel", "enters", "(IIIII)V"⟩, 38), (⟨"CallTowersModel", "priceWithout", "(I)I"⟩, 38), (⟨"CallTowersModel", "grows", "(II)V"⟩, 38), (⟨"CallTowersModel", "begins", "()V"⟩, 38), (⟨"CallTowersModel", "targetEdges", "(I)V"⟩, 38), (⟨"CallTowersModel", "edges", "()I"⟩, 38)]
theorem lw_r3 : ∀ q ∈ lw_privs_3, lw_okq q := List.forall_mem_cons.mpr ⟨lw_p32, List.forall_mem_cons.mpr ⟨lw_p33, List.forall_mem_cons.mpr ⟨lw_p34, List.forall_mem_cons.mpr ⟨lw_p35, List.forall_mem_cons.mpr ⟨lw_p36, List.forall_mem_cons.mpr ⟨lw_p37, List.forall_mem_cons.mpr ⟨lw_p38, List.forall_mem_cons.mpr ⟨lw_p39, List.forall_mem_cons.mpr ⟨lw_p40, List.forall_mem_cons.mpr ⟨lw_p41, List.forall_mem_cons.mpr ⟨lw_p42, List.forall_mem_cons.mpr ⟨lw_p43, List.forall_mem_cons.mpr ⟨lw_p44, List.forall_mem_cons.mpr ⟨lw_p45, List.forall_mem_cons.mpr ⟨lw_p46, List.forall_mem_cons.mpr ⟨lw_p47, fun _ h => absurd h List.not_mem_nil⟩⟩⟩⟩⟩⟩⟩⟩⟩⟩⟩⟩⟩⟩⟩⟩
theorem lw_p48 : lw_okq (⟨"CallTowersModel", "roundBy", "(III)Z"⟩, 38) := ⟨⟨by decide +kernel, by decide +kernel⟩, List.mem_of_getElem? (i := 776) (by decide +kernel), List.mem_of_getElem? (i := 1018) (by decide +kernel), List.mem_of_getElem? (i := 1019) (by decide +kernel)⟩
theorem lw_p49 : lw_okq (⟨"CallTowersModel", "standsAt", "(I)V"⟩, 38) := ⟨⟨by decide +kernel, by decide +kernel⟩, List.mem_of_getElem? (i := 776) (by decide +kernel), List.mem_of_getElem? (i := 1022) (by decide +kernel), List.mem_of_getElem? (i := 1023) (by decide +kernel)⟩
theorem lw_p50 : lw_okq (⟨"CallTowersModel", "reads", "(II)V"⟩, 38) := ⟨⟨by decide +kernel, by decide +kernel⟩, List.mem_of_getElem? (i := 776) (by decide +kernel), List.mem_of_getElem? (i := 1026) (by decide +kernel), List.mem_of_getElem? (i := 1027) (by decide +kernel)⟩
theorem lw_p51 : lw_okq (⟨"CallTowersModel", "least", "(I)I"⟩, 38) := ⟨⟨by decide +kernel, by decide +kernel⟩, List.mem_of_getElem? (i := 776) (by decide +kernel), List.mem_of_getElem? (i := 1036) (by decide +kernel), List.mem_of_getElem? (i := 1037) (by decide +kernel)⟩
theorem lw_p52 : lw_okq (⟨"CallTowersModel", "isEnd", "(I)Z"⟩, 38) := ⟨⟨by decide +kernel, by decide +kernel⟩, List.mem_of_getElem? (i := 776) (by decide +kernel), List.mem_of_getElem? (i := 1040) (by decide +kernel), List.mem_of_getElem? (i := 1041) (by decide +kernel)⟩
theorem lw_p53 : lw_okq (⟨"CallTowersModel", "towerBegins", "()V"⟩, 38) := ⟨⟨by decide +kernel, by decide +kernel⟩, List.mem_of_getElem? (i := 776) (by decide +kernel), List.mem_of_getElem? (i := 1065) (by decide +kernel), List.mem_of_getElem? (i := 1066) (by decide +kernel)⟩
theorem lw_p54 : lw_okq (⟨"CallTowersModel", "puts", "(I)V"⟩, 38) := ⟨⟨by decide +kernel, by decide +kernel⟩, List.mem_of_getElem? (i := 776) (by decide +kernel), List.mem_of_getElem? (i := 1069) (by decide +kernel), List.mem_of_getElem? (i := 1070) (by decide +kernel)⟩
theorem lw_p55 : lw_okq (⟨"CallTowersModel", "standsOn", "(I)V"⟩, 38) := ⟨⟨by decide +kernel, by decide +kernel⟩, List.mem_of_getElem? (i := 776) (by decide +kernel), List.mem_of_getElem? (i := 1073) (by decide +kernel), List.mem_of_getElem? (i := 1074) (by decide +kernel)⟩
theorem lw_p56 : lw_okq (⟨"CallTowersModel", "goesBy", "(I)V"⟩, 38) := ⟨⟨by decide +kernel, by decide +kernel⟩, List.mem_of_getElem? (i := 776) (by decide +kernel), List.mem_of_getElem? (i := 1077) (by decide +kernel), List.mem_of_getElem? (i := 1078) (by decide +kernel)⟩
theorem lw_p57 : lw_okq (⟨"CallTowersModel", "ruleOn", "(II)I"⟩, 38) := ⟨⟨by decide +kernel, by decide +kernel⟩, List.mem_of_getElem? (i := 776) (by decide +kernel), List.mem_of_getElem? (i := 1081) (by decide +kernel), List.mem_of_getElem? (i := 1082) (by decide +kernel)⟩
theorem lw_p58 : lw_okq (⟨"CallTowersModel", "behind", "(I)I"⟩, 38) := ⟨⟨by decide +kernel, by decide +kernel⟩, List.mem_of_getElem? (i := 776) (by decide +kernel), List.mem_of_getElem? (i := 1085) (by decide +kernel), List.mem_of_getElem? (i := 1086) (by decide +kernel)⟩
theorem lw_p59 : lw_okq (⟨"CallTowersModel", "towerSteps", "(I)V"⟩, 38) := ⟨⟨by decide +kernel, by decide +kernel⟩, List.mem_of_getElem? (i := 776) (by decide +kernel), List.mem_of_getElem? (i := 1089) (by decide +kernel), List.mem_of_getElem? (i := 1090) (by decide +kernel)⟩
theorem lw_p60 : lw_okq (⟨"CallTowersModel", "setHeads", "()V"⟩, 38) := ⟨⟨by decide +kernel, by decide +kernel⟩, List.mem_of_getElem? (i := 776) (by decide +kernel), List.mem_of_getElem? (i := 1097) (by decide +kernel), List.mem_of_getElem? (i := 1098) (by decide +kernel)⟩
theorem lw_p61 : lw_okq (⟨"CallTowersModel", "setPops", "()V"⟩, 38) := ⟨⟨by decide +kernel, by decide +kernel⟩, List.mem_of_getElem? (i := 776) (by decide +kernel), List.mem_of_getElem? (i := 1101) (by decide +kernel), List.mem_of_getElem? (i := 1102) (by decide +kernel)⟩
theorem lw_p62 : lw_okq (⟨"CallTowersModel", "isGone", "(II)Z"⟩, 38) := ⟨⟨by decide +kernel, by decide +kernel⟩, List.mem_of_getElem? (i := 776) (by decide +kernel), List.mem_of_getElem? (i := 1105) (by decide +kernel), List.mem_of_getElem? (i := 1106) (by decide +kernel)⟩
theorem lw_p63 : lw_okq (⟨"CallTowersModel", "popsBy", "(III)I"⟩, 38) := ⟨⟨by decide +kernel, by decide +kernel⟩, List.mem_of_getElem? (i := 776) (by decide +kernel), List.mem_of_getElem? (i := 1109) (by decide +kernel), List.mem_of_getElem? (i := 1110) (by decide +kernel)⟩
def lw_privs_4 : List (MethodName × Nat) := [(⟨"CallTowersModel", "roundBy", "(III)Z"⟩, 38), (⟨"CallTowersModel", "standsAt", "(I)V"⟩, 38), (⟨"CallTowersModel", "reads", "(II)V"⟩, 38), (⟨"CallTowersModel", "least", "(I)I"⟩, 38), (⟨"CallTowersModel", "isEnd", "(I)Z"⟩, 38), (⟨"CallTowersModel", "towerBegins", "()V"⟩, 38), (⟨"CallTowersModel", "puts", "(I)V"⟩, 38), (⟨"CallTowersModel", "standsOn", "(I)V"⟩, 38), (⟨"CallTowersModel", "goesBy", "(I)V"⟩, 38), (⟨"CallTowersModel", "ruleOn", "(II)I"⟩, 38), (⟨"CallTowersModel", "behind", "(I)I"⟩, 38), (⟨"CallTowersModel", "towerSteps", "(I)V"⟩, 38), (⟨"CallTowersModel", "setHeads", "()V"⟩, 38), (⟨"CallTowersModel", "setPops", "()V"⟩, 38), (⟨"CallTowersModel", "isGone", "(II)Z"⟩, 38), (⟨"CallTowersModel", "popsBy", "(III)I"⟩, 38)]
theorem lw_r4 : ∀ q ∈ lw_privs_4, lw_okq q := List.forall_mem_cons.mpr ⟨lw_p48, List.forall_mem_cons.mpr ⟨lw_p49, List.forall_mem_cons.mpr ⟨lw_p50, List.forall_mem_cons.mpr ⟨lw_p51, List.forall_mem_cons.mpr ⟨lw_p52, List.forall_mem_cons.mpr ⟨lw_p53, List.forall_mem_cons.mpr ⟨lw_p54, List.forall_mem_cons.mpr ⟨lw_p55, List.forall_mem_cons.mpr ⟨lw_p56, List.forall_mem_cons.mpr ⟨lw_p57, List.forall_mem_cons.mpr ⟨lw_p58, List.forall_mem_cons.mpr ⟨lw_p59, List.forall_mem_cons.mpr ⟨lw_p60, List.forall_mem_cons.mpr ⟨lw_p61, List.forall_mem_cons.mpr ⟨lw_p62, List.forall_mem_cons.mpr ⟨lw_p63, fun _ h => absurd h List.not_mem_nil⟩⟩⟩⟩⟩⟩⟩⟩⟩⟩⟩⟩⟩⟩⟩⟩
theorem lw_p64 : lw_okq (⟨"CallTowersModel", "headsOfPile", "()V"⟩, 38) := ⟨⟨by decide +kernel, by decide +kernel⟩, List.mem_of_getElem? (i := 776) (by decide +kernel), List.mem_of_getElem? (i := 1113) (by decide +kernel), List.mem_of_getElem? (i := 1114) (by decide +kernel)⟩
theorem lw_p65 : lw_okq (⟨"CallTowersModel", "headMany", "()I"⟩, 38) := ⟨⟨by decide +kernel, by decide +kernel⟩, List.mem_of_getElem? (i := 776) (by decide +kernel), List.mem_of_getElem? (i := 1117) (by decide +kernel), List.mem_of_getElem? (i := 1118) (by decide +kernel)⟩
theorem lw_p66 : lw_okq (⟨"CallTowersModel", "headsOf", "(I)V"⟩, 38) := ⟨⟨by decide +kernel, by decide +kernel⟩, List.mem_of_getElem? (i := 776) (by decide +kernel), List.mem_of_getElem? (i := 1121) (by decide +kernel), List.mem_of_getElem? (i := 1122) (by decide +kernel)⟩
theorem lw_p67 : lw_okq (⟨"CallTowersModel", "walks", "(II)Z"⟩, 38) := ⟨⟨by decide +kernel, by decide +kernel⟩, List.mem_of_getElem? (i := 776) (by decide +kernel), List.mem_of_getElem? (i := 1137) (by decide +kernel), List.mem_of_getElem? (i := 1138) (by decide +kernel)⟩
theorem lw_p68 : lw_okq (⟨"CallTowersModel", "fitting", "()I"⟩, 38) := ⟨⟨by decide +kernel, by decide +kernel⟩, List.mem_of_getElem? (i := 776) (by decide +kernel), List.mem_of_getElem? (i := 1141) (by decide +kernel), List.mem_of_getElem? (i := 1142) (by decide +kernel)⟩
theorem lw_p69 : lw_okq (⟨"CallTowersModel", "fittingAt", "(I)I"⟩, 38) := ⟨⟨by decide +kernel, by decide +kernel⟩, List.mem_of_getElem? (i := 776) (by decide +kernel), List.mem_of_getElem? (i := 1149) (by decide +kernel), List.mem_of_getElem? (i := 1150) (by decide +kernel)⟩
theorem lw_p70 : lw_okq (⟨"CallTowersModel", "goesThrough", "(Z)I"⟩, 38) := ⟨⟨by decide +kernel, by decide +kernel⟩, List.mem_of_getElem? (i := 776) (by decide +kernel), List.mem_of_getElem? (i := 1165) (by decide +kernel), List.mem_of_getElem? (i := 1166) (by decide +kernel)⟩
theorem lw_p71 : lw_okq (⟨"CallTowersModel", "readsItem", "(ZZ)Z"⟩, 38) := ⟨⟨by decide +kernel, by decide +kernel⟩, List.mem_of_getElem? (i := 776) (by decide +kernel), List.mem_of_getElem? (i := 1169) (by decide +kernel), List.mem_of_getElem? (i := 1170) (by decide +kernel)⟩
theorem lw_p72 : lw_okq (⟨"CallTowersModel", "readsStates", "(ZZ)Z"⟩, 38) := ⟨⟨by decide +kernel, by decide +kernel⟩, List.mem_of_getElem? (i := 776) (by decide +kernel), List.mem_of_getElem? (i := 1173) (by decide +kernel), List.mem_of_getElem? (i := 1174) (by decide +kernel)⟩
theorem lw_p73 : lw_okq (⟨"CallTowersModel", "figure", "(II)Z"⟩, 38) := ⟨⟨by decide +kernel, by decide +kernel⟩, List.mem_of_getElem? (i := 776) (by decide +kernel), List.mem_of_getElem? (i := 1177) (by decide +kernel), List.mem_of_getElem? (i := 1178) (by decide +kernel)⟩
theorem lw_p74 : lw_okq (⟨"CallTowersModel", "readsRule", "(Z)Z"⟩, 38) := ⟨⟨by decide +kernel, by decide +kernel⟩, List.mem_of_getElem? (i := 776) (by decide +kernel), List.mem_of_getElem? (i := 1181) (by decide +kernel), List.mem_of_getElem? (i := 1182) (by decide +kernel)⟩
theorem lw_p75 : lw_okq (⟨"CallTowersModel", "sign", "(I)Z"⟩, 38) := ⟨⟨by decide +kernel, by decide +kernel⟩, List.mem_of_getElem? (i := 776) (by decide +kernel), List.mem_of_getElem? (i := 1185) (by decide +kernel), List.mem_of_getElem? (i := 1186) (by decide +kernel)⟩
theorem lw_p76 : lw_okq (⟨"CallTowersModel", "word", "(I)Z"⟩, 38) := ⟨⟨by decide +kernel, by decide +kernel⟩, List.mem_of_getElem? (i := 776) (by decide +kernel), List.mem_of_getElem? (i := 1189) (by decide +kernel), List.mem_of_getElem? (i := 1190) (by decide +kernel)⟩
theorem lw_p77 : lw_okq (⟨"CallTowersModel", "isWordAt", "()Z"⟩, 38) := ⟨⟨by decide +kernel, by decide +kernel⟩, List.mem_of_getElem? (i := 776) (by decide +kernel), List.mem_of_getElem? (i := 1193) (by decide +kernel), List.mem_of_getElem? (i := 1194) (by decide +kernel)⟩
theorem lw_p78 : lw_okq (⟨"CallTowersModel", "readsTarget", "(Z)Z"⟩, 38) := ⟨⟨by decide +kernel, by decide +kernel⟩, List.mem_of_getElem? (i := 776) (by decide +kernel), List.mem_of_getElem? (i := 1197) (by decide +kernel), List.mem_of_getElem? (i := 1198) (by decide +kernel)⟩
theorem lw_p79 : lw_okq (⟨"CallTowersModel", "readsConfiguration", "(Z)Z"⟩, 38) := ⟨⟨by decide +kernel, by decide +kernel⟩, List.mem_of_getElem? (i := 776) (by decide +kernel), List.mem_of_getElem? (i := 1201) (by decide +kernel), List.mem_of_getElem? (i := 1202) (by decide +kernel)⟩
def lw_privs_5 : List (MethodName × Nat) := [(⟨"CallTowersModel", "headsOfPile", "()V"⟩, 38), (⟨"CallTowersModel", "headMany", "()I"⟩, 38), (⟨"CallTowersModel", "headsOf", "(I)V"⟩, 38), (⟨"CallTowersModel", "walks", "(II)Z"⟩, 38), (⟨"CallTowersModel", "fitting", "()I"⟩, 38), (⟨"CallTowersModel", "fittingAt", "(I)I"⟩, 38), (⟨"CallTowersModel", "goesThrough", "(Z)I"⟩, 38), (⟨"CallTowersModel", "readsItem", "(ZZ)Z"⟩, 38), (⟨"CallTowersModel", "readsStates", "(ZZ)Z"⟩, 38), (⟨"CallTowersModel", "figure", "(II)Z"⟩, 38), (⟨"CallTowersModel", "readsRule", "(Z)Z"⟩, 38), (⟨"CallTowersModel", "sign", "(I)Z"⟩, 38), (⟨"CallTowersModel", "word", "(I)Z"⟩, 38), (⟨"CallTowersModel", "isWordAt", "()Z"⟩, 38), (⟨"CallTowersModel", "readsTarget", "(Z)Z"⟩, 38), (⟨"CallTowersModel", "readsConfiguration", "(Z)Z"⟩, 38)]
theorem lw_r5 : ∀ q ∈ lw_privs_5, lw_okq q := List.forall_mem_cons.mpr ⟨lw_p64, List.forall_mem_cons.mpr ⟨lw_p65, List.forall_mem_cons.mpr ⟨lw_p66, List.forall_mem_cons.mpr ⟨lw_p67, List.forall_mem_cons.mpr ⟨lw_p68, List.forall_mem_cons.mpr ⟨lw_p69, List.forall_mem_cons.mpr ⟨lw_p70, List.forall_mem_cons.mpr ⟨lw_p71, List.forall_mem_cons.mpr ⟨lw_p72, List.forall_mem_cons.mpr ⟨lw_p73, List.forall_mem_cons.mpr ⟨lw_p74, List.forall_mem_cons.mpr ⟨lw_p75, List.forall_mem_cons.mpr ⟨lw_p76, List.forall_mem_cons.mpr ⟨lw_p77, List.forall_mem_cons.mpr ⟨lw_p78, List.forall_mem_cons.mpr ⟨lw_p79, fun _ h => absurd h List.not_mem_nil⟩⟩⟩⟩⟩⟩⟩⟩⟩⟩⟩⟩⟩⟩⟩⟩
def lw_privs : List (MethodName × Nat) := lw_privs_1 ++ (lw_privs_2 ++ (lw_privs_3 ++ (lw_privs_4 ++ (lw_privs_5))))
def lw_tbl : List Cond := k2_sels lw_privs ++ tables_1
theorem lw_privs_ok : ∀ q ∈ lw_privs, lw_okq q := by
  show ∀ q ∈ lw_privs_1 ++ (lw_privs_2 ++ (lw_privs_3 ++ (lw_privs_4 ++ (lw_privs_5)))), lw_okq q
  exact List.forall_mem_append.mpr ⟨lw_r1, List.forall_mem_append.mpr ⟨lw_r2, List.forall_mem_append.mpr ⟨lw_r3, List.forall_mem_append.mpr ⟨lw_r4, lw_r5⟩⟩⟩⟩
end
section
/-! ===== BEGIN words of one list among another's, by their places ===== -/
theorem goodIn_r {big : List Cond} (ws : List Cond) (ps : List Nat) (hp : ws = ps.filterMap (fun i => big[i]?)) (h : ws.all goodWord = true) : GoodIn big ws := by
  intro w hw
  have h1 := List.all_eq_true.mp h w hw
  rw [hp] at hw
  obtain ⟨i, -, hi⟩ := List.mem_filterMap.mp hw
  have hm : w ∈ big := by first | exact List.mem_of_getElem? hi | exact List.getElem?_mem hi
  exact ⟨hm, good_of_word h1⟩
theorem goodIn_app {big a b : List Cond} (ha : GoodIn big a) (hb : GoodIn big b) : GoodIn big (a ++ b) := fun w h => (List.mem_append.mp h).elim (ha w) (hb w)
theorem goodIn_ca {big a b : List Cond} {c : Cond} (ha : GoodIn big (c :: a)) (hb : GoodIn big b) : GoodIn big (c :: (a ++ b)) := fun w h => (List.mem_cons.mp h).elim (fun e => ha w (List.mem_cons.mpr (Or.inl e))) (fun h => (List.mem_append.mp h).elim (fun h => ha w (List.mem_cons.mpr (Or.inr h))) (hb w))
theorem goodIn_sub {big ws : List Cond} (hm : ∀ w ∈ ws, w ∈ big) (h : ws.all goodWord = true) : GoodIn big ws := fun w hw => ⟨hm w hw, good_of_word (List.all_eq_true.mp h w hw)⟩
/-! ===== END ===== -/

/-! ===== BEGIN printed: names, fields, word lists, decode rows ===== -/
def RX0 : String := "CallTowers$Net"
def TX0 : u_T := fun k => match k with
  | 0 => ("CallTowers$Net", "nodes", "I", false)
  | 1 => ("CallTowers$Net", "firstEdges", "I", false)
  | 2 => ("CallTowers$Net", "edges", "I", false)
  | 3 => ("CallTowers$Net", "rounds", "I", false)
  | 4 => ("CallTowers$Net", "weights", "[I", true)
  | 5 => ("CallTowers$Net", "before", "[I", true)
  | 6 => ("CallTowers$Net", "accepting", "[Z", true)
  | 7 => ("CallTowers$Net", "costs", "[I", true)
  | 8 => ("CallTowers$Net", "worst", "Z", false)
  | 9 => ("CallTowers$Net", "read", "[I", false)
  | _ => ("CallTowers$Net", "spare", "[I", false)
def tyX0 : Nat → FieldType := fun k => match k with
  | 0 => .int
  | 1 => .int
  | 2 => .int
  | 3 => .int
  | 4 => .array .int
  | 5 => .array .int
  | 6 => .array .boolean
  | 7 => .array .int
  | 8 => .boolean
  | 9 => .array .int
  | _ => .array .int
abbrev wsX00 : List Cond := u_ws RX0 TX0 11
theorem nmX0 : ∀ a, a < 11 → ∀ b, b < 11 → a ≠ b → (TX0 a).2.1 ≠ (TX0 b).2.1 := by decide +kernel
theorem tyX0_ok : ∀ k, k < 11 → parseFieldDescriptor (TX0 k).2.2.1 = some (tyX0 k) := by decide +kernel
abbrev cX0_init : ByteArray := prog_2_method_1_code
def yX0_init : MethodName := ⟨RX0, "<init>", "()V"⟩
abbrev cX0_isNode : ByteArray := prog_2_method_2_code
def yX0_isNode : MethodName := ⟨RX0, "isNode", "(I)Z"⟩
abbrev cX0_build : ByteArray := prog_2_method_3_code
def yX0_build : MethodName := ⟨RX0, "build", "(LCallTowers$Tower;III)V"⟩
abbrev cX0_layTargets : ByteArray := prog_2_method_4_code
def yX0_layTargets : MethodName := ⟨RX0, "layTargets", "(LCallTowers$Tower;)V"⟩
abbrev cX0_layAnyLetter : ByteArray := prog_2_method_5_code
def yX0_layAnyLetter : MethodName := ⟨RX0, "layAnyLetter", "(II)V"⟩
abbrev cX0_countEdges : ByteArray := prog_2_method_6_code
def yX0_countEdges : MethodName := ⟨RX0, "countEdges", "()I"⟩
abbrev cX0_playRound : ByteArray := prog_2_method_7_code
def yX0_playRound : MethodName := ⟨RX0, "playRound", "(LCallTowers$Tower;)Z"⟩
abbrev cX0_drawEdges : ByteArray := prog_2_method_8_code
def yX0_drawEdges : MethodName := ⟨RX0, "drawEdges", "(II)Z"⟩
abbrev cX0_joined : ByteArray := prog_2_method_9_code
def yX0_joined : MethodName := ⟨RX0, "joined", "(II)I"⟩
abbrev cX0_startAt : ByteArray := prog_2_method_10_code
def yX0_startAt : MethodName := ⟨RX0, "startAt", "(I)V"⟩
abbrev cX0_readOn : ByteArray := prog_2_method_11_code
def yX0_readOn : MethodName := ⟨RX0, "readOn", "(I)V"⟩
abbrev cX0_priceOf : ByteArray := prog_2_method_12_code
def yX0_priceOf : MethodName := ⟨RX0, "priceOf", "(LCallTowers$Tower;)I"⟩
abbrev cX0_fillBottom : ByteArray := prog_2_method_13_code
def yX0_fillBottom : MethodName := ⟨RX0, "fillBottom", "([I)V"⟩
abbrev cX0_stepsOver : ByteArray := prog_2_method_14_code
def yX0_stepsOver : MethodName := ⟨RX0, "stepsOver", "(II[II)I"⟩
abbrev cX0_stepsOverTwo : ByteArray := prog_2_method_15_code
def yX0_stepsOverTwo : MethodName := ⟨RX0, "stepsOverTwo", "(III[II)I"⟩
def RX1 : String := "CallTowers$Reach"
def TX1 : u_T := fun k => match k with
  | 0 => ("CallTowers$Reach", "falls", "[I", true)
  | 1 => ("CallTowers$Reach", "headSet", "I", false)
  | _ => ("CallTowers$Reach", "bottoms", "I", false)
def tyX1 : Nat → FieldType := fun k => match k with
  | 0 => .array .int
  | 1 => .int
  | _ => .int
abbrev wsX10 : List Cond := u_ws RX1 TX1 3
theorem nmX1 : ∀ a, a < 3 → ∀ b, b < 3 → a ≠ b → (TX1 a).2.1 ≠ (TX1 b).2.1 := by decide +kernel
theorem tyX1_ok : ∀ k, k < 3 → parseFieldDescriptor (TX1 k).2.2.1 = some (tyX1 k) := by decide +kernel
abbrev cX1_init : ByteArray := prog_3_method_1_code
def yX1_init : MethodName := ⟨RX1, "<init>", "()V"⟩
abbrev cX1_hasHead : ByteArray := prog_3_method_2_code
def yX1_hasHead : MethodName := ⟨RX1, "hasHead", "(II)Z"⟩
abbrev cX1_explore : ByteArray := prog_3_method_3_code
def yX1_explore : MethodName := ⟨RX1, "explore", "(LCallTowers$Tower;)V"⟩
abbrev cX1_settleFalls : ByteArray := prog_3_method_4_code
def yX1_settleFalls : MethodName := ⟨RX1, "settleFalls", "(LCallTowers$Tower;)V"⟩
abbrev cX1_afterWord : ByteArray := prog_3_method_5_code
def yX1_afterWord : MethodName := ⟨RX1, "afterWord", "(II)I"⟩
abbrev cX1_afterLetter : ByteArray := prog_3_method_6_code
def yX1_afterLetter : MethodName := ⟨RX1, "afterLetter", "(II)I"⟩
abbrev cX1_descend : ByteArray := prog_3_method_7_code
def yX1_descend : MethodName := ⟨RX1, "descend", "(LCallTowers$Tower;)V"⟩
abbrev cX1_headsOf : ByteArray := prog_3_method_8_code
def yX1_headsOf : MethodName := ⟨RX1, "headsOf", "(II)I"⟩
abbrev cX1_spread : ByteArray := prog_3_method_9_code
def yX1_spread : MethodName := ⟨RX1, "spread", "(LCallTowers$Tower;)Z"⟩
def RX2 : String := "CallTowers$Route"
def TX2 : u_T := fun k => match k with
  | 0 => ("CallTowers$Route", "letters", "[I", true)
  | 1 => ("CallTowers$Route", "tails", "[I", true)
  | 2 => ("CallTowers$Route", "height", "I", false)
  | 3 => ("CallTowers$Route", "state", "I", false)
  | 4 => ("CallTowers$Route", "left", "I", false)
  | 5 => ("CallTowers$Route", "latest", "I", false)
  | _ => ("CallTowers$Route", "done", "I", false)
def tyX2 : Nat → FieldType := fun k => match k with
  | 0 => .array .int
  | 1 => .array .int
  | 2 => .int
  | 3 => .int
  | 4 => .int
  | 5 => .int
  | _ => .int
abbrev wsX20 : List Cond := u_ws RX2 TX2 7
theorem nmX2 : ∀ a, a < 7 → ∀ b, b < 7 → a ≠ b → (TX2 a).2.1 ≠ (TX2 b).2.1 := by decide +kernel
theorem tyX2_ok : ∀ k, k < 7 → parseFieldDescriptor (TX2 k).2.2.1 = some (tyX2 k) := by decide +kernel
abbrev cX2_init : ByteArray := prog_4_method_1_code
def yX2_init : MethodName := ⟨RX2, "<init>", "()V"⟩
abbrev cX2_begin : ByteArray := prog_4_method_2_code
def yX2_begin : MethodName := ⟨RX2, "begin", "(LCallTowers$Tower;LCallTowers$Net;)V"⟩
abbrev cX2_fillTail : ByteArray := prog_4_method_3_code
def yX2_fillTail : MethodName := ⟨RX2, "fillTail", "(ILCallTowers$Net;)V"⟩
abbrev cX2_steps : ByteArray := prog_4_method_4_code
def yX2_steps : MethodName := ⟨RX2, "steps", "()I"⟩
abbrev cX2_ruleAt : ByteArray := prog_4_method_5_code
def yX2_ruleAt : MethodName := ⟨RX2, "ruleAt", "(ILCallTowers$Tower;LCallTowers$Net;)I"⟩
abbrev cX2_advance : ByteArray := prog_4_method_6_code
def yX2_advance : MethodName := ⟨RX2, "advance", "(LCallTowers$Tower;LCallTowers$Net;)I"⟩
abbrev cX2_stepsAfter : ByteArray := prog_4_method_7_code
def yX2_stepsAfter : MethodName := ⟨RX2, "stepsAfter", "(IILCallTowers$Net;)I"⟩
abbrev cX2_replaceTop : ByteArray := prog_4_method_8_code
def yX2_replaceTop : MethodName := ⟨RX2, "replaceTop", "(ILCallTowers$Net;)V"⟩
def RX3 : String := "CallTowers$Script"
def TX3 : u_T := fun k => match k with
  | 0 => ("CallTowers$Script", "signs", "[C", true)
  | 1 => ("CallTowers$Script", "length", "I", false)
  | 2 => ("CallTowers$Script", "at", "I", false)
  | _ => ("CallTowers$Script", "letters", "[I", true)
def tyX3 : Nat → FieldType := fun k => match k with
  | 0 => .array .char
  | 1 => .int
  | 2 => .int
  | _ => .array .int
abbrev wsX30 : List Cond := u_ws RX3 TX3 4
theorem nmX3 : ∀ a, a < 4 → ∀ b, b < 4 → a ≠ b → (TX3 a).2.1 ≠ (TX3 b).2.1 := by decide +kernel
theorem tyX3_ok : ∀ k, k < 4 → parseFieldDescriptor (TX3 k).2.2.1 = some (tyX3 k) := by decide +kernel
abbrev cX3_init : ByteArray := prog_5_method_1_code
def yX3_init : MethodName := ⟨RX3, "<init>", "()V"⟩
abbrev cX3_append : ByteArray := prog_5_method_2_code
def yX3_append : MethodName := ⟨RX3, "append", "(C)Z"⟩
abbrev cX3_clear : ByteArray := prog_5_method_3_code
def yX3_clear : MethodName := ⟨RX3, "clear", "()V"⟩
abbrev cX3_readInto : ByteArray := prog_5_method_4_code
def yX3_readInto : MethodName := ⟨RX3, "readInto", "(LCallTowers$Tower;)I"⟩
abbrev cX3_readItem : ByteArray := prog_5_method_5_code
def yX3_readItem : MethodName := ⟨RX3, "readItem", "(LCallTowers$Tower;Z)Z"⟩
abbrev cX3_readStates : ByteArray := prog_5_method_6_code
def yX3_readStates : MethodName := ⟨RX3, "readStates", "(LCallTowers$Tower;)Z"⟩
abbrev cX3_readRule : ByteArray := prog_5_method_7_code
def yX3_readRule : MethodName := ⟨RX3, "readRule", "(LCallTowers$Tower;)Z"⟩
abbrev cX3_readTarget : ByteArray := prog_5_method_8_code
def yX3_readTarget : MethodName := ⟨RX3, "readTarget", "(LCallTowers$Tower;)Z"⟩
abbrev cX3_readConfiguration : ByteArray := prog_5_method_9_code
def yX3_readConfiguration : MethodName := ⟨RX3, "readConfiguration", "(LCallTowers$Tower;)Z"⟩
abbrev cX3_readMode : ByteArray := prog_5_method_10_code
def yX3_readMode : MethodName := ⟨RX3, "readMode", "(LCallTowers$Tower;)Z"⟩
abbrev cX3_readSign : ByteArray := prog_5_method_11_code
def yX3_readSign : MethodName := ⟨RX3, "readSign", "(C)Z"⟩
abbrev cX3_readDigit : ByteArray := prog_5_method_12_code
def yX3_readDigit : MethodName := ⟨RX3, "readDigit", "(I)I"⟩
abbrev cX3_readLetter : ByteArray := prog_5_method_13_code
def yX3_readLetter : MethodName := ⟨RX3, "readLetter", "()I"⟩
abbrev cX3_readWord : ByteArray := prog_5_method_14_code
def yX3_readWord : MethodName := ⟨RX3, "readWord", "(I)I"⟩
abbrev cX3_wordFrom : ByteArray := prog_5_method_15_code
def yX3_wordFrom : MethodName := ⟨RX3, "wordFrom", "(I)I"⟩
def RX4 : String := "CallTowers$Tower"
def TX4 : u_T := fun k => match k with
  | 0 => ("CallTowers$Tower", "states", "I", false)
  | 1 => ("CallTowers$Tower", "rules", "I", false)
  | 2 => ("CallTowers$Tower", "from", "[I", true)
  | 3 => ("CallTowers$Tower", "top", "[I", true)
  | 4 => ("CallTowers$Tower", "into", "[I", true)
  | 5 => ("CallTowers$Tower", "word", "[I", true)
  | 6 => ("CallTowers$Tower", "cost", "[I", true)
  | 7 => ("CallTowers$Tower", "targets", "I", false)
  | 8 => ("CallTowers$Tower", "targetState", "[I", true)
  | 9 => ("CallTowers$Tower", "targetLength", "[I", true)
  | 10 => ("CallTowers$Tower", "targetOpen", "[Z", true)
  | 11 => ("CallTowers$Tower", "targetWord", "[I", true)
  | 12 => ("CallTowers$Tower", "mode", "I", false)
  | 13 => ("CallTowers$Tower", "state", "I", false)
  | 14 => ("CallTowers$Tower", "height", "I", false)
  | _ => ("CallTowers$Tower", "stack", "[I", true)
def tyX4 : Nat → FieldType := fun k => match k with
  | 0 => .int
  | 1 => .int
  | 2 => .array .int
  | 3 => .array .int
  | 4 => .array .int
  | 5 => .array .int
  | 6 => .array .int
  | 7 => .int
  | 8 => .array .int
  | 9 => .array .int
  | 10 => .array .boolean
  | 11 => .array .int
  | 12 => .int
  | 13 => .int
  | 14 => .int
  | _ => .array .int
abbrev wsX40 : List Cond := u_ws RX4 TX4 16
theorem nmX4 : ∀ a, a < 16 → ∀ b, b < 16 → a ≠ b → (TX4 a).2.1 ≠ (TX4 b).2.1 := by decide +kernel
theorem tyX4_ok : ∀ k, k < 16 → parseFieldDescriptor (TX4 k).2.2.1 = some (tyX4 k) := by decide +kernel
abbrev cX4_init : ByteArray := prog_6_method_1_code
def yX4_init : MethodName := ⟨RX4, "<init>", "()V"⟩
abbrev cX4_clear : ByteArray := prog_6_method_2_code
def yX4_clear : MethodName := ⟨RX4, "clear", "()V"⟩
abbrev cX4_copyFrom : ByteArray := prog_6_method_3_code
def yX4_copyFrom : MethodName := ⟨RX4, "copyFrom", "(LCallTowers$Tower;)V"⟩
abbrev cX4_addRule : ByteArray := prog_6_method_4_code
def yX4_addRule : MethodName := ⟨RX4, "addRule", "(IIIII)Z"⟩
abbrev cX4_removeRule : ByteArray := prog_6_method_5_code
def yX4_removeRule : MethodName := ⟨RX4, "removeRule", "(I)V"⟩
abbrev cX4_addTarget : ByteArray := prog_6_method_6_code
def yX4_addTarget : MethodName := ⟨RX4, "addTarget", "(I[IIZ)Z"⟩
abbrev cX4_putLetter : ByteArray := prog_6_method_7_code
def yX4_putLetter : MethodName := ⟨RX4, "putLetter", "(I)V"⟩
abbrev cX4_takeLetter : ByteArray := prog_6_method_8_code
def yX4_takeLetter : MethodName := ⟨RX4, "takeLetter", "()I"⟩
abbrev cX4_rulesFor : ByteArray := prog_6_method_9_code
def yX4_rulesFor : MethodName := ⟨RX4, "rulesFor", "(II)I"⟩
abbrev cX4_applies : ByteArray := prog_6_method_10_code
def yX4_applies : MethodName := ⟨RX4, "applies", "(I)Z"⟩
abbrev cX4_heightAfter : ByteArray := prog_6_method_11_code
def yX4_heightAfter : MethodName := ⟨RX4, "heightAfter", "(I)I"⟩
abbrev cX4_apply : ByteArray := prog_6_method_12_code
def yX4_apply : MethodName := ⟨RX4, "apply", "(I)V"⟩
abbrev cX4_choose : ByteArray := prog_6_method_13_code
def yX4_choose : MethodName := ⟨RX4, "choose", "(I)I"⟩
def RX5 : String := "CallTowers"
def TX5 : u_T := fun k => match k with
  | 0 => ("CallTowers", "script", "LCallTowers$Script;", true)
  | 1 => ("CallTowers", "now", "LCallTowers$Tower;", true)
  | 2 => ("CallTowers", "draft", "LCallTowers$Tower;", true)
  | 3 => ("CallTowers", "past", "[LCallTowers$Tower;", true)
  | 4 => ("CallTowers", "pastNext", "I", false)
  | 5 => ("CallTowers", "pastCount", "I", false)
  | 6 => ("CallTowers", "saved", "[LCallTowers$Tower;", true)
  | 7 => ("CallTowers", "savedCount", "I", false)
  | 8 => ("CallTowers", "net", "LCallTowers$Net;", true)
  | 9 => ("CallTowers", "netFresh", "Z", false)
  | 10 => ("CallTowers", "paces", "LCallTowers$Net;", true)
  | 11 => ("CallTowers", "pacesFresh", "Z", false)
  | 12 => ("CallTowers", "trial", "LCallTowers$Net;", true)
  | 13 => ("CallTowers", "route", "LCallTowers$Route;", true)
  | 14 => ("CallTowers", "routeFresh", "Z", false)
  | _ => ("CallTowers", "reach", "LCallTowers$Reach;", true)
def tyX5 : Nat → FieldType := fun k => match k with
  | 0 => .object "CallTowers$Script"
  | 1 => .object "CallTowers$Tower"
  | 2 => .object "CallTowers$Tower"
  | 3 => .array (.object "CallTowers$Tower")
  | 4 => .int
  | 5 => .int
  | 6 => .array (.object "CallTowers$Tower")
  | 7 => .int
  | 8 => .object "CallTowers$Net"
  | 9 => .boolean
  | 10 => .object "CallTowers$Net"
  | 11 => .boolean
  | 12 => .object "CallTowers$Net"
  | 13 => .object "CallTowers$Route"
  | 14 => .boolean
  | _ => .object "CallTowers$Reach"
abbrev wsX50 : List Cond := u_ws RX5 TX5 16
theorem nmX5 : ∀ a, a < 16 → ∀ b, b < 16 → a ≠ b → (TX5 a).2.1 ≠ (TX5 b).2.1 := by decide +kernel
theorem tyX5_ok : ∀ k, k < 16 → parseFieldDescriptor (TX5 k).2.2.1 = some (tyX5 k) := by decide +kernel
abbrev cX5_init : ByteArray := prog_1_method_1_code
def yX5_init : MethodName := ⟨RX5, "<init>", "()V"⟩
abbrev cX5_write : ByteArray := prog_1_method_2_code
def yX5_write : MethodName := ⟨RX5, "write", "(I)I"⟩
abbrev cX5_wipe : ByteArray := prog_1_method_3_code
def yX5_wipe : MethodName := ⟨RX5, "wipe", "()I"⟩
abbrev cX5_fault : ByteArray := prog_1_method_4_code
def yX5_fault : MethodName := ⟨RX5, "fault", "()I"⟩
abbrev cX5_lay : ByteArray := prog_1_method_5_code
def yX5_lay : MethodName := ⟨RX5, "lay", "()I"⟩
abbrev cX5_rule : ByteArray := prog_1_method_6_code
def yX5_rule : MethodName := ⟨RX5, "rule", "(II)I"⟩
abbrev cX5_target : ByteArray := prog_1_method_7_code
def yX5_target : MethodName := ⟨RX5, "target", "(II)I"⟩
abbrev cX5_stack : ByteArray := prog_1_method_8_code
def yX5_stack : MethodName := ⟨RX5, "stack", "(I)I"⟩
abbrev cX5_push : ByteArray := prog_1_method_9_code
def yX5_push : MethodName := ⟨RX5, "push", "(I)I"⟩
abbrev cX5_pop : ByteArray := prog_1_method_10_code
def yX5_pop : MethodName := ⟨RX5, "pop", "()I"⟩
abbrev cX5_step : ByteArray := prog_1_method_11_code
def yX5_step : MethodName := ⟨RX5, "step", "(I)I"⟩
abbrev cX5_go : ByteArray := prog_1_method_12_code
def yX5_go : MethodName := ⟨RX5, "go", "(I)I"⟩
abbrev cX5_enter : ByteArray := prog_1_method_13_code
def yX5_enter : MethodName := ⟨RX5, "enter", "(IIIII)I"⟩
abbrev cX5_drop : ByteArray := prog_1_method_14_code
def yX5_drop : MethodName := ⟨RX5, "drop", "(I)I"⟩
abbrev cX5_weigh : ByteArray := prog_1_method_15_code
def yX5_weigh : MethodName := ⟨RX5, "weigh", "(II)I"⟩
abbrev cX5_mode : ByteArray := prog_1_method_16_code
def yX5_mode : MethodName := ⟨RX5, "mode", "(I)I"⟩
abbrev cX5_undo : ByteArray := prog_1_method_17_code
def yX5_undo : MethodName := ⟨RX5, "undo", "()I"⟩
abbrev cX5_price : ByteArray := prog_1_method_18_code
def yX5_price : MethodName := ⟨RX5, "price", "()I"⟩
abbrev cX5_run : ByteArray := prog_1_method_19_code
def yX5_run : MethodName := ⟨RX5, "run", "(I)I"⟩
abbrev cX5_heads : ByteArray := prog_1_method_20_code
def yX5_heads : MethodName := ⟨RX5, "heads", "(II)I"⟩
abbrev cX5_empty : ByteArray := prog_1_method_21_code
def yX5_empty : MethodName := ⟨RX5, "empty", "(I)I"⟩
abbrev cX5_stuck : ByteArray := prog_1_method_22_code
def yX5_stuck : MethodName := ⟨RX5, "stuck", "()I"⟩
abbrev cX5_edge : ByteArray := prog_1_method_23_code
def yX5_edge : MethodName := ⟨RX5, "edge", "(III)I"⟩
abbrev cX5_automaton : ByteArray := prog_1_method_24_code
def yX5_automaton : MethodName := ⟨RX5, "automaton", "(I)I"⟩
abbrev cX5_needed : ByteArray := prog_1_method_25_code
def yX5_needed : MethodName := ⟨RX5, "needed", "()I"⟩
abbrev cX5_dear : ByteArray := prog_1_method_26_code
def yX5_dear : MethodName := ⟨RX5, "dear", "(I)I"⟩
abbrev cX5_walk : ByteArray := prog_1_method_27_code
def yX5_walk : MethodName := ⟨RX5, "walk", "(III)I"⟩
abbrev cX5_keep : ByteArray := prog_1_method_28_code
def yX5_keep : MethodName := ⟨RX5, "keep", "()I"⟩
abbrev cX5_back : ByteArray := prog_1_method_29_code
def yX5_back : MethodName := ⟨RX5, "back", "()I"⟩
abbrev cX5_count : ByteArray := prog_1_method_30_code
def yX5_count : MethodName := ⟨RX5, "count", "(I)I"⟩
abbrev cX5_isState : ByteArray := prog_1_method_31_code
def yX5_isState : MethodName := ⟨RX5, "isState", "(I)Z"⟩
abbrev cX5_isRule : ByteArray := prog_1_method_32_code
def yX5_isRule : MethodName := ⟨RX5, "isRule", "(I)Z"⟩
abbrev cX5_isLetter : ByteArray := prog_1_method_33_code
def yX5_isLetter : MethodName := ⟨RX5, "isLetter", "(I)Z"⟩
abbrev cX5_isCost : ByteArray := prog_1_method_34_code
def yX5_isCost : MethodName := ⟨RX5, "isCost", "(I)Z"⟩
abbrev cX5_remember : ByteArray := prog_1_method_35_code
def yX5_remember : MethodName := ⟨RX5, "remember", "()V"⟩
abbrev cX5_noteNewRules : ByteArray := prog_1_method_36_code
def yX5_noteNewRules : MethodName := ⟨RX5, "noteNewRules", "()V"⟩
abbrev cX5_renewNet : ByteArray := prog_1_method_37_code
def yX5_renewNet : MethodName := ⟨RX5, "renewNet", "()V"⟩
abbrev cX5_renewRoute : ByteArray := prog_1_method_38_code
def yX5_renewRoute : MethodName := ⟨RX5, "renewRoute", "()V"⟩
abbrev cX5_priceWith : ByteArray := prog_1_method_39_code
def yX5_priceWith : MethodName := ⟨RX5, "priceWith", "(II)I"⟩
abbrev cX5_drawn : ByteArray := prog_1_method_40_code
def yX5_drawn : MethodName := ⟨RX5, "drawn", "(II)I"⟩
abbrev cX5_wordOf : ByteArray := prog_1_method_41_code
def yX5_wordOf : MethodName := ⟨RX5, "wordOf", "(II)I"⟩
abbrev cX5_lettersIn : ByteArray := prog_1_method_42_code
def yX5_lettersIn : MethodName := ⟨RX5, "lettersIn", "(I)I"⟩
abbrev cX5_firstLetter : ByteArray := prog_1_method_43_code
def yX5_firstLetter : MethodName := ⟨RX5, "firstLetter", "(I)I"⟩
abbrev cX5_secondLetter : ByteArray := prog_1_method_44_code
def yX5_secondLetter : MethodName := ⟨RX5, "secondLetter", "(I)I"⟩
abbrev cX5_edgeAt : ByteArray := prog_1_method_45_code
def yX5_edgeAt : MethodName := ⟨RX5, "edgeAt", "(III)I"⟩
def RX6 : String := "CallTowersModel"
def TX6 : u_T := fun k => match k with
  | 0 => ("CallTowersModel", "states", "I", false)
  | 1 => ("CallTowersModel", "many", "I", false)
  | 2 => ("CallTowersModel", "rule", "[I", true)
  | 3 => ("CallTowersModel", "targets", "I", false)
  | 4 => ("CallTowersModel", "target", "[I", true)
  | 5 => ("CallTowersModel", "state", "I", false)
  | 6 => ("CallTowersModel", "high", "I", false)
  | 7 => ("CallTowersModel", "pile", "[I", true)
  | 8 => ("CallTowersModel", "mode", "I", false)
  | 9 => ("CallTowersModel", "undos", "I", false)
  | 10 => ("CallTowersModel", "undone", "[I", true)
  | 11 => ("CallTowersModel", "kepts", "I", false)
  | 12 => ("CallTowersModel", "kept", "[I", true)
  | 13 => ("CallTowersModel", "weight", "[I", true)
  | 14 => ("CallTowersModel", "ahead", "[I", true)
  | 15 => ("CallTowersModel", "nodes", "I", false)
  | 16 => ("CallTowersModel", "begun", "I", false)
  | 17 => ("CallTowersModel", "rounds", "I", false)
  | 18 => ("CallTowersModel", "reach", "[I", true)
  | 19 => ("CallTowersModel", "reachThen", "[I", true)
  | 20 => ("CallTowersModel", "tower", "[I", true)
  | 21 => ("CallTowersModel", "togo", "[I", true)
  | 22 => ("CallTowersModel", "tall", "I", false)
  | 23 => ("CallTowersModel", "above", "[I", true)
  | 24 => ("CallTowersModel", "aboveThen", "[I", true)
  | 25 => ("CallTowersModel", "pops", "[I", true)
  | 26 => ("CallTowersModel", "head", "[I", true)
  | 27 => ("CallTowersModel", "bare", "[I", true)
  | 28 => ("CallTowersModel", "before", "[I", true)
  | 29 => ("CallTowersModel", "text", "[I", true)
  | 30 => ("CallTowersModel", "size", "I", false)
  | 31 => ("CallTowersModel", "readAt", "I", false)
  | 32 => ("CallTowersModel", "readValue", "I", false)
  | 33 => ("CallTowersModel", "wordLong", "I", false)
  | 34 => ("CallTowersModel", "readWord", "[I", true)
  | 35 => ("CallTowersModel", "textStates", "I", false)
  | 36 => ("CallTowersModel", "textRules", "I", false)
  | _ => ("CallTowersModel", "textTargets", "I", false)
def tyX6 : Nat → FieldType := fun k => match k with
  | 0 => .int
  | 1 => .int
  | 2 => .array .int
  | 3 => .int
  | 4 => .array .int
  | 5 => .int
  | 6 => .int
  | 7 => .array .int
  | 8 => .int
  | 9 => .int
  | 10 => .array .int
  | 11 => .int
  | 12 => .array .int
  | 13 => .array .int
  | 14 => .array .int
  | 15 => .int
  | 16 => .int
  | 17 => .int
  | 18 => .array .int
  | 19 => .array .int
  | 20 => .array .int
  | 21 => .array .int
  | 22 => .int
  | 23 => .array .int
  | 24 => .array .int
  | 25 => .array .int
  | 26 => .array .int
  | 27 => .array .int
  | 28 => .array .int
  | 29 => .array .int
  | 30 => .int
  | 31 => .int
  | 32 => .int
  | 33 => .int
  | 34 => .array .int
  | 35 => .int
  | 36 => .int
  | _ => .int
abbrev wsX60 : List Cond := u_ws RX6 TX6 38
theorem nmX6 : ∀ a, a < 38 → ∀ b, b < 38 → a ≠ b → (TX6 a).2.1 ≠ (TX6 b).2.1 := by decide +kernel
theorem tyX6_ok : ∀ k, k < 38 → parseFieldDescriptor (TX6 k).2.2.1 = some (tyX6 k) := by decide +kernel
abbrev cX6_init : ByteArray := prog_8_method_1_code
def yX6_init : MethodName := ⟨RX6, "<init>", "()V"⟩
abbrev cX6_in : ByteArray := prog_8_method_2_code
def yX6_in : MethodName := ⟨RX6, "in", "(III)Z"⟩
abbrev cX6_writes : ByteArray := prog_8_method_3_code
def yX6_writes : MethodName := ⟨RX6, "writes", "([II)V"⟩
abbrev cX6_readsBack : ByteArray := prog_8_method_4_code
def yX6_readsBack : MethodName := ⟨RX6, "readsBack", "([II)V"⟩
abbrev cX6_notes : ByteArray := prog_8_method_5_code
def yX6_notes : MethodName := ⟨RX6, "notes", "()V"⟩
abbrev cX6_undo : ByteArray := prog_8_method_6_code
def yX6_undo : MethodName := ⟨RX6, "undo", "()I"⟩
abbrev cX6_keep : ByteArray := prog_8_method_7_code
def yX6_keep : MethodName := ⟨RX6, "keep", "()I"⟩
abbrev cX6_back : ByteArray := prog_8_method_8_code
def yX6_back : MethodName := ⟨RX6, "back", "()I"⟩
abbrev cX6_isRule : ByteArray := prog_8_method_9_code
def yX6_isRule : MethodName := ⟨RX6, "isRule", "(I)Z"⟩
abbrev cX6_isState : ByteArray := prog_8_method_10_code
def yX6_isState : MethodName := ⟨RX6, "isState", "(I)Z"⟩
abbrev cX6_isLetter : ByteArray := prog_8_method_11_code
def yX6_isLetter : MethodName := ⟨RX6, "isLetter", "(I)Z"⟩
abbrev cX6_rule : ByteArray := prog_8_method_12_code
def yX6_rule : MethodName := ⟨RX6, "rule", "(II)I"⟩
abbrev cX6_target : ByteArray := prog_8_method_13_code
def yX6_target : MethodName := ⟨RX6, "target", "(II)I"⟩
abbrev cX6_stack : ByteArray := prog_8_method_14_code
def yX6_stack : MethodName := ⟨RX6, "stack", "(I)I"⟩
abbrev cX6_push : ByteArray := prog_8_method_15_code
def yX6_push : MethodName := ⟨RX6, "push", "(I)I"⟩
abbrev cX6_pop : ByteArray := prog_8_method_16_code
def yX6_pop : MethodName := ⟨RX6, "pop", "()I"⟩
abbrev cX6_fits : ByteArray := prog_8_method_17_code
def yX6_fits : MethodName := ⟨RX6, "fits", "(III)Z"⟩
abbrev cX6_steps : ByteArray := prog_8_method_18_code
def yX6_steps : MethodName := ⟨RX6, "steps", "(I)V"⟩
abbrev cX6_step : ByteArray := prog_8_method_19_code
def yX6_step : MethodName := ⟨RX6, "step", "(I)I"⟩
abbrev cX6_go : ByteArray := prog_8_method_20_code
def yX6_go : MethodName := ⟨RX6, "go", "(I)I"⟩
abbrev cX6_enters : ByteArray := prog_8_method_21_code
def yX6_enters : MethodName := ⟨RX6, "enters", "(IIIII)V"⟩
abbrev cX6_enter : ByteArray := prog_8_method_22_code
def yX6_enter : MethodName := ⟨RX6, "enter", "(IIIII)I"⟩
abbrev cX6_drop : ByteArray := prog_8_method_23_code
def yX6_drop : MethodName := ⟨RX6, "drop", "(I)I"⟩
abbrev cX6_weigh : ByteArray := prog_8_method_24_code
def yX6_weigh : MethodName := ⟨RX6, "weigh", "(II)I"⟩
abbrev cX6_mode : ByteArray := prog_8_method_25_code
def yX6_mode : MethodName := ⟨RX6, "mode", "(I)I"⟩
abbrev cX6_place : ByteArray := prog_8_method_26_code
def yX6_place : MethodName := ⟨RX6, "place", "(III)I"⟩
abbrev cX6_targetEdges : ByteArray := prog_8_method_27_code
def yX6_targetEdges : MethodName := ⟨RX6, "targetEdges", "(I)V"⟩
abbrev cX6_edges : ByteArray := prog_8_method_28_code
def yX6_edges : MethodName := ⟨RX6, "edges", "()I"⟩
abbrev cX6_begins : ByteArray := prog_8_method_29_code
def yX6_begins : MethodName := ⟨RX6, "begins", "()V"⟩
abbrev cX6_made : ByteArray := prog_8_method_30_code
def yX6_made : MethodName := ⟨RX6, "made", "(III)I"⟩
abbrev cX6_lesser : ByteArray := prog_8_method_31_code
def yX6_lesser : MethodName := ⟨RX6, "lesser", "(II)I"⟩
abbrev cX6_reads : ByteArray := prog_8_method_32_code
def yX6_reads : MethodName := ⟨RX6, "reads", "(II)V"⟩
abbrev cX6_standsAt : ByteArray := prog_8_method_33_code
def yX6_standsAt : MethodName := ⟨RX6, "standsAt", "(I)V"⟩
abbrev cX6_roundBy : ByteArray := prog_8_method_34_code
def yX6_roundBy : MethodName := ⟨RX6, "roundBy", "(III)Z"⟩
abbrev cX6_grows : ByteArray := prog_8_method_35_code
def yX6_grows : MethodName := ⟨RX6, "grows", "(II)V"⟩
abbrev cX6_isEnd : ByteArray := prog_8_method_36_code
def yX6_isEnd : MethodName := ⟨RX6, "isEnd", "(I)Z"⟩
abbrev cX6_least : ByteArray := prog_8_method_37_code
def yX6_least : MethodName := ⟨RX6, "least", "(I)I"⟩
abbrev cX6_priceWithout : ByteArray := prog_8_method_38_code
def yX6_priceWithout : MethodName := ⟨RX6, "priceWithout", "(I)I"⟩
abbrev cX6_price : ByteArray := prog_8_method_39_code
def yX6_price : MethodName := ⟨RX6, "price", "()I"⟩
abbrev cX6_edge : ByteArray := prog_8_method_40_code
def yX6_edge : MethodName := ⟨RX6, "edge", "(III)I"⟩
abbrev cX6_automaton : ByteArray := prog_8_method_41_code
def yX6_automaton : MethodName := ⟨RX6, "automaton", "(I)I"⟩
abbrev cX6_needed : ByteArray := prog_8_method_42_code
def yX6_needed : MethodName := ⟨RX6, "needed", "()I"⟩
abbrev cX6_dear : ByteArray := prog_8_method_43_code
def yX6_dear : MethodName := ⟨RX6, "dear", "(I)I"⟩
abbrev cX6_goesBy : ByteArray := prog_8_method_44_code
def yX6_goesBy : MethodName := ⟨RX6, "goesBy", "(I)V"⟩
abbrev cX6_standsOn : ByteArray := prog_8_method_45_code
def yX6_standsOn : MethodName := ⟨RX6, "standsOn", "(I)V"⟩
abbrev cX6_puts : ByteArray := prog_8_method_46_code
def yX6_puts : MethodName := ⟨RX6, "puts", "(I)V"⟩
abbrev cX6_behind : ByteArray := prog_8_method_47_code
def yX6_behind : MethodName := ⟨RX6, "behind", "(I)I"⟩
abbrev cX6_towerBegins : ByteArray := prog_8_method_48_code
def yX6_towerBegins : MethodName := ⟨RX6, "towerBegins", "()V"⟩
abbrev cX6_ruleOn : ByteArray := prog_8_method_49_code
def yX6_ruleOn : MethodName := ⟨RX6, "ruleOn", "(II)I"⟩
abbrev cX6_towerSteps : ByteArray := prog_8_method_50_code
def yX6_towerSteps : MethodName := ⟨RX6, "towerSteps", "(I)V"⟩
abbrev cX6_run : ByteArray := prog_8_method_51_code
def yX6_run : MethodName := ⟨RX6, "run", "(I)I"⟩
abbrev cX6_popsBy : ByteArray := prog_8_method_52_code
def yX6_popsBy : MethodName := ⟨RX6, "popsBy", "(III)I"⟩
abbrev cX6_isGone : ByteArray := prog_8_method_53_code
def yX6_isGone : MethodName := ⟨RX6, "isGone", "(II)Z"⟩
abbrev cX6_setPops : ByteArray := prog_8_method_54_code
def yX6_setPops : MethodName := ⟨RX6, "setPops", "()V"⟩
abbrev cX6_headsOfPile : ByteArray := prog_8_method_55_code
def yX6_headsOfPile : MethodName := ⟨RX6, "headsOfPile", "()V"⟩
abbrev cX6_headMany : ByteArray := prog_8_method_56_code
def yX6_headMany : MethodName := ⟨RX6, "headMany", "()I"⟩
abbrev cX6_headsOf : ByteArray := prog_8_method_57_code
def yX6_headsOf : MethodName := ⟨RX6, "headsOf", "(I)V"⟩
abbrev cX6_setHeads : ByteArray := prog_8_method_58_code
def yX6_setHeads : MethodName := ⟨RX6, "setHeads", "()V"⟩
abbrev cX6_heads : ByteArray := prog_8_method_59_code
def yX6_heads : MethodName := ⟨RX6, "heads", "(II)I"⟩
abbrev cX6_empty : ByteArray := prog_8_method_60_code
def yX6_empty : MethodName := ⟨RX6, "empty", "(I)I"⟩
abbrev cX6_stuck : ByteArray := prog_8_method_61_code
def yX6_stuck : MethodName := ⟨RX6, "stuck", "()I"⟩
abbrev cX6_fitting : ByteArray := prog_8_method_62_code
def yX6_fitting : MethodName := ⟨RX6, "fitting", "()I"⟩
abbrev cX6_fittingAt : ByteArray := prog_8_method_63_code
def yX6_fittingAt : MethodName := ⟨RX6, "fittingAt", "(I)I"⟩
abbrev cX6_walks : ByteArray := prog_8_method_64_code
def yX6_walks : MethodName := ⟨RX6, "walks", "(II)Z"⟩
abbrev cX6_walk : ByteArray := prog_8_method_65_code
def yX6_walk : MethodName := ⟨RX6, "walk", "(III)I"⟩
abbrev cX6_write : ByteArray := prog_8_method_66_code
def yX6_write : MethodName := ⟨RX6, "write", "(I)I"⟩
abbrev cX6_wipe : ByteArray := prog_8_method_67_code
def yX6_wipe : MethodName := ⟨RX6, "wipe", "()I"⟩
abbrev cX6_sign : ByteArray := prog_8_method_68_code
def yX6_sign : MethodName := ⟨RX6, "sign", "(I)Z"⟩
abbrev cX6_figure : ByteArray := prog_8_method_69_code
def yX6_figure : MethodName := ⟨RX6, "figure", "(II)Z"⟩
abbrev cX6_isWordAt : ByteArray := prog_8_method_70_code
def yX6_isWordAt : MethodName := ⟨RX6, "isWordAt", "()Z"⟩
abbrev cX6_word : ByteArray := prog_8_method_71_code
def yX6_word : MethodName := ⟨RX6, "word", "(I)Z"⟩
abbrev cX6_readsStates : ByteArray := prog_8_method_72_code
def yX6_readsStates : MethodName := ⟨RX6, "readsStates", "(ZZ)Z"⟩
abbrev cX6_readsRule : ByteArray := prog_8_method_73_code
def yX6_readsRule : MethodName := ⟨RX6, "readsRule", "(Z)Z"⟩
abbrev cX6_readsTarget : ByteArray := prog_8_method_74_code
def yX6_readsTarget : MethodName := ⟨RX6, "readsTarget", "(Z)Z"⟩
abbrev cX6_readsConfiguration : ByteArray := prog_8_method_75_code
def yX6_readsConfiguration : MethodName := ⟨RX6, "readsConfiguration", "(Z)Z"⟩
abbrev cX6_readsItem : ByteArray := prog_8_method_76_code
def yX6_readsItem : MethodName := ⟨RX6, "readsItem", "(ZZ)Z"⟩
abbrev cX6_goesThrough : ByteArray := prog_8_method_77_code
def yX6_goesThrough : MethodName := ⟨RX6, "goesThrough", "(Z)I"⟩
abbrev cX6_fault : ByteArray := prog_8_method_78_code
def yX6_fault : MethodName := ⟨RX6, "fault", "()I"⟩
abbrev cX6_lay : ByteArray := prog_8_method_79_code
def yX6_lay : MethodName := ⟨RX6, "lay", "()I"⟩
abbrev cX6_count : ByteArray := prog_8_method_80_code
def yX6_count : MethodName := ⟨RX6, "count", "(I)I"⟩
def RJ6 : String := "java/lang/Integer"
def TJ6 : u_T := fun k => match k with
  | _ => ("", "", "", false)
def tyJ6 : Nat → FieldType := fun k => match k with
  | _ => .int
abbrev wsJ60 : List Cond := u_ws RJ6 TJ6 0
theorem nmJ6 : ∀ a, a < 0 → ∀ b, b < 0 → a ≠ b → (TJ6 a).2.1 ≠ (TJ6 b).2.1 := by decide +kernel
theorem tyJ6_ok : ∀ k, k < 0 → parseFieldDescriptor (TJ6 k).2.2.1 = some (tyJ6 k) := by decide +kernel
abbrev cJ6_bitCount_0f7a4 : ByteArray := prog_9_method_49_code
def yJ6_bitCount_0f7a4 : MethodName := ⟨RJ6, "bitCount", "(I)I"⟩
def RJ9 : String := "java/lang/Math"
def TJ9 : u_T := fun k => match k with
  | _ => ("", "", "", false)
def tyJ9 : Nat → FieldType := fun k => match k with
  | _ => .int
abbrev wsJ90 : List Cond := u_ws RJ9 TJ9 0
theorem nmJ9 : ∀ a, a < 0 → ∀ b, b < 0 → a ≠ b → (TJ9 a).2.1 ≠ (TJ9 b).2.1 := by decide +kernel
theorem tyJ9_ok : ∀ k, k < 0 → parseFieldDescriptor (TJ9 k).2.2.1 = some (tyJ9 k) := by decide +kernel
abbrev cJ9_max_7cf53 : ByteArray := prog_10_method_65_code
def yJ9_max_7cf53 : MethodName := ⟨RJ9, "max", "(II)I"⟩
abbrev cJ9_min_7cf53 : ByteArray := prog_10_method_69_code
def yJ9_min_7cf53 : MethodName := ⟨RJ9, "min", "(II)I"⟩
def RJ0 : String := "java/lang/String"
def TJ0 : u_T := fun k => match k with
  | _ => ("", "", "", false)
def tyJ0 : Nat → FieldType := fun k => match k with
  | _ => .int
abbrev wsJ00 : List Cond := u_ws RJ0 TJ0 0
theorem nmJ0 : ∀ a, a < 0 → ∀ b, b < 0 → a ≠ b → (TJ0 a).2.1 ≠ (TJ0 b).2.1 := by decide +kernel
theorem tyJ0_ok : ∀ k, k < 0 → parseFieldDescriptor (TJ0 k).2.2.1 = some (tyJ0 k) := by decide +kernel
abbrev cJ0_length_8abf5 : ByteArray := prog_11_method_54_code
def yJ0_length_8abf5 : MethodName := ⟨RJ0, "length", "()I"⟩
abbrev cJ0_charAt_5068e : ByteArray := prog_11_method_56_code
def yJ0_charAt_5068e : MethodName := ⟨RJ0, "charAt", "(I)C"⟩
abbrev cJ0_coder_7d493 : ByteArray := prog_11_method_152_code
def yJ0_coder_7d493 : MethodName := ⟨RJ0, "coder", "()B"⟩
abbrev cJ0_isLatin1_aae02 : ByteArray := prog_11_method_154_code
def yJ0_isLatin1_aae02 : MethodName := ⟨RJ0, "isLatin1", "()Z"⟩
abbrev cJ0_checkIndex_df160 : ByteArray := prog_11_method_155_code
def yJ0_checkIndex_df160 : MethodName := ⟨RJ0, "checkIndex", "(II)V"⟩
def RJ1 : String := "java/lang/StringLatin1"
def TJ1 : u_T := fun k => match k with
  | _ => ("", "", "", false)
def tyJ1 : Nat → FieldType := fun k => match k with
  | _ => .int
abbrev wsJ10 : List Cond := u_ws RJ1 TJ1 0
theorem nmJ1 : ∀ a, a < 0 → ∀ b, b < 0 → a ≠ b → (TJ1 a).2.1 ≠ (TJ1 b).2.1 := by decide +kernel
theorem tyJ1_ok : ∀ k, k < 0 → parseFieldDescriptor (TJ1 k).2.2.1 = some (tyJ1 k) := by decide +kernel
abbrev cJ1_charAt_3b067 : ByteArray := prog_12_method_2_code
def yJ1_charAt_3b067 : MethodName := ⟨RJ1, "charAt", "([BI)C"⟩
def RJ2 : String := "java/lang/StringUTF16"
def TJ2 : u_T := fun k => match k with
  | _ => ("", "", "", false)
def tyJ2 : Nat → FieldType := fun k => match k with
  | _ => .int
abbrev wsJ20 : List Cond := u_ws RJ2 TJ2 0
theorem nmJ2 : ∀ a, a < 0 → ∀ b, b < 0 → a ≠ b → (TJ2 a).2.1 ≠ (TJ2 b).2.1 := by decide +kernel
theorem tyJ2_ok : ∀ k, k < 0 → parseFieldDescriptor (TJ2 k).2.2.1 = some (tyJ2 k) := by decide +kernel
abbrev cJ2_getChar_3b067 : ByteArray := prog_13_method_5_code
def yJ2_getChar_3b067 : MethodName := ⟨RJ2, "getChar", "([BI)C"⟩
abbrev cJ2_length_9d52b : ByteArray := prog_13_method_6_code
def yJ2_length_9d52b : MethodName := ⟨RJ2, "length", "([B)I"⟩
abbrev cJ2_charAt_3b067 : ByteArray := prog_13_method_83_code
def yJ2_charAt_3b067 : MethodName := ⟨RJ2, "charAt", "([BI)C"⟩
abbrev cJ2_checkIndex_2214a : ByteArray := prog_13_method_91_code
def yJ2_checkIndex_2214a : MethodName := ⟨RJ2, "checkIndex", "(I[B)V"⟩
def RJ10 : String := "java/lang/System"
def TJ10 : u_T := fun k => match k with
  | _ => ("", "", "", false)
def tyJ10 : Nat → FieldType := fun k => match k with
  | _ => .int
abbrev wsJ100 : List Cond := u_ws RJ10 TJ10 0
theorem nmJ10 : ∀ a, a < 0 → ∀ b, b < 0 → a ≠ b → (TJ10 a).2.1 ≠ (TJ10 b).2.1 := by decide +kernel
theorem tyJ10_ok : ∀ k, k < 0 → parseFieldDescriptor (TJ10 k).2.2.1 = some (tyJ10 k) := by decide +kernel
def RJ3 : String := "jdk/internal/util/Preconditions"
def TJ3 : u_T := fun k => match k with
  | _ => ("", "", "", false)
def tyJ3 : Nat → FieldType := fun k => match k with
  | _ => .int
abbrev wsJ30 : List Cond := u_ws RJ3 TJ3 0
theorem nmJ3 : ∀ a, a < 0 → ∀ b, b < 0 → a ≠ b → (TJ3 a).2.1 ≠ (TJ3 b).2.1 := by decide +kernel
theorem tyJ3_ok : ∀ k, k < 0 → parseFieldDescriptor (TJ3 k).2.2.1 = some (tyJ3 k) := by decide +kernel
abbrev cJ3_checkIndex_8e157 : ByteArray := prog_15_method_11_code
def yJ3_checkIndex_8e157 : MethodName := ⟨RJ3, "checkIndex", "(IILjava/util/function/BiFunction;)I"⟩
def RL : String := "CallTowersLaw"
abbrev cL_law : ByteArray := code
def yL_law : MethodName := ⟨RL, "law", "([I)Z"⟩
theorem dJ6_bitCount_0f7a4_0 : decode cJ6_bitCount_0f7a4 0 = .ok (.iload_n 0, 1) := by decide +kernel
theorem dJ6_bitCount_0f7a4_1 : decode cJ6_bitCount_0f7a4 1 = .ok (.iload_n 0, 1) := by decide +kernel
theorem dJ6_bitCount_0f7a4_2 : decode cJ6_bitCount_0f7a4 2 = .ok (.iconst 1, 1) := by decide +kernel
theorem dJ6_bitCount_0f7a4_3 : decode cJ6_bitCount_0f7a4 3 = .ok (.iushr, 1) := by decide +kernel
theorem dJ6_bitCount_0f7a4_4 : decode cJ6_bitCount_0f7a4 4 = .ok (.ldc_w 265, 3) := by decide +kernel
theorem dJ6_bitCount_0f7a4_7 : decode cJ6_bitCount_0f7a4 7 = .ok (.iand, 1) := by decide +kernel
theorem dJ6_bitCount_0f7a4_8 : decode cJ6_bitCount_0f7a4 8 = .ok (.isub, 1) := by decide +kernel
theorem dJ6_bitCount_0f7a4_9 : decode cJ6_bitCount_0f7a4 9 = .ok (.istore_n 0, 1) := by decide +kernel
theorem dJ6_bitCount_0f7a4_10 : decode cJ6_bitCount_0f7a4 10 = .ok (.iload_n 0, 1) := by decide +kernel
theorem dJ6_bitCount_0f7a4_11 : decode cJ6_bitCount_0f7a4 11 = .ok (.ldc_w 266, 3) := by decide +kernel
theorem dJ6_bitCount_0f7a4_14 : decode cJ6_bitCount_0f7a4 14 = .ok (.iand, 1) := by decide +kernel
theorem dJ6_bitCount_0f7a4_15 : decode cJ6_bitCount_0f7a4 15 = .ok (.iload_n 0, 1) := by decide +kernel
theorem dJ6_bitCount_0f7a4_16 : decode cJ6_bitCount_0f7a4 16 = .ok (.iconst 2, 1) := by decide +kernel
theorem dJ6_bitCount_0f7a4_17 : decode cJ6_bitCount_0f7a4 17 = .ok (.iushr, 1) := by decide +kernel
theorem dJ6_bitCount_0f7a4_18 : decode cJ6_bitCount_0f7a4 18 = .ok (.ldc_w 266, 3) := by decide +kernel
theorem dJ6_bitCount_0f7a4_21 : decode cJ6_bitCount_0f7a4 21 = .ok (.iand, 1) := by decide +kernel
theorem dJ6_bitCount_0f7a4_22 : decode cJ6_bitCount_0f7a4 22 = .ok (.iadd, 1) := by decide +kernel
theorem dJ6_bitCount_0f7a4_23 : decode cJ6_bitCount_0f7a4 23 = .ok (.istore_n 0, 1) := by decide +kernel
theorem dJ6_bitCount_0f7a4_24 : decode cJ6_bitCount_0f7a4 24 = .ok (.iload_n 0, 1) := by decide +kernel
theorem dJ6_bitCount_0f7a4_25 : decode cJ6_bitCount_0f7a4 25 = .ok (.iload_n 0, 1) := by decide +kernel
theorem dJ6_bitCount_0f7a4_26 : decode cJ6_bitCount_0f7a4 26 = .ok (.iconst 4, 1) := by decide +kernel
theorem dJ6_bitCount_0f7a4_27 : decode cJ6_bitCount_0f7a4 27 = .ok (.iushr, 1) := by decide +kernel
theorem dJ6_bitCount_0f7a4_28 : decode cJ6_bitCount_0f7a4 28 = .ok (.iadd, 1) := by decide +kernel
theorem dJ6_bitCount_0f7a4_29 : decode cJ6_bitCount_0f7a4 29 = .ok (.ldc_w 267, 3) := by decide +kernel
theorem dJ6_bitCount_0f7a4_32 : decode cJ6_bitCount_0f7a4 32 = .ok (.iand, 1) := by decide +kernel
theorem dJ6_bitCount_0f7a4_33 : decode cJ6_bitCount_0f7a4 33 = .ok (.istore_n 0, 1) := by decide +kernel
theorem dJ6_bitCount_0f7a4_34 : decode cJ6_bitCount_0f7a4 34 = .ok (.iload_n 0, 1) := by decide +kernel
theorem dJ6_bitCount_0f7a4_35 : decode cJ6_bitCount_0f7a4 35 = .ok (.iload_n 0, 1) := by decide +kernel
theorem dJ6_bitCount_0f7a4_36 : decode cJ6_bitCount_0f7a4 36 = .ok (.bipush 8, 2) := by decide +kernel
theorem dJ6_bitCount_0f7a4_38 : decode cJ6_bitCount_0f7a4 38 = .ok (.iushr, 1) := by decide +kernel
theorem dJ6_bitCount_0f7a4_39 : decode cJ6_bitCount_0f7a4 39 = .ok (.iadd, 1) := by decide +kernel
theorem dJ6_bitCount_0f7a4_40 : decode cJ6_bitCount_0f7a4 40 = .ok (.istore_n 0, 1) := by decide +kernel
theorem dJ6_bitCount_0f7a4_41 : decode cJ6_bitCount_0f7a4 41 = .ok (.iload_n 0, 1) := by decide +kernel
theorem dJ6_bitCount_0f7a4_42 : decode cJ6_bitCount_0f7a4 42 = .ok (.iload_n 0, 1) := by decide +kernel
theorem dJ6_bitCount_0f7a4_43 : decode cJ6_bitCount_0f7a4 43 = .ok (.bipush 16, 2) := by decide +kernel
theorem dJ6_bitCount_0f7a4_45 : decode cJ6_bitCount_0f7a4 45 = .ok (.iushr, 1) := by decide +kernel
theorem dJ6_bitCount_0f7a4_46 : decode cJ6_bitCount_0f7a4 46 = .ok (.iadd, 1) := by decide +kernel
theorem dJ6_bitCount_0f7a4_47 : decode cJ6_bitCount_0f7a4 47 = .ok (.istore_n 0, 1) := by decide +kernel
theorem dJ6_bitCount_0f7a4_48 : decode cJ6_bitCount_0f7a4 48 = .ok (.iload_n 0, 1) := by decide +kernel
theorem dJ6_bitCount_0f7a4_49 : decode cJ6_bitCount_0f7a4 49 = .ok (.bipush 63, 2) := by decide +kernel
theorem dJ6_bitCount_0f7a4_51 : decode cJ6_bitCount_0f7a4 51 = .ok (.iand, 1) := by decide +kernel
theorem dJ6_bitCount_0f7a4_52 : decode cJ6_bitCount_0f7a4 52 = .ok (.ireturn, 1) := by decide +kernel
theorem dJ9_max_7cf53_0 : decode cJ9_max_7cf53 0 = .ok (.iload_n 0, 1) := by decide +kernel
theorem dJ9_max_7cf53_1 : decode cJ9_max_7cf53 1 = .ok (.iload_n 1, 1) := by decide +kernel
theorem dJ9_max_7cf53_2 : decode cJ9_max_7cf53 2 = .ok (.if_icmp .lt 7, 3) := by decide +kernel
theorem dJ9_max_7cf53_5 : decode cJ9_max_7cf53 5 = .ok (.iload_n 0, 1) := by decide +kernel
theorem dJ9_max_7cf53_6 : decode cJ9_max_7cf53 6 = .ok (.goto 4, 3) := by decide +kernel
theorem dJ9_max_7cf53_9 : decode cJ9_max_7cf53 9 = .ok (.iload_n 1, 1) := by decide +kernel
theorem dJ9_max_7cf53_10 : decode cJ9_max_7cf53 10 = .ok (.ireturn, 1) := by decide +kernel
theorem dJ9_min_7cf53_0 : decode cJ9_min_7cf53 0 = .ok (.iload_n 0, 1) := by decide +kernel
theorem dJ9_min_7cf53_1 : decode cJ9_min_7cf53 1 = .ok (.iload_n 1, 1) := by decide +kernel
theorem dJ9_min_7cf53_2 : decode cJ9_min_7cf53 2 = .ok (.if_icmp .gt 7, 3) := by decide +kernel
theorem dJ9_min_7cf53_5 : decode cJ9_min_7cf53 5 = .ok (.iload_n 0, 1) := by decide +kernel
theorem dJ9_min_7cf53_6 : decode cJ9_min_7cf53 6 = .ok (.goto 4, 3) := by decide +kernel
theorem dJ9_min_7cf53_9 : decode cJ9_min_7cf53 9 = .ok (.iload_n 1, 1) := by decide +kernel
theorem dJ9_min_7cf53_10 : decode cJ9_min_7cf53 10 = .ok (.ireturn, 1) := by decide +kernel
theorem dJ0_length_8abf5_0 : decode cJ0_length_8abf5 0 = .ok (.aload_n 0, 1) := by decide +kernel
theorem dJ0_length_8abf5_1 : decode cJ0_length_8abf5 1 = .ok (.getfield 9, 3) := by decide +kernel
theorem dJ0_length_8abf5_4 : decode cJ0_length_8abf5 4 = .ok (.arraylength, 1) := by decide +kernel
theorem dJ0_length_8abf5_5 : decode cJ0_length_8abf5 5 = .ok (.aload_n 0, 1) := by decide +kernel
theorem dJ0_length_8abf5_6 : decode cJ0_length_8abf5 6 = .ok (.invokevirtual 335, 3) := by decide +kernel
theorem dJ0_length_8abf5_9 : decode cJ0_length_8abf5 9 = .ok (.ishr, 1) := by decide +kernel
theorem dJ0_length_8abf5_10 : decode cJ0_length_8abf5 10 = .ok (.ireturn, 1) := by decide +kernel
theorem dJ0_charAt_5068e_0 : decode cJ0_charAt_5068e 0 = .ok (.aload_n 0, 1) := by decide +kernel
theorem dJ0_charAt_5068e_1 : decode cJ0_charAt_5068e 1 = .ok (.invokevirtual 492, 3) := by decide +kernel
theorem dJ0_charAt_5068e_4 : decode cJ0_charAt_5068e 4 = .ok (.ifCond .eq 12, 3) := by decide +kernel
theorem dJ0_charAt_5068e_7 : decode cJ0_charAt_5068e 7 = .ok (.aload_n 0, 1) := by decide +kernel
theorem dJ0_charAt_5068e_8 : decode cJ0_charAt_5068e 8 = .ok (.getfield 9, 3) := by decide +kernel
theorem dJ0_charAt_5068e_11 : decode cJ0_charAt_5068e 11 = .ok (.iload_n 1, 1) := by decide +kernel
theorem dJ0_charAt_5068e_12 : decode cJ0_charAt_5068e 12 = .ok (.invokestatic 495, 3) := by decide +kernel
theorem dJ0_charAt_5068e_15 : decode cJ0_charAt_5068e 15 = .ok (.ireturn, 1) := by decide +kernel
theorem dJ0_charAt_5068e_16 : decode cJ0_charAt_5068e 16 = .ok (.aload_n 0, 1) := by decide +kernel
theorem dJ0_charAt_5068e_17 : decode cJ0_charAt_5068e 17 = .ok (.getfield 9, 3) := by decide +kernel
theorem dJ0_charAt_5068e_20 : decode cJ0_charAt_5068e 20 = .ok (.iload_n 1, 1) := by decide +kernel
theorem dJ0_charAt_5068e_21 : decode cJ0_charAt_5068e 21 = .ok (.invokestatic 498, 3) := by decide +kernel
theorem dJ0_charAt_5068e_24 : decode cJ0_charAt_5068e 24 = .ok (.ireturn, 1) := by decide +kernel
theorem dJ0_coder_7d493_0 : decode cJ0_coder_7d493 0 = .ok (.getstatic 38, 3) := by decide +kernel
theorem dJ0_coder_7d493_3 : decode cJ0_coder_7d493 3 = .ok (.ifCond .eq 10, 3) := by decide +kernel
theorem dJ0_coder_7d493_6 : decode cJ0_coder_7d493 6 = .ok (.aload_n 0, 1) := by decide +kernel
theorem dJ0_coder_7d493_7 : decode cJ0_coder_7d493 7 = .ok (.getfield 15, 3) := by decide +kernel
theorem dJ0_coder_7d493_10 : decode cJ0_coder_7d493 10 = .ok (.goto 4, 3) := by decide +kernel
theorem dJ0_coder_7d493_13 : decode cJ0_coder_7d493 13 = .ok (.iconst 1, 1) := by decide +kernel
theorem dJ0_coder_7d493_14 : decode cJ0_coder_7d493 14 = .ok (.ireturn, 1) := by decide +kernel
theorem dJ0_isLatin1_aae02_0 : decode cJ0_isLatin1_aae02 0 = .ok (.getstatic 38, 3) := by decide +kernel
theorem dJ0_isLatin1_aae02_3 : decode cJ0_isLatin1_aae02 3 = .ok (.ifCond .eq 14, 3) := by decide +kernel
theorem dJ0_isLatin1_aae02_6 : decode cJ0_isLatin1_aae02 6 = .ok (.aload_n 0, 1) := by decide +kernel
theorem dJ0_isLatin1_aae02_7 : decode cJ0_isLatin1_aae02 7 = .ok (.getfield 15, 3) := by decide +kernel
theorem dJ0_isLatin1_aae02_10 : decode cJ0_isLatin1_aae02 10 = .ok (.ifCond .ne 7, 3) := by decide +kernel
theorem dJ0_isLatin1_aae02_13 : decode cJ0_isLatin1_aae02 13 = .ok (.iconst 1, 1) := by decide +kernel
theorem dJ0_isLatin1_aae02_14 : decode cJ0_isLatin1_aae02 14 = .ok (.goto 4, 3) := by decide +kernel
theorem dJ0_isLatin1_aae02_17 : decode cJ0_isLatin1_aae02 17 = .ok (.iconst 0, 1) := by decide +kernel
theorem dJ0_isLatin1_aae02_18 : decode cJ0_isLatin1_aae02 18 = .ok (.ireturn, 1) := by decide +kernel
theorem dJ0_checkIndex_df160_0 : decode cJ0_checkIndex_df160 0 = .ok (.iload_n 0, 1) := by decide +kernel
theorem dJ0_checkIndex_df160_1 : decode cJ0_checkIndex_df160 1 = .ok (.iload_n 1, 1) := by decide +kernel
theorem dJ0_checkIndex_df160_2 : decode cJ0_checkIndex_df160 2 = .ok (.getstatic 1053, 3) := by decide +kernel
theorem dJ0_checkIndex_df160_5 : decode cJ0_checkIndex_df160 5 = .ok (.invokestatic 1059, 3) := by decide +kernel
theorem dJ0_checkIndex_df160_8 : decode cJ0_checkIndex_df160 8 = .ok (.pop, 1) := by decide +kernel
theorem dJ0_checkIndex_df160_9 : decode cJ0_checkIndex_df160 9 = .ok (.return_, 1) := by decide +kernel
theorem dJ1_charAt_3b067_0 : decode cJ1_charAt_3b067 0 = .ok (.iload_n 1, 1) := by decide +kernel
theorem dJ1_charAt_3b067_1 : decode cJ1_charAt_3b067 1 = .ok (.aload_n 0, 1) := by decide +kernel
theorem dJ1_charAt_3b067_2 : decode cJ1_charAt_3b067 2 = .ok (.arraylength, 1) := by decide +kernel
theorem dJ1_charAt_3b067_3 : decode cJ1_charAt_3b067 3 = .ok (.invokestatic 9, 3) := by decide +kernel
theorem dJ1_charAt_3b067_6 : decode cJ1_charAt_3b067 6 = .ok (.aload_n 0, 1) := by decide +kernel
theorem dJ1_charAt_3b067_7 : decode cJ1_charAt_3b067 7 = .ok (.iload_n 1, 1) := by decide +kernel
theorem dJ1_charAt_3b067_8 : decode cJ1_charAt_3b067 8 = .ok (.baload, 1) := by decide +kernel
theorem dJ1_charAt_3b067_9 : decode cJ1_charAt_3b067 9 = .ok (.sipush 255, 3) := by decide +kernel
theorem dJ1_charAt_3b067_12 : decode cJ1_charAt_3b067 12 = .ok (.iand, 1) := by decide +kernel
theorem dJ1_charAt_3b067_13 : decode cJ1_charAt_3b067 13 = .ok (.i2c, 1) := by decide +kernel
theorem dJ1_charAt_3b067_14 : decode cJ1_charAt_3b067 14 = .ok (.ireturn, 1) := by decide +kernel
theorem dJ2_getChar_3b067_0 : decode cJ2_getChar_3b067 0 = .ok (.getstatic 44, 3) := by decide +kernel
theorem dJ2_getChar_3b067_3 : decode cJ2_getChar_3b067 3 = .ok (.ifCond .ne 25, 3) := by decide +kernel
theorem dJ2_getChar_3b067_6 : decode cJ2_getChar_3b067 6 = .ok (.iload_n 1, 1) := by decide +kernel
theorem dJ2_getChar_3b067_7 : decode cJ2_getChar_3b067 7 = .ok (.ifCond .lt 11, 3) := by decide +kernel
theorem dJ2_getChar_3b067_10 : decode cJ2_getChar_3b067 10 = .ok (.iload_n 1, 1) := by decide +kernel
theorem dJ2_getChar_3b067_11 : decode cJ2_getChar_3b067 11 = .ok (.aload_n 0, 1) := by decide +kernel
theorem dJ2_getChar_3b067_12 : decode cJ2_getChar_3b067 12 = .ok (.invokestatic 48, 3) := by decide +kernel
theorem dJ2_getChar_3b067_15 : decode cJ2_getChar_3b067 15 = .ok (.if_icmp .lt 13, 3) := by decide +kernel
theorem dJ2_getChar_3b067_18 : decode cJ2_getChar_3b067 18 = .ok (.new 52, 3) := by decide +kernel
theorem dJ2_getChar_3b067_21 : decode cJ2_getChar_3b067 21 = .ok (.dup, 1) := by decide +kernel
theorem dJ2_getChar_3b067_22 : decode cJ2_getChar_3b067 22 = .ok (.ldc 54, 2) := by decide +kernel
theorem dJ2_getChar_3b067_24 : decode cJ2_getChar_3b067 24 = .ok (.invokespecial 56, 3) := by decide +kernel
theorem dJ2_getChar_3b067_27 : decode cJ2_getChar_3b067 27 = .ok (.athrow, 1) := by decide +kernel
theorem dJ2_getChar_3b067_28 : decode cJ2_getChar_3b067 28 = .ok (.iload_n 1, 1) := by decide +kernel
theorem dJ2_getChar_3b067_29 : decode cJ2_getChar_3b067 29 = .ok (.iconst 1, 1) := by decide +kernel
theorem dJ2_getChar_3b067_30 : decode cJ2_getChar_3b067 30 = .ok (.ishl, 1) := by decide +kernel
theorem dJ2_getChar_3b067_31 : decode cJ2_getChar_3b067 31 = .ok (.istore_n 1, 1) := by decide +kernel
theorem dJ2_getChar_3b067_32 : decode cJ2_getChar_3b067 32 = .ok (.aload_n 0, 1) := by decide +kernel
theorem dJ2_getChar_3b067_33 : decode cJ2_getChar_3b067 33 = .ok (.iload_n 1, 1) := by decide +kernel
theorem dJ2_getChar_3b067_34 : decode cJ2_getChar_3b067 34 = .ok (.iinc 1 1, 3) := by decide +kernel
theorem dJ2_getChar_3b067_37 : decode cJ2_getChar_3b067 37 = .ok (.baload, 1) := by decide +kernel
theorem dJ2_getChar_3b067_38 : decode cJ2_getChar_3b067 38 = .ok (.sipush 255, 3) := by decide +kernel
theorem dJ2_getChar_3b067_41 : decode cJ2_getChar_3b067 41 = .ok (.iand, 1) := by decide +kernel
theorem dJ2_getChar_3b067_42 : decode cJ2_getChar_3b067 42 = .ok (.getstatic 59, 3) := by decide +kernel
theorem dJ2_getChar_3b067_45 : decode cJ2_getChar_3b067 45 = .ok (.ishl, 1) := by decide +kernel
theorem dJ2_getChar_3b067_46 : decode cJ2_getChar_3b067 46 = .ok (.aload_n 0, 1) := by decide +kernel
theorem dJ2_getChar_3b067_47 : decode cJ2_getChar_3b067 47 = .ok (.iload_n 1, 1) := by decide +kernel
theorem dJ2_getChar_3b067_48 : decode cJ2_getChar_3b067 48 = .ok (.baload, 1) := by decide +kernel
theorem dJ2_getChar_3b067_49 : decode cJ2_getChar_3b067 49 = .ok (.sipush 255, 3) := by decide +kernel
theorem dJ2_getChar_3b067_52 : decode cJ2_getChar_3b067 52 = .ok (.iand, 1) := by decide +kernel
theorem dJ2_getChar_3b067_53 : decode cJ2_getChar_3b067 53 = .ok (.getstatic 63, 3) := by decide +kernel
theorem dJ2_getChar_3b067_56 : decode cJ2_getChar_3b067 56 = .ok (.ishl, 1) := by decide +kernel
theorem dJ2_getChar_3b067_57 : decode cJ2_getChar_3b067 57 = .ok (.ior, 1) := by decide +kernel
theorem dJ2_getChar_3b067_58 : decode cJ2_getChar_3b067 58 = .ok (.i2c, 1) := by decide +kernel
theorem dJ2_getChar_3b067_59 : decode cJ2_getChar_3b067 59 = .ok (.ireturn, 1) := by decide +kernel
theorem dJ2_length_9d52b_0 : decode cJ2_length_9d52b 0 = .ok (.aload_n 0, 1) := by decide +kernel
theorem dJ2_length_9d52b_1 : decode cJ2_length_9d52b 1 = .ok (.arraylength, 1) := by decide +kernel
theorem dJ2_length_9d52b_2 : decode cJ2_length_9d52b 2 = .ok (.iconst 1, 1) := by decide +kernel
theorem dJ2_length_9d52b_3 : decode cJ2_length_9d52b 3 = .ok (.ishr, 1) := by decide +kernel
theorem dJ2_length_9d52b_4 : decode cJ2_length_9d52b 4 = .ok (.ireturn, 1) := by decide +kernel
theorem dJ2_charAt_3b067_0 : decode cJ2_charAt_3b067 0 = .ok (.iload_n 1, 1) := by decide +kernel
theorem dJ2_charAt_3b067_1 : decode cJ2_charAt_3b067 1 = .ok (.aload_n 0, 1) := by decide +kernel
theorem dJ2_charAt_3b067_2 : decode cJ2_charAt_3b067 2 = .ok (.invokestatic 67, 3) := by decide +kernel
theorem dJ2_charAt_3b067_5 : decode cJ2_charAt_3b067 5 = .ok (.aload_n 0, 1) := by decide +kernel
theorem dJ2_charAt_3b067_6 : decode cJ2_charAt_3b067 6 = .ok (.iload_n 1, 1) := by decide +kernel
theorem dJ2_charAt_3b067_7 : decode cJ2_charAt_3b067 7 = .ok (.invokestatic 71, 3) := by decide +kernel
theorem dJ2_charAt_3b067_10 : decode cJ2_charAt_3b067 10 = .ok (.ireturn, 1) := by decide +kernel
theorem dJ2_checkIndex_2214a_0 : decode cJ2_checkIndex_2214a 0 = .ok (.iload_n 0, 1) := by decide +kernel
theorem dJ2_checkIndex_2214a_1 : decode cJ2_checkIndex_2214a 1 = .ok (.aload_n 1, 1) := by decide +kernel
theorem dJ2_checkIndex_2214a_2 : decode cJ2_checkIndex_2214a 2 = .ok (.invokestatic 48, 3) := by decide +kernel
theorem dJ2_checkIndex_2214a_5 : decode cJ2_checkIndex_2214a 5 = .ok (.invokestatic 414, 3) := by decide +kernel
theorem dJ2_checkIndex_2214a_8 : decode cJ2_checkIndex_2214a 8 = .ok (.return_, 1) := by decide +kernel
theorem dJ3_checkIndex_8e157_0 : decode cJ3_checkIndex_8e157 0 = .ok (.iload_n 0, 1) := by decide +kernel
theorem dJ3_checkIndex_8e157_1 : decode cJ3_checkIndex_8e157 1 = .ok (.ifCond .lt 8, 3) := by decide +kernel
theorem dJ3_checkIndex_8e157_4 : decode cJ3_checkIndex_8e157 4 = .ok (.iload_n 0, 1) := by decide +kernel
theorem dJ3_checkIndex_8e157_5 : decode cJ3_checkIndex_8e157 5 = .ok (.iload_n 1, 1) := by decide +kernel
theorem dJ3_checkIndex_8e157_6 : decode cJ3_checkIndex_8e157 6 = .ok (.if_icmp .lt 10, 3) := by decide +kernel
theorem dJ3_checkIndex_8e157_9 : decode cJ3_checkIndex_8e157 9 = .ok (.aload_n 2, 1) := by decide +kernel
theorem dJ3_checkIndex_8e157_10 : decode cJ3_checkIndex_8e157 10 = .ok (.iload_n 0, 1) := by decide +kernel
theorem dJ3_checkIndex_8e157_11 : decode cJ3_checkIndex_8e157 11 = .ok (.iload_n 1, 1) := by decide +kernel
theorem dJ3_checkIndex_8e157_12 : decode cJ3_checkIndex_8e157 12 = .ok (.invokestatic 95, 3) := by decide +kernel
theorem dJ3_checkIndex_8e157_15 : decode cJ3_checkIndex_8e157 15 = .ok (.athrow, 1) := by decide +kernel
theorem dJ3_checkIndex_8e157_16 : decode cJ3_checkIndex_8e157 16 = .ok (.iload_n 0, 1) := by decide +kernel
theorem dJ3_checkIndex_8e157_17 : decode cJ3_checkIndex_8e157 17 = .ok (.ireturn, 1) := by decide +kernel
abbrev vwCl : List vw_C := [(RX0, TX0, 11), (RX1, TX1, 3), (RX2, TX2, 7), (RX3, TX3, 4), (RX4, TX4, 16), (RX5, TX5, 16), (RX6, TX6, 38)]
end
section
theorem dX0_init_0 : decode cX0_init 0 = .ok (.aload_n 0, 1) := by decide +kernel
theorem dX0_init_1 : decode cX0_init 1 = .ok (.invokespecial 3, 3) := by decide +kernel
theorem dX0_init_4 : decode cX0_init 4 = .ok (.aload_n 0, 1) := by decide +kernel
theorem dX0_init_5 : decode cX0_init 5 = .ok (.sipush 676, 3) := by decide +kernel
theorem dX0_init_8 : decode cX0_init 8 = .ok (.newarray .int, 2) := by decide +kernel
theorem dX0_init_10 : decode cX0_init 10 = .ok (.putfield 9, 3) := by decide +kernel
theorem dX0_init_13 : decode cX0_init 13 = .ok (.aload_n 0, 1) := by decide +kernel
theorem dX0_init_14 : decode cX0_init 14 = .ok (.sipush 676, 3) := by decide +kernel
theorem dX0_init_17 : decode cX0_init 17 = .ok (.newarray .int, 2) := by decide +kernel
theorem dX0_init_19 : decode cX0_init 19 = .ok (.putfield 15, 3) := by decide +kernel
theorem dX0_init_22 : decode cX0_init 22 = .ok (.aload_n 0, 1) := by decide +kernel
theorem dX0_init_23 : decode cX0_init 23 = .ok (.bipush 13, 2) := by decide +kernel
theorem dX0_init_25 : decode cX0_init 25 = .ok (.newarray .boolean, 2) := by decide +kernel
theorem dX0_init_27 : decode cX0_init 27 = .ok (.putfield 18, 3) := by decide +kernel
theorem dX0_init_30 : decode cX0_init 30 = .ok (.aload_n 0, 1) := by decide +kernel
theorem dX0_init_31 : decode cX0_init 31 = .ok (.bipush 10, 2) := by decide +kernel
theorem dX0_init_33 : decode cX0_init 33 = .ok (.newarray .int, 2) := by decide +kernel
theorem dX0_init_35 : decode cX0_init 35 = .ok (.putfield 22, 3) := by decide +kernel
theorem dX0_init_38 : decode cX0_init 38 = .ok (.aload_n 0, 1) := by decide +kernel
theorem dX0_init_39 : decode cX0_init 39 = .ok (.bipush 13, 2) := by decide +kernel
theorem dX0_init_41 : decode cX0_init 41 = .ok (.newarray .int, 2) := by decide +kernel
theorem dX0_init_43 : decode cX0_init 43 = .ok (.putfield 25, 3) := by decide +kernel
theorem dX0_init_46 : decode cX0_init 46 = .ok (.aload_n 0, 1) := by decide +kernel
theorem dX0_init_47 : decode cX0_init 47 = .ok (.bipush 13, 2) := by decide +kernel
theorem dX0_init_49 : decode cX0_init 49 = .ok (.newarray .int, 2) := by decide +kernel
theorem dX0_init_51 : decode cX0_init 51 = .ok (.putfield 28, 3) := by decide +kernel
theorem dX0_init_54 : decode cX0_init 54 = .ok (.return_, 1) := by decide +kernel
theorem dX0_isNode_0 : decode cX0_isNode 0 = .ok (.iload_n 1, 1) := by decide +kernel
theorem dX0_isNode_1 : decode cX0_isNode 1 = .ok (.ifCond .lt 15, 3) := by decide +kernel
theorem dX0_isNode_4 : decode cX0_isNode 4 = .ok (.iload_n 1, 1) := by decide +kernel
theorem dX0_isNode_5 : decode cX0_isNode 5 = .ok (.aload_n 0, 1) := by decide +kernel
theorem dX0_isNode_6 : decode cX0_isNode 6 = .ok (.getfield 31, 3) := by decide +kernel
theorem dX0_isNode_9 : decode cX0_isNode 9 = .ok (.if_icmp .ge 7, 3) := by decide +kernel
theorem dX0_isNode_12 : decode cX0_isNode 12 = .ok (.iconst 1, 1) := by decide +kernel
theorem dX0_isNode_13 : decode cX0_isNode 13 = .ok (.goto 4, 3) := by decide +kernel
theorem dX0_isNode_16 : decode cX0_isNode 16 = .ok (.iconst 0, 1) := by decide +kernel
theorem dX0_isNode_17 : decode cX0_isNode 17 = .ok (.ireturn, 1) := by decide +kernel
theorem dX0_build_0 : decode cX0_build 0 = .ok (.aload_n 0, 1) := by decide +kernel
theorem dX0_build_1 : decode cX0_build 1 = .ok (.iload_n 2, 1) := by decide +kernel
theorem dX0_build_2 : decode cX0_build 2 = .ok (.iconst 2, 1) := by decide +kernel
theorem dX0_build_3 : decode cX0_build 3 = .ok (.if_icmp .ne 7, 3) := by decide +kernel
theorem dX0_build_6 : decode cX0_build 6 = .ok (.iconst 1, 1) := by decide +kernel
theorem dX0_build_7 : decode cX0_build 7 = .ok (.goto 4, 3) := by decide +kernel
theorem dX0_build_10 : decode cX0_build 10 = .ok (.iconst 0, 1) := by decide +kernel
theorem dX0_build_11 : decode cX0_build 11 = .ok (.putfield 35, 3) := by decide +kernel
theorem dX0_build_14 : decode cX0_build 14 = .ok (.iconst 0, 1) := by decide +kernel
theorem dX0_build_15 : decode cX0_build 15 = .ok (.istore 5, 2) := by decide +kernel
theorem dX0_build_17 : decode cX0_build 17 = .ok (.iload 5, 2) := by decide +kernel
theorem dX0_build_19 : decode cX0_build 19 = .ok (.aload_n 1, 1) := by decide +kernel
theorem dX0_build_20 : decode cX0_build 20 = .ok (.getfield 39, 3) := by decide +kernel
theorem dX0_build_23 : decode cX0_build 23 = .ok (.if_icmp .ge 53, 3) := by decide +kernel
theorem dX0_build_26 : decode cX0_build 26 = .ok (.iload 5, 2) := by decide +kernel
theorem dX0_build_28 : decode cX0_build 28 = .ok (.iload_n 3, 1) := by decide +kernel
theorem dX0_build_29 : decode cX0_build 29 = .ok (.if_icmp .ne 8, 3) := by decide +kernel
theorem dX0_build_32 : decode cX0_build 32 = .ok (.iload 4, 2) := by decide +kernel
theorem dX0_build_34 : decode cX0_build 34 = .ok (.goto 10, 3) := by decide +kernel
theorem dX0_build_37 : decode cX0_build 37 = .ok (.aload_n 1, 1) := by decide +kernel
theorem dX0_build_38 : decode cX0_build 38 = .ok (.getfield 44, 3) := by decide +kernel
theorem dX0_build_41 : decode cX0_build 41 = .ok (.iload 5, 2) := by decide +kernel
theorem dX0_build_43 : decode cX0_build 43 = .ok (.iaload, 1) := by decide +kernel
theorem dX0_build_44 : decode cX0_build 44 = .ok (.istore 6, 2) := by decide +kernel
theorem dX0_build_46 : decode cX0_build 46 = .ok (.aload_n 0, 1) := by decide +kernel
theorem dX0_build_47 : decode cX0_build 47 = .ok (.getfield 22, 3) := by decide +kernel
theorem dX0_build_50 : decode cX0_build 50 = .ok (.iload 5, 2) := by decide +kernel
theorem dX0_build_52 : decode cX0_build 52 = .ok (.iload_n 2, 1) := by decide +kernel
theorem dX0_build_53 : decode cX0_build 53 = .ok (.iconst 1, 1) := by decide +kernel
theorem dX0_build_54 : decode cX0_build 54 = .ok (.if_icmp .ne 13, 3) := by decide +kernel
theorem dX0_build_57 : decode cX0_build 57 = .ok (.iload 6, 2) := by decide +kernel
theorem dX0_build_59 : decode cX0_build 59 = .ok (.iconst (-1), 1) := by decide +kernel
theorem dX0_build_60 : decode cX0_build 60 = .ok (.if_icmp .eq 7, 3) := by decide +kernel
theorem dX0_build_63 : decode cX0_build 63 = .ok (.iconst 1, 1) := by decide +kernel
theorem dX0_build_64 : decode cX0_build 64 = .ok (.goto 5, 3) := by decide +kernel
theorem dX0_build_67 : decode cX0_build 67 = .ok (.iload 6, 2) := by decide +kernel
theorem dX0_build_69 : decode cX0_build 69 = .ok (.iastore, 1) := by decide +kernel
theorem dX0_build_70 : decode cX0_build 70 = .ok (.iinc 5 1, 3) := by decide +kernel
theorem dX0_build_73 : decode cX0_build 73 = .ok (.goto (-56), 3) := by decide +kernel
theorem dX0_build_76 : decode cX0_build 76 = .ok (.aload_n 0, 1) := by decide +kernel
theorem dX0_build_77 : decode cX0_build 77 = .ok (.aload_n 1, 1) := by decide +kernel
theorem dX0_build_78 : decode cX0_build 78 = .ok (.invokevirtual 47, 3) := by decide +kernel
theorem dX0_build_81 : decode cX0_build 81 = .ok (.aload_n 0, 1) := by decide +kernel
theorem dX0_build_82 : decode cX0_build 82 = .ok (.aload_n 0, 1) := by decide +kernel
theorem dX0_build_83 : decode cX0_build 83 = .ok (.invokevirtual 51, 3) := by decide +kernel
theorem dX0_build_86 : decode cX0_build 86 = .ok (.putfield 55, 3) := by decide +kernel
theorem dX0_build_89 : decode cX0_build 89 = .ok (.aload_n 0, 1) := by decide +kernel
theorem dX0_build_90 : decode cX0_build 90 = .ok (.getfield 9, 3) := by decide +kernel
theorem dX0_build_93 : decode cX0_build 93 = .ok (.iconst 0, 1) := by decide +kernel
theorem dX0_build_94 : decode cX0_build 94 = .ok (.aload_n 0, 1) := by decide +kernel
theorem dX0_build_95 : decode cX0_build 95 = .ok (.getfield 15, 3) := by decide +kernel
theorem dX0_build_98 : decode cX0_build 98 = .ok (.iconst 0, 1) := by decide +kernel
theorem dX0_build_99 : decode cX0_build 99 = .ok (.aload_n 0, 1) := by decide +kernel
theorem dX0_build_100 : decode cX0_build 100 = .ok (.getfield 9, 3) := by decide +kernel
theorem dX0_build_103 : decode cX0_build 103 = .ok (.arraylength, 1) := by decide +kernel
theorem dX0_build_104 : decode cX0_build 104 = .ok (.invokestatic 58, 3) := by decide +kernel
theorem dX0_build_107 : decode cX0_build 107 = .ok (.aload_n 0, 1) := by decide +kernel
theorem dX0_build_108 : decode cX0_build 108 = .ok (.iconst 0, 1) := by decide +kernel
theorem dX0_build_109 : decode cX0_build 109 = .ok (.putfield 64, 3) := by decide +kernel
theorem dX0_build_112 : decode cX0_build 112 = .ok (.iconst 0, 1) := by decide +kernel
theorem dX0_build_113 : decode cX0_build 113 = .ok (.istore 5, 2) := by decide +kernel
theorem dX0_build_115 : decode cX0_build 115 = .ok (.iload 5, 2) := by decide +kernel
theorem dX0_build_117 : decode cX0_build 117 = .ok (.sipush 1000, 3) := by decide +kernel
theorem dX0_build_120 : decode cX0_build 120 = .ok (.if_icmp .ge 49, 3) := by decide +kernel
theorem dX0_build_123 : decode cX0_build 123 = .ok (.aload_n 0, 1) := by decide +kernel
theorem dX0_build_124 : decode cX0_build 124 = .ok (.aload_n 1, 1) := by decide +kernel
theorem dX0_build_125 : decode cX0_build 125 = .ok (.invokevirtual 67, 3) := by decide +kernel
theorem dX0_build_128 : decode cX0_build 128 = .ok (.ifCond .eq 41, 3) := by decide +kernel
theorem dX0_build_131 : decode cX0_build 131 = .ok (.aload_n 0, 1) := by decide +kernel
theorem dX0_build_132 : decode cX0_build 132 = .ok (.dup, 1) := by decide +kernel
theorem dX0_build_133 : decode cX0_build 133 = .ok (.getfield 64, 3) := by decide +kernel
theorem dX0_build_136 : decode cX0_build 136 = .ok (.iconst 1, 1) := by decide +kernel
theorem dX0_build_137 : decode cX0_build 137 = .ok (.iadd, 1) := by decide +kernel
theorem dX0_build_138 : decode cX0_build 138 = .ok (.putfield 64, 3) := by decide +kernel
theorem dX0_build_141 : decode cX0_build 141 = .ok (.aload_n 0, 1) := by decide +kernel
theorem dX0_build_142 : decode cX0_build 142 = .ok (.getfield 9, 3) := by decide +kernel
theorem dX0_build_145 : decode cX0_build 145 = .ok (.iconst 0, 1) := by decide +kernel
theorem dX0_build_146 : decode cX0_build 146 = .ok (.aload_n 0, 1) := by decide +kernel
theorem dX0_build_147 : decode cX0_build 147 = .ok (.getfield 15, 3) := by decide +kernel
theorem dX0_build_150 : decode cX0_build 150 = .ok (.iconst 0, 1) := by decide +kernel
theorem dX0_build_151 : decode cX0_build 151 = .ok (.aload_n 1, 1) := by decide +kernel
theorem dX0_build_152 : decode cX0_build 152 = .ok (.getfield 71, 3) := by decide +kernel
theorem dX0_build_155 : decode cX0_build 155 = .ok (.iconst 4, 1) := by decide +kernel
theorem dX0_build_156 : decode cX0_build 156 = .ok (.imul, 1) := by decide +kernel
theorem dX0_build_157 : decode cX0_build 157 = .ok (.bipush 13, 2) := by decide +kernel
theorem dX0_build_159 : decode cX0_build 159 = .ok (.imul, 1) := by decide +kernel
theorem dX0_build_160 : decode cX0_build 160 = .ok (.invokestatic 58, 3) := by decide +kernel
theorem dX0_build_163 : decode cX0_build 163 = .ok (.iinc 5 1, 3) := by decide +kernel
theorem dX0_build_166 : decode cX0_build 166 = .ok (.goto (-51), 3) := by decide +kernel
theorem dX0_build_169 : decode cX0_build 169 = .ok (.aload_n 0, 1) := by decide +kernel
theorem dX0_build_170 : decode cX0_build 170 = .ok (.aload_n 0, 1) := by decide +kernel
theorem dX0_build_171 : decode cX0_build 171 = .ok (.invokevirtual 51, 3) := by decide +kernel
theorem dX0_build_174 : decode cX0_build 174 = .ok (.putfield 74, 3) := by decide +kernel
theorem dX0_build_177 : decode cX0_build 177 = .ok (.return_, 1) := by decide +kernel
theorem dX0_layTargets_0 : decode cX0_layTargets 0 = .ok (.aload_n 1, 1) := by decide +kernel
theorem dX0_layTargets_1 : decode cX0_layTargets 1 = .ok (.getfield 71, 3) := by decide +kernel
theorem dX0_layTargets_4 : decode cX0_layTargets 4 = .ok (.istore_n 2, 1) := by decide +kernel
theorem dX0_layTargets_5 : decode cX0_layTargets 5 = .ok (.iload_n 2, 1) := by decide +kernel
theorem dX0_layTargets_6 : decode cX0_layTargets 6 = .ok (.iconst 1, 1) := by decide +kernel
theorem dX0_layTargets_7 : decode cX0_layTargets 7 = .ok (.iadd, 1) := by decide +kernel
theorem dX0_layTargets_8 : decode cX0_layTargets 8 = .ok (.istore_n 3, 1) := by decide +kernel
theorem dX0_layTargets_9 : decode cX0_layTargets 9 = .ok (.aload_n 0, 1) := by decide +kernel
theorem dX0_layTargets_10 : decode cX0_layTargets 10 = .ok (.iload_n 3, 1) := by decide +kernel
theorem dX0_layTargets_11 : decode cX0_layTargets 11 = .ok (.iconst 1, 1) := by decide +kernel
theorem dX0_layTargets_12 : decode cX0_layTargets 12 = .ok (.iadd, 1) := by decide +kernel
theorem dX0_layTargets_13 : decode cX0_layTargets 13 = .ok (.putfield 31, 3) := by decide +kernel
theorem dX0_layTargets_16 : decode cX0_layTargets 16 = .ok (.iconst 0, 1) := by decide +kernel
theorem dX0_layTargets_17 : decode cX0_layTargets 17 = .ok (.istore 4, 2) := by decide +kernel
theorem dX0_layTargets_19 : decode cX0_layTargets 19 = .ok (.iload 4, 2) := by decide +kernel
theorem dX0_layTargets_21 : decode cX0_layTargets 21 = .ok (.aload_n 0, 1) := by decide +kernel
theorem dX0_layTargets_22 : decode cX0_layTargets 22 = .ok (.getfield 9, 3) := by decide +kernel
theorem dX0_layTargets_25 : decode cX0_layTargets 25 = .ok (.arraylength, 1) := by decide +kernel
theorem dX0_layTargets_26 : decode cX0_layTargets 26 = .ok (.if_icmp .ge 18, 3) := by decide +kernel
theorem dX0_layTargets_29 : decode cX0_layTargets 29 = .ok (.aload_n 0, 1) := by decide +kernel
theorem dX0_layTargets_30 : decode cX0_layTargets 30 = .ok (.getfield 9, 3) := by decide +kernel
theorem dX0_layTargets_33 : decode cX0_layTargets 33 = .ok (.iload 4, 2) := by decide +kernel
theorem dX0_layTargets_35 : decode cX0_layTargets 35 = .ok (.ldc 77, 2) := by decide +kernel
theorem dX0_layTargets_37 : decode cX0_layTargets 37 = .ok (.iastore, 1) := by decide +kernel
theorem dX0_layTargets_38 : decode cX0_layTargets 38 = .ok (.iinc 4 1, 3) := by decide +kernel
theorem dX0_layTargets_41 : decode cX0_layTargets 41 = .ok (.goto (-22), 3) := by decide +kernel
theorem dX0_layTargets_44 : decode cX0_layTargets 44 = .ok (.iconst 0, 1) := by decide +kernel
theorem dX0_layTargets_45 : decode cX0_layTargets 45 = .ok (.istore 4, 2) := by decide +kernel
theorem dX0_layTargets_47 : decode cX0_layTargets 47 = .ok (.iload 4, 2) := by decide +kernel
theorem dX0_layTargets_49 : decode cX0_layTargets 49 = .ok (.bipush 13, 2) := by decide +kernel
theorem dX0_layTargets_51 : decode cX0_layTargets 51 = .ok (.if_icmp .ge 33, 3) := by decide +kernel
theorem dX0_layTargets_54 : decode cX0_layTargets 54 = .ok (.aload_n 0, 1) := by decide +kernel
theorem dX0_layTargets_55 : decode cX0_layTargets 55 = .ok (.getfield 18, 3) := by decide +kernel
theorem dX0_layTargets_58 : decode cX0_layTargets 58 = .ok (.iload 4, 2) := by decide +kernel
theorem dX0_layTargets_60 : decode cX0_layTargets 60 = .ok (.iload 4, 2) := by decide +kernel
theorem dX0_layTargets_62 : decode cX0_layTargets 62 = .ok (.iload_n 2, 1) := by decide +kernel
theorem dX0_layTargets_63 : decode cX0_layTargets 63 = .ok (.if_icmp .eq 9, 3) := by decide +kernel
theorem dX0_layTargets_66 : decode cX0_layTargets 66 = .ok (.iload 4, 2) := by decide +kernel
theorem dX0_layTargets_68 : decode cX0_layTargets 68 = .ok (.iload_n 3, 1) := by decide +kernel
theorem dX0_layTargets_69 : decode cX0_layTargets 69 = .ok (.if_icmp .ne 7, 3) := by decide +kernel
theorem dX0_layTargets_72 : decode cX0_layTargets 72 = .ok (.iconst 1, 1) := by decide +kernel
theorem dX0_layTargets_73 : decode cX0_layTargets 73 = .ok (.goto 4, 3) := by decide +kernel
theorem dX0_layTargets_76 : decode cX0_layTargets 76 = .ok (.iconst 0, 1) := by decide +kernel
theorem dX0_layTargets_77 : decode cX0_layTargets 77 = .ok (.bastore, 1) := by decide +kernel
theorem dX0_layTargets_78 : decode cX0_layTargets 78 = .ok (.iinc 4 1, 3) := by decide +kernel
theorem dX0_layTargets_81 : decode cX0_layTargets 81 = .ok (.goto (-34), 3) := by decide +kernel
theorem dX0_layTargets_84 : decode cX0_layTargets 84 = .ok (.aload_n 0, 1) := by decide +kernel
theorem dX0_layTargets_85 : decode cX0_layTargets 85 = .ok (.iload_n 3, 1) := by decide +kernel
theorem dX0_layTargets_86 : decode cX0_layTargets 86 = .ok (.iload_n 3, 1) := by decide +kernel
theorem dX0_layTargets_87 : decode cX0_layTargets 87 = .ok (.invokevirtual 78, 3) := by decide +kernel
theorem dX0_layTargets_90 : decode cX0_layTargets 90 = .ok (.iconst 0, 1) := by decide +kernel
theorem dX0_layTargets_91 : decode cX0_layTargets 91 = .ok (.istore 4, 2) := by decide +kernel
theorem dX0_layTargets_93 : decode cX0_layTargets 93 = .ok (.iload 4, 2) := by decide +kernel
theorem dX0_layTargets_95 : decode cX0_layTargets 95 = .ok (.aload_n 1, 1) := by decide +kernel
theorem dX0_layTargets_96 : decode cX0_layTargets 96 = .ok (.getfield 82, 3) := by decide +kernel
theorem dX0_layTargets_99 : decode cX0_layTargets 99 = .ok (.if_icmp .ge 148, 3) := by decide +kernel
theorem dX0_layTargets_102 : decode cX0_layTargets 102 = .ok (.aload_n 1, 1) := by decide +kernel
theorem dX0_layTargets_103 : decode cX0_layTargets 103 = .ok (.getfield 85, 3) := by decide +kernel
theorem dX0_layTargets_106 : decode cX0_layTargets 106 = .ok (.iload 4, 2) := by decide +kernel
theorem dX0_layTargets_108 : decode cX0_layTargets 108 = .ok (.baload, 1) := by decide +kernel
theorem dX0_layTargets_109 : decode cX0_layTargets 109 = .ok (.ifCond .eq 7, 3) := by decide +kernel
theorem dX0_layTargets_112 : decode cX0_layTargets 112 = .ok (.iload_n 3, 1) := by decide +kernel
theorem dX0_layTargets_113 : decode cX0_layTargets 113 = .ok (.goto 4, 3) := by decide +kernel
theorem dX0_layTargets_116 : decode cX0_layTargets 116 = .ok (.iload_n 2, 1) := by decide +kernel
theorem dX0_layTargets_117 : decode cX0_layTargets 117 = .ok (.istore 5, 2) := by decide +kernel
theorem dX0_layTargets_119 : decode cX0_layTargets 119 = .ok (.aload_n 1, 1) := by decide +kernel
theorem dX0_layTargets_120 : decode cX0_layTargets 120 = .ok (.getfield 88, 3) := by decide +kernel
theorem dX0_layTargets_123 : decode cX0_layTargets 123 = .ok (.iload 4, 2) := by decide +kernel
theorem dX0_layTargets_125 : decode cX0_layTargets 125 = .ok (.iaload, 1) := by decide +kernel
theorem dX0_layTargets_126 : decode cX0_layTargets 126 = .ok (.istore 6, 2) := by decide +kernel
theorem dX0_layTargets_128 : decode cX0_layTargets 128 = .ok (.aload_n 1, 1) := by decide +kernel
theorem dX0_layTargets_129 : decode cX0_layTargets 129 = .ok (.getfield 91, 3) := by decide +kernel
theorem dX0_layTargets_132 : decode cX0_layTargets 132 = .ok (.iload 4, 2) := by decide +kernel
theorem dX0_layTargets_134 : decode cX0_layTargets 134 = .ok (.iaload, 1) := by decide +kernel
theorem dX0_layTargets_135 : decode cX0_layTargets 135 = .ok (.istore 7, 2) := by decide +kernel
theorem dX0_layTargets_137 : decode cX0_layTargets 137 = .ok (.iload 6, 2) := by decide +kernel
theorem dX0_layTargets_139 : decode cX0_layTargets 139 = .ok (.ifCond .ne 28, 3) := by decide +kernel
theorem dX0_layTargets_142 : decode cX0_layTargets 142 = .ok (.aload_n 0, 1) := by decide +kernel
theorem dX0_layTargets_143 : decode cX0_layTargets 143 = .ok (.getfield 18, 3) := by decide +kernel
theorem dX0_layTargets_146 : decode cX0_layTargets 146 = .ok (.iload 7, 2) := by decide +kernel
theorem dX0_layTargets_148 : decode cX0_layTargets 148 = .ok (.iconst 1, 1) := by decide +kernel
theorem dX0_layTargets_149 : decode cX0_layTargets 149 = .ok (.bastore, 1) := by decide +kernel
theorem dX0_layTargets_150 : decode cX0_layTargets 150 = .ok (.aload_n 1, 1) := by decide +kernel
theorem dX0_layTargets_151 : decode cX0_layTargets 151 = .ok (.getfield 85, 3) := by decide +kernel
theorem dX0_layTargets_154 : decode cX0_layTargets 154 = .ok (.iload 4, 2) := by decide +kernel
theorem dX0_layTargets_156 : decode cX0_layTargets 156 = .ok (.baload, 1) := by decide +kernel
theorem dX0_layTargets_157 : decode cX0_layTargets 157 = .ok (.ifCond .eq 10, 3) := by decide +kernel
theorem dX0_layTargets_160 : decode cX0_layTargets 160 = .ok (.aload_n 0, 1) := by decide +kernel
theorem dX0_layTargets_161 : decode cX0_layTargets 161 = .ok (.iload 7, 2) := by decide +kernel
theorem dX0_layTargets_163 : decode cX0_layTargets 163 = .ok (.iload_n 3, 1) := by decide +kernel
theorem dX0_layTargets_164 : decode cX0_layTargets 164 = .ok (.invokevirtual 78, 3) := by decide +kernel
theorem dX0_layTargets_167 : decode cX0_layTargets 167 = .ok (.iconst 0, 1) := by decide +kernel
theorem dX0_layTargets_168 : decode cX0_layTargets 168 = .ok (.istore 8, 2) := by decide +kernel
theorem dX0_layTargets_170 : decode cX0_layTargets 170 = .ok (.iload 8, 2) := by decide +kernel
theorem dX0_layTargets_172 : decode cX0_layTargets 172 = .ok (.iload 6, 2) := by decide +kernel
theorem dX0_layTargets_174 : decode cX0_layTargets 174 = .ok (.if_icmp .ge 67, 3) := by decide +kernel
theorem dX0_layTargets_177 : decode cX0_layTargets 177 = .ok (.iload 5, 2) := by decide +kernel
theorem dX0_layTargets_179 : decode cX0_layTargets 179 = .ok (.istore 9, 2) := by decide +kernel
theorem dX0_layTargets_181 : decode cX0_layTargets 181 = .ok (.iload 8, 2) := by decide +kernel
theorem dX0_layTargets_183 : decode cX0_layTargets 183 = .ok (.iload 6, 2) := by decide +kernel
theorem dX0_layTargets_185 : decode cX0_layTargets 185 = .ok (.iconst 1, 1) := by decide +kernel
theorem dX0_layTargets_186 : decode cX0_layTargets 186 = .ok (.isub, 1) := by decide +kernel
theorem dX0_layTargets_187 : decode cX0_layTargets 187 = .ok (.if_icmp .ge 19, 3) := by decide +kernel
theorem dX0_layTargets_190 : decode cX0_layTargets 190 = .ok (.aload_n 0, 1) := by decide +kernel
theorem dX0_layTargets_191 : decode cX0_layTargets 191 = .ok (.getfield 31, 3) := by decide +kernel
theorem dX0_layTargets_194 : decode cX0_layTargets 194 = .ok (.istore 9, 2) := by decide +kernel
theorem dX0_layTargets_196 : decode cX0_layTargets 196 = .ok (.aload_n 0, 1) := by decide +kernel
theorem dX0_layTargets_197 : decode cX0_layTargets 197 = .ok (.dup, 1) := by decide +kernel
theorem dX0_layTargets_198 : decode cX0_layTargets 198 = .ok (.getfield 31, 3) := by decide +kernel
theorem dX0_layTargets_201 : decode cX0_layTargets 201 = .ok (.iconst 1, 1) := by decide +kernel
theorem dX0_layTargets_202 : decode cX0_layTargets 202 = .ok (.iadd, 1) := by decide +kernel
theorem dX0_layTargets_203 : decode cX0_layTargets 203 = .ok (.putfield 31, 3) := by decide +kernel
theorem dX0_layTargets_206 : decode cX0_layTargets 206 = .ok (.aload_n 0, 1) := by decide +kernel
theorem dX0_layTargets_207 : decode cX0_layTargets 207 = .ok (.getfield 9, 3) := by decide +kernel
theorem dX0_layTargets_210 : decode cX0_layTargets 210 = .ok (.iload 7, 2) := by decide +kernel
theorem dX0_layTargets_212 : decode cX0_layTargets 212 = .ok (.aload_n 1, 1) := by decide +kernel
theorem dX0_layTargets_213 : decode cX0_layTargets 213 = .ok (.getfield 94, 3) := by decide +kernel
theorem dX0_layTargets_216 : decode cX0_layTargets 216 = .ok (.iload 4, 2) := by decide +kernel
theorem dX0_layTargets_218 : decode cX0_layTargets 218 = .ok (.iconst 3, 1) := by decide +kernel
theorem dX0_layTargets_219 : decode cX0_layTargets 219 = .ok (.imul, 1) := by decide +kernel
theorem dX0_layTargets_220 : decode cX0_layTargets 220 = .ok (.iload 8, 2) := by decide +kernel
theorem dX0_layTargets_222 : decode cX0_layTargets 222 = .ok (.iadd, 1) := by decide +kernel
theorem dX0_layTargets_223 : decode cX0_layTargets 223 = .ok (.iaload, 1) := by decide +kernel
theorem dX0_layTargets_224 : decode cX0_layTargets 224 = .ok (.iload 9, 2) := by decide +kernel
theorem dX0_layTargets_226 : decode cX0_layTargets 226 = .ok (.invokestatic 97, 3) := by decide +kernel
theorem dX0_layTargets_229 : decode cX0_layTargets 229 = .ok (.iconst 0, 1) := by decide +kernel
theorem dX0_layTargets_230 : decode cX0_layTargets 230 = .ok (.iastore, 1) := by decide +kernel
theorem dX0_layTargets_231 : decode cX0_layTargets 231 = .ok (.iload 9, 2) := by decide +kernel
theorem dX0_layTargets_233 : decode cX0_layTargets 233 = .ok (.istore 7, 2) := by decide +kernel
theorem dX0_layTargets_235 : decode cX0_layTargets 235 = .ok (.iinc 8 1, 3) := by decide +kernel
theorem dX0_layTargets_238 : decode cX0_layTargets 238 = .ok (.goto (-68), 3) := by decide +kernel
theorem dX0_layTargets_241 : decode cX0_layTargets 241 = .ok (.iinc 4 1, 3) := by decide +kernel
theorem dX0_layTargets_244 : decode cX0_layTargets 244 = .ok (.goto (-151), 3) := by decide +kernel
theorem dX0_layTargets_247 : decode cX0_layTargets 247 = .ok (.return_, 1) := by decide +kernel
theorem dX0_layAnyLetter_0 : decode cX0_layAnyLetter 0 = .ok (.iconst 0, 1) := by decide +kernel
theorem dX0_layAnyLetter_1 : decode cX0_layAnyLetter 1 = .ok (.istore_n 3, 1) := by decide +kernel
theorem dX0_layAnyLetter_2 : decode cX0_layAnyLetter 2 = .ok (.iload_n 3, 1) := by decide +kernel
theorem dX0_layAnyLetter_3 : decode cX0_layAnyLetter 3 = .ok (.iconst 4, 1) := by decide +kernel
theorem dX0_layAnyLetter_4 : decode cX0_layAnyLetter 4 = .ok (.if_icmp .ge 21, 3) := by decide +kernel
theorem dX0_layAnyLetter_7 : decode cX0_layAnyLetter 7 = .ok (.aload_n 0, 1) := by decide +kernel
theorem dX0_layAnyLetter_8 : decode cX0_layAnyLetter 8 = .ok (.getfield 9, 3) := by decide +kernel
theorem dX0_layAnyLetter_11 : decode cX0_layAnyLetter 11 = .ok (.iload_n 1, 1) := by decide +kernel
theorem dX0_layAnyLetter_12 : decode cX0_layAnyLetter 12 = .ok (.iload_n 3, 1) := by decide +kernel
theorem dX0_layAnyLetter_13 : decode cX0_layAnyLetter 13 = .ok (.iload_n 2, 1) := by decide +kernel
theorem dX0_layAnyLetter_14 : decode cX0_layAnyLetter 14 = .ok (.invokestatic 97, 3) := by decide +kernel
theorem dX0_layAnyLetter_17 : decode cX0_layAnyLetter 17 = .ok (.iconst 0, 1) := by decide +kernel
theorem dX0_layAnyLetter_18 : decode cX0_layAnyLetter 18 = .ok (.iastore, 1) := by decide +kernel
theorem dX0_layAnyLetter_19 : decode cX0_layAnyLetter 19 = .ok (.iinc 3 1, 3) := by decide +kernel
theorem dX0_layAnyLetter_22 : decode cX0_layAnyLetter 22 = .ok (.goto (-20), 3) := by decide +kernel
theorem dX0_layAnyLetter_25 : decode cX0_layAnyLetter 25 = .ok (.return_, 1) := by decide +kernel
theorem dX0_countEdges_0 : decode cX0_countEdges 0 = .ok (.iconst 0, 1) := by decide +kernel
theorem dX0_countEdges_1 : decode cX0_countEdges 1 = .ok (.istore_n 1, 1) := by decide +kernel
theorem dX0_countEdges_2 : decode cX0_countEdges 2 = .ok (.iconst 0, 1) := by decide +kernel
theorem dX0_countEdges_3 : decode cX0_countEdges 3 = .ok (.istore_n 2, 1) := by decide +kernel
theorem dX0_countEdges_4 : decode cX0_countEdges 4 = .ok (.iload_n 2, 1) := by decide +kernel
theorem dX0_countEdges_5 : decode cX0_countEdges 5 = .ok (.aload_n 0, 1) := by decide +kernel
theorem dX0_countEdges_6 : decode cX0_countEdges 6 = .ok (.getfield 9, 3) := by decide +kernel
theorem dX0_countEdges_9 : decode cX0_countEdges 9 = .ok (.arraylength, 1) := by decide +kernel
theorem dX0_countEdges_10 : decode cX0_countEdges 10 = .ok (.if_icmp .ge 23, 3) := by decide +kernel
theorem dX0_countEdges_13 : decode cX0_countEdges 13 = .ok (.aload_n 0, 1) := by decide +kernel
theorem dX0_countEdges_14 : decode cX0_countEdges 14 = .ok (.getfield 9, 3) := by decide +kernel
theorem dX0_countEdges_17 : decode cX0_countEdges 17 = .ok (.iload_n 2, 1) := by decide +kernel
theorem dX0_countEdges_18 : decode cX0_countEdges 18 = .ok (.iaload, 1) := by decide +kernel
theorem dX0_countEdges_19 : decode cX0_countEdges 19 = .ok (.ldc 77, 2) := by decide +kernel
theorem dX0_countEdges_21 : decode cX0_countEdges 21 = .ok (.if_icmp .ge 6, 3) := by decide +kernel
theorem dX0_countEdges_24 : decode cX0_countEdges 24 = .ok (.iinc 1 1, 3) := by decide +kernel
theorem dX0_countEdges_27 : decode cX0_countEdges 27 = .ok (.iinc 2 1, 3) := by decide +kernel
theorem dX0_countEdges_30 : decode cX0_countEdges 30 = .ok (.goto (-26), 3) := by decide +kernel
theorem dX0_countEdges_33 : decode cX0_countEdges 33 = .ok (.iload_n 1, 1) := by decide +kernel
theorem dX0_countEdges_34 : decode cX0_countEdges 34 = .ok (.ireturn, 1) := by decide +kernel
theorem dX0_playRound_0 : decode cX0_playRound 0 = .ok (.iconst 0, 1) := by decide +kernel
theorem dX0_playRound_1 : decode cX0_playRound 1 = .ok (.istore_n 2, 1) := by decide +kernel
theorem dX0_playRound_2 : decode cX0_playRound 2 = .ok (.iconst 0, 1) := by decide +kernel
theorem dX0_playRound_3 : decode cX0_playRound 3 = .ok (.istore_n 3, 1) := by decide +kernel
theorem dX0_playRound_4 : decode cX0_playRound 4 = .ok (.iload_n 3, 1) := by decide +kernel
theorem dX0_playRound_5 : decode cX0_playRound 5 = .ok (.aload_n 1, 1) := by decide +kernel
theorem dX0_playRound_6 : decode cX0_playRound 6 = .ok (.getfield 39, 3) := by decide +kernel
theorem dX0_playRound_9 : decode cX0_playRound 9 = .ok (.if_icmp .ge 101, 3) := by decide +kernel
theorem dX0_playRound_12 : decode cX0_playRound 12 = .ok (.aload_n 0, 1) := by decide +kernel
theorem dX0_playRound_13 : decode cX0_playRound 13 = .ok (.getfield 22, 3) := by decide +kernel
theorem dX0_playRound_16 : decode cX0_playRound 16 = .ok (.iload_n 3, 1) := by decide +kernel
theorem dX0_playRound_17 : decode cX0_playRound 17 = .ok (.iaload, 1) := by decide +kernel
theorem dX0_playRound_18 : decode cX0_playRound 18 = .ok (.iconst (-1), 1) := by decide +kernel
theorem dX0_playRound_19 : decode cX0_playRound 19 = .ok (.if_icmp .eq 85, 3) := by decide +kernel
theorem dX0_playRound_22 : decode cX0_playRound 22 = .ok (.aload_n 0, 1) := by decide +kernel
theorem dX0_playRound_23 : decode cX0_playRound 23 = .ok (.aload_n 1, 1) := by decide +kernel
theorem dX0_playRound_24 : decode cX0_playRound 24 = .ok (.getfield 101, 3) := by decide +kernel
theorem dX0_playRound_27 : decode cX0_playRound 27 = .ok (.iload_n 3, 1) := by decide +kernel
theorem dX0_playRound_28 : decode cX0_playRound 28 = .ok (.iaload, 1) := by decide +kernel
theorem dX0_playRound_29 : decode cX0_playRound 29 = .ok (.invokevirtual 104, 3) := by decide +kernel
theorem dX0_playRound_32 : decode cX0_playRound 32 = .ok (.aload_n 1, 1) := by decide +kernel
theorem dX0_playRound_33 : decode cX0_playRound 33 = .ok (.getfield 108, 3) := by decide +kernel
theorem dX0_playRound_36 : decode cX0_playRound 36 = .ok (.iload_n 3, 1) := by decide +kernel
theorem dX0_playRound_37 : decode cX0_playRound 37 = .ok (.iaload, 1) := by decide +kernel
theorem dX0_playRound_38 : decode cX0_playRound 38 = .ok (.istore 4, 2) := by decide +kernel
theorem dX0_playRound_40 : decode cX0_playRound 40 = .ok (.iload 4, 2) := by decide +kernel
theorem dX0_playRound_42 : decode cX0_playRound 42 = .ok (.invokestatic 111, 3) := by decide +kernel
theorem dX0_playRound_45 : decode cX0_playRound 45 = .ok (.ifCond .le 12, 3) := by decide +kernel
theorem dX0_playRound_48 : decode cX0_playRound 48 = .ok (.aload_n 0, 1) := by decide +kernel
theorem dX0_playRound_49 : decode cX0_playRound 49 = .ok (.iload 4, 2) := by decide +kernel
theorem dX0_playRound_51 : decode cX0_playRound 51 = .ok (.invokestatic 115, 3) := by decide +kernel
theorem dX0_playRound_54 : decode cX0_playRound 54 = .ok (.invokevirtual 118, 3) := by decide +kernel
theorem dX0_playRound_57 : decode cX0_playRound 57 = .ok (.iload 4, 2) := by decide +kernel
theorem dX0_playRound_59 : decode cX0_playRound 59 = .ok (.invokestatic 111, 3) := by decide +kernel
theorem dX0_playRound_62 : decode cX0_playRound 62 = .ok (.iconst 2, 1) := by decide +kernel
theorem dX0_playRound_63 : decode cX0_playRound 63 = .ok (.if_icmp .ne 12, 3) := by decide +kernel
theorem dX0_playRound_66 : decode cX0_playRound 66 = .ok (.aload_n 0, 1) := by decide +kernel
theorem dX0_playRound_67 : decode cX0_playRound 67 = .ok (.iload 4, 2) := by decide +kernel
theorem dX0_playRound_69 : decode cX0_playRound 69 = .ok (.invokestatic 121, 3) := by decide +kernel
theorem dX0_playRound_72 : decode cX0_playRound 72 = .ok (.invokevirtual 118, 3) := by decide +kernel
theorem dX0_playRound_75 : decode cX0_playRound 75 = .ok (.iload_n 2, 1) := by decide +kernel
theorem dX0_playRound_76 : decode cX0_playRound 76 = .ok (.aload_n 0, 1) := by decide +kernel
theorem dX0_playRound_77 : decode cX0_playRound 77 = .ok (.aload_n 1, 1) := by decide +kernel
theorem dX0_playRound_78 : decode cX0_playRound 78 = .ok (.getfield 124, 3) := by decide +kernel
theorem dX0_playRound_81 : decode cX0_playRound 81 = .ok (.iload_n 3, 1) := by decide +kernel
theorem dX0_playRound_82 : decode cX0_playRound 82 = .ok (.iaload, 1) := by decide +kernel
theorem dX0_playRound_83 : decode cX0_playRound 83 = .ok (.aload_n 1, 1) := by decide +kernel
theorem dX0_playRound_84 : decode cX0_playRound 84 = .ok (.getfield 127, 3) := by decide +kernel
theorem dX0_playRound_87 : decode cX0_playRound 87 = .ok (.iload_n 3, 1) := by decide +kernel
theorem dX0_playRound_88 : decode cX0_playRound 88 = .ok (.iaload, 1) := by decide +kernel
theorem dX0_playRound_89 : decode cX0_playRound 89 = .ok (.iconst 0, 1) := by decide +kernel
theorem dX0_playRound_90 : decode cX0_playRound 90 = .ok (.invokestatic 97, 3) := by decide +kernel
theorem dX0_playRound_93 : decode cX0_playRound 93 = .ok (.aload_n 0, 1) := by decide +kernel
theorem dX0_playRound_94 : decode cX0_playRound 94 = .ok (.getfield 22, 3) := by decide +kernel
theorem dX0_playRound_97 : decode cX0_playRound 97 = .ok (.iload_n 3, 1) := by decide +kernel
theorem dX0_playRound_98 : decode cX0_playRound 98 = .ok (.iaload, 1) := by decide +kernel
theorem dX0_playRound_99 : decode cX0_playRound 99 = .ok (.invokevirtual 130, 3) := by decide +kernel
theorem dX0_playRound_102 : decode cX0_playRound 102 = .ok (.ior, 1) := by decide +kernel
theorem dX0_playRound_103 : decode cX0_playRound 103 = .ok (.istore_n 2, 1) := by decide +kernel
theorem dX0_playRound_104 : decode cX0_playRound 104 = .ok (.iinc 3 1, 3) := by decide +kernel
theorem dX0_playRound_107 : decode cX0_playRound 107 = .ok (.goto (-103), 3) := by decide +kernel
theorem dX0_playRound_110 : decode cX0_playRound 110 = .ok (.iload_n 2, 1) := by decide +kernel
theorem dX0_playRound_111 : decode cX0_playRound 111 = .ok (.ireturn, 1) := by decide +kernel
theorem dX0_drawEdges_0 : decode cX0_drawEdges 0 = .ok (.iconst 0, 1) := by decide +kernel
theorem dX0_drawEdges_1 : decode cX0_drawEdges 1 = .ok (.istore_n 3, 1) := by decide +kernel
theorem dX0_drawEdges_2 : decode cX0_drawEdges 2 = .ok (.iconst 0, 1) := by decide +kernel
theorem dX0_drawEdges_3 : decode cX0_drawEdges 3 = .ok (.istore 4, 2) := by decide +kernel
theorem dX0_drawEdges_5 : decode cX0_drawEdges 5 = .ok (.iload 4, 2) := by decide +kernel
theorem dX0_drawEdges_7 : decode cX0_drawEdges 7 = .ok (.aload_n 0, 1) := by decide +kernel
theorem dX0_drawEdges_8 : decode cX0_drawEdges 8 = .ok (.getfield 31, 3) := by decide +kernel
theorem dX0_drawEdges_11 : decode cX0_drawEdges 11 = .ok (.if_icmp .ge 62, 3) := by decide +kernel
theorem dX0_drawEdges_14 : decode cX0_drawEdges 14 = .ok (.aload_n 0, 1) := by decide +kernel
theorem dX0_drawEdges_15 : decode cX0_drawEdges 15 = .ok (.getfield 25, 3) := by decide +kernel
theorem dX0_drawEdges_18 : decode cX0_drawEdges 18 = .ok (.iload 4, 2) := by decide +kernel
theorem dX0_drawEdges_20 : decode cX0_drawEdges 20 = .ok (.iaload, 1) := by decide +kernel
theorem dX0_drawEdges_21 : decode cX0_drawEdges 21 = .ok (.ldc 77, 2) := by decide +kernel
theorem dX0_drawEdges_23 : decode cX0_drawEdges 23 = .ok (.if_icmp .ge 44, 3) := by decide +kernel
theorem dX0_drawEdges_26 : decode cX0_drawEdges 26 = .ok (.aload_n 0, 1) := by decide +kernel
theorem dX0_drawEdges_27 : decode cX0_drawEdges 27 = .ok (.iload_n 2, 1) := by decide +kernel
theorem dX0_drawEdges_28 : decode cX0_drawEdges 28 = .ok (.aload_n 0, 1) := by decide +kernel
theorem dX0_drawEdges_29 : decode cX0_drawEdges 29 = .ok (.getfield 25, 3) := by decide +kernel
theorem dX0_drawEdges_32 : decode cX0_drawEdges 32 = .ok (.iload 4, 2) := by decide +kernel
theorem dX0_drawEdges_34 : decode cX0_drawEdges 34 = .ok (.iaload, 1) := by decide +kernel
theorem dX0_drawEdges_35 : decode cX0_drawEdges 35 = .ok (.invokevirtual 134, 3) := by decide +kernel
theorem dX0_drawEdges_38 : decode cX0_drawEdges 38 = .ok (.istore 5, 2) := by decide +kernel
theorem dX0_drawEdges_40 : decode cX0_drawEdges 40 = .ok (.iload 5, 2) := by decide +kernel
theorem dX0_drawEdges_42 : decode cX0_drawEdges 42 = .ok (.aload_n 0, 1) := by decide +kernel
theorem dX0_drawEdges_43 : decode cX0_drawEdges 43 = .ok (.getfield 9, 3) := by decide +kernel
theorem dX0_drawEdges_46 : decode cX0_drawEdges 46 = .ok (.iload_n 1, 1) := by decide +kernel
theorem dX0_drawEdges_47 : decode cX0_drawEdges 47 = .ok (.iload 4, 2) := by decide +kernel
theorem dX0_drawEdges_49 : decode cX0_drawEdges 49 = .ok (.iadd, 1) := by decide +kernel
theorem dX0_drawEdges_50 : decode cX0_drawEdges 50 = .ok (.iaload, 1) := by decide +kernel
theorem dX0_drawEdges_51 : decode cX0_drawEdges 51 = .ok (.if_icmp .ge 16, 3) := by decide +kernel
theorem dX0_drawEdges_54 : decode cX0_drawEdges 54 = .ok (.aload_n 0, 1) := by decide +kernel
theorem dX0_drawEdges_55 : decode cX0_drawEdges 55 = .ok (.getfield 9, 3) := by decide +kernel
theorem dX0_drawEdges_58 : decode cX0_drawEdges 58 = .ok (.iload_n 1, 1) := by decide +kernel
theorem dX0_drawEdges_59 : decode cX0_drawEdges 59 = .ok (.iload 4, 2) := by decide +kernel
theorem dX0_drawEdges_61 : decode cX0_drawEdges 61 = .ok (.iadd, 1) := by decide +kernel
theorem dX0_drawEdges_62 : decode cX0_drawEdges 62 = .ok (.iload 5, 2) := by decide +kernel
theorem dX0_drawEdges_64 : decode cX0_drawEdges 64 = .ok (.iastore, 1) := by decide +kernel
theorem dX0_drawEdges_65 : decode cX0_drawEdges 65 = .ok (.iconst 1, 1) := by decide +kernel
theorem dX0_drawEdges_66 : decode cX0_drawEdges 66 = .ok (.istore_n 3, 1) := by decide +kernel
theorem dX0_drawEdges_67 : decode cX0_drawEdges 67 = .ok (.iinc 4 1, 3) := by decide +kernel
theorem dX0_drawEdges_70 : decode cX0_drawEdges 70 = .ok (.goto (-65), 3) := by decide +kernel
theorem dX0_drawEdges_73 : decode cX0_drawEdges 73 = .ok (.iload_n 3, 1) := by decide +kernel
theorem dX0_drawEdges_74 : decode cX0_drawEdges 74 = .ok (.ireturn, 1) := by decide +kernel
theorem dX0_joined_0 : decode cX0_joined 0 = .ok (.aload_n 0, 1) := by decide +kernel
theorem dX0_joined_1 : decode cX0_joined 1 = .ok (.getfield 35, 3) := by decide +kernel
theorem dX0_joined_4 : decode cX0_joined 4 = .ok (.ifCond .eq 11, 3) := by decide +kernel
theorem dX0_joined_7 : decode cX0_joined 7 = .ok (.iload_n 1, 1) := by decide +kernel
theorem dX0_joined_8 : decode cX0_joined 8 = .ok (.iload_n 2, 1) := by decide +kernel
theorem dX0_joined_9 : decode cX0_joined 9 = .ok (.invokestatic 138, 3) := by decide +kernel
theorem dX0_joined_12 : decode cX0_joined 12 = .ok (.goto 6, 3) := by decide +kernel
theorem dX0_joined_15 : decode cX0_joined 15 = .ok (.iload_n 1, 1) := by decide +kernel
theorem dX0_joined_16 : decode cX0_joined 16 = .ok (.iload_n 2, 1) := by decide +kernel
theorem dX0_joined_17 : decode cX0_joined 17 = .ok (.iadd, 1) := by decide +kernel
theorem dX0_joined_18 : decode cX0_joined 18 = .ok (.ireturn, 1) := by decide +kernel
theorem dX0_startAt_0 : decode cX0_startAt 0 = .ok (.iconst 0, 1) := by decide +kernel
theorem dX0_startAt_1 : decode cX0_startAt 1 = .ok (.istore_n 2, 1) := by decide +kernel
theorem dX0_startAt_2 : decode cX0_startAt 2 = .ok (.iload_n 2, 1) := by decide +kernel
theorem dX0_startAt_3 : decode cX0_startAt 3 = .ok (.bipush 13, 2) := by decide +kernel
theorem dX0_startAt_5 : decode cX0_startAt 5 = .ok (.if_icmp .ge 17, 3) := by decide +kernel
theorem dX0_startAt_8 : decode cX0_startAt 8 = .ok (.aload_n 0, 1) := by decide +kernel
theorem dX0_startAt_9 : decode cX0_startAt 9 = .ok (.getfield 25, 3) := by decide +kernel
theorem dX0_startAt_12 : decode cX0_startAt 12 = .ok (.iload_n 2, 1) := by decide +kernel
theorem dX0_startAt_13 : decode cX0_startAt 13 = .ok (.ldc 77, 2) := by decide +kernel
theorem dX0_startAt_15 : decode cX0_startAt 15 = .ok (.iastore, 1) := by decide +kernel
theorem dX0_startAt_16 : decode cX0_startAt 16 = .ok (.iinc 2 1, 3) := by decide +kernel
theorem dX0_startAt_19 : decode cX0_startAt 19 = .ok (.goto (-17), 3) := by decide +kernel
theorem dX0_startAt_22 : decode cX0_startAt 22 = .ok (.aload_n 0, 1) := by decide +kernel
theorem dX0_startAt_23 : decode cX0_startAt 23 = .ok (.getfield 25, 3) := by decide +kernel
theorem dX0_startAt_26 : decode cX0_startAt 26 = .ok (.iload_n 1, 1) := by decide +kernel
theorem dX0_startAt_27 : decode cX0_startAt 27 = .ok (.iconst 0, 1) := by decide +kernel
theorem dX0_startAt_28 : decode cX0_startAt 28 = .ok (.iastore, 1) := by decide +kernel
theorem dX0_startAt_29 : decode cX0_startAt 29 = .ok (.return_, 1) := by decide +kernel
theorem dX0_readOn_0 : decode cX0_readOn 0 = .ok (.iconst 0, 1) := by decide +kernel
theorem dX0_readOn_1 : decode cX0_readOn 1 = .ok (.istore_n 2, 1) := by decide +kernel
theorem dX0_readOn_2 : decode cX0_readOn 2 = .ok (.iload_n 2, 1) := by decide +kernel
theorem dX0_readOn_3 : decode cX0_readOn 3 = .ok (.bipush 13, 2) := by decide +kernel
theorem dX0_readOn_5 : decode cX0_readOn 5 = .ok (.if_icmp .ge 17, 3) := by decide +kernel
theorem dX0_readOn_8 : decode cX0_readOn 8 = .ok (.aload_n 0, 1) := by decide +kernel
theorem dX0_readOn_9 : decode cX0_readOn 9 = .ok (.getfield 28, 3) := by decide +kernel
theorem dX0_readOn_12 : decode cX0_readOn 12 = .ok (.iload_n 2, 1) := by decide +kernel
theorem dX0_readOn_13 : decode cX0_readOn 13 = .ok (.ldc 77, 2) := by decide +kernel
theorem dX0_readOn_15 : decode cX0_readOn 15 = .ok (.iastore, 1) := by decide +kernel
theorem dX0_readOn_16 : decode cX0_readOn 16 = .ok (.iinc 2 1, 3) := by decide +kernel
theorem dX0_readOn_19 : decode cX0_readOn 19 = .ok (.goto (-17), 3) := by decide +kernel
theorem dX0_readOn_22 : decode cX0_readOn 22 = .ok (.iconst 0, 1) := by decide +kernel
theorem dX0_readOn_23 : decode cX0_readOn 23 = .ok (.istore_n 2, 1) := by decide +kernel
theorem dX0_readOn_24 : decode cX0_readOn 24 = .ok (.iload_n 2, 1) := by decide +kernel
theorem dX0_readOn_25 : decode cX0_readOn 25 = .ok (.aload_n 0, 1) := by decide +kernel
theorem dX0_readOn_26 : decode cX0_readOn 26 = .ok (.getfield 31, 3) := by decide +kernel
theorem dX0_readOn_29 : decode cX0_readOn 29 = .ok (.if_icmp .ge 95, 3) := by decide +kernel
theorem dX0_readOn_32 : decode cX0_readOn 32 = .ok (.aload_n 0, 1) := by decide +kernel
theorem dX0_readOn_33 : decode cX0_readOn 33 = .ok (.getfield 25, 3) := by decide +kernel
theorem dX0_readOn_36 : decode cX0_readOn 36 = .ok (.iload_n 2, 1) := by decide +kernel
theorem dX0_readOn_37 : decode cX0_readOn 37 = .ok (.iaload, 1) := by decide +kernel
theorem dX0_readOn_38 : decode cX0_readOn 38 = .ok (.ldc 77, 2) := by decide +kernel
theorem dX0_readOn_40 : decode cX0_readOn 40 = .ok (.if_icmp .ge 78, 3) := by decide +kernel
theorem dX0_readOn_43 : decode cX0_readOn 43 = .ok (.iload_n 2, 1) := by decide +kernel
theorem dX0_readOn_44 : decode cX0_readOn 44 = .ok (.iload_n 1, 1) := by decide +kernel
theorem dX0_readOn_45 : decode cX0_readOn 45 = .ok (.iconst 0, 1) := by decide +kernel
theorem dX0_readOn_46 : decode cX0_readOn 46 = .ok (.invokestatic 97, 3) := by decide +kernel
theorem dX0_readOn_49 : decode cX0_readOn 49 = .ok (.istore_n 3, 1) := by decide +kernel
theorem dX0_readOn_50 : decode cX0_readOn 50 = .ok (.iconst 0, 1) := by decide +kernel
theorem dX0_readOn_51 : decode cX0_readOn 51 = .ok (.istore 4, 2) := by decide +kernel
theorem dX0_readOn_53 : decode cX0_readOn 53 = .ok (.iload 4, 2) := by decide +kernel
theorem dX0_readOn_55 : decode cX0_readOn 55 = .ok (.aload_n 0, 1) := by decide +kernel
theorem dX0_readOn_56 : decode cX0_readOn 56 = .ok (.getfield 31, 3) := by decide +kernel
theorem dX0_readOn_59 : decode cX0_readOn 59 = .ok (.if_icmp .ge 59, 3) := by decide +kernel
theorem dX0_readOn_62 : decode cX0_readOn 62 = .ok (.aload_n 0, 1) := by decide +kernel
theorem dX0_readOn_63 : decode cX0_readOn 63 = .ok (.getfield 15, 3) := by decide +kernel
theorem dX0_readOn_66 : decode cX0_readOn 66 = .ok (.iload_n 3, 1) := by decide +kernel
theorem dX0_readOn_67 : decode cX0_readOn 67 = .ok (.iload 4, 2) := by decide +kernel
theorem dX0_readOn_69 : decode cX0_readOn 69 = .ok (.iadd, 1) := by decide +kernel
theorem dX0_readOn_70 : decode cX0_readOn 70 = .ok (.iaload, 1) := by decide +kernel
theorem dX0_readOn_71 : decode cX0_readOn 71 = .ok (.ldc 77, 2) := by decide +kernel
theorem dX0_readOn_73 : decode cX0_readOn 73 = .ok (.if_icmp .ge 39, 3) := by decide +kernel
theorem dX0_readOn_76 : decode cX0_readOn 76 = .ok (.aload_n 0, 1) := by decide +kernel
theorem dX0_readOn_77 : decode cX0_readOn 77 = .ok (.getfield 28, 3) := by decide +kernel
theorem dX0_readOn_80 : decode cX0_readOn 80 = .ok (.iload 4, 2) := by decide +kernel
theorem dX0_readOn_82 : decode cX0_readOn 82 = .ok (.aload_n 0, 1) := by decide +kernel
theorem dX0_readOn_83 : decode cX0_readOn 83 = .ok (.getfield 28, 3) := by decide +kernel
theorem dX0_readOn_86 : decode cX0_readOn 86 = .ok (.iload 4, 2) := by decide +kernel
theorem dX0_readOn_88 : decode cX0_readOn 88 = .ok (.iaload, 1) := by decide +kernel
theorem dX0_readOn_89 : decode cX0_readOn 89 = .ok (.aload_n 0, 1) := by decide +kernel
theorem dX0_readOn_90 : decode cX0_readOn 90 = .ok (.aload_n 0, 1) := by decide +kernel
theorem dX0_readOn_91 : decode cX0_readOn 91 = .ok (.getfield 25, 3) := by decide +kernel
theorem dX0_readOn_94 : decode cX0_readOn 94 = .ok (.iload_n 2, 1) := by decide +kernel
theorem dX0_readOn_95 : decode cX0_readOn 95 = .ok (.iaload, 1) := by decide +kernel
theorem dX0_readOn_96 : decode cX0_readOn 96 = .ok (.aload_n 0, 1) := by decide +kernel
theorem dX0_readOn_97 : decode cX0_readOn 97 = .ok (.getfield 15, 3) := by decide +kernel
theorem dX0_readOn_100 : decode cX0_readOn 100 = .ok (.iload_n 3, 1) := by decide +kernel
theorem dX0_readOn_101 : decode cX0_readOn 101 = .ok (.iload 4, 2) := by decide +kernel
theorem dX0_readOn_103 : decode cX0_readOn 103 = .ok (.iadd, 1) := by decide +kernel
theorem dX0_readOn_104 : decode cX0_readOn 104 = .ok (.iaload, 1) := by decide +kernel
theorem dX0_readOn_105 : decode cX0_readOn 105 = .ok (.invokevirtual 134, 3) := by decide +kernel
theorem dX0_readOn_108 : decode cX0_readOn 108 = .ok (.invokestatic 143, 3) := by decide +kernel
theorem dX0_readOn_111 : decode cX0_readOn 111 = .ok (.iastore, 1) := by decide +kernel
theorem dX0_readOn_112 : decode cX0_readOn 112 = .ok (.iinc 4 1, 3) := by decide +kernel
theorem dX0_readOn_115 : decode cX0_readOn 115 = .ok (.goto (-62), 3) := by decide +kernel
theorem dX0_readOn_118 : decode cX0_readOn 118 = .ok (.iinc 2 1, 3) := by decide +kernel
theorem dX0_readOn_121 : decode cX0_readOn 121 = .ok (.goto (-97), 3) := by decide +kernel
theorem dX0_readOn_124 : decode cX0_readOn 124 = .ok (.aload_n 0, 1) := by decide +kernel
theorem dX0_readOn_125 : decode cX0_readOn 125 = .ok (.getfield 28, 3) := by decide +kernel
theorem dX0_readOn_128 : decode cX0_readOn 128 = .ok (.astore_n 2, 1) := by decide +kernel
theorem dX0_readOn_129 : decode cX0_readOn 129 = .ok (.aload_n 0, 1) := by decide +kernel
theorem dX0_readOn_130 : decode cX0_readOn 130 = .ok (.aload_n 0, 1) := by decide +kernel
theorem dX0_readOn_131 : decode cX0_readOn 131 = .ok (.getfield 25, 3) := by decide +kernel
theorem dX0_readOn_134 : decode cX0_readOn 134 = .ok (.putfield 28, 3) := by decide +kernel
theorem dX0_readOn_137 : decode cX0_readOn 137 = .ok (.aload_n 0, 1) := by decide +kernel
theorem dX0_readOn_138 : decode cX0_readOn 138 = .ok (.aload_n 2, 1) := by decide +kernel
theorem dX0_readOn_139 : decode cX0_readOn 139 = .ok (.putfield 25, 3) := by decide +kernel
theorem dX0_readOn_142 : decode cX0_readOn 142 = .ok (.return_, 1) := by decide +kernel
theorem dX0_priceOf_0 : decode cX0_priceOf 0 = .ok (.aload_n 0, 1) := by decide +kernel
theorem dX0_priceOf_1 : decode cX0_priceOf 1 = .ok (.aload_n 1, 1) := by decide +kernel
theorem dX0_priceOf_2 : decode cX0_priceOf 2 = .ok (.getfield 146, 3) := by decide +kernel
theorem dX0_priceOf_5 : decode cX0_priceOf 5 = .ok (.invokevirtual 104, 3) := by decide +kernel
theorem dX0_priceOf_8 : decode cX0_priceOf 8 = .ok (.aload_n 1, 1) := by decide +kernel
theorem dX0_priceOf_9 : decode cX0_priceOf 9 = .ok (.getfield 149, 3) := by decide +kernel
theorem dX0_priceOf_12 : decode cX0_priceOf 12 = .ok (.iconst 1, 1) := by decide +kernel
theorem dX0_priceOf_13 : decode cX0_priceOf 13 = .ok (.isub, 1) := by decide +kernel
theorem dX0_priceOf_14 : decode cX0_priceOf 14 = .ok (.istore_n 2, 1) := by decide +kernel
theorem dX0_priceOf_15 : decode cX0_priceOf 15 = .ok (.iload_n 2, 1) := by decide +kernel
theorem dX0_priceOf_16 : decode cX0_priceOf 16 = .ok (.ifCond .lt 19, 3) := by decide +kernel
theorem dX0_priceOf_19 : decode cX0_priceOf 19 = .ok (.aload_n 0, 1) := by decide +kernel
theorem dX0_priceOf_20 : decode cX0_priceOf 20 = .ok (.aload_n 1, 1) := by decide +kernel
theorem dX0_priceOf_21 : decode cX0_priceOf 21 = .ok (.getfield 152, 3) := by decide +kernel
theorem dX0_priceOf_24 : decode cX0_priceOf 24 = .ok (.iload_n 2, 1) := by decide +kernel
theorem dX0_priceOf_25 : decode cX0_priceOf 25 = .ok (.iaload, 1) := by decide +kernel
theorem dX0_priceOf_26 : decode cX0_priceOf 26 = .ok (.invokevirtual 118, 3) := by decide +kernel
theorem dX0_priceOf_29 : decode cX0_priceOf 29 = .ok (.iinc 2 (-1), 3) := by decide +kernel
theorem dX0_priceOf_32 : decode cX0_priceOf 32 = .ok (.goto (-17), 3) := by decide +kernel
theorem dX0_priceOf_35 : decode cX0_priceOf 35 = .ok (.ldc 77, 2) := by decide +kernel
theorem dX0_priceOf_37 : decode cX0_priceOf 37 = .ok (.istore_n 2, 1) := by decide +kernel
theorem dX0_priceOf_38 : decode cX0_priceOf 38 = .ok (.iconst 0, 1) := by decide +kernel
theorem dX0_priceOf_39 : decode cX0_priceOf 39 = .ok (.istore_n 3, 1) := by decide +kernel
theorem dX0_priceOf_40 : decode cX0_priceOf 40 = .ok (.iload_n 3, 1) := by decide +kernel
theorem dX0_priceOf_41 : decode cX0_priceOf 41 = .ok (.aload_n 0, 1) := by decide +kernel
theorem dX0_priceOf_42 : decode cX0_priceOf 42 = .ok (.getfield 31, 3) := by decide +kernel
theorem dX0_priceOf_45 : decode cX0_priceOf 45 = .ok (.if_icmp .ge 29, 3) := by decide +kernel
theorem dX0_priceOf_48 : decode cX0_priceOf 48 = .ok (.aload_n 0, 1) := by decide +kernel
theorem dX0_priceOf_49 : decode cX0_priceOf 49 = .ok (.getfield 18, 3) := by decide +kernel
theorem dX0_priceOf_52 : decode cX0_priceOf 52 = .ok (.iload_n 3, 1) := by decide +kernel
theorem dX0_priceOf_53 : decode cX0_priceOf 53 = .ok (.baload, 1) := by decide +kernel
theorem dX0_priceOf_54 : decode cX0_priceOf 54 = .ok (.ifCond .eq 14, 3) := by decide +kernel
theorem dX0_priceOf_57 : decode cX0_priceOf 57 = .ok (.iload_n 2, 1) := by decide +kernel
theorem dX0_priceOf_58 : decode cX0_priceOf 58 = .ok (.aload_n 0, 1) := by decide +kernel
theorem dX0_priceOf_59 : decode cX0_priceOf 59 = .ok (.getfield 25, 3) := by decide +kernel
theorem dX0_priceOf_62 : decode cX0_priceOf 62 = .ok (.iload_n 3, 1) := by decide +kernel
theorem dX0_priceOf_63 : decode cX0_priceOf 63 = .ok (.iaload, 1) := by decide +kernel
theorem dX0_priceOf_64 : decode cX0_priceOf 64 = .ok (.invokestatic 143, 3) := by decide +kernel
theorem dX0_priceOf_67 : decode cX0_priceOf 67 = .ok (.istore_n 2, 1) := by decide +kernel
theorem dX0_priceOf_68 : decode cX0_priceOf 68 = .ok (.iinc 3 1, 3) := by decide +kernel
theorem dX0_priceOf_71 : decode cX0_priceOf 71 = .ok (.goto (-31), 3) := by decide +kernel
theorem dX0_priceOf_74 : decode cX0_priceOf 74 = .ok (.iload_n 2, 1) := by decide +kernel
theorem dX0_priceOf_75 : decode cX0_priceOf 75 = .ok (.ldc 77, 2) := by decide +kernel
theorem dX0_priceOf_77 : decode cX0_priceOf 77 = .ok (.if_icmp .ge 7, 3) := by decide +kernel
theorem dX0_priceOf_80 : decode cX0_priceOf 80 = .ok (.iload_n 2, 1) := by decide +kernel
theorem dX0_priceOf_81 : decode cX0_priceOf 81 = .ok (.goto 5, 3) := by decide +kernel
theorem dX0_priceOf_84 : decode cX0_priceOf 84 = .ok (.bipush (-4), 2) := by decide +kernel
theorem dX0_priceOf_86 : decode cX0_priceOf 86 = .ok (.ireturn, 1) := by decide +kernel
theorem dX0_fillBottom_0 : decode cX0_fillBottom 0 = .ok (.iconst 0, 1) := by decide +kernel
theorem dX0_fillBottom_1 : decode cX0_fillBottom 1 = .ok (.istore_n 2, 1) := by decide +kernel
theorem dX0_fillBottom_2 : decode cX0_fillBottom 2 = .ok (.iload_n 2, 1) := by decide +kernel
theorem dX0_fillBottom_3 : decode cX0_fillBottom 3 = .ok (.bipush 13, 2) := by decide +kernel
theorem dX0_fillBottom_5 : decode cX0_fillBottom 5 = .ok (.if_icmp .ge 27, 3) := by decide +kernel
theorem dX0_fillBottom_8 : decode cX0_fillBottom 8 = .ok (.aload_n 1, 1) := by decide +kernel
theorem dX0_fillBottom_9 : decode cX0_fillBottom 9 = .ok (.iload_n 2, 1) := by decide +kernel
theorem dX0_fillBottom_10 : decode cX0_fillBottom 10 = .ok (.aload_n 0, 1) := by decide +kernel
theorem dX0_fillBottom_11 : decode cX0_fillBottom 11 = .ok (.getfield 18, 3) := by decide +kernel
theorem dX0_fillBottom_14 : decode cX0_fillBottom 14 = .ok (.iload_n 2, 1) := by decide +kernel
theorem dX0_fillBottom_15 : decode cX0_fillBottom 15 = .ok (.baload, 1) := by decide +kernel
theorem dX0_fillBottom_16 : decode cX0_fillBottom 16 = .ok (.ifCond .eq 7, 3) := by decide +kernel
theorem dX0_fillBottom_19 : decode cX0_fillBottom 19 = .ok (.iconst 0, 1) := by decide +kernel
theorem dX0_fillBottom_20 : decode cX0_fillBottom 20 = .ok (.goto 5, 3) := by decide +kernel
theorem dX0_fillBottom_23 : decode cX0_fillBottom 23 = .ok (.ldc 77, 2) := by decide +kernel
theorem dX0_fillBottom_25 : decode cX0_fillBottom 25 = .ok (.iastore, 1) := by decide +kernel
theorem dX0_fillBottom_26 : decode cX0_fillBottom 26 = .ok (.iinc 2 1, 3) := by decide +kernel
theorem dX0_fillBottom_29 : decode cX0_fillBottom 29 = .ok (.goto (-27), 3) := by decide +kernel
theorem dX0_fillBottom_32 : decode cX0_fillBottom 32 = .ok (.return_, 1) := by decide +kernel
theorem dX0_stepsOver_0 : decode cX0_stepsOver 0 = .ok (.ldc 77, 2) := by decide +kernel
theorem dX0_stepsOver_2 : decode cX0_stepsOver 2 = .ok (.istore 5, 2) := by decide +kernel
theorem dX0_stepsOver_4 : decode cX0_stepsOver 4 = .ok (.iload_n 1, 1) := by decide +kernel
theorem dX0_stepsOver_5 : decode cX0_stepsOver 5 = .ok (.iload_n 2, 1) := by decide +kernel
theorem dX0_stepsOver_6 : decode cX0_stepsOver 6 = .ok (.iconst 0, 1) := by decide +kernel
theorem dX0_stepsOver_7 : decode cX0_stepsOver 7 = .ok (.invokestatic 97, 3) := by decide +kernel
theorem dX0_stepsOver_10 : decode cX0_stepsOver 10 = .ok (.istore 6, 2) := by decide +kernel
theorem dX0_stepsOver_12 : decode cX0_stepsOver 12 = .ok (.iconst 0, 1) := by decide +kernel
theorem dX0_stepsOver_13 : decode cX0_stepsOver 13 = .ok (.istore 7, 2) := by decide +kernel
theorem dX0_stepsOver_15 : decode cX0_stepsOver 15 = .ok (.iload 7, 2) := by decide +kernel
theorem dX0_stepsOver_17 : decode cX0_stepsOver 17 = .ok (.aload_n 0, 1) := by decide +kernel
theorem dX0_stepsOver_18 : decode cX0_stepsOver 18 = .ok (.getfield 31, 3) := by decide +kernel
theorem dX0_stepsOver_21 : decode cX0_stepsOver 21 = .ok (.if_icmp .ge 63, 3) := by decide +kernel
theorem dX0_stepsOver_24 : decode cX0_stepsOver 24 = .ok (.aload_n 3, 1) := by decide +kernel
theorem dX0_stepsOver_25 : decode cX0_stepsOver 25 = .ok (.iload 4, 2) := by decide +kernel
theorem dX0_stepsOver_27 : decode cX0_stepsOver 27 = .ok (.bipush 13, 2) := by decide +kernel
theorem dX0_stepsOver_29 : decode cX0_stepsOver 29 = .ok (.imul, 1) := by decide +kernel
theorem dX0_stepsOver_30 : decode cX0_stepsOver 30 = .ok (.iload 7, 2) := by decide +kernel
theorem dX0_stepsOver_32 : decode cX0_stepsOver 32 = .ok (.iadd, 1) := by decide +kernel
theorem dX0_stepsOver_33 : decode cX0_stepsOver 33 = .ok (.iaload, 1) := by decide +kernel
theorem dX0_stepsOver_34 : decode cX0_stepsOver 34 = .ok (.istore 8, 2) := by decide +kernel
theorem dX0_stepsOver_36 : decode cX0_stepsOver 36 = .ok (.aload_n 0, 1) := by decide +kernel
theorem dX0_stepsOver_37 : decode cX0_stepsOver 37 = .ok (.getfield 9, 3) := by decide +kernel
theorem dX0_stepsOver_40 : decode cX0_stepsOver 40 = .ok (.iload 6, 2) := by decide +kernel
theorem dX0_stepsOver_42 : decode cX0_stepsOver 42 = .ok (.iload 7, 2) := by decide +kernel
theorem dX0_stepsOver_44 : decode cX0_stepsOver 44 = .ok (.iadd, 1) := by decide +kernel
theorem dX0_stepsOver_45 : decode cX0_stepsOver 45 = .ok (.iaload, 1) := by decide +kernel
theorem dX0_stepsOver_46 : decode cX0_stepsOver 46 = .ok (.ldc 77, 2) := by decide +kernel
theorem dX0_stepsOver_48 : decode cX0_stepsOver 48 = .ok (.if_icmp .ge 30, 3) := by decide +kernel
theorem dX0_stepsOver_51 : decode cX0_stepsOver 51 = .ok (.iload 8, 2) := by decide +kernel
theorem dX0_stepsOver_53 : decode cX0_stepsOver 53 = .ok (.ldc 77, 2) := by decide +kernel
theorem dX0_stepsOver_55 : decode cX0_stepsOver 55 = .ok (.if_icmp .ge 23, 3) := by decide +kernel
theorem dX0_stepsOver_58 : decode cX0_stepsOver 58 = .ok (.iload 5, 2) := by decide +kernel
theorem dX0_stepsOver_60 : decode cX0_stepsOver 60 = .ok (.aload_n 0, 1) := by decide +kernel
theorem dX0_stepsOver_61 : decode cX0_stepsOver 61 = .ok (.getfield 9, 3) := by decide +kernel
theorem dX0_stepsOver_64 : decode cX0_stepsOver 64 = .ok (.iload 6, 2) := by decide +kernel
theorem dX0_stepsOver_66 : decode cX0_stepsOver 66 = .ok (.iload 7, 2) := by decide +kernel
theorem dX0_stepsOver_68 : decode cX0_stepsOver 68 = .ok (.iadd, 1) := by decide +kernel
theorem dX0_stepsOver_69 : decode cX0_stepsOver 69 = .ok (.iaload, 1) := by decide +kernel
theorem dX0_stepsOver_70 : decode cX0_stepsOver 70 = .ok (.iload 8, 2) := by decide +kernel
theorem dX0_stepsOver_72 : decode cX0_stepsOver 72 = .ok (.iadd, 1) := by decide +kernel
theorem dX0_stepsOver_73 : decode cX0_stepsOver 73 = .ok (.invokestatic 143, 3) := by decide +kernel
theorem dX0_stepsOver_76 : decode cX0_stepsOver 76 = .ok (.istore 5, 2) := by decide +kernel
theorem dX0_stepsOver_78 : decode cX0_stepsOver 78 = .ok (.iinc 7 1, 3) := by decide +kernel
theorem dX0_stepsOver_81 : decode cX0_stepsOver 81 = .ok (.goto (-66), 3) := by decide +kernel
theorem dX0_stepsOver_84 : decode cX0_stepsOver 84 = .ok (.iload 5, 2) := by decide +kernel
theorem dX0_stepsOver_86 : decode cX0_stepsOver 86 = .ok (.ireturn, 1) := by decide +kernel
theorem dX0_stepsOverTwo_0 : decode cX0_stepsOverTwo 0 = .ok (.ldc 77, 2) := by decide +kernel
theorem dX0_stepsOverTwo_2 : decode cX0_stepsOverTwo 2 = .ok (.istore 6, 2) := by decide +kernel
theorem dX0_stepsOverTwo_4 : decode cX0_stepsOverTwo 4 = .ok (.iload_n 1, 1) := by decide +kernel
theorem dX0_stepsOverTwo_5 : decode cX0_stepsOverTwo 5 = .ok (.iload_n 2, 1) := by decide +kernel
theorem dX0_stepsOverTwo_6 : decode cX0_stepsOverTwo 6 = .ok (.iconst 0, 1) := by decide +kernel
theorem dX0_stepsOverTwo_7 : decode cX0_stepsOverTwo 7 = .ok (.invokestatic 97, 3) := by decide +kernel
theorem dX0_stepsOverTwo_10 : decode cX0_stepsOverTwo 10 = .ok (.istore 7, 2) := by decide +kernel
theorem dX0_stepsOverTwo_12 : decode cX0_stepsOverTwo 12 = .ok (.iconst 0, 1) := by decide +kernel
theorem dX0_stepsOverTwo_13 : decode cX0_stepsOverTwo 13 = .ok (.istore 8, 2) := by decide +kernel
theorem dX0_stepsOverTwo_15 : decode cX0_stepsOverTwo 15 = .ok (.iload 8, 2) := by decide +kernel
theorem dX0_stepsOverTwo_17 : decode cX0_stepsOverTwo 17 = .ok (.aload_n 0, 1) := by decide +kernel
theorem dX0_stepsOverTwo_18 : decode cX0_stepsOverTwo 18 = .ok (.getfield 31, 3) := by decide +kernel
theorem dX0_stepsOverTwo_21 : decode cX0_stepsOverTwo 21 = .ok (.if_icmp .ge 64, 3) := by decide +kernel
theorem dX0_stepsOverTwo_24 : decode cX0_stepsOverTwo 24 = .ok (.aload_n 0, 1) := by decide +kernel
theorem dX0_stepsOverTwo_25 : decode cX0_stepsOverTwo 25 = .ok (.getfield 9, 3) := by decide +kernel
theorem dX0_stepsOverTwo_28 : decode cX0_stepsOverTwo 28 = .ok (.iload 7, 2) := by decide +kernel
theorem dX0_stepsOverTwo_30 : decode cX0_stepsOverTwo 30 = .ok (.iload 8, 2) := by decide +kernel
theorem dX0_stepsOverTwo_32 : decode cX0_stepsOverTwo 32 = .ok (.iadd, 1) := by decide +kernel
theorem dX0_stepsOverTwo_33 : decode cX0_stepsOverTwo 33 = .ok (.iaload, 1) := by decide +kernel
theorem dX0_stepsOverTwo_34 : decode cX0_stepsOverTwo 34 = .ok (.ldc 77, 2) := by decide +kernel
theorem dX0_stepsOverTwo_36 : decode cX0_stepsOverTwo 36 = .ok (.if_icmp .ge 43, 3) := by decide +kernel
theorem dX0_stepsOverTwo_39 : decode cX0_stepsOverTwo 39 = .ok (.aload_n 0, 1) := by decide +kernel
theorem dX0_stepsOverTwo_40 : decode cX0_stepsOverTwo 40 = .ok (.iload 8, 2) := by decide +kernel
theorem dX0_stepsOverTwo_42 : decode cX0_stepsOverTwo 42 = .ok (.iload_n 3, 1) := by decide +kernel
theorem dX0_stepsOverTwo_43 : decode cX0_stepsOverTwo 43 = .ok (.aload 4, 2) := by decide +kernel
theorem dX0_stepsOverTwo_45 : decode cX0_stepsOverTwo 45 = .ok (.iload 5, 2) := by decide +kernel
theorem dX0_stepsOverTwo_47 : decode cX0_stepsOverTwo 47 = .ok (.invokevirtual 155, 3) := by decide +kernel
theorem dX0_stepsOverTwo_50 : decode cX0_stepsOverTwo 50 = .ok (.istore 9, 2) := by decide +kernel
theorem dX0_stepsOverTwo_52 : decode cX0_stepsOverTwo 52 = .ok (.iload 9, 2) := by decide +kernel
theorem dX0_stepsOverTwo_54 : decode cX0_stepsOverTwo 54 = .ok (.ldc 77, 2) := by decide +kernel
theorem dX0_stepsOverTwo_56 : decode cX0_stepsOverTwo 56 = .ok (.if_icmp .ge 23, 3) := by decide +kernel
theorem dX0_stepsOverTwo_59 : decode cX0_stepsOverTwo 59 = .ok (.iload 6, 2) := by decide +kernel
theorem dX0_stepsOverTwo_61 : decode cX0_stepsOverTwo 61 = .ok (.aload_n 0, 1) := by decide +kernel
theorem dX0_stepsOverTwo_62 : decode cX0_stepsOverTwo 62 = .ok (.getfield 9, 3) := by decide +kernel
theorem dX0_stepsOverTwo_65 : decode cX0_stepsOverTwo 65 = .ok (.iload 7, 2) := by decide +kernel
theorem dX0_stepsOverTwo_67 : decode cX0_stepsOverTwo 67 = .ok (.iload 8, 2) := by decide +kernel
theorem dX0_stepsOverTwo_69 : decode cX0_stepsOverTwo 69 = .ok (.iadd, 1) := by decide +kernel
theorem dX0_stepsOverTwo_70 : decode cX0_stepsOverTwo 70 = .ok (.iaload, 1) := by decide +kernel
theorem dX0_stepsOverTwo_71 : decode cX0_stepsOverTwo 71 = .ok (.iload 9, 2) := by decide +kernel
theorem dX0_stepsOverTwo_73 : decode cX0_stepsOverTwo 73 = .ok (.iadd, 1) := by decide +kernel
theorem dX0_stepsOverTwo_74 : decode cX0_stepsOverTwo 74 = .ok (.invokestatic 143, 3) := by decide +kernel
theorem dX0_stepsOverTwo_77 : decode cX0_stepsOverTwo 77 = .ok (.istore 6, 2) := by decide +kernel
theorem dX0_stepsOverTwo_79 : decode cX0_stepsOverTwo 79 = .ok (.iinc 8 1, 3) := by decide +kernel
theorem dX0_stepsOverTwo_82 : decode cX0_stepsOverTwo 82 = .ok (.goto (-67), 3) := by decide +kernel
theorem dX0_stepsOverTwo_85 : decode cX0_stepsOverTwo 85 = .ok (.iload 6, 2) := by decide +kernel
theorem dX0_stepsOverTwo_87 : decode cX0_stepsOverTwo 87 = .ok (.ireturn, 1) := by decide +kernel
theorem dX1_init_0 : decode cX1_init 0 = .ok (.aload_n 0, 1) := by decide +kernel
theorem dX1_init_1 : decode cX1_init 1 = .ok (.invokespecial 3, 3) := by decide +kernel
theorem dX1_init_4 : decode cX1_init 4 = .ok (.aload_n 0, 1) := by decide +kernel
theorem dX1_init_5 : decode cX1_init 5 = .ok (.bipush 12, 2) := by decide +kernel
theorem dX1_init_7 : decode cX1_init 7 = .ok (.newarray .int, 2) := by decide +kernel
theorem dX1_init_9 : decode cX1_init 9 = .ok (.putfield 9, 3) := by decide +kernel
theorem dX1_init_12 : decode cX1_init 12 = .ok (.return_, 1) := by decide +kernel
theorem dX1_hasHead_0 : decode cX1_hasHead 0 = .ok (.aload_n 0, 1) := by decide +kernel
theorem dX1_hasHead_1 : decode cX1_hasHead 1 = .ok (.getfield 15, 3) := by decide +kernel
theorem dX1_hasHead_4 : decode cX1_hasHead 4 = .ok (.iload_n 1, 1) := by decide +kernel
theorem dX1_hasHead_5 : decode cX1_hasHead 5 = .ok (.iconst 4, 1) := by decide +kernel
theorem dX1_hasHead_6 : decode cX1_hasHead 6 = .ok (.imul, 1) := by decide +kernel
theorem dX1_hasHead_7 : decode cX1_hasHead 7 = .ok (.iload_n 2, 1) := by decide +kernel
theorem dX1_hasHead_8 : decode cX1_hasHead 8 = .ok (.iadd, 1) := by decide +kernel
theorem dX1_hasHead_9 : decode cX1_hasHead 9 = .ok (.ishr, 1) := by decide +kernel
theorem dX1_hasHead_10 : decode cX1_hasHead 10 = .ok (.iconst 1, 1) := by decide +kernel
theorem dX1_hasHead_11 : decode cX1_hasHead 11 = .ok (.iand, 1) := by decide +kernel
theorem dX1_hasHead_12 : decode cX1_hasHead 12 = .ok (.iconst 1, 1) := by decide +kernel
theorem dX1_hasHead_13 : decode cX1_hasHead 13 = .ok (.if_icmp .ne 7, 3) := by decide +kernel
theorem dX1_hasHead_16 : decode cX1_hasHead 16 = .ok (.iconst 1, 1) := by decide +kernel
theorem dX1_hasHead_17 : decode cX1_hasHead 17 = .ok (.goto 4, 3) := by decide +kernel
theorem dX1_hasHead_20 : decode cX1_hasHead 20 = .ok (.iconst 0, 1) := by decide +kernel
theorem dX1_hasHead_21 : decode cX1_hasHead 21 = .ok (.ireturn, 1) := by decide +kernel
theorem dX1_explore_0 : decode cX1_explore 0 = .ok (.aload_n 0, 1) := by decide +kernel
theorem dX1_explore_1 : decode cX1_explore 1 = .ok (.aload_n 1, 1) := by decide +kernel
theorem dX1_explore_2 : decode cX1_explore 2 = .ok (.invokevirtual 19, 3) := by decide +kernel
theorem dX1_explore_5 : decode cX1_explore 5 = .ok (.aload_n 0, 1) := by decide +kernel
theorem dX1_explore_6 : decode cX1_explore 6 = .ok (.aload_n 1, 1) := by decide +kernel
theorem dX1_explore_7 : decode cX1_explore 7 = .ok (.invokevirtual 23, 3) := by decide +kernel
theorem dX1_explore_10 : decode cX1_explore 10 = .ok (.iconst 1, 1) := by decide +kernel
theorem dX1_explore_11 : decode cX1_explore 11 = .ok (.istore_n 2, 1) := by decide +kernel
theorem dX1_explore_12 : decode cX1_explore 12 = .ok (.iconst 0, 1) := by decide +kernel
theorem dX1_explore_13 : decode cX1_explore 13 = .ok (.istore_n 3, 1) := by decide +kernel
theorem dX1_explore_14 : decode cX1_explore 14 = .ok (.iload_n 3, 1) := by decide +kernel
theorem dX1_explore_15 : decode cX1_explore 15 = .ok (.sipush 1000, 3) := by decide +kernel
theorem dX1_explore_18 : decode cX1_explore 18 = .ok (.if_icmp .ge 19, 3) := by decide +kernel
theorem dX1_explore_21 : decode cX1_explore 21 = .ok (.iload_n 2, 1) := by decide +kernel
theorem dX1_explore_22 : decode cX1_explore 22 = .ok (.ifCond .eq 15, 3) := by decide +kernel
theorem dX1_explore_25 : decode cX1_explore 25 = .ok (.aload_n 0, 1) := by decide +kernel
theorem dX1_explore_26 : decode cX1_explore 26 = .ok (.aload_n 1, 1) := by decide +kernel
theorem dX1_explore_27 : decode cX1_explore 27 = .ok (.invokevirtual 26, 3) := by decide +kernel
theorem dX1_explore_30 : decode cX1_explore 30 = .ok (.istore_n 2, 1) := by decide +kernel
theorem dX1_explore_31 : decode cX1_explore 31 = .ok (.iinc 3 1, 3) := by decide +kernel
theorem dX1_explore_34 : decode cX1_explore 34 = .ok (.goto (-20), 3) := by decide +kernel
theorem dX1_explore_37 : decode cX1_explore 37 = .ok (.return_, 1) := by decide +kernel
theorem dX1_settleFalls_0 : decode cX1_settleFalls 0 = .ok (.iconst 0, 1) := by decide +kernel
theorem dX1_settleFalls_1 : decode cX1_settleFalls 1 = .ok (.istore_n 2, 1) := by decide +kernel
theorem dX1_settleFalls_2 : decode cX1_settleFalls 2 = .ok (.iload_n 2, 1) := by decide +kernel
theorem dX1_settleFalls_3 : decode cX1_settleFalls 3 = .ok (.bipush 12, 2) := by decide +kernel
theorem dX1_settleFalls_5 : decode cX1_settleFalls 5 = .ok (.if_icmp .ge 16, 3) := by decide +kernel
theorem dX1_settleFalls_8 : decode cX1_settleFalls 8 = .ok (.aload_n 0, 1) := by decide +kernel
theorem dX1_settleFalls_9 : decode cX1_settleFalls 9 = .ok (.getfield 9, 3) := by decide +kernel
theorem dX1_settleFalls_12 : decode cX1_settleFalls 12 = .ok (.iload_n 2, 1) := by decide +kernel
theorem dX1_settleFalls_13 : decode cX1_settleFalls 13 = .ok (.iconst 0, 1) := by decide +kernel
theorem dX1_settleFalls_14 : decode cX1_settleFalls 14 = .ok (.iastore, 1) := by decide +kernel
theorem dX1_settleFalls_15 : decode cX1_settleFalls 15 = .ok (.iinc 2 1, 3) := by decide +kernel
theorem dX1_settleFalls_18 : decode cX1_settleFalls 18 = .ok (.goto (-16), 3) := by decide +kernel
theorem dX1_settleFalls_21 : decode cX1_settleFalls 21 = .ok (.iconst 1, 1) := by decide +kernel
theorem dX1_settleFalls_22 : decode cX1_settleFalls 22 = .ok (.istore_n 2, 1) := by decide +kernel
theorem dX1_settleFalls_23 : decode cX1_settleFalls 23 = .ok (.iconst 0, 1) := by decide +kernel
theorem dX1_settleFalls_24 : decode cX1_settleFalls 24 = .ok (.istore_n 3, 1) := by decide +kernel
theorem dX1_settleFalls_25 : decode cX1_settleFalls 25 = .ok (.iload_n 3, 1) := by decide +kernel
theorem dX1_settleFalls_26 : decode cX1_settleFalls 26 = .ok (.sipush 1000, 3) := by decide +kernel
theorem dX1_settleFalls_29 : decode cX1_settleFalls 29 = .ok (.if_icmp .ge 109, 3) := by decide +kernel
theorem dX1_settleFalls_32 : decode cX1_settleFalls 32 = .ok (.iload_n 2, 1) := by decide +kernel
theorem dX1_settleFalls_33 : decode cX1_settleFalls 33 = .ok (.ifCond .eq 105, 3) := by decide +kernel
theorem dX1_settleFalls_36 : decode cX1_settleFalls 36 = .ok (.iconst 0, 1) := by decide +kernel
theorem dX1_settleFalls_37 : decode cX1_settleFalls 37 = .ok (.istore_n 2, 1) := by decide +kernel
theorem dX1_settleFalls_38 : decode cX1_settleFalls 38 = .ok (.iconst 0, 1) := by decide +kernel
theorem dX1_settleFalls_39 : decode cX1_settleFalls 39 = .ok (.istore 4, 2) := by decide +kernel
theorem dX1_settleFalls_41 : decode cX1_settleFalls 41 = .ok (.iload 4, 2) := by decide +kernel
theorem dX1_settleFalls_43 : decode cX1_settleFalls 43 = .ok (.aload_n 1, 1) := by decide +kernel
theorem dX1_settleFalls_44 : decode cX1_settleFalls 44 = .ok (.getfield 30, 3) := by decide +kernel
theorem dX1_settleFalls_47 : decode cX1_settleFalls 47 = .ok (.if_icmp .ge 85, 3) := by decide +kernel
theorem dX1_settleFalls_50 : decode cX1_settleFalls 50 = .ok (.aload_n 1, 1) := by decide +kernel
theorem dX1_settleFalls_51 : decode cX1_settleFalls 51 = .ok (.getfield 35, 3) := by decide +kernel
theorem dX1_settleFalls_54 : decode cX1_settleFalls 54 = .ok (.iload 4, 2) := by decide +kernel
theorem dX1_settleFalls_56 : decode cX1_settleFalls 56 = .ok (.iaload, 1) := by decide +kernel
theorem dX1_settleFalls_57 : decode cX1_settleFalls 57 = .ok (.iconst 4, 1) := by decide +kernel
theorem dX1_settleFalls_58 : decode cX1_settleFalls 58 = .ok (.imul, 1) := by decide +kernel
theorem dX1_settleFalls_59 : decode cX1_settleFalls 59 = .ok (.aload_n 1, 1) := by decide +kernel
theorem dX1_settleFalls_60 : decode cX1_settleFalls 60 = .ok (.getfield 38, 3) := by decide +kernel
theorem dX1_settleFalls_63 : decode cX1_settleFalls 63 = .ok (.iload 4, 2) := by decide +kernel
theorem dX1_settleFalls_65 : decode cX1_settleFalls 65 = .ok (.iaload, 1) := by decide +kernel
theorem dX1_settleFalls_66 : decode cX1_settleFalls 66 = .ok (.iadd, 1) := by decide +kernel
theorem dX1_settleFalls_67 : decode cX1_settleFalls 67 = .ok (.istore 5, 2) := by decide +kernel
theorem dX1_settleFalls_69 : decode cX1_settleFalls 69 = .ok (.aload_n 0, 1) := by decide +kernel
theorem dX1_settleFalls_70 : decode cX1_settleFalls 70 = .ok (.getfield 9, 3) := by decide +kernel
theorem dX1_settleFalls_73 : decode cX1_settleFalls 73 = .ok (.iload 5, 2) := by decide +kernel
theorem dX1_settleFalls_75 : decode cX1_settleFalls 75 = .ok (.iaload, 1) := by decide +kernel
theorem dX1_settleFalls_76 : decode cX1_settleFalls 76 = .ok (.aload_n 0, 1) := by decide +kernel
theorem dX1_settleFalls_77 : decode cX1_settleFalls 77 = .ok (.aload_n 1, 1) := by decide +kernel
theorem dX1_settleFalls_78 : decode cX1_settleFalls 78 = .ok (.getfield 41, 3) := by decide +kernel
theorem dX1_settleFalls_81 : decode cX1_settleFalls 81 = .ok (.iload 4, 2) := by decide +kernel
theorem dX1_settleFalls_83 : decode cX1_settleFalls 83 = .ok (.iaload, 1) := by decide +kernel
theorem dX1_settleFalls_84 : decode cX1_settleFalls 84 = .ok (.aload_n 1, 1) := by decide +kernel
theorem dX1_settleFalls_85 : decode cX1_settleFalls 85 = .ok (.getfield 44, 3) := by decide +kernel
theorem dX1_settleFalls_88 : decode cX1_settleFalls 88 = .ok (.iload 4, 2) := by decide +kernel
theorem dX1_settleFalls_90 : decode cX1_settleFalls 90 = .ok (.iaload, 1) := by decide +kernel
theorem dX1_settleFalls_91 : decode cX1_settleFalls 91 = .ok (.invokevirtual 47, 3) := by decide +kernel
theorem dX1_settleFalls_94 : decode cX1_settleFalls 94 = .ok (.ior, 1) := by decide +kernel
theorem dX1_settleFalls_95 : decode cX1_settleFalls 95 = .ok (.istore 6, 2) := by decide +kernel
theorem dX1_settleFalls_97 : decode cX1_settleFalls 97 = .ok (.iload_n 2, 1) := by decide +kernel
theorem dX1_settleFalls_98 : decode cX1_settleFalls 98 = .ok (.iload 6, 2) := by decide +kernel
theorem dX1_settleFalls_100 : decode cX1_settleFalls 100 = .ok (.aload_n 0, 1) := by decide +kernel
theorem dX1_settleFalls_101 : decode cX1_settleFalls 101 = .ok (.getfield 9, 3) := by decide +kernel
theorem dX1_settleFalls_104 : decode cX1_settleFalls 104 = .ok (.iload 5, 2) := by decide +kernel
theorem dX1_settleFalls_106 : decode cX1_settleFalls 106 = .ok (.iaload, 1) := by decide +kernel
theorem dX1_settleFalls_107 : decode cX1_settleFalls 107 = .ok (.if_icmp .eq 7, 3) := by decide +kernel
theorem dX1_settleFalls_110 : decode cX1_settleFalls 110 = .ok (.iconst 1, 1) := by decide +kernel
theorem dX1_settleFalls_111 : decode cX1_settleFalls 111 = .ok (.goto 4, 3) := by decide +kernel
theorem dX1_settleFalls_114 : decode cX1_settleFalls 114 = .ok (.iconst 0, 1) := by decide +kernel
theorem dX1_settleFalls_115 : decode cX1_settleFalls 115 = .ok (.ior, 1) := by decide +kernel
theorem dX1_settleFalls_116 : decode cX1_settleFalls 116 = .ok (.istore_n 2, 1) := by decide +kernel
theorem dX1_settleFalls_117 : decode cX1_settleFalls 117 = .ok (.aload_n 0, 1) := by decide +kernel
theorem dX1_settleFalls_118 : decode cX1_settleFalls 118 = .ok (.getfield 9, 3) := by decide +kernel
theorem dX1_settleFalls_121 : decode cX1_settleFalls 121 = .ok (.iload 5, 2) := by decide +kernel
theorem dX1_settleFalls_123 : decode cX1_settleFalls 123 = .ok (.iload 6, 2) := by decide +kernel
theorem dX1_settleFalls_125 : decode cX1_settleFalls 125 = .ok (.iastore, 1) := by decide +kernel
theorem dX1_settleFalls_126 : decode cX1_settleFalls 126 = .ok (.iinc 4 1, 3) := by decide +kernel
theorem dX1_settleFalls_129 : decode cX1_settleFalls 129 = .ok (.goto (-88), 3) := by decide +kernel
theorem dX1_settleFalls_132 : decode cX1_settleFalls 132 = .ok (.iinc 3 1, 3) := by decide +kernel
theorem dX1_settleFalls_135 : decode cX1_settleFalls 135 = .ok (.goto (-110), 3) := by decide +kernel
theorem dX1_settleFalls_138 : decode cX1_settleFalls 138 = .ok (.return_, 1) := by decide +kernel
theorem dX1_afterWord_0 : decode cX1_afterWord 0 = .ok (.iconst 1, 1) := by decide +kernel
theorem dX1_afterWord_1 : decode cX1_afterWord 1 = .ok (.iload_n 1, 1) := by decide +kernel
theorem dX1_afterWord_2 : decode cX1_afterWord 2 = .ok (.ishl, 1) := by decide +kernel
theorem dX1_afterWord_3 : decode cX1_afterWord 3 = .ok (.istore_n 3, 1) := by decide +kernel
theorem dX1_afterWord_4 : decode cX1_afterWord 4 = .ok (.iload_n 2, 1) := by decide +kernel
theorem dX1_afterWord_5 : decode cX1_afterWord 5 = .ok (.invokestatic 51, 3) := by decide +kernel
theorem dX1_afterWord_8 : decode cX1_afterWord 8 = .ok (.ifCond .le 13, 3) := by decide +kernel
theorem dX1_afterWord_11 : decode cX1_afterWord 11 = .ok (.aload_n 0, 1) := by decide +kernel
theorem dX1_afterWord_12 : decode cX1_afterWord 12 = .ok (.iload_n 3, 1) := by decide +kernel
theorem dX1_afterWord_13 : decode cX1_afterWord 13 = .ok (.iload_n 2, 1) := by decide +kernel
theorem dX1_afterWord_14 : decode cX1_afterWord 14 = .ok (.invokestatic 55, 3) := by decide +kernel
theorem dX1_afterWord_17 : decode cX1_afterWord 17 = .ok (.invokevirtual 58, 3) := by decide +kernel
theorem dX1_afterWord_20 : decode cX1_afterWord 20 = .ok (.istore_n 3, 1) := by decide +kernel
theorem dX1_afterWord_21 : decode cX1_afterWord 21 = .ok (.iload_n 2, 1) := by decide +kernel
theorem dX1_afterWord_22 : decode cX1_afterWord 22 = .ok (.invokestatic 51, 3) := by decide +kernel
theorem dX1_afterWord_25 : decode cX1_afterWord 25 = .ok (.iconst 2, 1) := by decide +kernel
theorem dX1_afterWord_26 : decode cX1_afterWord 26 = .ok (.if_icmp .ne 15, 3) := by decide +kernel
theorem dX1_afterWord_29 : decode cX1_afterWord 29 = .ok (.aload_n 0, 1) := by decide +kernel
theorem dX1_afterWord_30 : decode cX1_afterWord 30 = .ok (.iload_n 3, 1) := by decide +kernel
theorem dX1_afterWord_31 : decode cX1_afterWord 31 = .ok (.iload_n 2, 1) := by decide +kernel
theorem dX1_afterWord_32 : decode cX1_afterWord 32 = .ok (.invokestatic 61, 3) := by decide +kernel
theorem dX1_afterWord_35 : decode cX1_afterWord 35 = .ok (.invokevirtual 58, 3) := by decide +kernel
theorem dX1_afterWord_38 : decode cX1_afterWord 38 = .ok (.goto 4, 3) := by decide +kernel
theorem dX1_afterWord_41 : decode cX1_afterWord 41 = .ok (.iload_n 3, 1) := by decide +kernel
theorem dX1_afterWord_42 : decode cX1_afterWord 42 = .ok (.ireturn, 1) := by decide +kernel
theorem dX1_afterLetter_0 : decode cX1_afterLetter 0 = .ok (.iconst 0, 1) := by decide +kernel
theorem dX1_afterLetter_1 : decode cX1_afterLetter 1 = .ok (.istore_n 3, 1) := by decide +kernel
theorem dX1_afterLetter_2 : decode cX1_afterLetter 2 = .ok (.iconst 0, 1) := by decide +kernel
theorem dX1_afterLetter_3 : decode cX1_afterLetter 3 = .ok (.istore 4, 2) := by decide +kernel
theorem dX1_afterLetter_5 : decode cX1_afterLetter 5 = .ok (.iload 4, 2) := by decide +kernel
theorem dX1_afterLetter_7 : decode cX1_afterLetter 7 = .ok (.iconst 3, 1) := by decide +kernel
theorem dX1_afterLetter_8 : decode cX1_afterLetter 8 = .ok (.if_icmp .ge 33, 3) := by decide +kernel
theorem dX1_afterLetter_11 : decode cX1_afterLetter 11 = .ok (.iload_n 1, 1) := by decide +kernel
theorem dX1_afterLetter_12 : decode cX1_afterLetter 12 = .ok (.iload 4, 2) := by decide +kernel
theorem dX1_afterLetter_14 : decode cX1_afterLetter 14 = .ok (.ishr, 1) := by decide +kernel
theorem dX1_afterLetter_15 : decode cX1_afterLetter 15 = .ok (.iconst 1, 1) := by decide +kernel
theorem dX1_afterLetter_16 : decode cX1_afterLetter 16 = .ok (.iand, 1) := by decide +kernel
theorem dX1_afterLetter_17 : decode cX1_afterLetter 17 = .ok (.iconst 1, 1) := by decide +kernel
theorem dX1_afterLetter_18 : decode cX1_afterLetter 18 = .ok (.if_icmp .ne 17, 3) := by decide +kernel
theorem dX1_afterLetter_21 : decode cX1_afterLetter 21 = .ok (.iload_n 3, 1) := by decide +kernel
theorem dX1_afterLetter_22 : decode cX1_afterLetter 22 = .ok (.aload_n 0, 1) := by decide +kernel
theorem dX1_afterLetter_23 : decode cX1_afterLetter 23 = .ok (.getfield 9, 3) := by decide +kernel
theorem dX1_afterLetter_26 : decode cX1_afterLetter 26 = .ok (.iload 4, 2) := by decide +kernel
theorem dX1_afterLetter_28 : decode cX1_afterLetter 28 = .ok (.iconst 4, 1) := by decide +kernel
theorem dX1_afterLetter_29 : decode cX1_afterLetter 29 = .ok (.imul, 1) := by decide +kernel
theorem dX1_afterLetter_30 : decode cX1_afterLetter 30 = .ok (.iload_n 2, 1) := by decide +kernel
theorem dX1_afterLetter_31 : decode cX1_afterLetter 31 = .ok (.iadd, 1) := by decide +kernel
theorem dX1_afterLetter_32 : decode cX1_afterLetter 32 = .ok (.iaload, 1) := by decide +kernel
theorem dX1_afterLetter_33 : decode cX1_afterLetter 33 = .ok (.ior, 1) := by decide +kernel
theorem dX1_afterLetter_34 : decode cX1_afterLetter 34 = .ok (.istore_n 3, 1) := by decide +kernel
theorem dX1_afterLetter_35 : decode cX1_afterLetter 35 = .ok (.iinc 4 1, 3) := by decide +kernel
theorem dX1_afterLetter_38 : decode cX1_afterLetter 38 = .ok (.goto (-33), 3) := by decide +kernel
theorem dX1_afterLetter_41 : decode cX1_afterLetter 41 = .ok (.iload_n 3, 1) := by decide +kernel
theorem dX1_afterLetter_42 : decode cX1_afterLetter 42 = .ok (.ireturn, 1) := by decide +kernel
theorem dX1_descend_0 : decode cX1_descend 0 = .ok (.aload_n 0, 1) := by decide +kernel
theorem dX1_descend_1 : decode cX1_descend 1 = .ok (.iconst 0, 1) := by decide +kernel
theorem dX1_descend_2 : decode cX1_descend 2 = .ok (.putfield 15, 3) := by decide +kernel
theorem dX1_descend_5 : decode cX1_descend 5 = .ok (.iconst 1, 1) := by decide +kernel
theorem dX1_descend_6 : decode cX1_descend 6 = .ok (.aload_n 1, 1) := by decide +kernel
theorem dX1_descend_7 : decode cX1_descend 7 = .ok (.getfield 64, 3) := by decide +kernel
theorem dX1_descend_10 : decode cX1_descend 10 = .ok (.ishl, 1) := by decide +kernel
theorem dX1_descend_11 : decode cX1_descend 11 = .ok (.istore_n 2, 1) := by decide +kernel
theorem dX1_descend_12 : decode cX1_descend 12 = .ok (.aload_n 1, 1) := by decide +kernel
theorem dX1_descend_13 : decode cX1_descend 13 = .ok (.getfield 67, 3) := by decide +kernel
theorem dX1_descend_16 : decode cX1_descend 16 = .ok (.iconst 1, 1) := by decide +kernel
theorem dX1_descend_17 : decode cX1_descend 17 = .ok (.isub, 1) := by decide +kernel
theorem dX1_descend_18 : decode cX1_descend 18 = .ok (.istore_n 3, 1) := by decide +kernel
theorem dX1_descend_19 : decode cX1_descend 19 = .ok (.iload_n 3, 1) := by decide +kernel
theorem dX1_descend_20 : decode cX1_descend 20 = .ok (.ifCond .lt 40, 3) := by decide +kernel
theorem dX1_descend_23 : decode cX1_descend 23 = .ok (.aload_n 0, 1) := by decide +kernel
theorem dX1_descend_24 : decode cX1_descend 24 = .ok (.dup, 1) := by decide +kernel
theorem dX1_descend_25 : decode cX1_descend 25 = .ok (.getfield 15, 3) := by decide +kernel
theorem dX1_descend_28 : decode cX1_descend 28 = .ok (.iload_n 2, 1) := by decide +kernel
theorem dX1_descend_29 : decode cX1_descend 29 = .ok (.aload_n 1, 1) := by decide +kernel
theorem dX1_descend_30 : decode cX1_descend 30 = .ok (.getfield 70, 3) := by decide +kernel
theorem dX1_descend_33 : decode cX1_descend 33 = .ok (.iload_n 3, 1) := by decide +kernel
theorem dX1_descend_34 : decode cX1_descend 34 = .ok (.iaload, 1) := by decide +kernel
theorem dX1_descend_35 : decode cX1_descend 35 = .ok (.invokestatic 73, 3) := by decide +kernel
theorem dX1_descend_38 : decode cX1_descend 38 = .ok (.ior, 1) := by decide +kernel
theorem dX1_descend_39 : decode cX1_descend 39 = .ok (.putfield 15, 3) := by decide +kernel
theorem dX1_descend_42 : decode cX1_descend 42 = .ok (.aload_n 0, 1) := by decide +kernel
theorem dX1_descend_43 : decode cX1_descend 43 = .ok (.iload_n 2, 1) := by decide +kernel
theorem dX1_descend_44 : decode cX1_descend 44 = .ok (.aload_n 1, 1) := by decide +kernel
theorem dX1_descend_45 : decode cX1_descend 45 = .ok (.getfield 70, 3) := by decide +kernel
theorem dX1_descend_48 : decode cX1_descend 48 = .ok (.iload_n 3, 1) := by decide +kernel
theorem dX1_descend_49 : decode cX1_descend 49 = .ok (.iaload, 1) := by decide +kernel
theorem dX1_descend_50 : decode cX1_descend 50 = .ok (.invokevirtual 58, 3) := by decide +kernel
theorem dX1_descend_53 : decode cX1_descend 53 = .ok (.istore_n 2, 1) := by decide +kernel
theorem dX1_descend_54 : decode cX1_descend 54 = .ok (.iinc 3 (-1), 3) := by decide +kernel
theorem dX1_descend_57 : decode cX1_descend 57 = .ok (.goto (-38), 3) := by decide +kernel
theorem dX1_descend_60 : decode cX1_descend 60 = .ok (.aload_n 0, 1) := by decide +kernel
theorem dX1_descend_61 : decode cX1_descend 61 = .ok (.iload_n 2, 1) := by decide +kernel
theorem dX1_descend_62 : decode cX1_descend 62 = .ok (.putfield 76, 3) := by decide +kernel
theorem dX1_descend_65 : decode cX1_descend 65 = .ok (.return_, 1) := by decide +kernel
theorem dX1_headsOf_0 : decode cX1_headsOf 0 = .ok (.iconst 0, 1) := by decide +kernel
theorem dX1_headsOf_1 : decode cX1_headsOf 1 = .ok (.istore_n 2, 1) := by decide +kernel
theorem dX1_headsOf_2 : decode cX1_headsOf 2 = .ok (.iconst 0, 1) := by decide +kernel
theorem dX1_headsOf_3 : decode cX1_headsOf 3 = .ok (.istore_n 3, 1) := by decide +kernel
theorem dX1_headsOf_4 : decode cX1_headsOf 4 = .ok (.iload_n 3, 1) := by decide +kernel
theorem dX1_headsOf_5 : decode cX1_headsOf 5 = .ok (.iconst 3, 1) := by decide +kernel
theorem dX1_headsOf_6 : decode cX1_headsOf 6 = .ok (.if_icmp .ge 28, 3) := by decide +kernel
theorem dX1_headsOf_9 : decode cX1_headsOf 9 = .ok (.iload_n 0, 1) := by decide +kernel
theorem dX1_headsOf_10 : decode cX1_headsOf 10 = .ok (.iload_n 3, 1) := by decide +kernel
theorem dX1_headsOf_11 : decode cX1_headsOf 11 = .ok (.ishr, 1) := by decide +kernel
theorem dX1_headsOf_12 : decode cX1_headsOf 12 = .ok (.iconst 1, 1) := by decide +kernel
theorem dX1_headsOf_13 : decode cX1_headsOf 13 = .ok (.iand, 1) := by decide +kernel
theorem dX1_headsOf_14 : decode cX1_headsOf 14 = .ok (.iconst 1, 1) := by decide +kernel
theorem dX1_headsOf_15 : decode cX1_headsOf 15 = .ok (.if_icmp .ne 13, 3) := by decide +kernel
theorem dX1_headsOf_18 : decode cX1_headsOf 18 = .ok (.iload_n 2, 1) := by decide +kernel
theorem dX1_headsOf_19 : decode cX1_headsOf 19 = .ok (.iconst 1, 1) := by decide +kernel
theorem dX1_headsOf_20 : decode cX1_headsOf 20 = .ok (.iload_n 3, 1) := by decide +kernel
theorem dX1_headsOf_21 : decode cX1_headsOf 21 = .ok (.iconst 4, 1) := by decide +kernel
theorem dX1_headsOf_22 : decode cX1_headsOf 22 = .ok (.imul, 1) := by decide +kernel
theorem dX1_headsOf_23 : decode cX1_headsOf 23 = .ok (.iload_n 1, 1) := by decide +kernel
theorem dX1_headsOf_24 : decode cX1_headsOf 24 = .ok (.iadd, 1) := by decide +kernel
theorem dX1_headsOf_25 : decode cX1_headsOf 25 = .ok (.ishl, 1) := by decide +kernel
theorem dX1_headsOf_26 : decode cX1_headsOf 26 = .ok (.ior, 1) := by decide +kernel
theorem dX1_headsOf_27 : decode cX1_headsOf 27 = .ok (.istore_n 2, 1) := by decide +kernel
theorem dX1_headsOf_28 : decode cX1_headsOf 28 = .ok (.iinc 3 1, 3) := by decide +kernel
theorem dX1_headsOf_31 : decode cX1_headsOf 31 = .ok (.goto (-27), 3) := by decide +kernel
theorem dX1_headsOf_34 : decode cX1_headsOf 34 = .ok (.iload_n 2, 1) := by decide +kernel
theorem dX1_headsOf_35 : decode cX1_headsOf 35 = .ok (.ireturn, 1) := by decide +kernel
theorem dX1_spread_0 : decode cX1_spread 0 = .ok (.aload_n 0, 1) := by decide +kernel
theorem dX1_spread_1 : decode cX1_spread 1 = .ok (.getfield 15, 3) := by decide +kernel
theorem dX1_spread_4 : decode cX1_spread 4 = .ok (.istore_n 2, 1) := by decide +kernel
theorem dX1_spread_5 : decode cX1_spread 5 = .ok (.iconst 0, 1) := by decide +kernel
theorem dX1_spread_6 : decode cX1_spread 6 = .ok (.istore_n 3, 1) := by decide +kernel
theorem dX1_spread_7 : decode cX1_spread 7 = .ok (.iload_n 3, 1) := by decide +kernel
theorem dX1_spread_8 : decode cX1_spread 8 = .ok (.aload_n 1, 1) := by decide +kernel
theorem dX1_spread_9 : decode cX1_spread 9 = .ok (.getfield 30, 3) := by decide +kernel
theorem dX1_spread_12 : decode cX1_spread 12 = .ok (.if_icmp .ge 110, 3) := by decide +kernel
theorem dX1_spread_15 : decode cX1_spread 15 = .ok (.aload_n 1, 1) := by decide +kernel
theorem dX1_spread_16 : decode cX1_spread 16 = .ok (.getfield 44, 3) := by decide +kernel
theorem dX1_spread_19 : decode cX1_spread 19 = .ok (.iload_n 3, 1) := by decide +kernel
theorem dX1_spread_20 : decode cX1_spread 20 = .ok (.iaload, 1) := by decide +kernel
theorem dX1_spread_21 : decode cX1_spread 21 = .ok (.istore 4, 2) := by decide +kernel
theorem dX1_spread_23 : decode cX1_spread 23 = .ok (.aload_n 0, 1) := by decide +kernel
theorem dX1_spread_24 : decode cX1_spread 24 = .ok (.aload_n 1, 1) := by decide +kernel
theorem dX1_spread_25 : decode cX1_spread 25 = .ok (.getfield 35, 3) := by decide +kernel
theorem dX1_spread_28 : decode cX1_spread 28 = .ok (.iload_n 3, 1) := by decide +kernel
theorem dX1_spread_29 : decode cX1_spread 29 = .ok (.iaload, 1) := by decide +kernel
theorem dX1_spread_30 : decode cX1_spread 30 = .ok (.aload_n 1, 1) := by decide +kernel
theorem dX1_spread_31 : decode cX1_spread 31 = .ok (.getfield 38, 3) := by decide +kernel
theorem dX1_spread_34 : decode cX1_spread 34 = .ok (.iload_n 3, 1) := by decide +kernel
theorem dX1_spread_35 : decode cX1_spread 35 = .ok (.iaload, 1) := by decide +kernel
theorem dX1_spread_36 : decode cX1_spread 36 = .ok (.invokevirtual 79, 3) := by decide +kernel
theorem dX1_spread_39 : decode cX1_spread 39 = .ok (.ifCond .eq 77, 3) := by decide +kernel
theorem dX1_spread_42 : decode cX1_spread 42 = .ok (.iload 4, 2) := by decide +kernel
theorem dX1_spread_44 : decode cX1_spread 44 = .ok (.invokestatic 51, 3) := by decide +kernel
theorem dX1_spread_47 : decode cX1_spread 47 = .ok (.ifCond .le 69, 3) := by decide +kernel
theorem dX1_spread_50 : decode cX1_spread 50 = .ok (.iconst 1, 1) := by decide +kernel
theorem dX1_spread_51 : decode cX1_spread 51 = .ok (.aload_n 1, 1) := by decide +kernel
theorem dX1_spread_52 : decode cX1_spread 52 = .ok (.getfield 41, 3) := by decide +kernel
theorem dX1_spread_55 : decode cX1_spread 55 = .ok (.iload_n 3, 1) := by decide +kernel
theorem dX1_spread_56 : decode cX1_spread 56 = .ok (.iaload, 1) := by decide +kernel
theorem dX1_spread_57 : decode cX1_spread 57 = .ok (.ishl, 1) := by decide +kernel
theorem dX1_spread_58 : decode cX1_spread 58 = .ok (.istore 5, 2) := by decide +kernel
theorem dX1_spread_60 : decode cX1_spread 60 = .ok (.aload_n 0, 1) := by decide +kernel
theorem dX1_spread_61 : decode cX1_spread 61 = .ok (.dup, 1) := by decide +kernel
theorem dX1_spread_62 : decode cX1_spread 62 = .ok (.getfield 15, 3) := by decide +kernel
theorem dX1_spread_65 : decode cX1_spread 65 = .ok (.iload 5, 2) := by decide +kernel
theorem dX1_spread_67 : decode cX1_spread 67 = .ok (.iload 4, 2) := by decide +kernel
theorem dX1_spread_69 : decode cX1_spread 69 = .ok (.invokestatic 55, 3) := by decide +kernel
theorem dX1_spread_72 : decode cX1_spread 72 = .ok (.invokestatic 73, 3) := by decide +kernel
theorem dX1_spread_75 : decode cX1_spread 75 = .ok (.ior, 1) := by decide +kernel
theorem dX1_spread_76 : decode cX1_spread 76 = .ok (.putfield 15, 3) := by decide +kernel
theorem dX1_spread_79 : decode cX1_spread 79 = .ok (.iload 4, 2) := by decide +kernel
theorem dX1_spread_81 : decode cX1_spread 81 = .ok (.invokestatic 51, 3) := by decide +kernel
theorem dX1_spread_84 : decode cX1_spread 84 = .ok (.iconst 2, 1) := by decide +kernel
theorem dX1_spread_85 : decode cX1_spread 85 = .ok (.if_icmp .ne 31, 3) := by decide +kernel
theorem dX1_spread_88 : decode cX1_spread 88 = .ok (.aload_n 0, 1) := by decide +kernel
theorem dX1_spread_89 : decode cX1_spread 89 = .ok (.dup, 1) := by decide +kernel
theorem dX1_spread_90 : decode cX1_spread 90 = .ok (.getfield 15, 3) := by decide +kernel
theorem dX1_spread_93 : decode cX1_spread 93 = .ok (.aload_n 0, 1) := by decide +kernel
theorem dX1_spread_94 : decode cX1_spread 94 = .ok (.iload 5, 2) := by decide +kernel
theorem dX1_spread_96 : decode cX1_spread 96 = .ok (.iload 4, 2) := by decide +kernel
theorem dX1_spread_98 : decode cX1_spread 98 = .ok (.invokestatic 55, 3) := by decide +kernel
theorem dX1_spread_101 : decode cX1_spread 101 = .ok (.invokevirtual 58, 3) := by decide +kernel
theorem dX1_spread_104 : decode cX1_spread 104 = .ok (.iload 4, 2) := by decide +kernel
theorem dX1_spread_106 : decode cX1_spread 106 = .ok (.invokestatic 61, 3) := by decide +kernel
theorem dX1_spread_109 : decode cX1_spread 109 = .ok (.invokestatic 73, 3) := by decide +kernel
theorem dX1_spread_112 : decode cX1_spread 112 = .ok (.ior, 1) := by decide +kernel
theorem dX1_spread_113 : decode cX1_spread 113 = .ok (.putfield 15, 3) := by decide +kernel
theorem dX1_spread_116 : decode cX1_spread 116 = .ok (.iinc 3 1, 3) := by decide +kernel
theorem dX1_spread_119 : decode cX1_spread 119 = .ok (.goto (-112), 3) := by decide +kernel
theorem dX1_spread_122 : decode cX1_spread 122 = .ok (.aload_n 0, 1) := by decide +kernel
theorem dX1_spread_123 : decode cX1_spread 123 = .ok (.getfield 15, 3) := by decide +kernel
theorem dX1_spread_126 : decode cX1_spread 126 = .ok (.iload_n 2, 1) := by decide +kernel
theorem dX1_spread_127 : decode cX1_spread 127 = .ok (.if_icmp .eq 7, 3) := by decide +kernel
theorem dX1_spread_130 : decode cX1_spread 130 = .ok (.iconst 1, 1) := by decide +kernel
theorem dX1_spread_131 : decode cX1_spread 131 = .ok (.goto 4, 3) := by decide +kernel
theorem dX1_spread_134 : decode cX1_spread 134 = .ok (.iconst 0, 1) := by decide +kernel
theorem dX1_spread_135 : decode cX1_spread 135 = .ok (.ireturn, 1) := by decide +kernel
theorem dX2_init_0 : decode cX2_init 0 = .ok (.aload_n 0, 1) := by decide +kernel
theorem dX2_init_1 : decode cX2_init 1 = .ok (.invokespecial 3, 3) := by decide +kernel
theorem dX2_init_4 : decode cX2_init 4 = .ok (.aload_n 0, 1) := by decide +kernel
theorem dX2_init_5 : decode cX2_init 5 = .ok (.sipush 200, 3) := by decide +kernel
theorem dX2_init_8 : decode cX2_init 8 = .ok (.newarray .int, 2) := by decide +kernel
theorem dX2_init_10 : decode cX2_init 10 = .ok (.putfield 9, 3) := by decide +kernel
theorem dX2_init_13 : decode cX2_init 13 = .ok (.aload_n 0, 1) := by decide +kernel
theorem dX2_init_14 : decode cX2_init 14 = .ok (.sipush 2600, 3) := by decide +kernel
theorem dX2_init_17 : decode cX2_init 17 = .ok (.newarray .int, 2) := by decide +kernel
theorem dX2_init_19 : decode cX2_init 19 = .ok (.putfield 15, 3) := by decide +kernel
theorem dX2_init_22 : decode cX2_init 22 = .ok (.return_, 1) := by decide +kernel
theorem dX2_begin_0 : decode cX2_begin 0 = .ok (.aload_n 0, 1) := by decide +kernel
theorem dX2_begin_1 : decode cX2_begin 1 = .ok (.aload_n 1, 1) := by decide +kernel
theorem dX2_begin_2 : decode cX2_begin 2 = .ok (.getfield 18, 3) := by decide +kernel
theorem dX2_begin_5 : decode cX2_begin 5 = .ok (.putfield 24, 3) := by decide +kernel
theorem dX2_begin_8 : decode cX2_begin 8 = .ok (.aload_n 0, 1) := by decide +kernel
theorem dX2_begin_9 : decode cX2_begin 9 = .ok (.aload_n 1, 1) := by decide +kernel
theorem dX2_begin_10 : decode cX2_begin 10 = .ok (.getfield 25, 3) := by decide +kernel
theorem dX2_begin_13 : decode cX2_begin 13 = .ok (.putfield 28, 3) := by decide +kernel
theorem dX2_begin_16 : decode cX2_begin 16 = .ok (.aload_n 0, 1) := by decide +kernel
theorem dX2_begin_17 : decode cX2_begin 17 = .ok (.iconst 0, 1) := by decide +kernel
theorem dX2_begin_18 : decode cX2_begin 18 = .ok (.putfield 29, 3) := by decide +kernel
theorem dX2_begin_21 : decode cX2_begin 21 = .ok (.aload_n 0, 1) := by decide +kernel
theorem dX2_begin_22 : decode cX2_begin 22 = .ok (.bipush (-4), 2) := by decide +kernel
theorem dX2_begin_24 : decode cX2_begin 24 = .ok (.putfield 32, 3) := by decide +kernel
theorem dX2_begin_27 : decode cX2_begin 27 = .ok (.aload_n 2, 1) := by decide +kernel
theorem dX2_begin_28 : decode cX2_begin 28 = .ok (.aload_n 0, 1) := by decide +kernel
theorem dX2_begin_29 : decode cX2_begin 29 = .ok (.getfield 15, 3) := by decide +kernel
theorem dX2_begin_32 : decode cX2_begin 32 = .ok (.invokevirtual 35, 3) := by decide +kernel
theorem dX2_begin_35 : decode cX2_begin 35 = .ok (.iconst 0, 1) := by decide +kernel
theorem dX2_begin_36 : decode cX2_begin 36 = .ok (.istore_n 3, 1) := by decide +kernel
theorem dX2_begin_37 : decode cX2_begin 37 = .ok (.iload_n 3, 1) := by decide +kernel
theorem dX2_begin_38 : decode cX2_begin 38 = .ok (.aload_n 0, 1) := by decide +kernel
theorem dX2_begin_39 : decode cX2_begin 39 = .ok (.getfield 24, 3) := by decide +kernel
theorem dX2_begin_42 : decode cX2_begin 42 = .ok (.if_icmp .ge 27, 3) := by decide +kernel
theorem dX2_begin_45 : decode cX2_begin 45 = .ok (.aload_n 0, 1) := by decide +kernel
theorem dX2_begin_46 : decode cX2_begin 46 = .ok (.getfield 9, 3) := by decide +kernel
theorem dX2_begin_49 : decode cX2_begin 49 = .ok (.iload_n 3, 1) := by decide +kernel
theorem dX2_begin_50 : decode cX2_begin 50 = .ok (.aload_n 1, 1) := by decide +kernel
theorem dX2_begin_51 : decode cX2_begin 51 = .ok (.getfield 41, 3) := by decide +kernel
theorem dX2_begin_54 : decode cX2_begin 54 = .ok (.iload_n 3, 1) := by decide +kernel
theorem dX2_begin_55 : decode cX2_begin 55 = .ok (.iaload, 1) := by decide +kernel
theorem dX2_begin_56 : decode cX2_begin 56 = .ok (.iastore, 1) := by decide +kernel
theorem dX2_begin_57 : decode cX2_begin 57 = .ok (.aload_n 0, 1) := by decide +kernel
theorem dX2_begin_58 : decode cX2_begin 58 = .ok (.iload_n 3, 1) := by decide +kernel
theorem dX2_begin_59 : decode cX2_begin 59 = .ok (.aload_n 2, 1) := by decide +kernel
theorem dX2_begin_60 : decode cX2_begin 60 = .ok (.invokevirtual 44, 3) := by decide +kernel
theorem dX2_begin_63 : decode cX2_begin 63 = .ok (.iinc 3 1, 3) := by decide +kernel
theorem dX2_begin_66 : decode cX2_begin 66 = .ok (.goto (-29), 3) := by decide +kernel
theorem dX2_begin_69 : decode cX2_begin 69 = .ok (.aload_n 0, 1) := by decide +kernel
theorem dX2_begin_70 : decode cX2_begin 70 = .ok (.aload_n 0, 1) := by decide +kernel
theorem dX2_begin_71 : decode cX2_begin 71 = .ok (.getfield 15, 3) := by decide +kernel
theorem dX2_begin_74 : decode cX2_begin 74 = .ok (.aload_n 0, 1) := by decide +kernel
theorem dX2_begin_75 : decode cX2_begin 75 = .ok (.getfield 24, 3) := by decide +kernel
theorem dX2_begin_78 : decode cX2_begin 78 = .ok (.bipush 13, 2) := by decide +kernel
theorem dX2_begin_80 : decode cX2_begin 80 = .ok (.imul, 1) := by decide +kernel
theorem dX2_begin_81 : decode cX2_begin 81 = .ok (.aload_n 0, 1) := by decide +kernel
theorem dX2_begin_82 : decode cX2_begin 82 = .ok (.getfield 28, 3) := by decide +kernel
theorem dX2_begin_85 : decode cX2_begin 85 = .ok (.iadd, 1) := by decide +kernel
theorem dX2_begin_86 : decode cX2_begin 86 = .ok (.iaload, 1) := by decide +kernel
theorem dX2_begin_87 : decode cX2_begin 87 = .ok (.putfield 48, 3) := by decide +kernel
theorem dX2_begin_90 : decode cX2_begin 90 = .ok (.return_, 1) := by decide +kernel
theorem dX2_fillTail_0 : decode cX2_fillTail 0 = .ok (.iconst 0, 1) := by decide +kernel
theorem dX2_fillTail_1 : decode cX2_fillTail 1 = .ok (.istore_n 3, 1) := by decide +kernel
theorem dX2_fillTail_2 : decode cX2_fillTail 2 = .ok (.iload_n 3, 1) := by decide +kernel
theorem dX2_fillTail_3 : decode cX2_fillTail 3 = .ok (.aload_n 2, 1) := by decide +kernel
theorem dX2_fillTail_4 : decode cX2_fillTail 4 = .ok (.getfield 51, 3) := by decide +kernel
theorem dX2_fillTail_7 : decode cX2_fillTail 7 = .ok (.if_icmp .ge 38, 3) := by decide +kernel
theorem dX2_fillTail_10 : decode cX2_fillTail 10 = .ok (.aload_n 0, 1) := by decide +kernel
theorem dX2_fillTail_11 : decode cX2_fillTail 11 = .ok (.getfield 15, 3) := by decide +kernel
theorem dX2_fillTail_14 : decode cX2_fillTail 14 = .ok (.iload_n 1, 1) := by decide +kernel
theorem dX2_fillTail_15 : decode cX2_fillTail 15 = .ok (.iconst 1, 1) := by decide +kernel
theorem dX2_fillTail_16 : decode cX2_fillTail 16 = .ok (.iadd, 1) := by decide +kernel
theorem dX2_fillTail_17 : decode cX2_fillTail 17 = .ok (.bipush 13, 2) := by decide +kernel
theorem dX2_fillTail_19 : decode cX2_fillTail 19 = .ok (.imul, 1) := by decide +kernel
theorem dX2_fillTail_20 : decode cX2_fillTail 20 = .ok (.iload_n 3, 1) := by decide +kernel
theorem dX2_fillTail_21 : decode cX2_fillTail 21 = .ok (.iadd, 1) := by decide +kernel
theorem dX2_fillTail_22 : decode cX2_fillTail 22 = .ok (.aload_n 2, 1) := by decide +kernel
theorem dX2_fillTail_23 : decode cX2_fillTail 23 = .ok (.iload_n 3, 1) := by decide +kernel
theorem dX2_fillTail_24 : decode cX2_fillTail 24 = .ok (.aload_n 0, 1) := by decide +kernel
theorem dX2_fillTail_25 : decode cX2_fillTail 25 = .ok (.getfield 9, 3) := by decide +kernel
theorem dX2_fillTail_28 : decode cX2_fillTail 28 = .ok (.iload_n 1, 1) := by decide +kernel
theorem dX2_fillTail_29 : decode cX2_fillTail 29 = .ok (.iaload, 1) := by decide +kernel
theorem dX2_fillTail_30 : decode cX2_fillTail 30 = .ok (.aload_n 0, 1) := by decide +kernel
theorem dX2_fillTail_31 : decode cX2_fillTail 31 = .ok (.getfield 15, 3) := by decide +kernel
theorem dX2_fillTail_34 : decode cX2_fillTail 34 = .ok (.iload_n 1, 1) := by decide +kernel
theorem dX2_fillTail_35 : decode cX2_fillTail 35 = .ok (.invokevirtual 54, 3) := by decide +kernel
theorem dX2_fillTail_38 : decode cX2_fillTail 38 = .ok (.iastore, 1) := by decide +kernel
theorem dX2_fillTail_39 : decode cX2_fillTail 39 = .ok (.iinc 3 1, 3) := by decide +kernel
theorem dX2_fillTail_42 : decode cX2_fillTail 42 = .ok (.goto (-40), 3) := by decide +kernel
theorem dX2_fillTail_45 : decode cX2_fillTail 45 = .ok (.return_, 1) := by decide +kernel
theorem dX2_steps_0 : decode cX2_steps 0 = .ok (.aload_n 0, 1) := by decide +kernel
theorem dX2_steps_1 : decode cX2_steps 1 = .ok (.getfield 48, 3) := by decide +kernel
theorem dX2_steps_4 : decode cX2_steps 4 = .ok (.ldc 58, 2) := by decide +kernel
theorem dX2_steps_6 : decode cX2_steps 6 = .ok (.if_icmp .ge 15, 3) := by decide +kernel
theorem dX2_steps_9 : decode cX2_steps 9 = .ok (.aload_n 0, 1) := by decide +kernel
theorem dX2_steps_10 : decode cX2_steps 10 = .ok (.getfield 29, 3) := by decide +kernel
theorem dX2_steps_13 : decode cX2_steps 13 = .ok (.aload_n 0, 1) := by decide +kernel
theorem dX2_steps_14 : decode cX2_steps 14 = .ok (.getfield 48, 3) := by decide +kernel
theorem dX2_steps_17 : decode cX2_steps 17 = .ok (.iadd, 1) := by decide +kernel
theorem dX2_steps_18 : decode cX2_steps 18 = .ok (.goto 5, 3) := by decide +kernel
theorem dX2_steps_21 : decode cX2_steps 21 = .ok (.bipush (-4), 2) := by decide +kernel
theorem dX2_steps_23 : decode cX2_steps 23 = .ok (.ireturn, 1) := by decide +kernel
theorem dX2_ruleAt_0 : decode cX2_ruleAt 0 = .ok (.aload_n 0, 1) := by decide +kernel
theorem dX2_ruleAt_1 : decode cX2_ruleAt 1 = .ok (.getfield 29, 3) := by decide +kernel
theorem dX2_ruleAt_4 : decode cX2_ruleAt 4 = .ok (.istore 4, 2) := by decide +kernel
theorem dX2_ruleAt_6 : decode cX2_ruleAt 6 = .ok (.iload 4, 2) := by decide +kernel
theorem dX2_ruleAt_8 : decode cX2_ruleAt 8 = .ok (.iload_n 1, 1) := by decide +kernel
theorem dX2_ruleAt_9 : decode cX2_ruleAt 9 = .ok (.if_icmp .gt 19, 3) := by decide +kernel
theorem dX2_ruleAt_12 : decode cX2_ruleAt 12 = .ok (.aload_n 0, 1) := by decide +kernel
theorem dX2_ruleAt_13 : decode cX2_ruleAt 13 = .ok (.aload_n 0, 1) := by decide +kernel
theorem dX2_ruleAt_14 : decode cX2_ruleAt 14 = .ok (.aload_n 2, 1) := by decide +kernel
theorem dX2_ruleAt_15 : decode cX2_ruleAt 15 = .ok (.aload_n 3, 1) := by decide +kernel
theorem dX2_ruleAt_16 : decode cX2_ruleAt 16 = .ok (.invokevirtual 59, 3) := by decide +kernel
theorem dX2_ruleAt_19 : decode cX2_ruleAt 19 = .ok (.putfield 32, 3) := by decide +kernel
theorem dX2_ruleAt_22 : decode cX2_ruleAt 22 = .ok (.iinc 4 1, 3) := by decide +kernel
theorem dX2_ruleAt_25 : decode cX2_ruleAt 25 = .ok (.goto (-19), 3) := by decide +kernel
theorem dX2_ruleAt_28 : decode cX2_ruleAt 28 = .ok (.aload_n 0, 1) := by decide +kernel
theorem dX2_ruleAt_29 : decode cX2_ruleAt 29 = .ok (.getfield 32, 3) := by decide +kernel
theorem dX2_ruleAt_32 : decode cX2_ruleAt 32 = .ok (.ireturn, 1) := by decide +kernel
theorem dX2_advance_0 : decode cX2_advance 0 = .ok (.aload_n 0, 1) := by decide +kernel
theorem dX2_advance_1 : decode cX2_advance 1 = .ok (.getfield 24, 3) := by decide +kernel
theorem dX2_advance_4 : decode cX2_advance 4 = .ok (.ifCond .eq 15, 3) := by decide +kernel
theorem dX2_advance_7 : decode cX2_advance 7 = .ok (.aload_n 0, 1) := by decide +kernel
theorem dX2_advance_8 : decode cX2_advance 8 = .ok (.getfield 24, 3) := by decide +kernel
theorem dX2_advance_11 : decode cX2_advance 11 = .ok (.iconst 2, 1) := by decide +kernel
theorem dX2_advance_12 : decode cX2_advance 12 = .ok (.iadd, 1) := by decide +kernel
theorem dX2_advance_13 : decode cX2_advance 13 = .ok (.sipush 200, 3) := by decide +kernel
theorem dX2_advance_16 : decode cX2_advance 16 = .ok (.if_icmp .lt 6, 3) := by decide +kernel
theorem dX2_advance_19 : decode cX2_advance 19 = .ok (.bipush (-4), 2) := by decide +kernel
theorem dX2_advance_21 : decode cX2_advance 21 = .ok (.ireturn, 1) := by decide +kernel
theorem dX2_advance_22 : decode cX2_advance 22 = .ok (.iconst 0, 1) := by decide +kernel
theorem dX2_advance_23 : decode cX2_advance 23 = .ok (.istore_n 3, 1) := by decide +kernel
theorem dX2_advance_24 : decode cX2_advance 24 = .ok (.iload_n 3, 1) := by decide +kernel
theorem dX2_advance_25 : decode cX2_advance 25 = .ok (.aload_n 1, 1) := by decide +kernel
theorem dX2_advance_26 : decode cX2_advance 26 = .ok (.getfield 63, 3) := by decide +kernel
theorem dX2_advance_29 : decode cX2_advance 29 = .ok (.if_icmp .ge 111, 3) := by decide +kernel
theorem dX2_advance_32 : decode cX2_advance 32 = .ok (.aload_n 1, 1) := by decide +kernel
theorem dX2_advance_33 : decode cX2_advance 33 = .ok (.getfield 66, 3) := by decide +kernel
theorem dX2_advance_36 : decode cX2_advance 36 = .ok (.iload_n 3, 1) := by decide +kernel
theorem dX2_advance_37 : decode cX2_advance 37 = .ok (.iaload, 1) := by decide +kernel
theorem dX2_advance_38 : decode cX2_advance 38 = .ok (.aload_n 0, 1) := by decide +kernel
theorem dX2_advance_39 : decode cX2_advance 39 = .ok (.getfield 28, 3) := by decide +kernel
theorem dX2_advance_42 : decode cX2_advance 42 = .ok (.if_icmp .ne 92, 3) := by decide +kernel
theorem dX2_advance_45 : decode cX2_advance 45 = .ok (.aload_n 1, 1) := by decide +kernel
theorem dX2_advance_46 : decode cX2_advance 46 = .ok (.getfield 69, 3) := by decide +kernel
theorem dX2_advance_49 : decode cX2_advance 49 = .ok (.iload_n 3, 1) := by decide +kernel
theorem dX2_advance_50 : decode cX2_advance 50 = .ok (.iaload, 1) := by decide +kernel
theorem dX2_advance_51 : decode cX2_advance 51 = .ok (.aload_n 0, 1) := by decide +kernel
theorem dX2_advance_52 : decode cX2_advance 52 = .ok (.getfield 9, 3) := by decide +kernel
theorem dX2_advance_55 : decode cX2_advance 55 = .ok (.aload_n 0, 1) := by decide +kernel
theorem dX2_advance_56 : decode cX2_advance 56 = .ok (.getfield 24, 3) := by decide +kernel
theorem dX2_advance_59 : decode cX2_advance 59 = .ok (.iconst 1, 1) := by decide +kernel
theorem dX2_advance_60 : decode cX2_advance 60 = .ok (.isub, 1) := by decide +kernel
theorem dX2_advance_61 : decode cX2_advance 61 = .ok (.iaload, 1) := by decide +kernel
theorem dX2_advance_62 : decode cX2_advance 62 = .ok (.if_icmp .ne 72, 3) := by decide +kernel
theorem dX2_advance_65 : decode cX2_advance 65 = .ok (.aload_n 0, 1) := by decide +kernel
theorem dX2_advance_66 : decode cX2_advance 66 = .ok (.aload_n 1, 1) := by decide +kernel
theorem dX2_advance_67 : decode cX2_advance 67 = .ok (.getfield 72, 3) := by decide +kernel
theorem dX2_advance_70 : decode cX2_advance 70 = .ok (.iload_n 3, 1) := by decide +kernel
theorem dX2_advance_71 : decode cX2_advance 71 = .ok (.iaload, 1) := by decide +kernel
theorem dX2_advance_72 : decode cX2_advance 72 = .ok (.aload_n 1, 1) := by decide +kernel
theorem dX2_advance_73 : decode cX2_advance 73 = .ok (.getfield 75, 3) := by decide +kernel
theorem dX2_advance_76 : decode cX2_advance 76 = .ok (.iload_n 3, 1) := by decide +kernel
theorem dX2_advance_77 : decode cX2_advance 77 = .ok (.iaload, 1) := by decide +kernel
theorem dX2_advance_78 : decode cX2_advance 78 = .ok (.aload_n 2, 1) := by decide +kernel
theorem dX2_advance_79 : decode cX2_advance 79 = .ok (.invokevirtual 78, 3) := by decide +kernel
theorem dX2_advance_82 : decode cX2_advance 82 = .ok (.aload_n 0, 1) := by decide +kernel
theorem dX2_advance_83 : decode cX2_advance 83 = .ok (.getfield 48, 3) := by decide +kernel
theorem dX2_advance_86 : decode cX2_advance 86 = .ok (.iconst 1, 1) := by decide +kernel
theorem dX2_advance_87 : decode cX2_advance 87 = .ok (.isub, 1) := by decide +kernel
theorem dX2_advance_88 : decode cX2_advance 88 = .ok (.if_icmp .ne 46, 3) := by decide +kernel
theorem dX2_advance_91 : decode cX2_advance 91 = .ok (.aload_n 0, 1) := by decide +kernel
theorem dX2_advance_92 : decode cX2_advance 92 = .ok (.aload_n 1, 1) := by decide +kernel
theorem dX2_advance_93 : decode cX2_advance 93 = .ok (.getfield 75, 3) := by decide +kernel
theorem dX2_advance_96 : decode cX2_advance 96 = .ok (.iload_n 3, 1) := by decide +kernel
theorem dX2_advance_97 : decode cX2_advance 97 = .ok (.iaload, 1) := by decide +kernel
theorem dX2_advance_98 : decode cX2_advance 98 = .ok (.aload_n 2, 1) := by decide +kernel
theorem dX2_advance_99 : decode cX2_advance 99 = .ok (.invokevirtual 82, 3) := by decide +kernel
theorem dX2_advance_102 : decode cX2_advance 102 = .ok (.aload_n 0, 1) := by decide +kernel
theorem dX2_advance_103 : decode cX2_advance 103 = .ok (.aload_n 1, 1) := by decide +kernel
theorem dX2_advance_104 : decode cX2_advance 104 = .ok (.getfield 72, 3) := by decide +kernel
theorem dX2_advance_107 : decode cX2_advance 107 = .ok (.iload_n 3, 1) := by decide +kernel
theorem dX2_advance_108 : decode cX2_advance 108 = .ok (.iaload, 1) := by decide +kernel
theorem dX2_advance_109 : decode cX2_advance 109 = .ok (.putfield 28, 3) := by decide +kernel
theorem dX2_advance_112 : decode cX2_advance 112 = .ok (.aload_n 0, 1) := by decide +kernel
theorem dX2_advance_113 : decode cX2_advance 113 = .ok (.dup, 1) := by decide +kernel
theorem dX2_advance_114 : decode cX2_advance 114 = .ok (.getfield 48, 3) := by decide +kernel
theorem dX2_advance_117 : decode cX2_advance 117 = .ok (.iconst 1, 1) := by decide +kernel
theorem dX2_advance_118 : decode cX2_advance 118 = .ok (.isub, 1) := by decide +kernel
theorem dX2_advance_119 : decode cX2_advance 119 = .ok (.putfield 48, 3) := by decide +kernel
theorem dX2_advance_122 : decode cX2_advance 122 = .ok (.aload_n 0, 1) := by decide +kernel
theorem dX2_advance_123 : decode cX2_advance 123 = .ok (.dup, 1) := by decide +kernel
theorem dX2_advance_124 : decode cX2_advance 124 = .ok (.getfield 29, 3) := by decide +kernel
theorem dX2_advance_127 : decode cX2_advance 127 = .ok (.iconst 1, 1) := by decide +kernel
theorem dX2_advance_128 : decode cX2_advance 128 = .ok (.iadd, 1) := by decide +kernel
theorem dX2_advance_129 : decode cX2_advance 129 = .ok (.putfield 29, 3) := by decide +kernel
theorem dX2_advance_132 : decode cX2_advance 132 = .ok (.iload_n 3, 1) := by decide +kernel
theorem dX2_advance_133 : decode cX2_advance 133 = .ok (.ireturn, 1) := by decide +kernel
theorem dX2_advance_134 : decode cX2_advance 134 = .ok (.iinc 3 1, 3) := by decide +kernel
theorem dX2_advance_137 : decode cX2_advance 137 = .ok (.goto (-113), 3) := by decide +kernel
theorem dX2_advance_140 : decode cX2_advance 140 = .ok (.bipush (-4), 2) := by decide +kernel
theorem dX2_advance_142 : decode cX2_advance 142 = .ok (.ireturn, 1) := by decide +kernel
theorem dX2_stepsAfter_0 : decode cX2_stepsAfter 0 = .ok (.aload_n 0, 1) := by decide +kernel
theorem dX2_stepsAfter_1 : decode cX2_stepsAfter 1 = .ok (.getfield 24, 3) := by decide +kernel
theorem dX2_stepsAfter_4 : decode cX2_stepsAfter 4 = .ok (.iconst 1, 1) := by decide +kernel
theorem dX2_stepsAfter_5 : decode cX2_stepsAfter 5 = .ok (.isub, 1) := by decide +kernel
theorem dX2_stepsAfter_6 : decode cX2_stepsAfter 6 = .ok (.istore 4, 2) := by decide +kernel
theorem dX2_stepsAfter_8 : decode cX2_stepsAfter 8 = .ok (.iload_n 2, 1) := by decide +kernel
theorem dX2_stepsAfter_9 : decode cX2_stepsAfter 9 = .ok (.invokestatic 85, 3) := by decide +kernel
theorem dX2_stepsAfter_12 : decode cX2_stepsAfter 12 = .ok (.lookupswitch 57 #[(0, 28), (1, 41)], 28) := by decide +kernel
theorem dX2_stepsAfter_40 : decode cX2_stepsAfter 40 = .ok (.aload_n 0, 1) := by decide +kernel
theorem dX2_stepsAfter_41 : decode cX2_stepsAfter 41 = .ok (.getfield 15, 3) := by decide +kernel
theorem dX2_stepsAfter_44 : decode cX2_stepsAfter 44 = .ok (.iload 4, 2) := by decide +kernel
theorem dX2_stepsAfter_46 : decode cX2_stepsAfter 46 = .ok (.bipush 13, 2) := by decide +kernel
theorem dX2_stepsAfter_48 : decode cX2_stepsAfter 48 = .ok (.imul, 1) := by decide +kernel
theorem dX2_stepsAfter_49 : decode cX2_stepsAfter 49 = .ok (.iload_n 1, 1) := by decide +kernel
theorem dX2_stepsAfter_50 : decode cX2_stepsAfter 50 = .ok (.iadd, 1) := by decide +kernel
theorem dX2_stepsAfter_51 : decode cX2_stepsAfter 51 = .ok (.iaload, 1) := by decide +kernel
theorem dX2_stepsAfter_52 : decode cX2_stepsAfter 52 = .ok (.ireturn, 1) := by decide +kernel
theorem dX2_stepsAfter_53 : decode cX2_stepsAfter 53 = .ok (.aload_n 3, 1) := by decide +kernel
theorem dX2_stepsAfter_54 : decode cX2_stepsAfter 54 = .ok (.iload_n 1, 1) := by decide +kernel
theorem dX2_stepsAfter_55 : decode cX2_stepsAfter 55 = .ok (.iload_n 2, 1) := by decide +kernel
theorem dX2_stepsAfter_56 : decode cX2_stepsAfter 56 = .ok (.invokestatic 89, 3) := by decide +kernel
theorem dX2_stepsAfter_59 : decode cX2_stepsAfter 59 = .ok (.aload_n 0, 1) := by decide +kernel
theorem dX2_stepsAfter_60 : decode cX2_stepsAfter 60 = .ok (.getfield 15, 3) := by decide +kernel
theorem dX2_stepsAfter_63 : decode cX2_stepsAfter 63 = .ok (.iload 4, 2) := by decide +kernel
theorem dX2_stepsAfter_65 : decode cX2_stepsAfter 65 = .ok (.invokevirtual 54, 3) := by decide +kernel
theorem dX2_stepsAfter_68 : decode cX2_stepsAfter 68 = .ok (.ireturn, 1) := by decide +kernel
theorem dX2_stepsAfter_69 : decode cX2_stepsAfter 69 = .ok (.aload_n 3, 1) := by decide +kernel
theorem dX2_stepsAfter_70 : decode cX2_stepsAfter 70 = .ok (.iload_n 1, 1) := by decide +kernel
theorem dX2_stepsAfter_71 : decode cX2_stepsAfter 71 = .ok (.iload_n 2, 1) := by decide +kernel
theorem dX2_stepsAfter_72 : decode cX2_stepsAfter 72 = .ok (.invokestatic 89, 3) := by decide +kernel
theorem dX2_stepsAfter_75 : decode cX2_stepsAfter 75 = .ok (.iload_n 2, 1) := by decide +kernel
theorem dX2_stepsAfter_76 : decode cX2_stepsAfter 76 = .ok (.invokestatic 92, 3) := by decide +kernel
theorem dX2_stepsAfter_79 : decode cX2_stepsAfter 79 = .ok (.aload_n 0, 1) := by decide +kernel
theorem dX2_stepsAfter_80 : decode cX2_stepsAfter 80 = .ok (.getfield 15, 3) := by decide +kernel
theorem dX2_stepsAfter_83 : decode cX2_stepsAfter 83 = .ok (.iload 4, 2) := by decide +kernel
theorem dX2_stepsAfter_85 : decode cX2_stepsAfter 85 = .ok (.invokevirtual 95, 3) := by decide +kernel
theorem dX2_stepsAfter_88 : decode cX2_stepsAfter 88 = .ok (.ireturn, 1) := by decide +kernel
theorem dX2_replaceTop_0 : decode cX2_replaceTop 0 = .ok (.aload_n 0, 1) := by decide +kernel
theorem dX2_replaceTop_1 : decode cX2_replaceTop 1 = .ok (.dup, 1) := by decide +kernel
theorem dX2_replaceTop_2 : decode cX2_replaceTop 2 = .ok (.getfield 24, 3) := by decide +kernel
theorem dX2_replaceTop_5 : decode cX2_replaceTop 5 = .ok (.iconst 1, 1) := by decide +kernel
theorem dX2_replaceTop_6 : decode cX2_replaceTop 6 = .ok (.isub, 1) := by decide +kernel
theorem dX2_replaceTop_7 : decode cX2_replaceTop 7 = .ok (.putfield 24, 3) := by decide +kernel
theorem dX2_replaceTop_10 : decode cX2_replaceTop 10 = .ok (.iload_n 1, 1) := by decide +kernel
theorem dX2_replaceTop_11 : decode cX2_replaceTop 11 = .ok (.invokestatic 85, 3) := by decide +kernel
theorem dX2_replaceTop_14 : decode cX2_replaceTop 14 = .ok (.iconst 2, 1) := by decide +kernel
theorem dX2_replaceTop_15 : decode cX2_replaceTop 15 = .ok (.if_icmp .ne 35, 3) := by decide +kernel
theorem dX2_replaceTop_18 : decode cX2_replaceTop 18 = .ok (.aload_n 0, 1) := by decide +kernel
theorem dX2_replaceTop_19 : decode cX2_replaceTop 19 = .ok (.getfield 9, 3) := by decide +kernel
theorem dX2_replaceTop_22 : decode cX2_replaceTop 22 = .ok (.aload_n 0, 1) := by decide +kernel
theorem dX2_replaceTop_23 : decode cX2_replaceTop 23 = .ok (.getfield 24, 3) := by decide +kernel
theorem dX2_replaceTop_26 : decode cX2_replaceTop 26 = .ok (.iload_n 1, 1) := by decide +kernel
theorem dX2_replaceTop_27 : decode cX2_replaceTop 27 = .ok (.invokestatic 92, 3) := by decide +kernel
theorem dX2_replaceTop_30 : decode cX2_replaceTop 30 = .ok (.iastore, 1) := by decide +kernel
theorem dX2_replaceTop_31 : decode cX2_replaceTop 31 = .ok (.aload_n 0, 1) := by decide +kernel
theorem dX2_replaceTop_32 : decode cX2_replaceTop 32 = .ok (.aload_n 0, 1) := by decide +kernel
theorem dX2_replaceTop_33 : decode cX2_replaceTop 33 = .ok (.getfield 24, 3) := by decide +kernel
theorem dX2_replaceTop_36 : decode cX2_replaceTop 36 = .ok (.aload_n 2, 1) := by decide +kernel
theorem dX2_replaceTop_37 : decode cX2_replaceTop 37 = .ok (.invokevirtual 44, 3) := by decide +kernel
theorem dX2_replaceTop_40 : decode cX2_replaceTop 40 = .ok (.aload_n 0, 1) := by decide +kernel
theorem dX2_replaceTop_41 : decode cX2_replaceTop 41 = .ok (.dup, 1) := by decide +kernel
theorem dX2_replaceTop_42 : decode cX2_replaceTop 42 = .ok (.getfield 24, 3) := by decide +kernel
theorem dX2_replaceTop_45 : decode cX2_replaceTop 45 = .ok (.iconst 1, 1) := by decide +kernel
theorem dX2_replaceTop_46 : decode cX2_replaceTop 46 = .ok (.iadd, 1) := by decide +kernel
theorem dX2_replaceTop_47 : decode cX2_replaceTop 47 = .ok (.putfield 24, 3) := by decide +kernel
theorem dX2_replaceTop_50 : decode cX2_replaceTop 50 = .ok (.iload_n 1, 1) := by decide +kernel
theorem dX2_replaceTop_51 : decode cX2_replaceTop 51 = .ok (.invokestatic 85, 3) := by decide +kernel
theorem dX2_replaceTop_54 : decode cX2_replaceTop 54 = .ok (.ifCond .le 26, 3) := by decide +kernel
theorem dX2_replaceTop_57 : decode cX2_replaceTop 57 = .ok (.aload_n 0, 1) := by decide +kernel
theorem dX2_replaceTop_58 : decode cX2_replaceTop 58 = .ok (.getfield 9, 3) := by decide +kernel
theorem dX2_replaceTop_61 : decode cX2_replaceTop 61 = .ok (.aload_n 0, 1) := by decide +kernel
theorem dX2_replaceTop_62 : decode cX2_replaceTop 62 = .ok (.getfield 24, 3) := by decide +kernel
theorem dX2_replaceTop_65 : decode cX2_replaceTop 65 = .ok (.iload_n 1, 1) := by decide +kernel
theorem dX2_replaceTop_66 : decode cX2_replaceTop 66 = .ok (.invokestatic 89, 3) := by decide +kernel
theorem dX2_replaceTop_69 : decode cX2_replaceTop 69 = .ok (.iastore, 1) := by decide +kernel
theorem dX2_replaceTop_70 : decode cX2_replaceTop 70 = .ok (.aload_n 0, 1) := by decide +kernel
theorem dX2_replaceTop_71 : decode cX2_replaceTop 71 = .ok (.dup, 1) := by decide +kernel
theorem dX2_replaceTop_72 : decode cX2_replaceTop 72 = .ok (.getfield 24, 3) := by decide +kernel
theorem dX2_replaceTop_75 : decode cX2_replaceTop 75 = .ok (.iconst 1, 1) := by decide +kernel
theorem dX2_replaceTop_76 : decode cX2_replaceTop 76 = .ok (.iadd, 1) := by decide +kernel
theorem dX2_replaceTop_77 : decode cX2_replaceTop 77 = .ok (.putfield 24, 3) := by decide +kernel
theorem dX2_replaceTop_80 : decode cX2_replaceTop 80 = .ok (.return_, 1) := by decide +kernel
theorem dX3_init_0 : decode cX3_init 0 = .ok (.aload_n 0, 1) := by decide +kernel
theorem dX3_init_1 : decode cX3_init 1 = .ok (.invokespecial 3, 3) := by decide +kernel
theorem dX3_init_4 : decode cX3_init 4 = .ok (.aload_n 0, 1) := by decide +kernel
theorem dX3_init_5 : decode cX3_init 5 = .ok (.sipush 200, 3) := by decide +kernel
theorem dX3_init_8 : decode cX3_init 8 = .ok (.newarray .char, 2) := by decide +kernel
theorem dX3_init_10 : decode cX3_init 10 = .ok (.putfield 9, 3) := by decide +kernel
theorem dX3_init_13 : decode cX3_init 13 = .ok (.aload_n 0, 1) := by decide +kernel
theorem dX3_init_14 : decode cX3_init 14 = .ok (.bipush 6, 2) := by decide +kernel
theorem dX3_init_16 : decode cX3_init 16 = .ok (.newarray .int, 2) := by decide +kernel
theorem dX3_init_18 : decode cX3_init 18 = .ok (.putfield 15, 3) := by decide +kernel
theorem dX3_init_21 : decode cX3_init 21 = .ok (.return_, 1) := by decide +kernel
theorem dX3_append_0 : decode cX3_append 0 = .ok (.aload_n 0, 1) := by decide +kernel
theorem dX3_append_1 : decode cX3_append 1 = .ok (.getfield 19, 3) := by decide +kernel
theorem dX3_append_4 : decode cX3_append 4 = .ok (.sipush 200, 3) := by decide +kernel
theorem dX3_append_7 : decode cX3_append 7 = .ok (.if_icmp .lt 5, 3) := by decide +kernel
theorem dX3_append_10 : decode cX3_append 10 = .ok (.iconst 0, 1) := by decide +kernel
theorem dX3_append_11 : decode cX3_append 11 = .ok (.ireturn, 1) := by decide +kernel
theorem dX3_append_12 : decode cX3_append 12 = .ok (.aload_n 0, 1) := by decide +kernel
theorem dX3_append_13 : decode cX3_append 13 = .ok (.getfield 9, 3) := by decide +kernel
theorem dX3_append_16 : decode cX3_append 16 = .ok (.aload_n 0, 1) := by decide +kernel
theorem dX3_append_17 : decode cX3_append 17 = .ok (.getfield 19, 3) := by decide +kernel
theorem dX3_append_20 : decode cX3_append 20 = .ok (.iload_n 1, 1) := by decide +kernel
theorem dX3_append_21 : decode cX3_append 21 = .ok (.castore, 1) := by decide +kernel
theorem dX3_append_22 : decode cX3_append 22 = .ok (.aload_n 0, 1) := by decide +kernel
theorem dX3_append_23 : decode cX3_append 23 = .ok (.dup, 1) := by decide +kernel
theorem dX3_append_24 : decode cX3_append 24 = .ok (.getfield 19, 3) := by decide +kernel
theorem dX3_append_27 : decode cX3_append 27 = .ok (.iconst 1, 1) := by decide +kernel
theorem dX3_append_28 : decode cX3_append 28 = .ok (.iadd, 1) := by decide +kernel
theorem dX3_append_29 : decode cX3_append 29 = .ok (.putfield 19, 3) := by decide +kernel
theorem dX3_append_32 : decode cX3_append 32 = .ok (.iconst 1, 1) := by decide +kernel
theorem dX3_append_33 : decode cX3_append 33 = .ok (.ireturn, 1) := by decide +kernel
theorem dX3_clear_0 : decode cX3_clear 0 = .ok (.aload_n 0, 1) := by decide +kernel
theorem dX3_clear_1 : decode cX3_clear 1 = .ok (.iconst 0, 1) := by decide +kernel
theorem dX3_clear_2 : decode cX3_clear 2 = .ok (.putfield 19, 3) := by decide +kernel
theorem dX3_clear_5 : decode cX3_clear 5 = .ok (.return_, 1) := by decide +kernel
theorem dX3_readInto_0 : decode cX3_readInto 0 = .ok (.aload_n 1, 1) := by decide +kernel
theorem dX3_readInto_1 : decode cX3_readInto 1 = .ok (.invokevirtual 23, 3) := by decide +kernel
theorem dX3_readInto_4 : decode cX3_readInto 4 = .ok (.aload_n 0, 1) := by decide +kernel
theorem dX3_readInto_5 : decode cX3_readInto 5 = .ok (.iconst 0, 1) := by decide +kernel
theorem dX3_readInto_6 : decode cX3_readInto 6 = .ok (.putfield 28, 3) := by decide +kernel
theorem dX3_readInto_9 : decode cX3_readInto 9 = .ok (.iconst 0, 1) := by decide +kernel
theorem dX3_readInto_10 : decode cX3_readInto 10 = .ok (.istore_n 2, 1) := by decide +kernel
theorem dX3_readInto_11 : decode cX3_readInto 11 = .ok (.iload_n 2, 1) := by decide +kernel
theorem dX3_readInto_12 : decode cX3_readInto 12 = .ok (.sipush 200, 3) := by decide +kernel
theorem dX3_readInto_15 : decode cX3_readInto 15 = .ok (.if_icmp .ge 44, 3) := by decide +kernel
theorem dX3_readInto_18 : decode cX3_readInto 18 = .ok (.aload_n 0, 1) := by decide +kernel
theorem dX3_readInto_19 : decode cX3_readInto 19 = .ok (.getfield 28, 3) := by decide +kernel
theorem dX3_readInto_22 : decode cX3_readInto 22 = .ok (.aload_n 0, 1) := by decide +kernel
theorem dX3_readInto_23 : decode cX3_readInto 23 = .ok (.getfield 19, 3) := by decide +kernel
theorem dX3_readInto_26 : decode cX3_readInto 26 = .ok (.if_icmp .ge 33, 3) := by decide +kernel
theorem dX3_readInto_29 : decode cX3_readInto 29 = .ok (.aload_n 0, 1) := by decide +kernel
theorem dX3_readInto_30 : decode cX3_readInto 30 = .ok (.getfield 28, 3) := by decide +kernel
theorem dX3_readInto_33 : decode cX3_readInto 33 = .ok (.istore_n 3, 1) := by decide +kernel
theorem dX3_readInto_34 : decode cX3_readInto 34 = .ok (.aload_n 0, 1) := by decide +kernel
theorem dX3_readInto_35 : decode cX3_readInto 35 = .ok (.aload_n 1, 1) := by decide +kernel
theorem dX3_readInto_36 : decode cX3_readInto 36 = .ok (.iload_n 3, 1) := by decide +kernel
theorem dX3_readInto_37 : decode cX3_readInto 37 = .ok (.ifCond .ne 7, 3) := by decide +kernel
theorem dX3_readInto_40 : decode cX3_readInto 40 = .ok (.iconst 1, 1) := by decide +kernel
theorem dX3_readInto_41 : decode cX3_readInto 41 = .ok (.goto 4, 3) := by decide +kernel
theorem dX3_readInto_44 : decode cX3_readInto 44 = .ok (.iconst 0, 1) := by decide +kernel
theorem dX3_readInto_45 : decode cX3_readInto 45 = .ok (.invokevirtual 31, 3) := by decide +kernel
theorem dX3_readInto_48 : decode cX3_readInto 48 = .ok (.ifCond .ne 5, 3) := by decide +kernel
theorem dX3_readInto_51 : decode cX3_readInto 51 = .ok (.iload_n 3, 1) := by decide +kernel
theorem dX3_readInto_52 : decode cX3_readInto 52 = .ok (.ireturn, 1) := by decide +kernel
theorem dX3_readInto_53 : decode cX3_readInto 53 = .ok (.iinc 2 1, 3) := by decide +kernel
theorem dX3_readInto_56 : decode cX3_readInto 56 = .ok (.goto (-45), 3) := by decide +kernel
theorem dX3_readInto_59 : decode cX3_readInto 59 = .ok (.bipush (-4), 2) := by decide +kernel
theorem dX3_readInto_61 : decode cX3_readInto 61 = .ok (.ireturn, 1) := by decide +kernel
theorem dX3_readItem_0 : decode cX3_readItem 0 = .ok (.aload_n 0, 1) := by decide +kernel
theorem dX3_readItem_1 : decode cX3_readItem 1 = .ok (.getfield 9, 3) := by decide +kernel
theorem dX3_readItem_4 : decode cX3_readItem 4 = .ok (.aload_n 0, 1) := by decide +kernel
theorem dX3_readItem_5 : decode cX3_readItem 5 = .ok (.getfield 28, 3) := by decide +kernel
theorem dX3_readItem_8 : decode cX3_readItem 8 = .ok (.caload, 1) := by decide +kernel
theorem dX3_readItem_9 : decode cX3_readItem 9 = .ok (.istore_n 3, 1) := by decide +kernel
theorem dX3_readItem_10 : decode cX3_readItem 10 = .ok (.aload_n 0, 1) := by decide +kernel
theorem dX3_readItem_11 : decode cX3_readItem 11 = .ok (.dup, 1) := by decide +kernel
theorem dX3_readItem_12 : decode cX3_readItem 12 = .ok (.getfield 28, 3) := by decide +kernel
theorem dX3_readItem_15 : decode cX3_readItem 15 = .ok (.iconst 1, 1) := by decide +kernel
theorem dX3_readItem_16 : decode cX3_readItem 16 = .ok (.iadd, 1) := by decide +kernel
theorem dX3_readItem_17 : decode cX3_readItem 17 = .ok (.putfield 28, 3) := by decide +kernel
theorem dX3_readItem_20 : decode cX3_readItem 20 = .ok (.iload_n 3, 1) := by decide +kernel
theorem dX3_readItem_21 : decode cX3_readItem 21 = .ok (.lookupswitch 93 #[(99, 81), (109, 87), (110, 51), (114, 69), (116, 75)], 51) := by decide +kernel
theorem dX3_readItem_72 : decode cX3_readItem 72 = .ok (.iload_n 2, 1) := by decide +kernel
theorem dX3_readItem_73 : decode cX3_readItem 73 = .ok (.ifCond .eq 15, 3) := by decide +kernel
theorem dX3_readItem_76 : decode cX3_readItem 76 = .ok (.aload_n 0, 1) := by decide +kernel
theorem dX3_readItem_77 : decode cX3_readItem 77 = .ok (.aload_n 1, 1) := by decide +kernel
theorem dX3_readItem_78 : decode cX3_readItem 78 = .ok (.invokevirtual 35, 3) := by decide +kernel
theorem dX3_readItem_81 : decode cX3_readItem 81 = .ok (.ifCond .eq 7, 3) := by decide +kernel
theorem dX3_readItem_84 : decode cX3_readItem 84 = .ok (.iconst 1, 1) := by decide +kernel
theorem dX3_readItem_85 : decode cX3_readItem 85 = .ok (.goto 4, 3) := by decide +kernel
theorem dX3_readItem_88 : decode cX3_readItem 88 = .ok (.iconst 0, 1) := by decide +kernel
theorem dX3_readItem_89 : decode cX3_readItem 89 = .ok (.ireturn, 1) := by decide +kernel
theorem dX3_readItem_90 : decode cX3_readItem 90 = .ok (.aload_n 0, 1) := by decide +kernel
theorem dX3_readItem_91 : decode cX3_readItem 91 = .ok (.aload_n 1, 1) := by decide +kernel
theorem dX3_readItem_92 : decode cX3_readItem 92 = .ok (.invokevirtual 39, 3) := by decide +kernel
theorem dX3_readItem_95 : decode cX3_readItem 95 = .ok (.ireturn, 1) := by decide +kernel
theorem dX3_readItem_96 : decode cX3_readItem 96 = .ok (.aload_n 0, 1) := by decide +kernel
theorem dX3_readItem_97 : decode cX3_readItem 97 = .ok (.aload_n 1, 1) := by decide +kernel
theorem dX3_readItem_98 : decode cX3_readItem 98 = .ok (.invokevirtual 42, 3) := by decide +kernel
theorem dX3_readItem_101 : decode cX3_readItem 101 = .ok (.ireturn, 1) := by decide +kernel
theorem dX3_readItem_102 : decode cX3_readItem 102 = .ok (.aload_n 0, 1) := by decide +kernel
theorem dX3_readItem_103 : decode cX3_readItem 103 = .ok (.aload_n 1, 1) := by decide +kernel
theorem dX3_readItem_104 : decode cX3_readItem 104 = .ok (.invokevirtual 45, 3) := by decide +kernel
theorem dX3_readItem_107 : decode cX3_readItem 107 = .ok (.ireturn, 1) := by decide +kernel
theorem dX3_readItem_108 : decode cX3_readItem 108 = .ok (.aload_n 0, 1) := by decide +kernel
theorem dX3_readItem_109 : decode cX3_readItem 109 = .ok (.aload_n 1, 1) := by decide +kernel
theorem dX3_readItem_110 : decode cX3_readItem 110 = .ok (.invokevirtual 48, 3) := by decide +kernel
theorem dX3_readItem_113 : decode cX3_readItem 113 = .ok (.ireturn, 1) := by decide +kernel
theorem dX3_readItem_114 : decode cX3_readItem 114 = .ok (.iconst 0, 1) := by decide +kernel
theorem dX3_readItem_115 : decode cX3_readItem 115 = .ok (.ireturn, 1) := by decide +kernel
theorem dX3_readStates_0 : decode cX3_readStates 0 = .ok (.aload_n 0, 1) := by decide +kernel
theorem dX3_readStates_1 : decode cX3_readStates 1 = .ok (.iconst 4, 1) := by decide +kernel
theorem dX3_readStates_2 : decode cX3_readStates 2 = .ok (.invokevirtual 51, 3) := by decide +kernel
theorem dX3_readStates_5 : decode cX3_readStates 5 = .ok (.istore_n 2, 1) := by decide +kernel
theorem dX3_readStates_6 : decode cX3_readStates 6 = .ok (.iload_n 2, 1) := by decide +kernel
theorem dX3_readStates_7 : decode cX3_readStates 7 = .ok (.iconst 1, 1) := by decide +kernel
theorem dX3_readStates_8 : decode cX3_readStates 8 = .ok (.if_icmp .lt 12, 3) := by decide +kernel
theorem dX3_readStates_11 : decode cX3_readStates 11 = .ok (.aload_n 0, 1) := by decide +kernel
theorem dX3_readStates_12 : decode cX3_readStates 12 = .ok (.bipush 59, 2) := by decide +kernel
theorem dX3_readStates_14 : decode cX3_readStates 14 = .ok (.invokevirtual 55, 3) := by decide +kernel
theorem dX3_readStates_17 : decode cX3_readStates 17 = .ok (.ifCond .ne 5, 3) := by decide +kernel
theorem dX3_readStates_20 : decode cX3_readStates 20 = .ok (.iconst 0, 1) := by decide +kernel
theorem dX3_readStates_21 : decode cX3_readStates 21 = .ok (.ireturn, 1) := by decide +kernel
theorem dX3_readStates_22 : decode cX3_readStates 22 = .ok (.aload_n 1, 1) := by decide +kernel
theorem dX3_readStates_23 : decode cX3_readStates 23 = .ok (.iload_n 2, 1) := by decide +kernel
theorem dX3_readStates_24 : decode cX3_readStates 24 = .ok (.putfield 59, 3) := by decide +kernel
theorem dX3_readStates_27 : decode cX3_readStates 27 = .ok (.iconst 1, 1) := by decide +kernel
theorem dX3_readStates_28 : decode cX3_readStates 28 = .ok (.ireturn, 1) := by decide +kernel
theorem dX3_readRule_0 : decode cX3_readRule 0 = .ok (.aload_n 0, 1) := by decide +kernel
theorem dX3_readRule_1 : decode cX3_readRule 1 = .ok (.aload_n 1, 1) := by decide +kernel
theorem dX3_readRule_2 : decode cX3_readRule 2 = .ok (.getfield 59, 3) := by decide +kernel
theorem dX3_readRule_5 : decode cX3_readRule 5 = .ok (.invokevirtual 51, 3) := by decide +kernel
theorem dX3_readRule_8 : decode cX3_readRule 8 = .ok (.istore_n 2, 1) := by decide +kernel
theorem dX3_readRule_9 : decode cX3_readRule 9 = .ok (.iload_n 2, 1) := by decide +kernel
theorem dX3_readRule_10 : decode cX3_readRule 10 = .ok (.ifCond .lt 12, 3) := by decide +kernel
theorem dX3_readRule_13 : decode cX3_readRule 13 = .ok (.aload_n 0, 1) := by decide +kernel
theorem dX3_readRule_14 : decode cX3_readRule 14 = .ok (.bipush 44, 2) := by decide +kernel
theorem dX3_readRule_16 : decode cX3_readRule 16 = .ok (.invokevirtual 55, 3) := by decide +kernel
theorem dX3_readRule_19 : decode cX3_readRule 19 = .ok (.ifCond .ne 5, 3) := by decide +kernel
theorem dX3_readRule_22 : decode cX3_readRule 22 = .ok (.iconst 0, 1) := by decide +kernel
theorem dX3_readRule_23 : decode cX3_readRule 23 = .ok (.ireturn, 1) := by decide +kernel
theorem dX3_readRule_24 : decode cX3_readRule 24 = .ok (.aload_n 0, 1) := by decide +kernel
theorem dX3_readRule_25 : decode cX3_readRule 25 = .ok (.invokevirtual 62, 3) := by decide +kernel
theorem dX3_readRule_28 : decode cX3_readRule 28 = .ok (.istore_n 3, 1) := by decide +kernel
theorem dX3_readRule_29 : decode cX3_readRule 29 = .ok (.iload_n 3, 1) := by decide +kernel
theorem dX3_readRule_30 : decode cX3_readRule 30 = .ok (.ifCond .lt 12, 3) := by decide +kernel
theorem dX3_readRule_33 : decode cX3_readRule 33 = .ok (.aload_n 0, 1) := by decide +kernel
theorem dX3_readRule_34 : decode cX3_readRule 34 = .ok (.bipush 44, 2) := by decide +kernel
theorem dX3_readRule_36 : decode cX3_readRule 36 = .ok (.invokevirtual 55, 3) := by decide +kernel
theorem dX3_readRule_39 : decode cX3_readRule 39 = .ok (.ifCond .ne 5, 3) := by decide +kernel
theorem dX3_readRule_42 : decode cX3_readRule 42 = .ok (.iconst 0, 1) := by decide +kernel
theorem dX3_readRule_43 : decode cX3_readRule 43 = .ok (.ireturn, 1) := by decide +kernel
theorem dX3_readRule_44 : decode cX3_readRule 44 = .ok (.aload_n 0, 1) := by decide +kernel
theorem dX3_readRule_45 : decode cX3_readRule 45 = .ok (.aload_n 1, 1) := by decide +kernel
theorem dX3_readRule_46 : decode cX3_readRule 46 = .ok (.getfield 59, 3) := by decide +kernel
theorem dX3_readRule_49 : decode cX3_readRule 49 = .ok (.invokevirtual 51, 3) := by decide +kernel
theorem dX3_readRule_52 : decode cX3_readRule 52 = .ok (.istore 4, 2) := by decide +kernel
theorem dX3_readRule_54 : decode cX3_readRule 54 = .ok (.iload 4, 2) := by decide +kernel
theorem dX3_readRule_56 : decode cX3_readRule 56 = .ok (.ifCond .lt 12, 3) := by decide +kernel
theorem dX3_readRule_59 : decode cX3_readRule 59 = .ok (.aload_n 0, 1) := by decide +kernel
theorem dX3_readRule_60 : decode cX3_readRule 60 = .ok (.bipush 44, 2) := by decide +kernel
theorem dX3_readRule_62 : decode cX3_readRule 62 = .ok (.invokevirtual 55, 3) := by decide +kernel
theorem dX3_readRule_65 : decode cX3_readRule 65 = .ok (.ifCond .ne 5, 3) := by decide +kernel
theorem dX3_readRule_68 : decode cX3_readRule 68 = .ok (.iconst 0, 1) := by decide +kernel
theorem dX3_readRule_69 : decode cX3_readRule 69 = .ok (.ireturn, 1) := by decide +kernel
theorem dX3_readRule_70 : decode cX3_readRule 70 = .ok (.aload_n 0, 1) := by decide +kernel
theorem dX3_readRule_71 : decode cX3_readRule 71 = .ok (.aload_n 0, 1) := by decide +kernel
theorem dX3_readRule_72 : decode cX3_readRule 72 = .ok (.iconst 2, 1) := by decide +kernel
theorem dX3_readRule_73 : decode cX3_readRule 73 = .ok (.invokevirtual 66, 3) := by decide +kernel
theorem dX3_readRule_76 : decode cX3_readRule 76 = .ok (.invokevirtual 69, 3) := by decide +kernel
theorem dX3_readRule_79 : decode cX3_readRule 79 = .ok (.istore 5, 2) := by decide +kernel
theorem dX3_readRule_81 : decode cX3_readRule 81 = .ok (.aload_n 0, 1) := by decide +kernel
theorem dX3_readRule_82 : decode cX3_readRule 82 = .ok (.bipush 44, 2) := by decide +kernel
theorem dX3_readRule_84 : decode cX3_readRule 84 = .ok (.invokevirtual 55, 3) := by decide +kernel
theorem dX3_readRule_87 : decode cX3_readRule 87 = .ok (.ifCond .ne 5, 3) := by decide +kernel
theorem dX3_readRule_90 : decode cX3_readRule 90 = .ok (.iconst 0, 1) := by decide +kernel
theorem dX3_readRule_91 : decode cX3_readRule 91 = .ok (.ireturn, 1) := by decide +kernel
theorem dX3_readRule_92 : decode cX3_readRule 92 = .ok (.aload_n 0, 1) := by decide +kernel
theorem dX3_readRule_93 : decode cX3_readRule 93 = .ok (.bipush 10, 2) := by decide +kernel
theorem dX3_readRule_95 : decode cX3_readRule 95 = .ok (.invokevirtual 51, 3) := by decide +kernel
theorem dX3_readRule_98 : decode cX3_readRule 98 = .ok (.istore 6, 2) := by decide +kernel
theorem dX3_readRule_100 : decode cX3_readRule 100 = .ok (.iload 6, 2) := by decide +kernel
theorem dX3_readRule_102 : decode cX3_readRule 102 = .ok (.ifCond .lt 31, 3) := by decide +kernel
theorem dX3_readRule_105 : decode cX3_readRule 105 = .ok (.aload_n 0, 1) := by decide +kernel
theorem dX3_readRule_106 : decode cX3_readRule 106 = .ok (.bipush 59, 2) := by decide +kernel
theorem dX3_readRule_108 : decode cX3_readRule 108 = .ok (.invokevirtual 55, 3) := by decide +kernel
theorem dX3_readRule_111 : decode cX3_readRule 111 = .ok (.ifCond .eq 22, 3) := by decide +kernel
theorem dX3_readRule_114 : decode cX3_readRule 114 = .ok (.aload_n 1, 1) := by decide +kernel
theorem dX3_readRule_115 : decode cX3_readRule 115 = .ok (.iload_n 2, 1) := by decide +kernel
theorem dX3_readRule_116 : decode cX3_readRule 116 = .ok (.iload_n 3, 1) := by decide +kernel
theorem dX3_readRule_117 : decode cX3_readRule 117 = .ok (.iload 4, 2) := by decide +kernel
theorem dX3_readRule_119 : decode cX3_readRule 119 = .ok (.iload 5, 2) := by decide +kernel
theorem dX3_readRule_121 : decode cX3_readRule 121 = .ok (.iload 6, 2) := by decide +kernel
theorem dX3_readRule_123 : decode cX3_readRule 123 = .ok (.invokevirtual 72, 3) := by decide +kernel
theorem dX3_readRule_126 : decode cX3_readRule 126 = .ok (.ifCond .eq 7, 3) := by decide +kernel
theorem dX3_readRule_129 : decode cX3_readRule 129 = .ok (.iconst 1, 1) := by decide +kernel
theorem dX3_readRule_130 : decode cX3_readRule 130 = .ok (.goto 4, 3) := by decide +kernel
theorem dX3_readRule_133 : decode cX3_readRule 133 = .ok (.iconst 0, 1) := by decide +kernel
theorem dX3_readRule_134 : decode cX3_readRule 134 = .ok (.ireturn, 1) := by decide +kernel
theorem dX3_readTarget_0 : decode cX3_readTarget 0 = .ok (.aload_n 0, 1) := by decide +kernel
theorem dX3_readTarget_1 : decode cX3_readTarget 1 = .ok (.aload_n 1, 1) := by decide +kernel
theorem dX3_readTarget_2 : decode cX3_readTarget 2 = .ok (.getfield 59, 3) := by decide +kernel
theorem dX3_readTarget_5 : decode cX3_readTarget 5 = .ok (.invokevirtual 51, 3) := by decide +kernel
theorem dX3_readTarget_8 : decode cX3_readTarget 8 = .ok (.istore_n 2, 1) := by decide +kernel
theorem dX3_readTarget_9 : decode cX3_readTarget 9 = .ok (.iload_n 2, 1) := by decide +kernel
theorem dX3_readTarget_10 : decode cX3_readTarget 10 = .ok (.ifCond .lt 12, 3) := by decide +kernel
theorem dX3_readTarget_13 : decode cX3_readTarget 13 = .ok (.aload_n 0, 1) := by decide +kernel
theorem dX3_readTarget_14 : decode cX3_readTarget 14 = .ok (.bipush 44, 2) := by decide +kernel
theorem dX3_readTarget_16 : decode cX3_readTarget 16 = .ok (.invokevirtual 55, 3) := by decide +kernel
theorem dX3_readTarget_19 : decode cX3_readTarget 19 = .ok (.ifCond .ne 5, 3) := by decide +kernel
theorem dX3_readTarget_22 : decode cX3_readTarget 22 = .ok (.iconst 0, 1) := by decide +kernel
theorem dX3_readTarget_23 : decode cX3_readTarget 23 = .ok (.ireturn, 1) := by decide +kernel
theorem dX3_readTarget_24 : decode cX3_readTarget 24 = .ok (.aload_n 0, 1) := by decide +kernel
theorem dX3_readTarget_25 : decode cX3_readTarget 25 = .ok (.iconst 3, 1) := by decide +kernel
theorem dX3_readTarget_26 : decode cX3_readTarget 26 = .ok (.invokevirtual 66, 3) := by decide +kernel
theorem dX3_readTarget_29 : decode cX3_readTarget 29 = .ok (.istore_n 3, 1) := by decide +kernel
theorem dX3_readTarget_30 : decode cX3_readTarget 30 = .ok (.aload_n 0, 1) := by decide +kernel
theorem dX3_readTarget_31 : decode cX3_readTarget 31 = .ok (.bipush 46, 2) := by decide +kernel
theorem dX3_readTarget_33 : decode cX3_readTarget 33 = .ok (.invokevirtual 55, 3) := by decide +kernel
theorem dX3_readTarget_36 : decode cX3_readTarget 36 = .ok (.istore 4, 2) := by decide +kernel
theorem dX3_readTarget_38 : decode cX3_readTarget 38 = .ok (.aload_n 0, 1) := by decide +kernel
theorem dX3_readTarget_39 : decode cX3_readTarget 39 = .ok (.bipush 59, 2) := by decide +kernel
theorem dX3_readTarget_41 : decode cX3_readTarget 41 = .ok (.invokevirtual 55, 3) := by decide +kernel
theorem dX3_readTarget_44 : decode cX3_readTarget 44 = .ok (.ifCond .eq 22, 3) := by decide +kernel
theorem dX3_readTarget_47 : decode cX3_readTarget 47 = .ok (.aload_n 1, 1) := by decide +kernel
theorem dX3_readTarget_48 : decode cX3_readTarget 48 = .ok (.iload_n 2, 1) := by decide +kernel
theorem dX3_readTarget_49 : decode cX3_readTarget 49 = .ok (.aload_n 0, 1) := by decide +kernel
theorem dX3_readTarget_50 : decode cX3_readTarget 50 = .ok (.getfield 15, 3) := by decide +kernel
theorem dX3_readTarget_53 : decode cX3_readTarget 53 = .ok (.iload_n 3, 1) := by decide +kernel
theorem dX3_readTarget_54 : decode cX3_readTarget 54 = .ok (.iload 4, 2) := by decide +kernel
theorem dX3_readTarget_56 : decode cX3_readTarget 56 = .ok (.invokevirtual 76, 3) := by decide +kernel
theorem dX3_readTarget_59 : decode cX3_readTarget 59 = .ok (.ifCond .eq 7, 3) := by decide +kernel
theorem dX3_readTarget_62 : decode cX3_readTarget 62 = .ok (.iconst 1, 1) := by decide +kernel
theorem dX3_readTarget_63 : decode cX3_readTarget 63 = .ok (.goto 4, 3) := by decide +kernel
theorem dX3_readTarget_66 : decode cX3_readTarget 66 = .ok (.iconst 0, 1) := by decide +kernel
theorem dX3_readTarget_67 : decode cX3_readTarget 67 = .ok (.ireturn, 1) := by decide +kernel
theorem dX3_readConfiguration_0 : decode cX3_readConfiguration 0 = .ok (.aload_n 0, 1) := by decide +kernel
theorem dX3_readConfiguration_1 : decode cX3_readConfiguration 1 = .ok (.aload_n 1, 1) := by decide +kernel
theorem dX3_readConfiguration_2 : decode cX3_readConfiguration 2 = .ok (.getfield 59, 3) := by decide +kernel
theorem dX3_readConfiguration_5 : decode cX3_readConfiguration 5 = .ok (.invokevirtual 51, 3) := by decide +kernel
theorem dX3_readConfiguration_8 : decode cX3_readConfiguration 8 = .ok (.istore_n 2, 1) := by decide +kernel
theorem dX3_readConfiguration_9 : decode cX3_readConfiguration 9 = .ok (.iload_n 2, 1) := by decide +kernel
theorem dX3_readConfiguration_10 : decode cX3_readConfiguration 10 = .ok (.ifCond .lt 12, 3) := by decide +kernel
theorem dX3_readConfiguration_13 : decode cX3_readConfiguration 13 = .ok (.aload_n 0, 1) := by decide +kernel
theorem dX3_readConfiguration_14 : decode cX3_readConfiguration 14 = .ok (.bipush 44, 2) := by decide +kernel
theorem dX3_readConfiguration_16 : decode cX3_readConfiguration 16 = .ok (.invokevirtual 55, 3) := by decide +kernel
theorem dX3_readConfiguration_19 : decode cX3_readConfiguration 19 = .ok (.ifCond .ne 5, 3) := by decide +kernel
theorem dX3_readConfiguration_22 : decode cX3_readConfiguration 22 = .ok (.iconst 0, 1) := by decide +kernel
theorem dX3_readConfiguration_23 : decode cX3_readConfiguration 23 = .ok (.ireturn, 1) := by decide +kernel
theorem dX3_readConfiguration_24 : decode cX3_readConfiguration 24 = .ok (.aload_n 0, 1) := by decide +kernel
theorem dX3_readConfiguration_25 : decode cX3_readConfiguration 25 = .ok (.bipush 6, 2) := by decide +kernel
theorem dX3_readConfiguration_27 : decode cX3_readConfiguration 27 = .ok (.invokevirtual 66, 3) := by decide +kernel
theorem dX3_readConfiguration_30 : decode cX3_readConfiguration 30 = .ok (.istore_n 3, 1) := by decide +kernel
theorem dX3_readConfiguration_31 : decode cX3_readConfiguration 31 = .ok (.aload_n 0, 1) := by decide +kernel
theorem dX3_readConfiguration_32 : decode cX3_readConfiguration 32 = .ok (.bipush 59, 2) := by decide +kernel
theorem dX3_readConfiguration_34 : decode cX3_readConfiguration 34 = .ok (.invokevirtual 55, 3) := by decide +kernel
theorem dX3_readConfiguration_37 : decode cX3_readConfiguration 37 = .ok (.ifCond .ne 5, 3) := by decide +kernel
theorem dX3_readConfiguration_40 : decode cX3_readConfiguration 40 = .ok (.iconst 0, 1) := by decide +kernel
theorem dX3_readConfiguration_41 : decode cX3_readConfiguration 41 = .ok (.ireturn, 1) := by decide +kernel
theorem dX3_readConfiguration_42 : decode cX3_readConfiguration 42 = .ok (.aload_n 1, 1) := by decide +kernel
theorem dX3_readConfiguration_43 : decode cX3_readConfiguration 43 = .ok (.iload_n 2, 1) := by decide +kernel
theorem dX3_readConfiguration_44 : decode cX3_readConfiguration 44 = .ok (.putfield 80, 3) := by decide +kernel
theorem dX3_readConfiguration_47 : decode cX3_readConfiguration 47 = .ok (.aload_n 1, 1) := by decide +kernel
theorem dX3_readConfiguration_48 : decode cX3_readConfiguration 48 = .ok (.iconst 0, 1) := by decide +kernel
theorem dX3_readConfiguration_49 : decode cX3_readConfiguration 49 = .ok (.putfield 83, 3) := by decide +kernel
theorem dX3_readConfiguration_52 : decode cX3_readConfiguration 52 = .ok (.iload_n 3, 1) := by decide +kernel
theorem dX3_readConfiguration_53 : decode cX3_readConfiguration 53 = .ok (.iconst 1, 1) := by decide +kernel
theorem dX3_readConfiguration_54 : decode cX3_readConfiguration 54 = .ok (.isub, 1) := by decide +kernel
theorem dX3_readConfiguration_55 : decode cX3_readConfiguration 55 = .ok (.istore 4, 2) := by decide +kernel
theorem dX3_readConfiguration_57 : decode cX3_readConfiguration 57 = .ok (.iload 4, 2) := by decide +kernel
theorem dX3_readConfiguration_59 : decode cX3_readConfiguration 59 = .ok (.ifCond .lt 20, 3) := by decide +kernel
theorem dX3_readConfiguration_62 : decode cX3_readConfiguration 62 = .ok (.aload_n 1, 1) := by decide +kernel
theorem dX3_readConfiguration_63 : decode cX3_readConfiguration 63 = .ok (.aload_n 0, 1) := by decide +kernel
theorem dX3_readConfiguration_64 : decode cX3_readConfiguration 64 = .ok (.getfield 15, 3) := by decide +kernel
theorem dX3_readConfiguration_67 : decode cX3_readConfiguration 67 = .ok (.iload 4, 2) := by decide +kernel
theorem dX3_readConfiguration_69 : decode cX3_readConfiguration 69 = .ok (.iaload, 1) := by decide +kernel
theorem dX3_readConfiguration_70 : decode cX3_readConfiguration 70 = .ok (.invokevirtual 86, 3) := by decide +kernel
theorem dX3_readConfiguration_73 : decode cX3_readConfiguration 73 = .ok (.iinc 4 (-1), 3) := by decide +kernel
theorem dX3_readConfiguration_76 : decode cX3_readConfiguration 76 = .ok (.goto (-19), 3) := by decide +kernel
theorem dX3_readConfiguration_79 : decode cX3_readConfiguration 79 = .ok (.iconst 1, 1) := by decide +kernel
theorem dX3_readConfiguration_80 : decode cX3_readConfiguration 80 = .ok (.ireturn, 1) := by decide +kernel
theorem dX3_readMode_0 : decode cX3_readMode 0 = .ok (.aload_n 0, 1) := by decide +kernel
theorem dX3_readMode_1 : decode cX3_readMode 1 = .ok (.iconst 3, 1) := by decide +kernel
theorem dX3_readMode_2 : decode cX3_readMode 2 = .ok (.invokevirtual 51, 3) := by decide +kernel
theorem dX3_readMode_5 : decode cX3_readMode 5 = .ok (.istore_n 2, 1) := by decide +kernel
theorem dX3_readMode_6 : decode cX3_readMode 6 = .ok (.iload_n 2, 1) := by decide +kernel
theorem dX3_readMode_7 : decode cX3_readMode 7 = .ok (.ifCond .lt 12, 3) := by decide +kernel
theorem dX3_readMode_10 : decode cX3_readMode 10 = .ok (.aload_n 0, 1) := by decide +kernel
theorem dX3_readMode_11 : decode cX3_readMode 11 = .ok (.bipush 59, 2) := by decide +kernel
theorem dX3_readMode_13 : decode cX3_readMode 13 = .ok (.invokevirtual 55, 3) := by decide +kernel
theorem dX3_readMode_16 : decode cX3_readMode 16 = .ok (.ifCond .ne 5, 3) := by decide +kernel
theorem dX3_readMode_19 : decode cX3_readMode 19 = .ok (.iconst 0, 1) := by decide +kernel
theorem dX3_readMode_20 : decode cX3_readMode 20 = .ok (.ireturn, 1) := by decide +kernel
theorem dX3_readMode_21 : decode cX3_readMode 21 = .ok (.aload_n 1, 1) := by decide +kernel
theorem dX3_readMode_22 : decode cX3_readMode 22 = .ok (.iload_n 2, 1) := by decide +kernel
theorem dX3_readMode_23 : decode cX3_readMode 23 = .ok (.putfield 90, 3) := by decide +kernel
theorem dX3_readMode_26 : decode cX3_readMode 26 = .ok (.iconst 1, 1) := by decide +kernel
theorem dX3_readMode_27 : decode cX3_readMode 27 = .ok (.ireturn, 1) := by decide +kernel
theorem dX3_readSign_0 : decode cX3_readSign 0 = .ok (.aload_n 0, 1) := by decide +kernel
theorem dX3_readSign_1 : decode cX3_readSign 1 = .ok (.getfield 28, 3) := by decide +kernel
theorem dX3_readSign_4 : decode cX3_readSign 4 = .ok (.aload_n 0, 1) := by decide +kernel
theorem dX3_readSign_5 : decode cX3_readSign 5 = .ok (.getfield 19, 3) := by decide +kernel
theorem dX3_readSign_8 : decode cX3_readSign 8 = .ok (.if_icmp .ge 16, 3) := by decide +kernel
theorem dX3_readSign_11 : decode cX3_readSign 11 = .ok (.aload_n 0, 1) := by decide +kernel
theorem dX3_readSign_12 : decode cX3_readSign 12 = .ok (.getfield 9, 3) := by decide +kernel
theorem dX3_readSign_15 : decode cX3_readSign 15 = .ok (.aload_n 0, 1) := by decide +kernel
theorem dX3_readSign_16 : decode cX3_readSign 16 = .ok (.getfield 28, 3) := by decide +kernel
theorem dX3_readSign_19 : decode cX3_readSign 19 = .ok (.caload, 1) := by decide +kernel
theorem dX3_readSign_20 : decode cX3_readSign 20 = .ok (.iload_n 1, 1) := by decide +kernel
theorem dX3_readSign_21 : decode cX3_readSign 21 = .ok (.if_icmp .eq 5, 3) := by decide +kernel
theorem dX3_readSign_24 : decode cX3_readSign 24 = .ok (.iconst 0, 1) := by decide +kernel
theorem dX3_readSign_25 : decode cX3_readSign 25 = .ok (.ireturn, 1) := by decide +kernel
theorem dX3_readSign_26 : decode cX3_readSign 26 = .ok (.aload_n 0, 1) := by decide +kernel
theorem dX3_readSign_27 : decode cX3_readSign 27 = .ok (.dup, 1) := by decide +kernel
theorem dX3_readSign_28 : decode cX3_readSign 28 = .ok (.getfield 28, 3) := by decide +kernel
theorem dX3_readSign_31 : decode cX3_readSign 31 = .ok (.iconst 1, 1) := by decide +kernel
theorem dX3_readSign_32 : decode cX3_readSign 32 = .ok (.iadd, 1) := by decide +kernel
theorem dX3_readSign_33 : decode cX3_readSign 33 = .ok (.putfield 28, 3) := by decide +kernel
theorem dX3_readSign_36 : decode cX3_readSign 36 = .ok (.iconst 1, 1) := by decide +kernel
theorem dX3_readSign_37 : decode cX3_readSign 37 = .ok (.ireturn, 1) := by decide +kernel
theorem dX3_readDigit_0 : decode cX3_readDigit 0 = .ok (.aload_n 0, 1) := by decide +kernel
theorem dX3_readDigit_1 : decode cX3_readDigit 1 = .ok (.getfield 28, 3) := by decide +kernel
theorem dX3_readDigit_4 : decode cX3_readDigit 4 = .ok (.aload_n 0, 1) := by decide +kernel
theorem dX3_readDigit_5 : decode cX3_readDigit 5 = .ok (.getfield 19, 3) := by decide +kernel
theorem dX3_readDigit_8 : decode cX3_readDigit 8 = .ok (.if_icmp .ge 33, 3) := by decide +kernel
theorem dX3_readDigit_11 : decode cX3_readDigit 11 = .ok (.aload_n 0, 1) := by decide +kernel
theorem dX3_readDigit_12 : decode cX3_readDigit 12 = .ok (.getfield 9, 3) := by decide +kernel
theorem dX3_readDigit_15 : decode cX3_readDigit 15 = .ok (.aload_n 0, 1) := by decide +kernel
theorem dX3_readDigit_16 : decode cX3_readDigit 16 = .ok (.getfield 28, 3) := by decide +kernel
theorem dX3_readDigit_19 : decode cX3_readDigit 19 = .ok (.caload, 1) := by decide +kernel
theorem dX3_readDigit_20 : decode cX3_readDigit 20 = .ok (.bipush 48, 2) := by decide +kernel
theorem dX3_readDigit_22 : decode cX3_readDigit 22 = .ok (.if_icmp .lt 19, 3) := by decide +kernel
theorem dX3_readDigit_25 : decode cX3_readDigit 25 = .ok (.aload_n 0, 1) := by decide +kernel
theorem dX3_readDigit_26 : decode cX3_readDigit 26 = .ok (.getfield 9, 3) := by decide +kernel
theorem dX3_readDigit_29 : decode cX3_readDigit 29 = .ok (.aload_n 0, 1) := by decide +kernel
theorem dX3_readDigit_30 : decode cX3_readDigit 30 = .ok (.getfield 28, 3) := by decide +kernel
theorem dX3_readDigit_33 : decode cX3_readDigit 33 = .ok (.caload, 1) := by decide +kernel
theorem dX3_readDigit_34 : decode cX3_readDigit 34 = .ok (.bipush 48, 2) := by decide +kernel
theorem dX3_readDigit_36 : decode cX3_readDigit 36 = .ok (.isub, 1) := by decide +kernel
theorem dX3_readDigit_37 : decode cX3_readDigit 37 = .ok (.iload_n 1, 1) := by decide +kernel
theorem dX3_readDigit_38 : decode cX3_readDigit 38 = .ok (.if_icmp .lt 5, 3) := by decide +kernel
theorem dX3_readDigit_41 : decode cX3_readDigit 41 = .ok (.iconst (-1), 1) := by decide +kernel
theorem dX3_readDigit_42 : decode cX3_readDigit 42 = .ok (.ireturn, 1) := by decide +kernel
theorem dX3_readDigit_43 : decode cX3_readDigit 43 = .ok (.aload_n 0, 1) := by decide +kernel
theorem dX3_readDigit_44 : decode cX3_readDigit 44 = .ok (.getfield 9, 3) := by decide +kernel
theorem dX3_readDigit_47 : decode cX3_readDigit 47 = .ok (.aload_n 0, 1) := by decide +kernel
theorem dX3_readDigit_48 : decode cX3_readDigit 48 = .ok (.getfield 28, 3) := by decide +kernel
theorem dX3_readDigit_51 : decode cX3_readDigit 51 = .ok (.caload, 1) := by decide +kernel
theorem dX3_readDigit_52 : decode cX3_readDigit 52 = .ok (.bipush 48, 2) := by decide +kernel
theorem dX3_readDigit_54 : decode cX3_readDigit 54 = .ok (.isub, 1) := by decide +kernel
theorem dX3_readDigit_55 : decode cX3_readDigit 55 = .ok (.istore_n 2, 1) := by decide +kernel
theorem dX3_readDigit_56 : decode cX3_readDigit 56 = .ok (.aload_n 0, 1) := by decide +kernel
theorem dX3_readDigit_57 : decode cX3_readDigit 57 = .ok (.dup, 1) := by decide +kernel
theorem dX3_readDigit_58 : decode cX3_readDigit 58 = .ok (.getfield 28, 3) := by decide +kernel
theorem dX3_readDigit_61 : decode cX3_readDigit 61 = .ok (.iconst 1, 1) := by decide +kernel
theorem dX3_readDigit_62 : decode cX3_readDigit 62 = .ok (.iadd, 1) := by decide +kernel
theorem dX3_readDigit_63 : decode cX3_readDigit 63 = .ok (.putfield 28, 3) := by decide +kernel
theorem dX3_readDigit_66 : decode cX3_readDigit 66 = .ok (.iload_n 2, 1) := by decide +kernel
theorem dX3_readDigit_67 : decode cX3_readDigit 67 = .ok (.ireturn, 1) := by decide +kernel
theorem dX3_readLetter_0 : decode cX3_readLetter 0 = .ok (.aload_n 0, 1) := by decide +kernel
theorem dX3_readLetter_1 : decode cX3_readLetter 1 = .ok (.getfield 28, 3) := by decide +kernel
theorem dX3_readLetter_4 : decode cX3_readLetter 4 = .ok (.aload_n 0, 1) := by decide +kernel
theorem dX3_readLetter_5 : decode cX3_readLetter 5 = .ok (.getfield 19, 3) := by decide +kernel
theorem dX3_readLetter_8 : decode cX3_readLetter 8 = .ok (.if_icmp .ge 33, 3) := by decide +kernel
theorem dX3_readLetter_11 : decode cX3_readLetter 11 = .ok (.aload_n 0, 1) := by decide +kernel
theorem dX3_readLetter_12 : decode cX3_readLetter 12 = .ok (.getfield 9, 3) := by decide +kernel
theorem dX3_readLetter_15 : decode cX3_readLetter 15 = .ok (.aload_n 0, 1) := by decide +kernel
theorem dX3_readLetter_16 : decode cX3_readLetter 16 = .ok (.getfield 28, 3) := by decide +kernel
theorem dX3_readLetter_19 : decode cX3_readLetter 19 = .ok (.caload, 1) := by decide +kernel
theorem dX3_readLetter_20 : decode cX3_readLetter 20 = .ok (.bipush 97, 2) := by decide +kernel
theorem dX3_readLetter_22 : decode cX3_readLetter 22 = .ok (.if_icmp .lt 19, 3) := by decide +kernel
theorem dX3_readLetter_25 : decode cX3_readLetter 25 = .ok (.aload_n 0, 1) := by decide +kernel
theorem dX3_readLetter_26 : decode cX3_readLetter 26 = .ok (.getfield 9, 3) := by decide +kernel
theorem dX3_readLetter_29 : decode cX3_readLetter 29 = .ok (.aload_n 0, 1) := by decide +kernel
theorem dX3_readLetter_30 : decode cX3_readLetter 30 = .ok (.getfield 28, 3) := by decide +kernel
theorem dX3_readLetter_33 : decode cX3_readLetter 33 = .ok (.caload, 1) := by decide +kernel
theorem dX3_readLetter_34 : decode cX3_readLetter 34 = .ok (.bipush 97, 2) := by decide +kernel
theorem dX3_readLetter_36 : decode cX3_readLetter 36 = .ok (.isub, 1) := by decide +kernel
theorem dX3_readLetter_37 : decode cX3_readLetter 37 = .ok (.iconst 4, 1) := by decide +kernel
theorem dX3_readLetter_38 : decode cX3_readLetter 38 = .ok (.if_icmp .lt 5, 3) := by decide +kernel
theorem dX3_readLetter_41 : decode cX3_readLetter 41 = .ok (.iconst (-1), 1) := by decide +kernel
theorem dX3_readLetter_42 : decode cX3_readLetter 42 = .ok (.ireturn, 1) := by decide +kernel
theorem dX3_readLetter_43 : decode cX3_readLetter 43 = .ok (.aload_n 0, 1) := by decide +kernel
theorem dX3_readLetter_44 : decode cX3_readLetter 44 = .ok (.getfield 9, 3) := by decide +kernel
theorem dX3_readLetter_47 : decode cX3_readLetter 47 = .ok (.aload_n 0, 1) := by decide +kernel
theorem dX3_readLetter_48 : decode cX3_readLetter 48 = .ok (.getfield 28, 3) := by decide +kernel
theorem dX3_readLetter_51 : decode cX3_readLetter 51 = .ok (.caload, 1) := by decide +kernel
theorem dX3_readLetter_52 : decode cX3_readLetter 52 = .ok (.bipush 97, 2) := by decide +kernel
theorem dX3_readLetter_54 : decode cX3_readLetter 54 = .ok (.isub, 1) := by decide +kernel
theorem dX3_readLetter_55 : decode cX3_readLetter 55 = .ok (.istore_n 1, 1) := by decide +kernel
theorem dX3_readLetter_56 : decode cX3_readLetter 56 = .ok (.aload_n 0, 1) := by decide +kernel
theorem dX3_readLetter_57 : decode cX3_readLetter 57 = .ok (.dup, 1) := by decide +kernel
theorem dX3_readLetter_58 : decode cX3_readLetter 58 = .ok (.getfield 28, 3) := by decide +kernel
theorem dX3_readLetter_61 : decode cX3_readLetter 61 = .ok (.iconst 1, 1) := by decide +kernel
theorem dX3_readLetter_62 : decode cX3_readLetter 62 = .ok (.iadd, 1) := by decide +kernel
theorem dX3_readLetter_63 : decode cX3_readLetter 63 = .ok (.putfield 28, 3) := by decide +kernel
theorem dX3_readLetter_66 : decode cX3_readLetter 66 = .ok (.iload_n 1, 1) := by decide +kernel
theorem dX3_readLetter_67 : decode cX3_readLetter 67 = .ok (.ireturn, 1) := by decide +kernel
theorem dX3_readWord_0 : decode cX3_readWord 0 = .ok (.iconst 0, 1) := by decide +kernel
theorem dX3_readWord_1 : decode cX3_readWord 1 = .ok (.istore_n 2, 1) := by decide +kernel
theorem dX3_readWord_2 : decode cX3_readWord 2 = .ok (.iconst 0, 1) := by decide +kernel
theorem dX3_readWord_3 : decode cX3_readWord 3 = .ok (.istore_n 3, 1) := by decide +kernel
theorem dX3_readWord_4 : decode cX3_readWord 4 = .ok (.iload_n 3, 1) := by decide +kernel
theorem dX3_readWord_5 : decode cX3_readWord 5 = .ok (.iload_n 1, 1) := by decide +kernel
theorem dX3_readWord_6 : decode cX3_readWord 6 = .ok (.if_icmp .ge 40, 3) := by decide +kernel
theorem dX3_readWord_9 : decode cX3_readWord 9 = .ok (.iload_n 3, 1) := by decide +kernel
theorem dX3_readWord_10 : decode cX3_readWord 10 = .ok (.bipush 6, 2) := by decide +kernel
theorem dX3_readWord_12 : decode cX3_readWord 12 = .ok (.if_icmp .ge 34, 3) := by decide +kernel
theorem dX3_readWord_15 : decode cX3_readWord 15 = .ok (.aload_n 0, 1) := by decide +kernel
theorem dX3_readWord_16 : decode cX3_readWord 16 = .ok (.invokevirtual 62, 3) := by decide +kernel
theorem dX3_readWord_19 : decode cX3_readWord 19 = .ok (.istore 4, 2) := by decide +kernel
theorem dX3_readWord_21 : decode cX3_readWord 21 = .ok (.iload 4, 2) := by decide +kernel
theorem dX3_readWord_23 : decode cX3_readWord 23 = .ok (.ifCond .ge 6, 3) := by decide +kernel
theorem dX3_readWord_26 : decode cX3_readWord 26 = .ok (.goto 20, 3) := by decide +kernel
theorem dX3_readWord_29 : decode cX3_readWord 29 = .ok (.aload_n 0, 1) := by decide +kernel
theorem dX3_readWord_30 : decode cX3_readWord 30 = .ok (.getfield 15, 3) := by decide +kernel
theorem dX3_readWord_33 : decode cX3_readWord 33 = .ok (.iload_n 3, 1) := by decide +kernel
theorem dX3_readWord_34 : decode cX3_readWord 34 = .ok (.iload 4, 2) := by decide +kernel
theorem dX3_readWord_36 : decode cX3_readWord 36 = .ok (.iastore, 1) := by decide +kernel
theorem dX3_readWord_37 : decode cX3_readWord 37 = .ok (.iinc 2 1, 3) := by decide +kernel
theorem dX3_readWord_40 : decode cX3_readWord 40 = .ok (.iinc 3 1, 3) := by decide +kernel
theorem dX3_readWord_43 : decode cX3_readWord 43 = .ok (.goto (-39), 3) := by decide +kernel
theorem dX3_readWord_46 : decode cX3_readWord 46 = .ok (.iload_n 2, 1) := by decide +kernel
theorem dX3_readWord_47 : decode cX3_readWord 47 = .ok (.ireturn, 1) := by decide +kernel
theorem dX3_wordFrom_0 : decode cX3_wordFrom 0 = .ok (.iload_n 1, 1) := by decide +kernel
theorem dX3_wordFrom_1 : decode cX3_wordFrom 1 = .ok (.ifCond .ne 5, 3) := by decide +kernel
theorem dX3_wordFrom_4 : decode cX3_wordFrom 4 = .ok (.iconst 0, 1) := by decide +kernel
theorem dX3_wordFrom_5 : decode cX3_wordFrom 5 = .ok (.ireturn, 1) := by decide +kernel
theorem dX3_wordFrom_6 : decode cX3_wordFrom 6 = .ok (.iload_n 1, 1) := by decide +kernel
theorem dX3_wordFrom_7 : decode cX3_wordFrom 7 = .ok (.iconst 1, 1) := by decide +kernel
theorem dX3_wordFrom_8 : decode cX3_wordFrom 8 = .ok (.if_icmp .ne 14, 3) := by decide +kernel
theorem dX3_wordFrom_11 : decode cX3_wordFrom 11 = .ok (.iconst 1, 1) := by decide +kernel
theorem dX3_wordFrom_12 : decode cX3_wordFrom 12 = .ok (.aload_n 0, 1) := by decide +kernel
theorem dX3_wordFrom_13 : decode cX3_wordFrom 13 = .ok (.getfield 15, 3) := by decide +kernel
theorem dX3_wordFrom_16 : decode cX3_wordFrom 16 = .ok (.iconst 0, 1) := by decide +kernel
theorem dX3_wordFrom_17 : decode cX3_wordFrom 17 = .ok (.iaload, 1) := by decide +kernel
theorem dX3_wordFrom_18 : decode cX3_wordFrom 18 = .ok (.iadd, 1) := by decide +kernel
theorem dX3_wordFrom_19 : decode cX3_wordFrom 19 = .ok (.goto 18, 3) := by decide +kernel
theorem dX3_wordFrom_22 : decode cX3_wordFrom 22 = .ok (.aload_n 0, 1) := by decide +kernel
theorem dX3_wordFrom_23 : decode cX3_wordFrom 23 = .ok (.getfield 15, 3) := by decide +kernel
theorem dX3_wordFrom_26 : decode cX3_wordFrom 26 = .ok (.iconst 0, 1) := by decide +kernel
theorem dX3_wordFrom_27 : decode cX3_wordFrom 27 = .ok (.iaload, 1) := by decide +kernel
theorem dX3_wordFrom_28 : decode cX3_wordFrom 28 = .ok (.aload_n 0, 1) := by decide +kernel
theorem dX3_wordFrom_29 : decode cX3_wordFrom 29 = .ok (.getfield 15, 3) := by decide +kernel
theorem dX3_wordFrom_32 : decode cX3_wordFrom 32 = .ok (.iconst 1, 1) := by decide +kernel
theorem dX3_wordFrom_33 : decode cX3_wordFrom 33 = .ok (.iaload, 1) := by decide +kernel
theorem dX3_wordFrom_34 : decode cX3_wordFrom 34 = .ok (.invokestatic 93, 3) := by decide +kernel
theorem dX3_wordFrom_37 : decode cX3_wordFrom 37 = .ok (.ireturn, 1) := by decide +kernel
theorem dX4_init_0 : decode cX4_init 0 = .ok (.aload_n 0, 1) := by decide +kernel
theorem dX4_init_1 : decode cX4_init 1 = .ok (.invokespecial 3, 3) := by decide +kernel
theorem dX4_init_4 : decode cX4_init 4 = .ok (.aload_n 0, 1) := by decide +kernel
theorem dX4_init_5 : decode cX4_init 5 = .ok (.bipush 10, 2) := by decide +kernel
theorem dX4_init_7 : decode cX4_init 7 = .ok (.newarray .int, 2) := by decide +kernel
theorem dX4_init_9 : decode cX4_init 9 = .ok (.putfield 9, 3) := by decide +kernel
theorem dX4_init_12 : decode cX4_init 12 = .ok (.aload_n 0, 1) := by decide +kernel
theorem dX4_init_13 : decode cX4_init 13 = .ok (.bipush 10, 2) := by decide +kernel
theorem dX4_init_15 : decode cX4_init 15 = .ok (.newarray .int, 2) := by decide +kernel
theorem dX4_init_17 : decode cX4_init 17 = .ok (.putfield 15, 3) := by decide +kernel
theorem dX4_init_20 : decode cX4_init 20 = .ok (.aload_n 0, 1) := by decide +kernel
theorem dX4_init_21 : decode cX4_init 21 = .ok (.bipush 10, 2) := by decide +kernel
theorem dX4_init_23 : decode cX4_init 23 = .ok (.newarray .int, 2) := by decide +kernel
theorem dX4_init_25 : decode cX4_init 25 = .ok (.putfield 18, 3) := by decide +kernel
theorem dX4_init_28 : decode cX4_init 28 = .ok (.aload_n 0, 1) := by decide +kernel
theorem dX4_init_29 : decode cX4_init 29 = .ok (.bipush 10, 2) := by decide +kernel
theorem dX4_init_31 : decode cX4_init 31 = .ok (.newarray .int, 2) := by decide +kernel
theorem dX4_init_33 : decode cX4_init 33 = .ok (.putfield 21, 3) := by decide +kernel
theorem dX4_init_36 : decode cX4_init 36 = .ok (.aload_n 0, 1) := by decide +kernel
theorem dX4_init_37 : decode cX4_init 37 = .ok (.bipush 10, 2) := by decide +kernel
theorem dX4_init_39 : decode cX4_init 39 = .ok (.newarray .int, 2) := by decide +kernel
theorem dX4_init_41 : decode cX4_init 41 = .ok (.putfield 24, 3) := by decide +kernel
theorem dX4_init_44 : decode cX4_init 44 = .ok (.aload_n 0, 1) := by decide +kernel
theorem dX4_init_45 : decode cX4_init 45 = .ok (.iconst 4, 1) := by decide +kernel
theorem dX4_init_46 : decode cX4_init 46 = .ok (.newarray .int, 2) := by decide +kernel
theorem dX4_init_48 : decode cX4_init 48 = .ok (.putfield 27, 3) := by decide +kernel
theorem dX4_init_51 : decode cX4_init 51 = .ok (.aload_n 0, 1) := by decide +kernel
theorem dX4_init_52 : decode cX4_init 52 = .ok (.iconst 4, 1) := by decide +kernel
theorem dX4_init_53 : decode cX4_init 53 = .ok (.newarray .int, 2) := by decide +kernel
theorem dX4_init_55 : decode cX4_init 55 = .ok (.putfield 30, 3) := by decide +kernel
theorem dX4_init_58 : decode cX4_init 58 = .ok (.aload_n 0, 1) := by decide +kernel
theorem dX4_init_59 : decode cX4_init 59 = .ok (.iconst 4, 1) := by decide +kernel
theorem dX4_init_60 : decode cX4_init 60 = .ok (.newarray .boolean, 2) := by decide +kernel
theorem dX4_init_62 : decode cX4_init 62 = .ok (.putfield 33, 3) := by decide +kernel
theorem dX4_init_65 : decode cX4_init 65 = .ok (.aload_n 0, 1) := by decide +kernel
theorem dX4_init_66 : decode cX4_init 66 = .ok (.bipush 12, 2) := by decide +kernel
theorem dX4_init_68 : decode cX4_init 68 = .ok (.newarray .int, 2) := by decide +kernel
theorem dX4_init_70 : decode cX4_init 70 = .ok (.putfield 37, 3) := by decide +kernel
theorem dX4_init_73 : decode cX4_init 73 = .ok (.aload_n 0, 1) := by decide +kernel
theorem dX4_init_74 : decode cX4_init 74 = .ok (.bipush 12, 2) := by decide +kernel
theorem dX4_init_76 : decode cX4_init 76 = .ok (.newarray .int, 2) := by decide +kernel
theorem dX4_init_78 : decode cX4_init 78 = .ok (.putfield 40, 3) := by decide +kernel
theorem dX4_init_81 : decode cX4_init 81 = .ok (.return_, 1) := by decide +kernel
theorem dX4_clear_0 : decode cX4_clear 0 = .ok (.aload_n 0, 1) := by decide +kernel
theorem dX4_clear_1 : decode cX4_clear 1 = .ok (.iconst 2, 1) := by decide +kernel
theorem dX4_clear_2 : decode cX4_clear 2 = .ok (.putfield 43, 3) := by decide +kernel
theorem dX4_clear_5 : decode cX4_clear 5 = .ok (.aload_n 0, 1) := by decide +kernel
theorem dX4_clear_6 : decode cX4_clear 6 = .ok (.iconst 0, 1) := by decide +kernel
theorem dX4_clear_7 : decode cX4_clear 7 = .ok (.putfield 47, 3) := by decide +kernel
theorem dX4_clear_10 : decode cX4_clear 10 = .ok (.aload_n 0, 1) := by decide +kernel
theorem dX4_clear_11 : decode cX4_clear 11 = .ok (.iconst 0, 1) := by decide +kernel
theorem dX4_clear_12 : decode cX4_clear 12 = .ok (.putfield 50, 3) := by decide +kernel
theorem dX4_clear_15 : decode cX4_clear 15 = .ok (.aload_n 0, 1) := by decide +kernel
theorem dX4_clear_16 : decode cX4_clear 16 = .ok (.iconst 0, 1) := by decide +kernel
theorem dX4_clear_17 : decode cX4_clear 17 = .ok (.putfield 53, 3) := by decide +kernel
theorem dX4_clear_20 : decode cX4_clear 20 = .ok (.aload_n 0, 1) := by decide +kernel
theorem dX4_clear_21 : decode cX4_clear 21 = .ok (.iconst 0, 1) := by decide +kernel
theorem dX4_clear_22 : decode cX4_clear 22 = .ok (.putfield 56, 3) := by decide +kernel
theorem dX4_clear_25 : decode cX4_clear 25 = .ok (.aload_n 0, 1) := by decide +kernel
theorem dX4_clear_26 : decode cX4_clear 26 = .ok (.iconst 0, 1) := by decide +kernel
theorem dX4_clear_27 : decode cX4_clear 27 = .ok (.putfield 59, 3) := by decide +kernel
theorem dX4_clear_30 : decode cX4_clear 30 = .ok (.return_, 1) := by decide +kernel
theorem dX4_copyFrom_0 : decode cX4_copyFrom 0 = .ok (.aload_n 0, 1) := by decide +kernel
theorem dX4_copyFrom_1 : decode cX4_copyFrom 1 = .ok (.aload_n 1, 1) := by decide +kernel
theorem dX4_copyFrom_2 : decode cX4_copyFrom 2 = .ok (.getfield 43, 3) := by decide +kernel
theorem dX4_copyFrom_5 : decode cX4_copyFrom 5 = .ok (.putfield 43, 3) := by decide +kernel
theorem dX4_copyFrom_8 : decode cX4_copyFrom 8 = .ok (.aload_n 0, 1) := by decide +kernel
theorem dX4_copyFrom_9 : decode cX4_copyFrom 9 = .ok (.aload_n 1, 1) := by decide +kernel
theorem dX4_copyFrom_10 : decode cX4_copyFrom 10 = .ok (.getfield 47, 3) := by decide +kernel
theorem dX4_copyFrom_13 : decode cX4_copyFrom 13 = .ok (.putfield 47, 3) := by decide +kernel
theorem dX4_copyFrom_16 : decode cX4_copyFrom 16 = .ok (.aload_n 1, 1) := by decide +kernel
theorem dX4_copyFrom_17 : decode cX4_copyFrom 17 = .ok (.getfield 9, 3) := by decide +kernel
theorem dX4_copyFrom_20 : decode cX4_copyFrom 20 = .ok (.iconst 0, 1) := by decide +kernel
theorem dX4_copyFrom_21 : decode cX4_copyFrom 21 = .ok (.aload_n 0, 1) := by decide +kernel
theorem dX4_copyFrom_22 : decode cX4_copyFrom 22 = .ok (.getfield 9, 3) := by decide +kernel
theorem dX4_copyFrom_25 : decode cX4_copyFrom 25 = .ok (.iconst 0, 1) := by decide +kernel
theorem dX4_copyFrom_26 : decode cX4_copyFrom 26 = .ok (.bipush 10, 2) := by decide +kernel
theorem dX4_copyFrom_28 : decode cX4_copyFrom 28 = .ok (.invokestatic 62, 3) := by decide +kernel
theorem dX4_copyFrom_31 : decode cX4_copyFrom 31 = .ok (.aload_n 1, 1) := by decide +kernel
theorem dX4_copyFrom_32 : decode cX4_copyFrom 32 = .ok (.getfield 15, 3) := by decide +kernel
theorem dX4_copyFrom_35 : decode cX4_copyFrom 35 = .ok (.iconst 0, 1) := by decide +kernel
theorem dX4_copyFrom_36 : decode cX4_copyFrom 36 = .ok (.aload_n 0, 1) := by decide +kernel
theorem dX4_copyFrom_37 : decode cX4_copyFrom 37 = .ok (.getfield 15, 3) := by decide +kernel
theorem dX4_copyFrom_40 : decode cX4_copyFrom 40 = .ok (.iconst 0, 1) := by decide +kernel
theorem dX4_copyFrom_41 : decode cX4_copyFrom 41 = .ok (.bipush 10, 2) := by decide +kernel
theorem dX4_copyFrom_43 : decode cX4_copyFrom 43 = .ok (.invokestatic 62, 3) := by decide +kernel
theorem dX4_copyFrom_46 : decode cX4_copyFrom 46 = .ok (.aload_n 1, 1) := by decide +kernel
theorem dX4_copyFrom_47 : decode cX4_copyFrom 47 = .ok (.getfield 18, 3) := by decide +kernel
theorem dX4_copyFrom_50 : decode cX4_copyFrom 50 = .ok (.iconst 0, 1) := by decide +kernel
theorem dX4_copyFrom_51 : decode cX4_copyFrom 51 = .ok (.aload_n 0, 1) := by decide +kernel
theorem dX4_copyFrom_52 : decode cX4_copyFrom 52 = .ok (.getfield 18, 3) := by decide +kernel
theorem dX4_copyFrom_55 : decode cX4_copyFrom 55 = .ok (.iconst 0, 1) := by decide +kernel
theorem dX4_copyFrom_56 : decode cX4_copyFrom 56 = .ok (.bipush 10, 2) := by decide +kernel
theorem dX4_copyFrom_58 : decode cX4_copyFrom 58 = .ok (.invokestatic 62, 3) := by decide +kernel
theorem dX4_copyFrom_61 : decode cX4_copyFrom 61 = .ok (.aload_n 1, 1) := by decide +kernel
theorem dX4_copyFrom_62 : decode cX4_copyFrom 62 = .ok (.getfield 21, 3) := by decide +kernel
theorem dX4_copyFrom_65 : decode cX4_copyFrom 65 = .ok (.iconst 0, 1) := by decide +kernel
theorem dX4_copyFrom_66 : decode cX4_copyFrom 66 = .ok (.aload_n 0, 1) := by decide +kernel
theorem dX4_copyFrom_67 : decode cX4_copyFrom 67 = .ok (.getfield 21, 3) := by decide +kernel
theorem dX4_copyFrom_70 : decode cX4_copyFrom 70 = .ok (.iconst 0, 1) := by decide +kernel
theorem dX4_copyFrom_71 : decode cX4_copyFrom 71 = .ok (.bipush 10, 2) := by decide +kernel
theorem dX4_copyFrom_73 : decode cX4_copyFrom 73 = .ok (.invokestatic 62, 3) := by decide +kernel
theorem dX4_copyFrom_76 : decode cX4_copyFrom 76 = .ok (.aload_n 1, 1) := by decide +kernel
theorem dX4_copyFrom_77 : decode cX4_copyFrom 77 = .ok (.getfield 24, 3) := by decide +kernel
theorem dX4_copyFrom_80 : decode cX4_copyFrom 80 = .ok (.iconst 0, 1) := by decide +kernel
theorem dX4_copyFrom_81 : decode cX4_copyFrom 81 = .ok (.aload_n 0, 1) := by decide +kernel
theorem dX4_copyFrom_82 : decode cX4_copyFrom 82 = .ok (.getfield 24, 3) := by decide +kernel
theorem dX4_copyFrom_85 : decode cX4_copyFrom 85 = .ok (.iconst 0, 1) := by decide +kernel
theorem dX4_copyFrom_86 : decode cX4_copyFrom 86 = .ok (.bipush 10, 2) := by decide +kernel
theorem dX4_copyFrom_88 : decode cX4_copyFrom 88 = .ok (.invokestatic 62, 3) := by decide +kernel
theorem dX4_copyFrom_91 : decode cX4_copyFrom 91 = .ok (.aload_n 0, 1) := by decide +kernel
theorem dX4_copyFrom_92 : decode cX4_copyFrom 92 = .ok (.aload_n 1, 1) := by decide +kernel
theorem dX4_copyFrom_93 : decode cX4_copyFrom 93 = .ok (.getfield 50, 3) := by decide +kernel
theorem dX4_copyFrom_96 : decode cX4_copyFrom 96 = .ok (.putfield 50, 3) := by decide +kernel
theorem dX4_copyFrom_99 : decode cX4_copyFrom 99 = .ok (.iconst 0, 1) := by decide +kernel
theorem dX4_copyFrom_100 : decode cX4_copyFrom 100 = .ok (.istore_n 2, 1) := by decide +kernel
theorem dX4_copyFrom_101 : decode cX4_copyFrom 101 = .ok (.iload_n 2, 1) := by decide +kernel
theorem dX4_copyFrom_102 : decode cX4_copyFrom 102 = .ok (.iconst 4, 1) := by decide +kernel
theorem dX4_copyFrom_103 : decode cX4_copyFrom 103 = .ok (.if_icmp .ge 45, 3) := by decide +kernel
theorem dX4_copyFrom_106 : decode cX4_copyFrom 106 = .ok (.aload_n 0, 1) := by decide +kernel
theorem dX4_copyFrom_107 : decode cX4_copyFrom 107 = .ok (.getfield 27, 3) := by decide +kernel
theorem dX4_copyFrom_110 : decode cX4_copyFrom 110 = .ok (.iload_n 2, 1) := by decide +kernel
theorem dX4_copyFrom_111 : decode cX4_copyFrom 111 = .ok (.aload_n 1, 1) := by decide +kernel
theorem dX4_copyFrom_112 : decode cX4_copyFrom 112 = .ok (.getfield 27, 3) := by decide +kernel
theorem dX4_copyFrom_115 : decode cX4_copyFrom 115 = .ok (.iload_n 2, 1) := by decide +kernel
theorem dX4_copyFrom_116 : decode cX4_copyFrom 116 = .ok (.iaload, 1) := by decide +kernel
theorem dX4_copyFrom_117 : decode cX4_copyFrom 117 = .ok (.iastore, 1) := by decide +kernel
theorem dX4_copyFrom_118 : decode cX4_copyFrom 118 = .ok (.aload_n 0, 1) := by decide +kernel
theorem dX4_copyFrom_119 : decode cX4_copyFrom 119 = .ok (.getfield 30, 3) := by decide +kernel
theorem dX4_copyFrom_122 : decode cX4_copyFrom 122 = .ok (.iload_n 2, 1) := by decide +kernel
theorem dX4_copyFrom_123 : decode cX4_copyFrom 123 = .ok (.aload_n 1, 1) := by decide +kernel
theorem dX4_copyFrom_124 : decode cX4_copyFrom 124 = .ok (.getfield 30, 3) := by decide +kernel
theorem dX4_copyFrom_127 : decode cX4_copyFrom 127 = .ok (.iload_n 2, 1) := by decide +kernel
theorem dX4_copyFrom_128 : decode cX4_copyFrom 128 = .ok (.iaload, 1) := by decide +kernel
theorem dX4_copyFrom_129 : decode cX4_copyFrom 129 = .ok (.iastore, 1) := by decide +kernel
theorem dX4_copyFrom_130 : decode cX4_copyFrom 130 = .ok (.aload_n 0, 1) := by decide +kernel
theorem dX4_copyFrom_131 : decode cX4_copyFrom 131 = .ok (.getfield 33, 3) := by decide +kernel
theorem dX4_copyFrom_134 : decode cX4_copyFrom 134 = .ok (.iload_n 2, 1) := by decide +kernel
theorem dX4_copyFrom_135 : decode cX4_copyFrom 135 = .ok (.aload_n 1, 1) := by decide +kernel
theorem dX4_copyFrom_136 : decode cX4_copyFrom 136 = .ok (.getfield 33, 3) := by decide +kernel
theorem dX4_copyFrom_139 : decode cX4_copyFrom 139 = .ok (.iload_n 2, 1) := by decide +kernel
theorem dX4_copyFrom_140 : decode cX4_copyFrom 140 = .ok (.baload, 1) := by decide +kernel
theorem dX4_copyFrom_141 : decode cX4_copyFrom 141 = .ok (.bastore, 1) := by decide +kernel
theorem dX4_copyFrom_142 : decode cX4_copyFrom 142 = .ok (.iinc 2 1, 3) := by decide +kernel
theorem dX4_copyFrom_145 : decode cX4_copyFrom 145 = .ok (.goto (-44), 3) := by decide +kernel
theorem dX4_copyFrom_148 : decode cX4_copyFrom 148 = .ok (.aload_n 1, 1) := by decide +kernel
theorem dX4_copyFrom_149 : decode cX4_copyFrom 149 = .ok (.getfield 37, 3) := by decide +kernel
theorem dX4_copyFrom_152 : decode cX4_copyFrom 152 = .ok (.iconst 0, 1) := by decide +kernel
theorem dX4_copyFrom_153 : decode cX4_copyFrom 153 = .ok (.aload_n 0, 1) := by decide +kernel
theorem dX4_copyFrom_154 : decode cX4_copyFrom 154 = .ok (.getfield 37, 3) := by decide +kernel
theorem dX4_copyFrom_157 : decode cX4_copyFrom 157 = .ok (.iconst 0, 1) := by decide +kernel
theorem dX4_copyFrom_158 : decode cX4_copyFrom 158 = .ok (.bipush 12, 2) := by decide +kernel
theorem dX4_copyFrom_160 : decode cX4_copyFrom 160 = .ok (.invokestatic 62, 3) := by decide +kernel
theorem dX4_copyFrom_163 : decode cX4_copyFrom 163 = .ok (.aload_n 0, 1) := by decide +kernel
theorem dX4_copyFrom_164 : decode cX4_copyFrom 164 = .ok (.aload_n 1, 1) := by decide +kernel
theorem dX4_copyFrom_165 : decode cX4_copyFrom 165 = .ok (.getfield 53, 3) := by decide +kernel
theorem dX4_copyFrom_168 : decode cX4_copyFrom 168 = .ok (.putfield 53, 3) := by decide +kernel
theorem dX4_copyFrom_171 : decode cX4_copyFrom 171 = .ok (.aload_n 0, 1) := by decide +kernel
theorem dX4_copyFrom_172 : decode cX4_copyFrom 172 = .ok (.aload_n 1, 1) := by decide +kernel
theorem dX4_copyFrom_173 : decode cX4_copyFrom 173 = .ok (.getfield 56, 3) := by decide +kernel
theorem dX4_copyFrom_176 : decode cX4_copyFrom 176 = .ok (.putfield 56, 3) := by decide +kernel
theorem dX4_copyFrom_179 : decode cX4_copyFrom 179 = .ok (.aload_n 0, 1) := by decide +kernel
theorem dX4_copyFrom_180 : decode cX4_copyFrom 180 = .ok (.aload_n 1, 1) := by decide +kernel
theorem dX4_copyFrom_181 : decode cX4_copyFrom 181 = .ok (.getfield 59, 3) := by decide +kernel
theorem dX4_copyFrom_184 : decode cX4_copyFrom 184 = .ok (.putfield 59, 3) := by decide +kernel
theorem dX4_copyFrom_187 : decode cX4_copyFrom 187 = .ok (.aload_n 1, 1) := by decide +kernel
theorem dX4_copyFrom_188 : decode cX4_copyFrom 188 = .ok (.getfield 40, 3) := by decide +kernel
theorem dX4_copyFrom_191 : decode cX4_copyFrom 191 = .ok (.iconst 0, 1) := by decide +kernel
theorem dX4_copyFrom_192 : decode cX4_copyFrom 192 = .ok (.aload_n 0, 1) := by decide +kernel
theorem dX4_copyFrom_193 : decode cX4_copyFrom 193 = .ok (.getfield 40, 3) := by decide +kernel
theorem dX4_copyFrom_196 : decode cX4_copyFrom 196 = .ok (.iconst 0, 1) := by decide +kernel
theorem dX4_copyFrom_197 : decode cX4_copyFrom 197 = .ok (.bipush 12, 2) := by decide +kernel
theorem dX4_copyFrom_199 : decode cX4_copyFrom 199 = .ok (.invokestatic 62, 3) := by decide +kernel
theorem dX4_copyFrom_202 : decode cX4_copyFrom 202 = .ok (.return_, 1) := by decide +kernel
theorem dX4_addRule_0 : decode cX4_addRule 0 = .ok (.aload_n 0, 1) := by decide +kernel
theorem dX4_addRule_1 : decode cX4_addRule 1 = .ok (.getfield 47, 3) := by decide +kernel
theorem dX4_addRule_4 : decode cX4_addRule 4 = .ok (.bipush 10, 2) := by decide +kernel
theorem dX4_addRule_6 : decode cX4_addRule 6 = .ok (.if_icmp .lt 5, 3) := by decide +kernel
theorem dX4_addRule_9 : decode cX4_addRule 9 = .ok (.iconst 0, 1) := by decide +kernel
theorem dX4_addRule_10 : decode cX4_addRule 10 = .ok (.ireturn, 1) := by decide +kernel
theorem dX4_addRule_11 : decode cX4_addRule 11 = .ok (.aload_n 0, 1) := by decide +kernel
theorem dX4_addRule_12 : decode cX4_addRule 12 = .ok (.getfield 9, 3) := by decide +kernel
theorem dX4_addRule_15 : decode cX4_addRule 15 = .ok (.aload_n 0, 1) := by decide +kernel
theorem dX4_addRule_16 : decode cX4_addRule 16 = .ok (.getfield 47, 3) := by decide +kernel
theorem dX4_addRule_19 : decode cX4_addRule 19 = .ok (.iload_n 1, 1) := by decide +kernel
theorem dX4_addRule_20 : decode cX4_addRule 20 = .ok (.iastore, 1) := by decide +kernel
theorem dX4_addRule_21 : decode cX4_addRule 21 = .ok (.aload_n 0, 1) := by decide +kernel
theorem dX4_addRule_22 : decode cX4_addRule 22 = .ok (.getfield 15, 3) := by decide +kernel
theorem dX4_addRule_25 : decode cX4_addRule 25 = .ok (.aload_n 0, 1) := by decide +kernel
theorem dX4_addRule_26 : decode cX4_addRule 26 = .ok (.getfield 47, 3) := by decide +kernel
theorem dX4_addRule_29 : decode cX4_addRule 29 = .ok (.iload_n 2, 1) := by decide +kernel
theorem dX4_addRule_30 : decode cX4_addRule 30 = .ok (.iastore, 1) := by decide +kernel
theorem dX4_addRule_31 : decode cX4_addRule 31 = .ok (.aload_n 0, 1) := by decide +kernel
theorem dX4_addRule_32 : decode cX4_addRule 32 = .ok (.getfield 18, 3) := by decide +kernel
theorem dX4_addRule_35 : decode cX4_addRule 35 = .ok (.aload_n 0, 1) := by decide +kernel
theorem dX4_addRule_36 : decode cX4_addRule 36 = .ok (.getfield 47, 3) := by decide +kernel
theorem dX4_addRule_39 : decode cX4_addRule 39 = .ok (.iload_n 3, 1) := by decide +kernel
theorem dX4_addRule_40 : decode cX4_addRule 40 = .ok (.iastore, 1) := by decide +kernel
theorem dX4_addRule_41 : decode cX4_addRule 41 = .ok (.aload_n 0, 1) := by decide +kernel
theorem dX4_addRule_42 : decode cX4_addRule 42 = .ok (.getfield 21, 3) := by decide +kernel
theorem dX4_addRule_45 : decode cX4_addRule 45 = .ok (.aload_n 0, 1) := by decide +kernel
theorem dX4_addRule_46 : decode cX4_addRule 46 = .ok (.getfield 47, 3) := by decide +kernel
theorem dX4_addRule_49 : decode cX4_addRule 49 = .ok (.iload 4, 2) := by decide +kernel
theorem dX4_addRule_51 : decode cX4_addRule 51 = .ok (.iastore, 1) := by decide +kernel
theorem dX4_addRule_52 : decode cX4_addRule 52 = .ok (.aload_n 0, 1) := by decide +kernel
theorem dX4_addRule_53 : decode cX4_addRule 53 = .ok (.getfield 24, 3) := by decide +kernel
theorem dX4_addRule_56 : decode cX4_addRule 56 = .ok (.aload_n 0, 1) := by decide +kernel
theorem dX4_addRule_57 : decode cX4_addRule 57 = .ok (.getfield 47, 3) := by decide +kernel
theorem dX4_addRule_60 : decode cX4_addRule 60 = .ok (.iload 5, 2) := by decide +kernel
theorem dX4_addRule_62 : decode cX4_addRule 62 = .ok (.iastore, 1) := by decide +kernel
theorem dX4_addRule_63 : decode cX4_addRule 63 = .ok (.aload_n 0, 1) := by decide +kernel
theorem dX4_addRule_64 : decode cX4_addRule 64 = .ok (.dup, 1) := by decide +kernel
theorem dX4_addRule_65 : decode cX4_addRule 65 = .ok (.getfield 47, 3) := by decide +kernel
theorem dX4_addRule_68 : decode cX4_addRule 68 = .ok (.iconst 1, 1) := by decide +kernel
theorem dX4_addRule_69 : decode cX4_addRule 69 = .ok (.iadd, 1) := by decide +kernel
theorem dX4_addRule_70 : decode cX4_addRule 70 = .ok (.putfield 47, 3) := by decide +kernel
theorem dX4_addRule_73 : decode cX4_addRule 73 = .ok (.iconst 1, 1) := by decide +kernel
theorem dX4_addRule_74 : decode cX4_addRule 74 = .ok (.ireturn, 1) := by decide +kernel
theorem dX4_removeRule_0 : decode cX4_removeRule 0 = .ok (.iload_n 1, 1) := by decide +kernel
theorem dX4_removeRule_1 : decode cX4_removeRule 1 = .ok (.istore_n 2, 1) := by decide +kernel
theorem dX4_removeRule_2 : decode cX4_removeRule 2 = .ok (.iload_n 2, 1) := by decide +kernel
theorem dX4_removeRule_3 : decode cX4_removeRule 3 = .ok (.iconst 1, 1) := by decide +kernel
theorem dX4_removeRule_4 : decode cX4_removeRule 4 = .ok (.iadd, 1) := by decide +kernel
theorem dX4_removeRule_5 : decode cX4_removeRule 5 = .ok (.aload_n 0, 1) := by decide +kernel
theorem dX4_removeRule_6 : decode cX4_removeRule 6 = .ok (.getfield 47, 3) := by decide +kernel
theorem dX4_removeRule_9 : decode cX4_removeRule 9 = .ok (.if_icmp .ge 79, 3) := by decide +kernel
theorem dX4_removeRule_12 : decode cX4_removeRule 12 = .ok (.aload_n 0, 1) := by decide +kernel
theorem dX4_removeRule_13 : decode cX4_removeRule 13 = .ok (.getfield 9, 3) := by decide +kernel
theorem dX4_removeRule_16 : decode cX4_removeRule 16 = .ok (.iload_n 2, 1) := by decide +kernel
theorem dX4_removeRule_17 : decode cX4_removeRule 17 = .ok (.aload_n 0, 1) := by decide +kernel
theorem dX4_removeRule_18 : decode cX4_removeRule 18 = .ok (.getfield 9, 3) := by decide +kernel
theorem dX4_removeRule_21 : decode cX4_removeRule 21 = .ok (.iload_n 2, 1) := by decide +kernel
theorem dX4_removeRule_22 : decode cX4_removeRule 22 = .ok (.iconst 1, 1) := by decide +kernel
theorem dX4_removeRule_23 : decode cX4_removeRule 23 = .ok (.iadd, 1) := by decide +kernel
theorem dX4_removeRule_24 : decode cX4_removeRule 24 = .ok (.iaload, 1) := by decide +kernel
theorem dX4_removeRule_25 : decode cX4_removeRule 25 = .ok (.iastore, 1) := by decide +kernel
theorem dX4_removeRule_26 : decode cX4_removeRule 26 = .ok (.aload_n 0, 1) := by decide +kernel
theorem dX4_removeRule_27 : decode cX4_removeRule 27 = .ok (.getfield 15, 3) := by decide +kernel
theorem dX4_removeRule_30 : decode cX4_removeRule 30 = .ok (.iload_n 2, 1) := by decide +kernel
theorem dX4_removeRule_31 : decode cX4_removeRule 31 = .ok (.aload_n 0, 1) := by decide +kernel
theorem dX4_removeRule_32 : decode cX4_removeRule 32 = .ok (.getfield 15, 3) := by decide +kernel
theorem dX4_removeRule_35 : decode cX4_removeRule 35 = .ok (.iload_n 2, 1) := by decide +kernel
theorem dX4_removeRule_36 : decode cX4_removeRule 36 = .ok (.iconst 1, 1) := by decide +kernel
theorem dX4_removeRule_37 : decode cX4_removeRule 37 = .ok (.iadd, 1) := by decide +kernel
theorem dX4_removeRule_38 : decode cX4_removeRule 38 = .ok (.iaload, 1) := by decide +kernel
theorem dX4_removeRule_39 : decode cX4_removeRule 39 = .ok (.iastore, 1) := by decide +kernel
theorem dX4_removeRule_40 : decode cX4_removeRule 40 = .ok (.aload_n 0, 1) := by decide +kernel
theorem dX4_removeRule_41 : decode cX4_removeRule 41 = .ok (.getfield 18, 3) := by decide +kernel
theorem dX4_removeRule_44 : decode cX4_removeRule 44 = .ok (.iload_n 2, 1) := by decide +kernel
theorem dX4_removeRule_45 : decode cX4_removeRule 45 = .ok (.aload_n 0, 1) := by decide +kernel
theorem dX4_removeRule_46 : decode cX4_removeRule 46 = .ok (.getfield 18, 3) := by decide +kernel
theorem dX4_removeRule_49 : decode cX4_removeRule 49 = .ok (.iload_n 2, 1) := by decide +kernel
theorem dX4_removeRule_50 : decode cX4_removeRule 50 = .ok (.iconst 1, 1) := by decide +kernel
theorem dX4_removeRule_51 : decode cX4_removeRule 51 = .ok (.iadd, 1) := by decide +kernel
theorem dX4_removeRule_52 : decode cX4_removeRule 52 = .ok (.iaload, 1) := by decide +kernel
theorem dX4_removeRule_53 : decode cX4_removeRule 53 = .ok (.iastore, 1) := by decide +kernel
theorem dX4_removeRule_54 : decode cX4_removeRule 54 = .ok (.aload_n 0, 1) := by decide +kernel
theorem dX4_removeRule_55 : decode cX4_removeRule 55 = .ok (.getfield 21, 3) := by decide +kernel
theorem dX4_removeRule_58 : decode cX4_removeRule 58 = .ok (.iload_n 2, 1) := by decide +kernel
theorem dX4_removeRule_59 : decode cX4_removeRule 59 = .ok (.aload_n 0, 1) := by decide +kernel
theorem dX4_removeRule_60 : decode cX4_removeRule 60 = .ok (.getfield 21, 3) := by decide +kernel
theorem dX4_removeRule_63 : decode cX4_removeRule 63 = .ok (.iload_n 2, 1) := by decide +kernel
theorem dX4_removeRule_64 : decode cX4_removeRule 64 = .ok (.iconst 1, 1) := by decide +kernel
theorem dX4_removeRule_65 : decode cX4_removeRule 65 = .ok (.iadd, 1) := by decide +kernel
theorem dX4_removeRule_66 : decode cX4_removeRule 66 = .ok (.iaload, 1) := by decide +kernel
theorem dX4_removeRule_67 : decode cX4_removeRule 67 = .ok (.iastore, 1) := by decide +kernel
theorem dX4_removeRule_68 : decode cX4_removeRule 68 = .ok (.aload_n 0, 1) := by decide +kernel
theorem dX4_removeRule_69 : decode cX4_removeRule 69 = .ok (.getfield 24, 3) := by decide +kernel
theorem dX4_removeRule_72 : decode cX4_removeRule 72 = .ok (.iload_n 2, 1) := by decide +kernel
theorem dX4_removeRule_73 : decode cX4_removeRule 73 = .ok (.aload_n 0, 1) := by decide +kernel
theorem dX4_removeRule_74 : decode cX4_removeRule 74 = .ok (.getfield 24, 3) := by decide +kernel
theorem dX4_removeRule_77 : decode cX4_removeRule 77 = .ok (.iload_n 2, 1) := by decide +kernel
theorem dX4_removeRule_78 : decode cX4_removeRule 78 = .ok (.iconst 1, 1) := by decide +kernel
theorem dX4_removeRule_79 : decode cX4_removeRule 79 = .ok (.iadd, 1) := by decide +kernel
theorem dX4_removeRule_80 : decode cX4_removeRule 80 = .ok (.iaload, 1) := by decide +kernel
theorem dX4_removeRule_81 : decode cX4_removeRule 81 = .ok (.iastore, 1) := by decide +kernel
theorem dX4_removeRule_82 : decode cX4_removeRule 82 = .ok (.iinc 2 1, 3) := by decide +kernel
theorem dX4_removeRule_85 : decode cX4_removeRule 85 = .ok (.goto (-83), 3) := by decide +kernel
theorem dX4_removeRule_88 : decode cX4_removeRule 88 = .ok (.aload_n 0, 1) := by decide +kernel
theorem dX4_removeRule_89 : decode cX4_removeRule 89 = .ok (.dup, 1) := by decide +kernel
theorem dX4_removeRule_90 : decode cX4_removeRule 90 = .ok (.getfield 47, 3) := by decide +kernel
theorem dX4_removeRule_93 : decode cX4_removeRule 93 = .ok (.iconst 1, 1) := by decide +kernel
theorem dX4_removeRule_94 : decode cX4_removeRule 94 = .ok (.isub, 1) := by decide +kernel
theorem dX4_removeRule_95 : decode cX4_removeRule 95 = .ok (.putfield 47, 3) := by decide +kernel
theorem dX4_removeRule_98 : decode cX4_removeRule 98 = .ok (.return_, 1) := by decide +kernel
theorem dX4_addTarget_0 : decode cX4_addTarget 0 = .ok (.aload_n 0, 1) := by decide +kernel
theorem dX4_addTarget_1 : decode cX4_addTarget 1 = .ok (.getfield 50, 3) := by decide +kernel
theorem dX4_addTarget_4 : decode cX4_addTarget 4 = .ok (.iconst 4, 1) := by decide +kernel
theorem dX4_addTarget_5 : decode cX4_addTarget 5 = .ok (.if_icmp .ge 8, 3) := by decide +kernel
theorem dX4_addTarget_8 : decode cX4_addTarget 8 = .ok (.iload_n 3, 1) := by decide +kernel
theorem dX4_addTarget_9 : decode cX4_addTarget 9 = .ok (.iconst 3, 1) := by decide +kernel
theorem dX4_addTarget_10 : decode cX4_addTarget 10 = .ok (.if_icmp .le 5, 3) := by decide +kernel
theorem dX4_addTarget_13 : decode cX4_addTarget 13 = .ok (.iconst 0, 1) := by decide +kernel
theorem dX4_addTarget_14 : decode cX4_addTarget 14 = .ok (.ireturn, 1) := by decide +kernel
theorem dX4_addTarget_15 : decode cX4_addTarget 15 = .ok (.aload_n 0, 1) := by decide +kernel
theorem dX4_addTarget_16 : decode cX4_addTarget 16 = .ok (.getfield 27, 3) := by decide +kernel
theorem dX4_addTarget_19 : decode cX4_addTarget 19 = .ok (.aload_n 0, 1) := by decide +kernel
theorem dX4_addTarget_20 : decode cX4_addTarget 20 = .ok (.getfield 50, 3) := by decide +kernel
theorem dX4_addTarget_23 : decode cX4_addTarget 23 = .ok (.iload_n 1, 1) := by decide +kernel
theorem dX4_addTarget_24 : decode cX4_addTarget 24 = .ok (.iastore, 1) := by decide +kernel
theorem dX4_addTarget_25 : decode cX4_addTarget 25 = .ok (.aload_n 0, 1) := by decide +kernel
theorem dX4_addTarget_26 : decode cX4_addTarget 26 = .ok (.getfield 30, 3) := by decide +kernel
theorem dX4_addTarget_29 : decode cX4_addTarget 29 = .ok (.aload_n 0, 1) := by decide +kernel
theorem dX4_addTarget_30 : decode cX4_addTarget 30 = .ok (.getfield 50, 3) := by decide +kernel
theorem dX4_addTarget_33 : decode cX4_addTarget 33 = .ok (.iload_n 3, 1) := by decide +kernel
theorem dX4_addTarget_34 : decode cX4_addTarget 34 = .ok (.iastore, 1) := by decide +kernel
theorem dX4_addTarget_35 : decode cX4_addTarget 35 = .ok (.aload_n 0, 1) := by decide +kernel
theorem dX4_addTarget_36 : decode cX4_addTarget 36 = .ok (.getfield 33, 3) := by decide +kernel
theorem dX4_addTarget_39 : decode cX4_addTarget 39 = .ok (.aload_n 0, 1) := by decide +kernel
theorem dX4_addTarget_40 : decode cX4_addTarget 40 = .ok (.getfield 50, 3) := by decide +kernel
theorem dX4_addTarget_43 : decode cX4_addTarget 43 = .ok (.iload 4, 2) := by decide +kernel
theorem dX4_addTarget_45 : decode cX4_addTarget 45 = .ok (.bastore, 1) := by decide +kernel
theorem dX4_addTarget_46 : decode cX4_addTarget 46 = .ok (.iconst 0, 1) := by decide +kernel
theorem dX4_addTarget_47 : decode cX4_addTarget 47 = .ok (.istore 5, 2) := by decide +kernel
theorem dX4_addTarget_49 : decode cX4_addTarget 49 = .ok (.iload 5, 2) := by decide +kernel
theorem dX4_addTarget_51 : decode cX4_addTarget 51 = .ok (.iload_n 3, 1) := by decide +kernel
theorem dX4_addTarget_52 : decode cX4_addTarget 52 = .ok (.if_icmp .ge 27, 3) := by decide +kernel
theorem dX4_addTarget_55 : decode cX4_addTarget 55 = .ok (.aload_n 0, 1) := by decide +kernel
theorem dX4_addTarget_56 : decode cX4_addTarget 56 = .ok (.getfield 37, 3) := by decide +kernel
theorem dX4_addTarget_59 : decode cX4_addTarget 59 = .ok (.aload_n 0, 1) := by decide +kernel
theorem dX4_addTarget_60 : decode cX4_addTarget 60 = .ok (.getfield 50, 3) := by decide +kernel
theorem dX4_addTarget_63 : decode cX4_addTarget 63 = .ok (.iconst 3, 1) := by decide +kernel
theorem dX4_addTarget_64 : decode cX4_addTarget 64 = .ok (.imul, 1) := by decide +kernel
theorem dX4_addTarget_65 : decode cX4_addTarget 65 = .ok (.iload 5, 2) := by decide +kernel
theorem dX4_addTarget_67 : decode cX4_addTarget 67 = .ok (.iadd, 1) := by decide +kernel
theorem dX4_addTarget_68 : decode cX4_addTarget 68 = .ok (.aload_n 2, 1) := by decide +kernel
theorem dX4_addTarget_69 : decode cX4_addTarget 69 = .ok (.iload 5, 2) := by decide +kernel
theorem dX4_addTarget_71 : decode cX4_addTarget 71 = .ok (.iaload, 1) := by decide +kernel
theorem dX4_addTarget_72 : decode cX4_addTarget 72 = .ok (.iastore, 1) := by decide +kernel
theorem dX4_addTarget_73 : decode cX4_addTarget 73 = .ok (.iinc 5 1, 3) := by decide +kernel
theorem dX4_addTarget_76 : decode cX4_addTarget 76 = .ok (.goto (-27), 3) := by decide +kernel
theorem dX4_addTarget_79 : decode cX4_addTarget 79 = .ok (.aload_n 0, 1) := by decide +kernel
theorem dX4_addTarget_80 : decode cX4_addTarget 80 = .ok (.dup, 1) := by decide +kernel
theorem dX4_addTarget_81 : decode cX4_addTarget 81 = .ok (.getfield 50, 3) := by decide +kernel
theorem dX4_addTarget_84 : decode cX4_addTarget 84 = .ok (.iconst 1, 1) := by decide +kernel
theorem dX4_addTarget_85 : decode cX4_addTarget 85 = .ok (.iadd, 1) := by decide +kernel
theorem dX4_addTarget_86 : decode cX4_addTarget 86 = .ok (.putfield 50, 3) := by decide +kernel
theorem dX4_addTarget_89 : decode cX4_addTarget 89 = .ok (.iconst 1, 1) := by decide +kernel
theorem dX4_addTarget_90 : decode cX4_addTarget 90 = .ok (.ireturn, 1) := by decide +kernel
theorem dX4_putLetter_0 : decode cX4_putLetter 0 = .ok (.aload_n 0, 1) := by decide +kernel
theorem dX4_putLetter_1 : decode cX4_putLetter 1 = .ok (.getfield 59, 3) := by decide +kernel
theorem dX4_putLetter_4 : decode cX4_putLetter 4 = .ok (.bipush 12, 2) := by decide +kernel
theorem dX4_putLetter_6 : decode cX4_putLetter 6 = .ok (.if_icmp .ge 23, 3) := by decide +kernel
theorem dX4_putLetter_9 : decode cX4_putLetter 9 = .ok (.aload_n 0, 1) := by decide +kernel
theorem dX4_putLetter_10 : decode cX4_putLetter 10 = .ok (.getfield 40, 3) := by decide +kernel
theorem dX4_putLetter_13 : decode cX4_putLetter 13 = .ok (.aload_n 0, 1) := by decide +kernel
theorem dX4_putLetter_14 : decode cX4_putLetter 14 = .ok (.getfield 59, 3) := by decide +kernel
theorem dX4_putLetter_17 : decode cX4_putLetter 17 = .ok (.iload_n 1, 1) := by decide +kernel
theorem dX4_putLetter_18 : decode cX4_putLetter 18 = .ok (.iastore, 1) := by decide +kernel
theorem dX4_putLetter_19 : decode cX4_putLetter 19 = .ok (.aload_n 0, 1) := by decide +kernel
theorem dX4_putLetter_20 : decode cX4_putLetter 20 = .ok (.dup, 1) := by decide +kernel
theorem dX4_putLetter_21 : decode cX4_putLetter 21 = .ok (.getfield 59, 3) := by decide +kernel
theorem dX4_putLetter_24 : decode cX4_putLetter 24 = .ok (.iconst 1, 1) := by decide +kernel
theorem dX4_putLetter_25 : decode cX4_putLetter 25 = .ok (.iadd, 1) := by decide +kernel
theorem dX4_putLetter_26 : decode cX4_putLetter 26 = .ok (.putfield 59, 3) := by decide +kernel
theorem dX4_putLetter_29 : decode cX4_putLetter 29 = .ok (.return_, 1) := by decide +kernel
theorem dX4_takeLetter_0 : decode cX4_takeLetter 0 = .ok (.aload_n 0, 1) := by decide +kernel
theorem dX4_takeLetter_1 : decode cX4_takeLetter 1 = .ok (.getfield 59, 3) := by decide +kernel
theorem dX4_takeLetter_4 : decode cX4_takeLetter 4 = .ok (.ifCond .ne 6, 3) := by decide +kernel
theorem dX4_takeLetter_7 : decode cX4_takeLetter 7 = .ok (.bipush (-4), 2) := by decide +kernel
theorem dX4_takeLetter_9 : decode cX4_takeLetter 9 = .ok (.ireturn, 1) := by decide +kernel
theorem dX4_takeLetter_10 : decode cX4_takeLetter 10 = .ok (.aload_n 0, 1) := by decide +kernel
theorem dX4_takeLetter_11 : decode cX4_takeLetter 11 = .ok (.dup, 1) := by decide +kernel
theorem dX4_takeLetter_12 : decode cX4_takeLetter 12 = .ok (.getfield 59, 3) := by decide +kernel
theorem dX4_takeLetter_15 : decode cX4_takeLetter 15 = .ok (.iconst 1, 1) := by decide +kernel
theorem dX4_takeLetter_16 : decode cX4_takeLetter 16 = .ok (.isub, 1) := by decide +kernel
theorem dX4_takeLetter_17 : decode cX4_takeLetter 17 = .ok (.putfield 59, 3) := by decide +kernel
theorem dX4_takeLetter_20 : decode cX4_takeLetter 20 = .ok (.aload_n 0, 1) := by decide +kernel
theorem dX4_takeLetter_21 : decode cX4_takeLetter 21 = .ok (.getfield 40, 3) := by decide +kernel
theorem dX4_takeLetter_24 : decode cX4_takeLetter 24 = .ok (.aload_n 0, 1) := by decide +kernel
theorem dX4_takeLetter_25 : decode cX4_takeLetter 25 = .ok (.getfield 59, 3) := by decide +kernel
theorem dX4_takeLetter_28 : decode cX4_takeLetter 28 = .ok (.iaload, 1) := by decide +kernel
theorem dX4_takeLetter_29 : decode cX4_takeLetter 29 = .ok (.ireturn, 1) := by decide +kernel
theorem dX4_rulesFor_0 : decode cX4_rulesFor 0 = .ok (.iconst 0, 1) := by decide +kernel
theorem dX4_rulesFor_1 : decode cX4_rulesFor 1 = .ok (.istore_n 3, 1) := by decide +kernel
theorem dX4_rulesFor_2 : decode cX4_rulesFor 2 = .ok (.iconst 0, 1) := by decide +kernel
theorem dX4_rulesFor_3 : decode cX4_rulesFor 3 = .ok (.istore 4, 2) := by decide +kernel
theorem dX4_rulesFor_5 : decode cX4_rulesFor 5 = .ok (.iload 4, 2) := by decide +kernel
theorem dX4_rulesFor_7 : decode cX4_rulesFor 7 = .ok (.aload_n 0, 1) := by decide +kernel
theorem dX4_rulesFor_8 : decode cX4_rulesFor 8 = .ok (.getfield 47, 3) := by decide +kernel
theorem dX4_rulesFor_11 : decode cX4_rulesFor 11 = .ok (.if_icmp .ge 34, 3) := by decide +kernel
theorem dX4_rulesFor_14 : decode cX4_rulesFor 14 = .ok (.aload_n 0, 1) := by decide +kernel
theorem dX4_rulesFor_15 : decode cX4_rulesFor 15 = .ok (.getfield 9, 3) := by decide +kernel
theorem dX4_rulesFor_18 : decode cX4_rulesFor 18 = .ok (.iload 4, 2) := by decide +kernel
theorem dX4_rulesFor_20 : decode cX4_rulesFor 20 = .ok (.iaload, 1) := by decide +kernel
theorem dX4_rulesFor_21 : decode cX4_rulesFor 21 = .ok (.iload_n 1, 1) := by decide +kernel
theorem dX4_rulesFor_22 : decode cX4_rulesFor 22 = .ok (.if_icmp .ne 17, 3) := by decide +kernel
theorem dX4_rulesFor_25 : decode cX4_rulesFor 25 = .ok (.aload_n 0, 1) := by decide +kernel
theorem dX4_rulesFor_26 : decode cX4_rulesFor 26 = .ok (.getfield 15, 3) := by decide +kernel
theorem dX4_rulesFor_29 : decode cX4_rulesFor 29 = .ok (.iload 4, 2) := by decide +kernel
theorem dX4_rulesFor_31 : decode cX4_rulesFor 31 = .ok (.iaload, 1) := by decide +kernel
theorem dX4_rulesFor_32 : decode cX4_rulesFor 32 = .ok (.iload_n 2, 1) := by decide +kernel
theorem dX4_rulesFor_33 : decode cX4_rulesFor 33 = .ok (.if_icmp .ne 6, 3) := by decide +kernel
theorem dX4_rulesFor_36 : decode cX4_rulesFor 36 = .ok (.iinc 3 1, 3) := by decide +kernel
theorem dX4_rulesFor_39 : decode cX4_rulesFor 39 = .ok (.iinc 4 1, 3) := by decide +kernel
theorem dX4_rulesFor_42 : decode cX4_rulesFor 42 = .ok (.goto (-37), 3) := by decide +kernel
theorem dX4_rulesFor_45 : decode cX4_rulesFor 45 = .ok (.iload_n 3, 1) := by decide +kernel
theorem dX4_rulesFor_46 : decode cX4_rulesFor 46 = .ok (.ireturn, 1) := by decide +kernel
theorem dX4_applies_0 : decode cX4_applies 0 = .ok (.aload_n 0, 1) := by decide +kernel
theorem dX4_applies_1 : decode cX4_applies 1 = .ok (.getfield 59, 3) := by decide +kernel
theorem dX4_applies_4 : decode cX4_applies 4 = .ok (.ifCond .le 40, 3) := by decide +kernel
theorem dX4_applies_7 : decode cX4_applies 7 = .ok (.aload_n 0, 1) := by decide +kernel
theorem dX4_applies_8 : decode cX4_applies 8 = .ok (.getfield 9, 3) := by decide +kernel
theorem dX4_applies_11 : decode cX4_applies 11 = .ok (.iload_n 1, 1) := by decide +kernel
theorem dX4_applies_12 : decode cX4_applies 12 = .ok (.iaload, 1) := by decide +kernel
theorem dX4_applies_13 : decode cX4_applies 13 = .ok (.aload_n 0, 1) := by decide +kernel
theorem dX4_applies_14 : decode cX4_applies 14 = .ok (.getfield 56, 3) := by decide +kernel
theorem dX4_applies_17 : decode cX4_applies 17 = .ok (.if_icmp .ne 27, 3) := by decide +kernel
theorem dX4_applies_20 : decode cX4_applies 20 = .ok (.aload_n 0, 1) := by decide +kernel
theorem dX4_applies_21 : decode cX4_applies 21 = .ok (.getfield 15, 3) := by decide +kernel
theorem dX4_applies_24 : decode cX4_applies 24 = .ok (.iload_n 1, 1) := by decide +kernel
theorem dX4_applies_25 : decode cX4_applies 25 = .ok (.iaload, 1) := by decide +kernel
theorem dX4_applies_26 : decode cX4_applies 26 = .ok (.aload_n 0, 1) := by decide +kernel
theorem dX4_applies_27 : decode cX4_applies 27 = .ok (.getfield 40, 3) := by decide +kernel
theorem dX4_applies_30 : decode cX4_applies 30 = .ok (.aload_n 0, 1) := by decide +kernel
theorem dX4_applies_31 : decode cX4_applies 31 = .ok (.getfield 59, 3) := by decide +kernel
theorem dX4_applies_34 : decode cX4_applies 34 = .ok (.iconst 1, 1) := by decide +kernel
theorem dX4_applies_35 : decode cX4_applies 35 = .ok (.isub, 1) := by decide +kernel
theorem dX4_applies_36 : decode cX4_applies 36 = .ok (.iaload, 1) := by decide +kernel
theorem dX4_applies_37 : decode cX4_applies 37 = .ok (.if_icmp .ne 7, 3) := by decide +kernel
theorem dX4_applies_40 : decode cX4_applies 40 = .ok (.iconst 1, 1) := by decide +kernel
theorem dX4_applies_41 : decode cX4_applies 41 = .ok (.goto 4, 3) := by decide +kernel
theorem dX4_applies_44 : decode cX4_applies 44 = .ok (.iconst 0, 1) := by decide +kernel
theorem dX4_applies_45 : decode cX4_applies 45 = .ok (.ireturn, 1) := by decide +kernel
theorem dX4_heightAfter_0 : decode cX4_heightAfter 0 = .ok (.aload_n 0, 1) := by decide +kernel
theorem dX4_heightAfter_1 : decode cX4_heightAfter 1 = .ok (.getfield 59, 3) := by decide +kernel
theorem dX4_heightAfter_4 : decode cX4_heightAfter 4 = .ok (.iconst 1, 1) := by decide +kernel
theorem dX4_heightAfter_5 : decode cX4_heightAfter 5 = .ok (.isub, 1) := by decide +kernel
theorem dX4_heightAfter_6 : decode cX4_heightAfter 6 = .ok (.aload_n 0, 1) := by decide +kernel
theorem dX4_heightAfter_7 : decode cX4_heightAfter 7 = .ok (.getfield 21, 3) := by decide +kernel
theorem dX4_heightAfter_10 : decode cX4_heightAfter 10 = .ok (.iload_n 1, 1) := by decide +kernel
theorem dX4_heightAfter_11 : decode cX4_heightAfter 11 = .ok (.iaload, 1) := by decide +kernel
theorem dX4_heightAfter_12 : decode cX4_heightAfter 12 = .ok (.invokestatic 68, 3) := by decide +kernel
theorem dX4_heightAfter_15 : decode cX4_heightAfter 15 = .ok (.iadd, 1) := by decide +kernel
theorem dX4_heightAfter_16 : decode cX4_heightAfter 16 = .ok (.ireturn, 1) := by decide +kernel
theorem dX4_apply_0 : decode cX4_apply 0 = .ok (.aload_n 0, 1) := by decide +kernel
theorem dX4_apply_1 : decode cX4_apply 1 = .ok (.invokevirtual 72, 3) := by decide +kernel
theorem dX4_apply_4 : decode cX4_apply 4 = .ok (.pop, 1) := by decide +kernel
theorem dX4_apply_5 : decode cX4_apply 5 = .ok (.aload_n 0, 1) := by decide +kernel
theorem dX4_apply_6 : decode cX4_apply 6 = .ok (.getfield 21, 3) := by decide +kernel
theorem dX4_apply_9 : decode cX4_apply 9 = .ok (.iload_n 1, 1) := by decide +kernel
theorem dX4_apply_10 : decode cX4_apply 10 = .ok (.iaload, 1) := by decide +kernel
theorem dX4_apply_11 : decode cX4_apply 11 = .ok (.istore_n 2, 1) := by decide +kernel
theorem dX4_apply_12 : decode cX4_apply 12 = .ok (.iload_n 2, 1) := by decide +kernel
theorem dX4_apply_13 : decode cX4_apply 13 = .ok (.invokestatic 68, 3) := by decide +kernel
theorem dX4_apply_16 : decode cX4_apply 16 = .ok (.iconst 2, 1) := by decide +kernel
theorem dX4_apply_17 : decode cX4_apply 17 = .ok (.if_icmp .ne 11, 3) := by decide +kernel
theorem dX4_apply_20 : decode cX4_apply 20 = .ok (.aload_n 0, 1) := by decide +kernel
theorem dX4_apply_21 : decode cX4_apply 21 = .ok (.iload_n 2, 1) := by decide +kernel
theorem dX4_apply_22 : decode cX4_apply 22 = .ok (.invokestatic 76, 3) := by decide +kernel
theorem dX4_apply_25 : decode cX4_apply 25 = .ok (.invokevirtual 79, 3) := by decide +kernel
theorem dX4_apply_28 : decode cX4_apply 28 = .ok (.iload_n 2, 1) := by decide +kernel
theorem dX4_apply_29 : decode cX4_apply 29 = .ok (.invokestatic 68, 3) := by decide +kernel
theorem dX4_apply_32 : decode cX4_apply 32 = .ok (.ifCond .le 11, 3) := by decide +kernel
theorem dX4_apply_35 : decode cX4_apply 35 = .ok (.aload_n 0, 1) := by decide +kernel
theorem dX4_apply_36 : decode cX4_apply 36 = .ok (.iload_n 2, 1) := by decide +kernel
theorem dX4_apply_37 : decode cX4_apply 37 = .ok (.invokestatic 83, 3) := by decide +kernel
theorem dX4_apply_40 : decode cX4_apply 40 = .ok (.invokevirtual 79, 3) := by decide +kernel
theorem dX4_apply_43 : decode cX4_apply 43 = .ok (.aload_n 0, 1) := by decide +kernel
theorem dX4_apply_44 : decode cX4_apply 44 = .ok (.aload_n 0, 1) := by decide +kernel
theorem dX4_apply_45 : decode cX4_apply 45 = .ok (.getfield 18, 3) := by decide +kernel
theorem dX4_apply_48 : decode cX4_apply 48 = .ok (.iload_n 1, 1) := by decide +kernel
theorem dX4_apply_49 : decode cX4_apply 49 = .ok (.iaload, 1) := by decide +kernel
theorem dX4_apply_50 : decode cX4_apply 50 = .ok (.putfield 56, 3) := by decide +kernel
theorem dX4_apply_53 : decode cX4_apply 53 = .ok (.return_, 1) := by decide +kernel
theorem dX4_choose_0 : decode cX4_choose 0 = .ok (.aload_n 0, 1) := by decide +kernel
theorem dX4_choose_1 : decode cX4_choose 1 = .ok (.getfield 59, 3) := by decide +kernel
theorem dX4_choose_4 : decode cX4_choose 4 = .ok (.ifCond .le 25, 3) := by decide +kernel
theorem dX4_choose_7 : decode cX4_choose 7 = .ok (.aload_n 0, 1) := by decide +kernel
theorem dX4_choose_8 : decode cX4_choose 8 = .ok (.aload_n 0, 1) := by decide +kernel
theorem dX4_choose_9 : decode cX4_choose 9 = .ok (.getfield 56, 3) := by decide +kernel
theorem dX4_choose_12 : decode cX4_choose 12 = .ok (.aload_n 0, 1) := by decide +kernel
theorem dX4_choose_13 : decode cX4_choose 13 = .ok (.getfield 40, 3) := by decide +kernel
theorem dX4_choose_16 : decode cX4_choose 16 = .ok (.aload_n 0, 1) := by decide +kernel
theorem dX4_choose_17 : decode cX4_choose 17 = .ok (.getfield 59, 3) := by decide +kernel
theorem dX4_choose_20 : decode cX4_choose 20 = .ok (.iconst 1, 1) := by decide +kernel
theorem dX4_choose_21 : decode cX4_choose 21 = .ok (.isub, 1) := by decide +kernel
theorem dX4_choose_22 : decode cX4_choose 22 = .ok (.iaload, 1) := by decide +kernel
theorem dX4_choose_23 : decode cX4_choose 23 = .ok (.invokevirtual 86, 3) := by decide +kernel
theorem dX4_choose_26 : decode cX4_choose 26 = .ok (.goto 4, 3) := by decide +kernel
theorem dX4_choose_29 : decode cX4_choose 29 = .ok (.iconst 0, 1) := by decide +kernel
theorem dX4_choose_30 : decode cX4_choose 30 = .ok (.istore_n 2, 1) := by decide +kernel
theorem dX4_choose_31 : decode cX4_choose 31 = .ok (.iload_n 2, 1) := by decide +kernel
theorem dX4_choose_32 : decode cX4_choose 32 = .ok (.ifCond .ne 5, 3) := by decide +kernel
theorem dX4_choose_35 : decode cX4_choose 35 = .ok (.iconst (-1), 1) := by decide +kernel
theorem dX4_choose_36 : decode cX4_choose 36 = .ok (.ireturn, 1) := by decide +kernel
theorem dX4_choose_37 : decode cX4_choose 37 = .ok (.iload_n 1, 1) := by decide +kernel
theorem dX4_choose_38 : decode cX4_choose 38 = .ok (.iload_n 2, 1) := by decide +kernel
theorem dX4_choose_39 : decode cX4_choose 39 = .ok (.irem, 1) := by decide +kernel
theorem dX4_choose_40 : decode cX4_choose 40 = .ok (.istore_n 3, 1) := by decide +kernel
theorem dX4_choose_41 : decode cX4_choose 41 = .ok (.iconst 0, 1) := by decide +kernel
theorem dX4_choose_42 : decode cX4_choose 42 = .ok (.istore 4, 2) := by decide +kernel
theorem dX4_choose_44 : decode cX4_choose 44 = .ok (.iload 4, 2) := by decide +kernel
theorem dX4_choose_46 : decode cX4_choose 46 = .ok (.aload_n 0, 1) := by decide +kernel
theorem dX4_choose_47 : decode cX4_choose 47 = .ok (.getfield 47, 3) := by decide +kernel
theorem dX4_choose_50 : decode cX4_choose 50 = .ok (.if_icmp .ge 28, 3) := by decide +kernel
theorem dX4_choose_53 : decode cX4_choose 53 = .ok (.aload_n 0, 1) := by decide +kernel
theorem dX4_choose_54 : decode cX4_choose 54 = .ok (.iload 4, 2) := by decide +kernel
theorem dX4_choose_56 : decode cX4_choose 56 = .ok (.invokevirtual 90, 3) := by decide +kernel
theorem dX4_choose_59 : decode cX4_choose 59 = .ok (.ifCond .eq 13, 3) := by decide +kernel
theorem dX4_choose_62 : decode cX4_choose 62 = .ok (.iload_n 3, 1) := by decide +kernel
theorem dX4_choose_63 : decode cX4_choose 63 = .ok (.ifCond .ne 6, 3) := by decide +kernel
theorem dX4_choose_66 : decode cX4_choose 66 = .ok (.iload 4, 2) := by decide +kernel
theorem dX4_choose_68 : decode cX4_choose 68 = .ok (.ireturn, 1) := by decide +kernel
theorem dX4_choose_69 : decode cX4_choose 69 = .ok (.iinc 3 (-1), 3) := by decide +kernel
theorem dX4_choose_72 : decode cX4_choose 72 = .ok (.iinc 4 1, 3) := by decide +kernel
theorem dX4_choose_75 : decode cX4_choose 75 = .ok (.goto (-31), 3) := by decide +kernel
theorem dX4_choose_78 : decode cX4_choose 78 = .ok (.iconst (-1), 1) := by decide +kernel
theorem dX4_choose_79 : decode cX4_choose 79 = .ok (.ireturn, 1) := by decide +kernel
theorem dX5_init_0 : decode cX5_init 0 = .ok (.aload_n 0, 1) := by decide +kernel
theorem dX5_init_1 : decode cX5_init 1 = .ok (.invokespecial 3, 3) := by decide +kernel
theorem dX5_init_4 : decode cX5_init 4 = .ok (.aload_n 0, 1) := by decide +kernel
theorem dX5_init_5 : decode cX5_init 5 = .ok (.new 9, 3) := by decide +kernel
theorem dX5_init_8 : decode cX5_init 8 = .ok (.dup, 1) := by decide +kernel
theorem dX5_init_9 : decode cX5_init 9 = .ok (.invokespecial 11, 3) := by decide +kernel
theorem dX5_init_12 : decode cX5_init 12 = .ok (.putfield 12, 3) := by decide +kernel
theorem dX5_init_15 : decode cX5_init 15 = .ok (.aload_n 0, 1) := by decide +kernel
theorem dX5_init_16 : decode cX5_init 16 = .ok (.new 16, 3) := by decide +kernel
theorem dX5_init_19 : decode cX5_init 19 = .ok (.dup, 1) := by decide +kernel
theorem dX5_init_20 : decode cX5_init 20 = .ok (.invokespecial 18, 3) := by decide +kernel
theorem dX5_init_23 : decode cX5_init 23 = .ok (.putfield 19, 3) := by decide +kernel
theorem dX5_init_26 : decode cX5_init 26 = .ok (.aload_n 0, 1) := by decide +kernel
theorem dX5_init_27 : decode cX5_init 27 = .ok (.new 16, 3) := by decide +kernel
theorem dX5_init_30 : decode cX5_init 30 = .ok (.dup, 1) := by decide +kernel
theorem dX5_init_31 : decode cX5_init 31 = .ok (.invokespecial 18, 3) := by decide +kernel
theorem dX5_init_34 : decode cX5_init 34 = .ok (.putfield 23, 3) := by decide +kernel
theorem dX5_init_37 : decode cX5_init 37 = .ok (.aload_n 0, 1) := by decide +kernel
theorem dX5_init_38 : decode cX5_init 38 = .ok (.bipush 8, 2) := by decide +kernel
theorem dX5_init_40 : decode cX5_init 40 = .ok (.anewarray 16, 3) := by decide +kernel
theorem dX5_init_43 : decode cX5_init 43 = .ok (.putfield 26, 3) := by decide +kernel
theorem dX5_init_46 : decode cX5_init 46 = .ok (.aload_n 0, 1) := by decide +kernel
theorem dX5_init_47 : decode cX5_init 47 = .ok (.iconst 2, 1) := by decide +kernel
theorem dX5_init_48 : decode cX5_init 48 = .ok (.anewarray 16, 3) := by decide +kernel
theorem dX5_init_51 : decode cX5_init 51 = .ok (.putfield 30, 3) := by decide +kernel
theorem dX5_init_54 : decode cX5_init 54 = .ok (.aload_n 0, 1) := by decide +kernel
theorem dX5_init_55 : decode cX5_init 55 = .ok (.new 33, 3) := by decide +kernel
theorem dX5_init_58 : decode cX5_init 58 = .ok (.dup, 1) := by decide +kernel
theorem dX5_init_59 : decode cX5_init 59 = .ok (.invokespecial 35, 3) := by decide +kernel
theorem dX5_init_62 : decode cX5_init 62 = .ok (.putfield 36, 3) := by decide +kernel
theorem dX5_init_65 : decode cX5_init 65 = .ok (.aload_n 0, 1) := by decide +kernel
theorem dX5_init_66 : decode cX5_init 66 = .ok (.new 33, 3) := by decide +kernel
theorem dX5_init_69 : decode cX5_init 69 = .ok (.dup, 1) := by decide +kernel
theorem dX5_init_70 : decode cX5_init 70 = .ok (.invokespecial 35, 3) := by decide +kernel
theorem dX5_init_73 : decode cX5_init 73 = .ok (.putfield 40, 3) := by decide +kernel
theorem dX5_init_76 : decode cX5_init 76 = .ok (.aload_n 0, 1) := by decide +kernel
theorem dX5_init_77 : decode cX5_init 77 = .ok (.new 33, 3) := by decide +kernel
theorem dX5_init_80 : decode cX5_init 80 = .ok (.dup, 1) := by decide +kernel
theorem dX5_init_81 : decode cX5_init 81 = .ok (.invokespecial 35, 3) := by decide +kernel
theorem dX5_init_84 : decode cX5_init 84 = .ok (.putfield 43, 3) := by decide +kernel
theorem dX5_init_87 : decode cX5_init 87 = .ok (.aload_n 0, 1) := by decide +kernel
theorem dX5_init_88 : decode cX5_init 88 = .ok (.new 46, 3) := by decide +kernel
theorem dX5_init_91 : decode cX5_init 91 = .ok (.dup, 1) := by decide +kernel
theorem dX5_init_92 : decode cX5_init 92 = .ok (.invokespecial 48, 3) := by decide +kernel
theorem dX5_init_95 : decode cX5_init 95 = .ok (.putfield 49, 3) := by decide +kernel
theorem dX5_init_98 : decode cX5_init 98 = .ok (.aload_n 0, 1) := by decide +kernel
theorem dX5_init_99 : decode cX5_init 99 = .ok (.new 53, 3) := by decide +kernel
theorem dX5_init_102 : decode cX5_init 102 = .ok (.dup, 1) := by decide +kernel
theorem dX5_init_103 : decode cX5_init 103 = .ok (.invokespecial 55, 3) := by decide +kernel
theorem dX5_init_106 : decode cX5_init 106 = .ok (.putfield 56, 3) := by decide +kernel
theorem dX5_init_109 : decode cX5_init 109 = .ok (.iconst 0, 1) := by decide +kernel
theorem dX5_init_110 : decode cX5_init 110 = .ok (.istore_n 1, 1) := by decide +kernel
theorem dX5_init_111 : decode cX5_init 111 = .ok (.iload_n 1, 1) := by decide +kernel
theorem dX5_init_112 : decode cX5_init 112 = .ok (.bipush 8, 2) := by decide +kernel
theorem dX5_init_114 : decode cX5_init 114 = .ok (.if_icmp .ge 22, 3) := by decide +kernel
theorem dX5_init_117 : decode cX5_init 117 = .ok (.aload_n 0, 1) := by decide +kernel
theorem dX5_init_118 : decode cX5_init 118 = .ok (.getfield 26, 3) := by decide +kernel
theorem dX5_init_121 : decode cX5_init 121 = .ok (.iload_n 1, 1) := by decide +kernel
theorem dX5_init_122 : decode cX5_init 122 = .ok (.new 16, 3) := by decide +kernel
theorem dX5_init_125 : decode cX5_init 125 = .ok (.dup, 1) := by decide +kernel
theorem dX5_init_126 : decode cX5_init 126 = .ok (.invokespecial 18, 3) := by decide +kernel
theorem dX5_init_129 : decode cX5_init 129 = .ok (.aastore, 1) := by decide +kernel
theorem dX5_init_130 : decode cX5_init 130 = .ok (.iinc 1 1, 3) := by decide +kernel
theorem dX5_init_133 : decode cX5_init 133 = .ok (.goto (-22), 3) := by decide +kernel
theorem dX5_init_136 : decode cX5_init 136 = .ok (.iconst 0, 1) := by decide +kernel
theorem dX5_init_137 : decode cX5_init 137 = .ok (.istore_n 1, 1) := by decide +kernel
theorem dX5_init_138 : decode cX5_init 138 = .ok (.iload_n 1, 1) := by decide +kernel
theorem dX5_init_139 : decode cX5_init 139 = .ok (.iconst 2, 1) := by decide +kernel
theorem dX5_init_140 : decode cX5_init 140 = .ok (.if_icmp .ge 22, 3) := by decide +kernel
theorem dX5_init_143 : decode cX5_init 143 = .ok (.aload_n 0, 1) := by decide +kernel
theorem dX5_init_144 : decode cX5_init 144 = .ok (.getfield 30, 3) := by decide +kernel
theorem dX5_init_147 : decode cX5_init 147 = .ok (.iload_n 1, 1) := by decide +kernel
theorem dX5_init_148 : decode cX5_init 148 = .ok (.new 16, 3) := by decide +kernel
theorem dX5_init_151 : decode cX5_init 151 = .ok (.dup, 1) := by decide +kernel
theorem dX5_init_152 : decode cX5_init 152 = .ok (.invokespecial 18, 3) := by decide +kernel
theorem dX5_init_155 : decode cX5_init 155 = .ok (.aastore, 1) := by decide +kernel
theorem dX5_init_156 : decode cX5_init 156 = .ok (.iinc 1 1, 3) := by decide +kernel
theorem dX5_init_159 : decode cX5_init 159 = .ok (.goto (-21), 3) := by decide +kernel
theorem dX5_init_162 : decode cX5_init 162 = .ok (.iconst 0, 1) := by decide +kernel
theorem dX5_init_163 : decode cX5_init 163 = .ok (.istore_n 1, 1) := by decide +kernel
theorem dX5_init_164 : decode cX5_init 164 = .ok (.iload_n 1, 1) := by decide +kernel
theorem dX5_init_165 : decode cX5_init 165 = .ok (.ldc 60, 2) := by decide +kernel
theorem dX5_init_167 : decode cX5_init 167 = .ok (.invokevirtual 62, 3) := by decide +kernel
theorem dX5_init_170 : decode cX5_init 170 = .ok (.if_icmp .ge 23, 3) := by decide +kernel
theorem dX5_init_173 : decode cX5_init 173 = .ok (.aload_n 0, 1) := by decide +kernel
theorem dX5_init_174 : decode cX5_init 174 = .ok (.getfield 12, 3) := by decide +kernel
theorem dX5_init_177 : decode cX5_init 177 = .ok (.ldc 60, 2) := by decide +kernel
theorem dX5_init_179 : decode cX5_init 179 = .ok (.iload_n 1, 1) := by decide +kernel
theorem dX5_init_180 : decode cX5_init 180 = .ok (.invokevirtual 68, 3) := by decide +kernel
theorem dX5_init_183 : decode cX5_init 183 = .ok (.invokevirtual 72, 3) := by decide +kernel
theorem dX5_init_186 : decode cX5_init 186 = .ok (.pop, 1) := by decide +kernel
theorem dX5_init_187 : decode cX5_init 187 = .ok (.iinc 1 1, 3) := by decide +kernel
theorem dX5_init_190 : decode cX5_init 190 = .ok (.goto (-26), 3) := by decide +kernel
theorem dX5_init_193 : decode cX5_init 193 = .ok (.aload_n 0, 1) := by decide +kernel
theorem dX5_init_194 : decode cX5_init 194 = .ok (.getfield 12, 3) := by decide +kernel
theorem dX5_init_197 : decode cX5_init 197 = .ok (.aload_n 0, 1) := by decide +kernel
theorem dX5_init_198 : decode cX5_init 198 = .ok (.getfield 19, 3) := by decide +kernel
theorem dX5_init_201 : decode cX5_init 201 = .ok (.invokevirtual 76, 3) := by decide +kernel
theorem dX5_init_204 : decode cX5_init 204 = .ok (.pop, 1) := by decide +kernel
theorem dX5_init_205 : decode cX5_init 205 = .ok (.aload_n 0, 1) := by decide +kernel
theorem dX5_init_206 : decode cX5_init 206 = .ok (.getfield 12, 3) := by decide +kernel
theorem dX5_init_209 : decode cX5_init 209 = .ok (.invokevirtual 80, 3) := by decide +kernel
theorem dX5_init_212 : decode cX5_init 212 = .ok (.return_, 1) := by decide +kernel
theorem dX5_write_0 : decode cX5_write 0 = .ok (.iload_n 1, 1) := by decide +kernel
theorem dX5_write_1 : decode cX5_write 1 = .ok (.bipush 32, 2) := by decide +kernel
theorem dX5_write_3 : decode cX5_write 3 = .ok (.if_icmp .lt 9, 3) := by decide +kernel
theorem dX5_write_6 : decode cX5_write 6 = .ok (.iload_n 1, 1) := by decide +kernel
theorem dX5_write_7 : decode cX5_write 7 = .ok (.bipush 126, 2) := by decide +kernel
theorem dX5_write_9 : decode cX5_write 9 = .ok (.if_icmp .le 5, 3) := by decide +kernel
theorem dX5_write_12 : decode cX5_write 12 = .ok (.iconst (-1), 1) := by decide +kernel
theorem dX5_write_13 : decode cX5_write 13 = .ok (.ireturn, 1) := by decide +kernel
theorem dX5_write_14 : decode cX5_write 14 = .ok (.aload_n 0, 1) := by decide +kernel
theorem dX5_write_15 : decode cX5_write 15 = .ok (.getfield 12, 3) := by decide +kernel
theorem dX5_write_18 : decode cX5_write 18 = .ok (.iload_n 1, 1) := by decide +kernel
theorem dX5_write_19 : decode cX5_write 19 = .ok (.i2c, 1) := by decide +kernel
theorem dX5_write_20 : decode cX5_write 20 = .ok (.invokevirtual 72, 3) := by decide +kernel
theorem dX5_write_23 : decode cX5_write 23 = .ok (.ifCond .eq 13, 3) := by decide +kernel
theorem dX5_write_26 : decode cX5_write 26 = .ok (.aload_n 0, 1) := by decide +kernel
theorem dX5_write_27 : decode cX5_write 27 = .ok (.getfield 12, 3) := by decide +kernel
theorem dX5_write_30 : decode cX5_write 30 = .ok (.getfield 83, 3) := by decide +kernel
theorem dX5_write_33 : decode cX5_write 33 = .ok (.goto 5, 3) := by decide +kernel
theorem dX5_write_36 : decode cX5_write 36 = .ok (.bipush (-3), 2) := by decide +kernel
theorem dX5_write_38 : decode cX5_write 38 = .ok (.ireturn, 1) := by decide +kernel
theorem dX5_wipe_0 : decode cX5_wipe 0 = .ok (.aload_n 0, 1) := by decide +kernel
theorem dX5_wipe_1 : decode cX5_wipe 1 = .ok (.getfield 12, 3) := by decide +kernel
theorem dX5_wipe_4 : decode cX5_wipe 4 = .ok (.getfield 83, 3) := by decide +kernel
theorem dX5_wipe_7 : decode cX5_wipe 7 = .ok (.istore_n 1, 1) := by decide +kernel
theorem dX5_wipe_8 : decode cX5_wipe 8 = .ok (.aload_n 0, 1) := by decide +kernel
theorem dX5_wipe_9 : decode cX5_wipe 9 = .ok (.getfield 12, 3) := by decide +kernel
theorem dX5_wipe_12 : decode cX5_wipe 12 = .ok (.invokevirtual 80, 3) := by decide +kernel
theorem dX5_wipe_15 : decode cX5_wipe 15 = .ok (.iload_n 1, 1) := by decide +kernel
theorem dX5_wipe_16 : decode cX5_wipe 16 = .ok (.ireturn, 1) := by decide +kernel
theorem dX5_fault_0 : decode cX5_fault 0 = .ok (.aload_n 0, 1) := by decide +kernel
theorem dX5_fault_1 : decode cX5_fault 1 = .ok (.getfield 12, 3) := by decide +kernel
theorem dX5_fault_4 : decode cX5_fault 4 = .ok (.aload_n 0, 1) := by decide +kernel
theorem dX5_fault_5 : decode cX5_fault 5 = .ok (.getfield 23, 3) := by decide +kernel
theorem dX5_fault_8 : decode cX5_fault 8 = .ok (.invokevirtual 76, 3) := by decide +kernel
theorem dX5_fault_11 : decode cX5_fault 11 = .ok (.ireturn, 1) := by decide +kernel
theorem dX5_lay_0 : decode cX5_lay 0 = .ok (.aload_n 0, 1) := by decide +kernel
theorem dX5_lay_1 : decode cX5_lay 1 = .ok (.getfield 12, 3) := by decide +kernel
theorem dX5_lay_4 : decode cX5_lay 4 = .ok (.aload_n 0, 1) := by decide +kernel
theorem dX5_lay_5 : decode cX5_lay 5 = .ok (.getfield 23, 3) := by decide +kernel
theorem dX5_lay_8 : decode cX5_lay 8 = .ok (.invokevirtual 76, 3) := by decide +kernel
theorem dX5_lay_11 : decode cX5_lay 11 = .ok (.bipush (-4), 2) := by decide +kernel
theorem dX5_lay_13 : decode cX5_lay 13 = .ok (.if_icmp .ne 13, 3) := by decide +kernel
theorem dX5_lay_16 : decode cX5_lay 16 = .ok (.aload_n 0, 1) := by decide +kernel
theorem dX5_lay_17 : decode cX5_lay 17 = .ok (.getfield 23, 3) := by decide +kernel
theorem dX5_lay_20 : decode cX5_lay 20 = .ok (.getfield 86, 3) := by decide +kernel
theorem dX5_lay_23 : decode cX5_lay 23 = .ok (.ifCond .ne 6, 3) := by decide +kernel
theorem dX5_lay_26 : decode cX5_lay 26 = .ok (.bipush (-2), 2) := by decide +kernel
theorem dX5_lay_28 : decode cX5_lay 28 = .ok (.ireturn, 1) := by decide +kernel
theorem dX5_lay_29 : decode cX5_lay 29 = .ok (.aload_n 0, 1) := by decide +kernel
theorem dX5_lay_30 : decode cX5_lay 30 = .ok (.getfield 19, 3) := by decide +kernel
theorem dX5_lay_33 : decode cX5_lay 33 = .ok (.aload_n 0, 1) := by decide +kernel
theorem dX5_lay_34 : decode cX5_lay 34 = .ok (.getfield 23, 3) := by decide +kernel
theorem dX5_lay_37 : decode cX5_lay 37 = .ok (.invokevirtual 89, 3) := by decide +kernel
theorem dX5_lay_40 : decode cX5_lay 40 = .ok (.aload_n 0, 1) := by decide +kernel
theorem dX5_lay_41 : decode cX5_lay 41 = .ok (.iconst 0, 1) := by decide +kernel
theorem dX5_lay_42 : decode cX5_lay 42 = .ok (.putfield 93, 3) := by decide +kernel
theorem dX5_lay_45 : decode cX5_lay 45 = .ok (.aload_n 0, 1) := by decide +kernel
theorem dX5_lay_46 : decode cX5_lay 46 = .ok (.iconst 0, 1) := by decide +kernel
theorem dX5_lay_47 : decode cX5_lay 47 = .ok (.putfield 96, 3) := by decide +kernel
theorem dX5_lay_50 : decode cX5_lay 50 = .ok (.aload_n 0, 1) := by decide +kernel
theorem dX5_lay_51 : decode cX5_lay 51 = .ok (.invokevirtual 99, 3) := by decide +kernel
theorem dX5_lay_54 : decode cX5_lay 54 = .ok (.aload_n 0, 1) := by decide +kernel
theorem dX5_lay_55 : decode cX5_lay 55 = .ok (.getfield 19, 3) := by decide +kernel
theorem dX5_lay_58 : decode cX5_lay 58 = .ok (.getfield 86, 3) := by decide +kernel
theorem dX5_lay_61 : decode cX5_lay 61 = .ok (.ireturn, 1) := by decide +kernel
theorem dX5_rule_0 : decode cX5_rule 0 = .ok (.aload_n 0, 1) := by decide +kernel
theorem dX5_rule_1 : decode cX5_rule 1 = .ok (.iload_n 1, 1) := by decide +kernel
theorem dX5_rule_2 : decode cX5_rule 2 = .ok (.invokevirtual 102, 3) := by decide +kernel
theorem dX5_rule_5 : decode cX5_rule 5 = .ok (.ifCond .ne 5, 3) := by decide +kernel
theorem dX5_rule_8 : decode cX5_rule 8 = .ok (.iconst (-1), 1) := by decide +kernel
theorem dX5_rule_9 : decode cX5_rule 9 = .ok (.ireturn, 1) := by decide +kernel
theorem dX5_rule_10 : decode cX5_rule 10 = .ok (.iload_n 2, 1) := by decide +kernel
theorem dX5_rule_11 : decode cX5_rule 11 = .ok (.tableswitch 120 0 6 #[41, 51, 61, 71, 84, 97, 110], 41) := by decide +kernel
theorem dX5_rule_52 : decode cX5_rule 52 = .ok (.aload_n 0, 1) := by decide +kernel
theorem dX5_rule_53 : decode cX5_rule 53 = .ok (.getfield 19, 3) := by decide +kernel
theorem dX5_rule_56 : decode cX5_rule 56 = .ok (.getfield 106, 3) := by decide +kernel
theorem dX5_rule_59 : decode cX5_rule 59 = .ok (.iload_n 1, 1) := by decide +kernel
theorem dX5_rule_60 : decode cX5_rule 60 = .ok (.iaload, 1) := by decide +kernel
theorem dX5_rule_61 : decode cX5_rule 61 = .ok (.ireturn, 1) := by decide +kernel
theorem dX5_rule_62 : decode cX5_rule 62 = .ok (.aload_n 0, 1) := by decide +kernel
theorem dX5_rule_63 : decode cX5_rule 63 = .ok (.getfield 19, 3) := by decide +kernel
theorem dX5_rule_66 : decode cX5_rule 66 = .ok (.getfield 110, 3) := by decide +kernel
theorem dX5_rule_69 : decode cX5_rule 69 = .ok (.iload_n 1, 1) := by decide +kernel
theorem dX5_rule_70 : decode cX5_rule 70 = .ok (.iaload, 1) := by decide +kernel
theorem dX5_rule_71 : decode cX5_rule 71 = .ok (.ireturn, 1) := by decide +kernel
theorem dX5_rule_72 : decode cX5_rule 72 = .ok (.aload_n 0, 1) := by decide +kernel
theorem dX5_rule_73 : decode cX5_rule 73 = .ok (.getfield 19, 3) := by decide +kernel
theorem dX5_rule_76 : decode cX5_rule 76 = .ok (.getfield 113, 3) := by decide +kernel
theorem dX5_rule_79 : decode cX5_rule 79 = .ok (.iload_n 1, 1) := by decide +kernel
theorem dX5_rule_80 : decode cX5_rule 80 = .ok (.iaload, 1) := by decide +kernel
theorem dX5_rule_81 : decode cX5_rule 81 = .ok (.ireturn, 1) := by decide +kernel
theorem dX5_rule_82 : decode cX5_rule 82 = .ok (.aload_n 0, 1) := by decide +kernel
theorem dX5_rule_83 : decode cX5_rule 83 = .ok (.getfield 19, 3) := by decide +kernel
theorem dX5_rule_86 : decode cX5_rule 86 = .ok (.getfield 116, 3) := by decide +kernel
theorem dX5_rule_89 : decode cX5_rule 89 = .ok (.iload_n 1, 1) := by decide +kernel
theorem dX5_rule_90 : decode cX5_rule 90 = .ok (.iaload, 1) := by decide +kernel
theorem dX5_rule_91 : decode cX5_rule 91 = .ok (.invokestatic 119, 3) := by decide +kernel
theorem dX5_rule_94 : decode cX5_rule 94 = .ok (.ireturn, 1) := by decide +kernel
theorem dX5_rule_95 : decode cX5_rule 95 = .ok (.aload_n 0, 1) := by decide +kernel
theorem dX5_rule_96 : decode cX5_rule 96 = .ok (.getfield 19, 3) := by decide +kernel
theorem dX5_rule_99 : decode cX5_rule 99 = .ok (.getfield 116, 3) := by decide +kernel
theorem dX5_rule_102 : decode cX5_rule 102 = .ok (.iload_n 1, 1) := by decide +kernel
theorem dX5_rule_103 : decode cX5_rule 103 = .ok (.iaload, 1) := by decide +kernel
theorem dX5_rule_104 : decode cX5_rule 104 = .ok (.invokestatic 123, 3) := by decide +kernel
theorem dX5_rule_107 : decode cX5_rule 107 = .ok (.ireturn, 1) := by decide +kernel
theorem dX5_rule_108 : decode cX5_rule 108 = .ok (.aload_n 0, 1) := by decide +kernel
theorem dX5_rule_109 : decode cX5_rule 109 = .ok (.getfield 19, 3) := by decide +kernel
theorem dX5_rule_112 : decode cX5_rule 112 = .ok (.getfield 116, 3) := by decide +kernel
theorem dX5_rule_115 : decode cX5_rule 115 = .ok (.iload_n 1, 1) := by decide +kernel
theorem dX5_rule_116 : decode cX5_rule 116 = .ok (.iaload, 1) := by decide +kernel
theorem dX5_rule_117 : decode cX5_rule 117 = .ok (.invokestatic 126, 3) := by decide +kernel
theorem dX5_rule_120 : decode cX5_rule 120 = .ok (.ireturn, 1) := by decide +kernel
theorem dX5_rule_121 : decode cX5_rule 121 = .ok (.aload_n 0, 1) := by decide +kernel
theorem dX5_rule_122 : decode cX5_rule 122 = .ok (.getfield 19, 3) := by decide +kernel
theorem dX5_rule_125 : decode cX5_rule 125 = .ok (.getfield 129, 3) := by decide +kernel
theorem dX5_rule_128 : decode cX5_rule 128 = .ok (.iload_n 1, 1) := by decide +kernel
theorem dX5_rule_129 : decode cX5_rule 129 = .ok (.iaload, 1) := by decide +kernel
theorem dX5_rule_130 : decode cX5_rule 130 = .ok (.ireturn, 1) := by decide +kernel
theorem dX5_rule_131 : decode cX5_rule 131 = .ok (.iconst (-1), 1) := by decide +kernel
theorem dX5_rule_132 : decode cX5_rule 132 = .ok (.ireturn, 1) := by decide +kernel
theorem dX5_target_0 : decode cX5_target 0 = .ok (.iload_n 1, 1) := by decide +kernel
theorem dX5_target_1 : decode cX5_target 1 = .ok (.ifCond .lt 23, 3) := by decide +kernel
theorem dX5_target_4 : decode cX5_target 4 = .ok (.iload_n 1, 1) := by decide +kernel
theorem dX5_target_5 : decode cX5_target 5 = .ok (.aload_n 0, 1) := by decide +kernel
theorem dX5_target_6 : decode cX5_target 6 = .ok (.getfield 19, 3) := by decide +kernel
theorem dX5_target_9 : decode cX5_target 9 = .ok (.getfield 132, 3) := by decide +kernel
theorem dX5_target_12 : decode cX5_target 12 = .ok (.if_icmp .ge 12, 3) := by decide +kernel
theorem dX5_target_15 : decode cX5_target 15 = .ok (.iload_n 2, 1) := by decide +kernel
theorem dX5_target_16 : decode cX5_target 16 = .ok (.ifCond .lt 8, 3) := by decide +kernel
theorem dX5_target_19 : decode cX5_target 19 = .ok (.iload_n 2, 1) := by decide +kernel
theorem dX5_target_20 : decode cX5_target 20 = .ok (.iconst 5, 1) := by decide +kernel
theorem dX5_target_21 : decode cX5_target 21 = .ok (.if_icmp .le 5, 3) := by decide +kernel
theorem dX5_target_24 : decode cX5_target 24 = .ok (.iconst (-1), 1) := by decide +kernel
theorem dX5_target_25 : decode cX5_target 25 = .ok (.ireturn, 1) := by decide +kernel
theorem dX5_target_26 : decode cX5_target 26 = .ok (.iload_n 2, 1) := by decide +kernel
theorem dX5_target_27 : decode cX5_target 27 = .ok (.tableswitch 63 0 2 #[25, 35, 45], 25) := by decide +kernel
theorem dX5_target_52 : decode cX5_target 52 = .ok (.aload_n 0, 1) := by decide +kernel
theorem dX5_target_53 : decode cX5_target 53 = .ok (.getfield 19, 3) := by decide +kernel
theorem dX5_target_56 : decode cX5_target 56 = .ok (.getfield 135, 3) := by decide +kernel
theorem dX5_target_59 : decode cX5_target 59 = .ok (.iload_n 1, 1) := by decide +kernel
theorem dX5_target_60 : decode cX5_target 60 = .ok (.iaload, 1) := by decide +kernel
theorem dX5_target_61 : decode cX5_target 61 = .ok (.ireturn, 1) := by decide +kernel
theorem dX5_target_62 : decode cX5_target 62 = .ok (.aload_n 0, 1) := by decide +kernel
theorem dX5_target_63 : decode cX5_target 63 = .ok (.getfield 19, 3) := by decide +kernel
theorem dX5_target_66 : decode cX5_target 66 = .ok (.getfield 138, 3) := by decide +kernel
theorem dX5_target_69 : decode cX5_target 69 = .ok (.iload_n 1, 1) := by decide +kernel
theorem dX5_target_70 : decode cX5_target 70 = .ok (.iaload, 1) := by decide +kernel
theorem dX5_target_71 : decode cX5_target 71 = .ok (.ireturn, 1) := by decide +kernel
theorem dX5_target_72 : decode cX5_target 72 = .ok (.aload_n 0, 1) := by decide +kernel
theorem dX5_target_73 : decode cX5_target 73 = .ok (.getfield 19, 3) := by decide +kernel
theorem dX5_target_76 : decode cX5_target 76 = .ok (.getfield 141, 3) := by decide +kernel
theorem dX5_target_79 : decode cX5_target 79 = .ok (.iload_n 1, 1) := by decide +kernel
theorem dX5_target_80 : decode cX5_target 80 = .ok (.baload, 1) := by decide +kernel
theorem dX5_target_81 : decode cX5_target 81 = .ok (.ifCond .eq 7, 3) := by decide +kernel
theorem dX5_target_84 : decode cX5_target 84 = .ok (.iconst 1, 1) := by decide +kernel
theorem dX5_target_85 : decode cX5_target 85 = .ok (.goto 4, 3) := by decide +kernel
theorem dX5_target_88 : decode cX5_target 88 = .ok (.iconst 0, 1) := by decide +kernel
theorem dX5_target_89 : decode cX5_target 89 = .ok (.ireturn, 1) := by decide +kernel
theorem dX5_target_90 : decode cX5_target 90 = .ok (.iload_n 2, 1) := by decide +kernel
theorem dX5_target_91 : decode cX5_target 91 = .ok (.iconst 3, 1) := by decide +kernel
theorem dX5_target_92 : decode cX5_target 92 = .ok (.isub, 1) := by decide +kernel
theorem dX5_target_93 : decode cX5_target 93 = .ok (.aload_n 0, 1) := by decide +kernel
theorem dX5_target_94 : decode cX5_target 94 = .ok (.getfield 19, 3) := by decide +kernel
theorem dX5_target_97 : decode cX5_target 97 = .ok (.getfield 138, 3) := by decide +kernel
theorem dX5_target_100 : decode cX5_target 100 = .ok (.iload_n 1, 1) := by decide +kernel
theorem dX5_target_101 : decode cX5_target 101 = .ok (.iaload, 1) := by decide +kernel
theorem dX5_target_102 : decode cX5_target 102 = .ok (.if_icmp .ge 21, 3) := by decide +kernel
theorem dX5_target_105 : decode cX5_target 105 = .ok (.aload_n 0, 1) := by decide +kernel
theorem dX5_target_106 : decode cX5_target 106 = .ok (.getfield 19, 3) := by decide +kernel
theorem dX5_target_109 : decode cX5_target 109 = .ok (.getfield 145, 3) := by decide +kernel
theorem dX5_target_112 : decode cX5_target 112 = .ok (.iload_n 1, 1) := by decide +kernel
theorem dX5_target_113 : decode cX5_target 113 = .ok (.iconst 3, 1) := by decide +kernel
theorem dX5_target_114 : decode cX5_target 114 = .ok (.imul, 1) := by decide +kernel
theorem dX5_target_115 : decode cX5_target 115 = .ok (.iload_n 2, 1) := by decide +kernel
theorem dX5_target_116 : decode cX5_target 116 = .ok (.iadd, 1) := by decide +kernel
theorem dX5_target_117 : decode cX5_target 117 = .ok (.iconst 3, 1) := by decide +kernel
theorem dX5_target_118 : decode cX5_target 118 = .ok (.isub, 1) := by decide +kernel
theorem dX5_target_119 : decode cX5_target 119 = .ok (.iaload, 1) := by decide +kernel
theorem dX5_target_120 : decode cX5_target 120 = .ok (.goto 5, 3) := by decide +kernel
theorem dX5_target_123 : decode cX5_target 123 = .ok (.bipush (-4), 2) := by decide +kernel
theorem dX5_target_125 : decode cX5_target 125 = .ok (.ireturn, 1) := by decide +kernel
theorem dX5_stack_0 : decode cX5_stack 0 = .ok (.iload_n 1, 1) := by decide +kernel
theorem dX5_stack_1 : decode cX5_stack 1 = .ok (.bipush (-2), 2) := by decide +kernel
theorem dX5_stack_3 : decode cX5_stack 3 = .ok (.if_icmp .ge 5, 3) := by decide +kernel
theorem dX5_stack_6 : decode cX5_stack 6 = .ok (.iconst (-1), 1) := by decide +kernel
theorem dX5_stack_7 : decode cX5_stack 7 = .ok (.ireturn, 1) := by decide +kernel
theorem dX5_stack_8 : decode cX5_stack 8 = .ok (.iload_n 1, 1) := by decide +kernel
theorem dX5_stack_9 : decode cX5_stack 9 = .ok (.bipush (-2), 2) := by decide +kernel
theorem dX5_stack_11 : decode cX5_stack 11 = .ok (.if_icmp .ne 11, 3) := by decide +kernel
theorem dX5_stack_14 : decode cX5_stack 14 = .ok (.aload_n 0, 1) := by decide +kernel
theorem dX5_stack_15 : decode cX5_stack 15 = .ok (.getfield 19, 3) := by decide +kernel
theorem dX5_stack_18 : decode cX5_stack 18 = .ok (.getfield 148, 3) := by decide +kernel
theorem dX5_stack_21 : decode cX5_stack 21 = .ok (.ireturn, 1) := by decide +kernel
theorem dX5_stack_22 : decode cX5_stack 22 = .ok (.iload_n 1, 1) := by decide +kernel
theorem dX5_stack_23 : decode cX5_stack 23 = .ok (.iconst (-1), 1) := by decide +kernel
theorem dX5_stack_24 : decode cX5_stack 24 = .ok (.if_icmp .ne 11, 3) := by decide +kernel
theorem dX5_stack_27 : decode cX5_stack 27 = .ok (.aload_n 0, 1) := by decide +kernel
theorem dX5_stack_28 : decode cX5_stack 28 = .ok (.getfield 19, 3) := by decide +kernel
theorem dX5_stack_31 : decode cX5_stack 31 = .ok (.getfield 151, 3) := by decide +kernel
theorem dX5_stack_34 : decode cX5_stack 34 = .ok (.ireturn, 1) := by decide +kernel
theorem dX5_stack_35 : decode cX5_stack 35 = .ok (.iload_n 1, 1) := by decide +kernel
theorem dX5_stack_36 : decode cX5_stack 36 = .ok (.aload_n 0, 1) := by decide +kernel
theorem dX5_stack_37 : decode cX5_stack 37 = .ok (.getfield 19, 3) := by decide +kernel
theorem dX5_stack_40 : decode cX5_stack 40 = .ok (.getfield 151, 3) := by decide +kernel
theorem dX5_stack_43 : decode cX5_stack 43 = .ok (.if_icmp .ge 25, 3) := by decide +kernel
theorem dX5_stack_46 : decode cX5_stack 46 = .ok (.aload_n 0, 1) := by decide +kernel
theorem dX5_stack_47 : decode cX5_stack 47 = .ok (.getfield 19, 3) := by decide +kernel
theorem dX5_stack_50 : decode cX5_stack 50 = .ok (.getfield 154, 3) := by decide +kernel
theorem dX5_stack_53 : decode cX5_stack 53 = .ok (.aload_n 0, 1) := by decide +kernel
theorem dX5_stack_54 : decode cX5_stack 54 = .ok (.getfield 19, 3) := by decide +kernel
theorem dX5_stack_57 : decode cX5_stack 57 = .ok (.getfield 151, 3) := by decide +kernel
theorem dX5_stack_60 : decode cX5_stack 60 = .ok (.iconst 1, 1) := by decide +kernel
theorem dX5_stack_61 : decode cX5_stack 61 = .ok (.isub, 1) := by decide +kernel
theorem dX5_stack_62 : decode cX5_stack 62 = .ok (.iload_n 1, 1) := by decide +kernel
theorem dX5_stack_63 : decode cX5_stack 63 = .ok (.isub, 1) := by decide +kernel
theorem dX5_stack_64 : decode cX5_stack 64 = .ok (.iaload, 1) := by decide +kernel
theorem dX5_stack_65 : decode cX5_stack 65 = .ok (.goto 5, 3) := by decide +kernel
theorem dX5_stack_68 : decode cX5_stack 68 = .ok (.bipush (-4), 2) := by decide +kernel
theorem dX5_stack_70 : decode cX5_stack 70 = .ok (.ireturn, 1) := by decide +kernel
theorem dX5_push_0 : decode cX5_push 0 = .ok (.iload_n 1, 1) := by decide +kernel
theorem dX5_push_1 : decode cX5_push 1 = .ok (.invokestatic 157, 3) := by decide +kernel
theorem dX5_push_4 : decode cX5_push 4 = .ok (.ifCond .ne 5, 3) := by decide +kernel
theorem dX5_push_7 : decode cX5_push 7 = .ok (.iconst (-1), 1) := by decide +kernel
theorem dX5_push_8 : decode cX5_push 8 = .ok (.ireturn, 1) := by decide +kernel
theorem dX5_push_9 : decode cX5_push 9 = .ok (.aload_n 0, 1) := by decide +kernel
theorem dX5_push_10 : decode cX5_push 10 = .ok (.getfield 19, 3) := by decide +kernel
theorem dX5_push_13 : decode cX5_push 13 = .ok (.getfield 151, 3) := by decide +kernel
theorem dX5_push_16 : decode cX5_push 16 = .ok (.bipush 12, 2) := by decide +kernel
theorem dX5_push_18 : decode cX5_push 18 = .ok (.if_icmp .lt 6, 3) := by decide +kernel
theorem dX5_push_21 : decode cX5_push 21 = .ok (.bipush (-3), 2) := by decide +kernel
theorem dX5_push_23 : decode cX5_push 23 = .ok (.ireturn, 1) := by decide +kernel
theorem dX5_push_24 : decode cX5_push 24 = .ok (.aload_n 0, 1) := by decide +kernel
theorem dX5_push_25 : decode cX5_push 25 = .ok (.invokevirtual 160, 3) := by decide +kernel
theorem dX5_push_28 : decode cX5_push 28 = .ok (.aload_n 0, 1) := by decide +kernel
theorem dX5_push_29 : decode cX5_push 29 = .ok (.getfield 19, 3) := by decide +kernel
theorem dX5_push_32 : decode cX5_push 32 = .ok (.iload_n 1, 1) := by decide +kernel
theorem dX5_push_33 : decode cX5_push 33 = .ok (.invokevirtual 163, 3) := by decide +kernel
theorem dX5_push_36 : decode cX5_push 36 = .ok (.aload_n 0, 1) := by decide +kernel
theorem dX5_push_37 : decode cX5_push 37 = .ok (.getfield 19, 3) := by decide +kernel
theorem dX5_push_40 : decode cX5_push 40 = .ok (.getfield 151, 3) := by decide +kernel
theorem dX5_push_43 : decode cX5_push 43 = .ok (.ireturn, 1) := by decide +kernel
theorem dX5_pop_0 : decode cX5_pop 0 = .ok (.aload_n 0, 1) := by decide +kernel
theorem dX5_pop_1 : decode cX5_pop 1 = .ok (.getfield 19, 3) := by decide +kernel
theorem dX5_pop_4 : decode cX5_pop 4 = .ok (.getfield 151, 3) := by decide +kernel
theorem dX5_pop_7 : decode cX5_pop 7 = .ok (.ifCond .ne 6, 3) := by decide +kernel
theorem dX5_pop_10 : decode cX5_pop 10 = .ok (.bipush (-2), 2) := by decide +kernel
theorem dX5_pop_12 : decode cX5_pop 12 = .ok (.ireturn, 1) := by decide +kernel
theorem dX5_pop_13 : decode cX5_pop 13 = .ok (.aload_n 0, 1) := by decide +kernel
theorem dX5_pop_14 : decode cX5_pop 14 = .ok (.invokevirtual 160, 3) := by decide +kernel
theorem dX5_pop_17 : decode cX5_pop 17 = .ok (.aload_n 0, 1) := by decide +kernel
theorem dX5_pop_18 : decode cX5_pop 18 = .ok (.getfield 19, 3) := by decide +kernel
theorem dX5_pop_21 : decode cX5_pop 21 = .ok (.invokevirtual 167, 3) := by decide +kernel
theorem dX5_pop_24 : decode cX5_pop 24 = .ok (.ireturn, 1) := by decide +kernel
theorem dX5_step_0 : decode cX5_step 0 = .ok (.aload_n 0, 1) := by decide +kernel
theorem dX5_step_1 : decode cX5_step 1 = .ok (.iload_n 1, 1) := by decide +kernel
theorem dX5_step_2 : decode cX5_step 2 = .ok (.invokevirtual 102, 3) := by decide +kernel
theorem dX5_step_5 : decode cX5_step 5 = .ok (.ifCond .ne 5, 3) := by decide +kernel
theorem dX5_step_8 : decode cX5_step 8 = .ok (.iconst (-1), 1) := by decide +kernel
theorem dX5_step_9 : decode cX5_step 9 = .ok (.ireturn, 1) := by decide +kernel
theorem dX5_step_10 : decode cX5_step 10 = .ok (.aload_n 0, 1) := by decide +kernel
theorem dX5_step_11 : decode cX5_step 11 = .ok (.getfield 19, 3) := by decide +kernel
theorem dX5_step_14 : decode cX5_step 14 = .ok (.iload_n 1, 1) := by decide +kernel
theorem dX5_step_15 : decode cX5_step 15 = .ok (.invokevirtual 170, 3) := by decide +kernel
theorem dX5_step_18 : decode cX5_step 18 = .ok (.ifCond .ne 6, 3) := by decide +kernel
theorem dX5_step_21 : decode cX5_step 21 = .ok (.bipush (-2), 2) := by decide +kernel
theorem dX5_step_23 : decode cX5_step 23 = .ok (.ireturn, 1) := by decide +kernel
theorem dX5_step_24 : decode cX5_step 24 = .ok (.aload_n 0, 1) := by decide +kernel
theorem dX5_step_25 : decode cX5_step 25 = .ok (.getfield 19, 3) := by decide +kernel
theorem dX5_step_28 : decode cX5_step 28 = .ok (.iload_n 1, 1) := by decide +kernel
theorem dX5_step_29 : decode cX5_step 29 = .ok (.invokevirtual 173, 3) := by decide +kernel
theorem dX5_step_32 : decode cX5_step 32 = .ok (.bipush 12, 2) := by decide +kernel
theorem dX5_step_34 : decode cX5_step 34 = .ok (.if_icmp .le 6, 3) := by decide +kernel
theorem dX5_step_37 : decode cX5_step 37 = .ok (.bipush (-3), 2) := by decide +kernel
theorem dX5_step_39 : decode cX5_step 39 = .ok (.ireturn, 1) := by decide +kernel
theorem dX5_step_40 : decode cX5_step 40 = .ok (.aload_n 0, 1) := by decide +kernel
theorem dX5_step_41 : decode cX5_step 41 = .ok (.invokevirtual 160, 3) := by decide +kernel
theorem dX5_step_44 : decode cX5_step 44 = .ok (.aload_n 0, 1) := by decide +kernel
theorem dX5_step_45 : decode cX5_step 45 = .ok (.getfield 19, 3) := by decide +kernel
theorem dX5_step_48 : decode cX5_step 48 = .ok (.iload_n 1, 1) := by decide +kernel
theorem dX5_step_49 : decode cX5_step 49 = .ok (.invokevirtual 176, 3) := by decide +kernel
theorem dX5_step_52 : decode cX5_step 52 = .ok (.aload_n 0, 1) := by decide +kernel
theorem dX5_step_53 : decode cX5_step 53 = .ok (.getfield 19, 3) := by decide +kernel
theorem dX5_step_56 : decode cX5_step 56 = .ok (.getfield 151, 3) := by decide +kernel
theorem dX5_step_59 : decode cX5_step 59 = .ok (.ireturn, 1) := by decide +kernel
theorem dX5_go_0 : decode cX5_go 0 = .ok (.aload_n 0, 1) := by decide +kernel
theorem dX5_go_1 : decode cX5_go 1 = .ok (.iload_n 1, 1) := by decide +kernel
theorem dX5_go_2 : decode cX5_go 2 = .ok (.invokevirtual 179, 3) := by decide +kernel
theorem dX5_go_5 : decode cX5_go 5 = .ok (.ifCond .ne 5, 3) := by decide +kernel
theorem dX5_go_8 : decode cX5_go 8 = .ok (.iconst (-1), 1) := by decide +kernel
theorem dX5_go_9 : decode cX5_go 9 = .ok (.ireturn, 1) := by decide +kernel
theorem dX5_go_10 : decode cX5_go 10 = .ok (.aload_n 0, 1) := by decide +kernel
theorem dX5_go_11 : decode cX5_go 11 = .ok (.getfield 19, 3) := by decide +kernel
theorem dX5_go_14 : decode cX5_go 14 = .ok (.getfield 148, 3) := by decide +kernel
theorem dX5_go_17 : decode cX5_go 17 = .ok (.istore_n 2, 1) := by decide +kernel
theorem dX5_go_18 : decode cX5_go 18 = .ok (.iload_n 1, 1) := by decide +kernel
theorem dX5_go_19 : decode cX5_go 19 = .ok (.iload_n 2, 1) := by decide +kernel
theorem dX5_go_20 : decode cX5_go 20 = .ok (.if_icmp .ne 6, 3) := by decide +kernel
theorem dX5_go_23 : decode cX5_go 23 = .ok (.bipush (-2), 2) := by decide +kernel
theorem dX5_go_25 : decode cX5_go 25 = .ok (.ireturn, 1) := by decide +kernel
theorem dX5_go_26 : decode cX5_go 26 = .ok (.aload_n 0, 1) := by decide +kernel
theorem dX5_go_27 : decode cX5_go 27 = .ok (.invokevirtual 160, 3) := by decide +kernel
theorem dX5_go_30 : decode cX5_go 30 = .ok (.aload_n 0, 1) := by decide +kernel
theorem dX5_go_31 : decode cX5_go 31 = .ok (.getfield 19, 3) := by decide +kernel
theorem dX5_go_34 : decode cX5_go 34 = .ok (.iload_n 1, 1) := by decide +kernel
theorem dX5_go_35 : decode cX5_go 35 = .ok (.putfield 148, 3) := by decide +kernel
theorem dX5_go_38 : decode cX5_go 38 = .ok (.iload_n 2, 1) := by decide +kernel
theorem dX5_go_39 : decode cX5_go 39 = .ok (.ireturn, 1) := by decide +kernel
theorem dX5_enter_0 : decode cX5_enter 0 = .ok (.aload_n 0, 1) := by decide +kernel
theorem dX5_enter_1 : decode cX5_enter 1 = .ok (.iload_n 1, 1) := by decide +kernel
theorem dX5_enter_2 : decode cX5_enter 2 = .ok (.invokevirtual 179, 3) := by decide +kernel
theorem dX5_enter_5 : decode cX5_enter 5 = .ok (.ifCond .eq 38, 3) := by decide +kernel
theorem dX5_enter_8 : decode cX5_enter 8 = .ok (.iload_n 2, 1) := by decide +kernel
theorem dX5_enter_9 : decode cX5_enter 9 = .ok (.invokestatic 157, 3) := by decide +kernel
theorem dX5_enter_12 : decode cX5_enter 12 = .ok (.ifCond .eq 31, 3) := by decide +kernel
theorem dX5_enter_15 : decode cX5_enter 15 = .ok (.aload_n 0, 1) := by decide +kernel
theorem dX5_enter_16 : decode cX5_enter 16 = .ok (.iload_n 3, 1) := by decide +kernel
theorem dX5_enter_17 : decode cX5_enter 17 = .ok (.invokevirtual 179, 3) := by decide +kernel
theorem dX5_enter_20 : decode cX5_enter 20 = .ok (.ifCond .eq 23, 3) := by decide +kernel
theorem dX5_enter_23 : decode cX5_enter 23 = .ok (.iload 4, 2) := by decide +kernel
theorem dX5_enter_25 : decode cX5_enter 25 = .ok (.ifCond .lt 18, 3) := by decide +kernel
theorem dX5_enter_28 : decode cX5_enter 28 = .ok (.iload 4, 2) := by decide +kernel
theorem dX5_enter_30 : decode cX5_enter 30 = .ok (.bipush 21, 2) := by decide +kernel
theorem dX5_enter_32 : decode cX5_enter 32 = .ok (.if_icmp .ge 11, 3) := by decide +kernel
theorem dX5_enter_35 : decode cX5_enter 35 = .ok (.iload 5, 2) := by decide +kernel
theorem dX5_enter_37 : decode cX5_enter 37 = .ok (.invokestatic 182, 3) := by decide +kernel
theorem dX5_enter_40 : decode cX5_enter 40 = .ok (.ifCond .ne 5, 3) := by decide +kernel
theorem dX5_enter_43 : decode cX5_enter 43 = .ok (.iconst (-1), 1) := by decide +kernel
theorem dX5_enter_44 : decode cX5_enter 44 = .ok (.ireturn, 1) := by decide +kernel
theorem dX5_enter_45 : decode cX5_enter 45 = .ok (.aload_n 0, 1) := by decide +kernel
theorem dX5_enter_46 : decode cX5_enter 46 = .ok (.getfield 19, 3) := by decide +kernel
theorem dX5_enter_49 : decode cX5_enter 49 = .ok (.getfield 86, 3) := by decide +kernel
theorem dX5_enter_52 : decode cX5_enter 52 = .ok (.bipush 10, 2) := by decide +kernel
theorem dX5_enter_54 : decode cX5_enter 54 = .ok (.if_icmp .lt 6, 3) := by decide +kernel
theorem dX5_enter_57 : decode cX5_enter 57 = .ok (.bipush (-3), 2) := by decide +kernel
theorem dX5_enter_59 : decode cX5_enter 59 = .ok (.ireturn, 1) := by decide +kernel
theorem dX5_enter_60 : decode cX5_enter 60 = .ok (.aload_n 0, 1) := by decide +kernel
theorem dX5_enter_61 : decode cX5_enter 61 = .ok (.invokevirtual 160, 3) := by decide +kernel
theorem dX5_enter_64 : decode cX5_enter 64 = .ok (.aload_n 0, 1) := by decide +kernel
theorem dX5_enter_65 : decode cX5_enter 65 = .ok (.getfield 19, 3) := by decide +kernel
theorem dX5_enter_68 : decode cX5_enter 68 = .ok (.iload_n 1, 1) := by decide +kernel
theorem dX5_enter_69 : decode cX5_enter 69 = .ok (.iload_n 2, 1) := by decide +kernel
theorem dX5_enter_70 : decode cX5_enter 70 = .ok (.iload_n 3, 1) := by decide +kernel
theorem dX5_enter_71 : decode cX5_enter 71 = .ok (.iload 4, 2) := by decide +kernel
theorem dX5_enter_73 : decode cX5_enter 73 = .ok (.iload 5, 2) := by decide +kernel
theorem dX5_enter_75 : decode cX5_enter 75 = .ok (.invokevirtual 185, 3) := by decide +kernel
theorem dX5_enter_78 : decode cX5_enter 78 = .ok (.pop, 1) := by decide +kernel
theorem dX5_enter_79 : decode cX5_enter 79 = .ok (.aload_n 0, 1) := by decide +kernel
theorem dX5_enter_80 : decode cX5_enter 80 = .ok (.invokevirtual 99, 3) := by decide +kernel
theorem dX5_enter_83 : decode cX5_enter 83 = .ok (.aload_n 0, 1) := by decide +kernel
theorem dX5_enter_84 : decode cX5_enter 84 = .ok (.getfield 19, 3) := by decide +kernel
theorem dX5_enter_87 : decode cX5_enter 87 = .ok (.getfield 86, 3) := by decide +kernel
theorem dX5_enter_90 : decode cX5_enter 90 = .ok (.iconst 1, 1) := by decide +kernel
theorem dX5_enter_91 : decode cX5_enter 91 = .ok (.isub, 1) := by decide +kernel
theorem dX5_enter_92 : decode cX5_enter 92 = .ok (.ireturn, 1) := by decide +kernel
theorem dX5_drop_0 : decode cX5_drop 0 = .ok (.aload_n 0, 1) := by decide +kernel
theorem dX5_drop_1 : decode cX5_drop 1 = .ok (.iload_n 1, 1) := by decide +kernel
theorem dX5_drop_2 : decode cX5_drop 2 = .ok (.invokevirtual 102, 3) := by decide +kernel
theorem dX5_drop_5 : decode cX5_drop 5 = .ok (.ifCond .ne 5, 3) := by decide +kernel
theorem dX5_drop_8 : decode cX5_drop 8 = .ok (.iconst (-1), 1) := by decide +kernel
theorem dX5_drop_9 : decode cX5_drop 9 = .ok (.ireturn, 1) := by decide +kernel
theorem dX5_drop_10 : decode cX5_drop 10 = .ok (.aload_n 0, 1) := by decide +kernel
theorem dX5_drop_11 : decode cX5_drop 11 = .ok (.getfield 19, 3) := by decide +kernel
theorem dX5_drop_14 : decode cX5_drop 14 = .ok (.getfield 86, 3) := by decide +kernel
theorem dX5_drop_17 : decode cX5_drop 17 = .ok (.iconst 1, 1) := by decide +kernel
theorem dX5_drop_18 : decode cX5_drop 18 = .ok (.if_icmp .ne 6, 3) := by decide +kernel
theorem dX5_drop_21 : decode cX5_drop 21 = .ok (.bipush (-2), 2) := by decide +kernel
theorem dX5_drop_23 : decode cX5_drop 23 = .ok (.ireturn, 1) := by decide +kernel
theorem dX5_drop_24 : decode cX5_drop 24 = .ok (.aload_n 0, 1) := by decide +kernel
theorem dX5_drop_25 : decode cX5_drop 25 = .ok (.invokevirtual 160, 3) := by decide +kernel
theorem dX5_drop_28 : decode cX5_drop 28 = .ok (.aload_n 0, 1) := by decide +kernel
theorem dX5_drop_29 : decode cX5_drop 29 = .ok (.getfield 19, 3) := by decide +kernel
theorem dX5_drop_32 : decode cX5_drop 32 = .ok (.iload_n 1, 1) := by decide +kernel
theorem dX5_drop_33 : decode cX5_drop 33 = .ok (.invokevirtual 189, 3) := by decide +kernel
theorem dX5_drop_36 : decode cX5_drop 36 = .ok (.aload_n 0, 1) := by decide +kernel
theorem dX5_drop_37 : decode cX5_drop 37 = .ok (.invokevirtual 99, 3) := by decide +kernel
theorem dX5_drop_40 : decode cX5_drop 40 = .ok (.aload_n 0, 1) := by decide +kernel
theorem dX5_drop_41 : decode cX5_drop 41 = .ok (.getfield 19, 3) := by decide +kernel
theorem dX5_drop_44 : decode cX5_drop 44 = .ok (.getfield 86, 3) := by decide +kernel
theorem dX5_drop_47 : decode cX5_drop 47 = .ok (.ireturn, 1) := by decide +kernel
theorem dX5_weigh_0 : decode cX5_weigh 0 = .ok (.aload_n 0, 1) := by decide +kernel
theorem dX5_weigh_1 : decode cX5_weigh 1 = .ok (.iload_n 1, 1) := by decide +kernel
theorem dX5_weigh_2 : decode cX5_weigh 2 = .ok (.invokevirtual 102, 3) := by decide +kernel
theorem dX5_weigh_5 : decode cX5_weigh 5 = .ok (.ifCond .eq 10, 3) := by decide +kernel
theorem dX5_weigh_8 : decode cX5_weigh 8 = .ok (.iload_n 2, 1) := by decide +kernel
theorem dX5_weigh_9 : decode cX5_weigh 9 = .ok (.invokestatic 182, 3) := by decide +kernel
theorem dX5_weigh_12 : decode cX5_weigh 12 = .ok (.ifCond .ne 5, 3) := by decide +kernel
theorem dX5_weigh_15 : decode cX5_weigh 15 = .ok (.iconst (-1), 1) := by decide +kernel
theorem dX5_weigh_16 : decode cX5_weigh 16 = .ok (.ireturn, 1) := by decide +kernel
theorem dX5_weigh_17 : decode cX5_weigh 17 = .ok (.aload_n 0, 1) := by decide +kernel
theorem dX5_weigh_18 : decode cX5_weigh 18 = .ok (.getfield 19, 3) := by decide +kernel
theorem dX5_weigh_21 : decode cX5_weigh 21 = .ok (.getfield 129, 3) := by decide +kernel
theorem dX5_weigh_24 : decode cX5_weigh 24 = .ok (.iload_n 1, 1) := by decide +kernel
theorem dX5_weigh_25 : decode cX5_weigh 25 = .ok (.iaload, 1) := by decide +kernel
theorem dX5_weigh_26 : decode cX5_weigh 26 = .ok (.istore_n 3, 1) := by decide +kernel
theorem dX5_weigh_27 : decode cX5_weigh 27 = .ok (.iload_n 2, 1) := by decide +kernel
theorem dX5_weigh_28 : decode cX5_weigh 28 = .ok (.iload_n 3, 1) := by decide +kernel
theorem dX5_weigh_29 : decode cX5_weigh 29 = .ok (.if_icmp .ne 6, 3) := by decide +kernel
theorem dX5_weigh_32 : decode cX5_weigh 32 = .ok (.bipush (-2), 2) := by decide +kernel
theorem dX5_weigh_34 : decode cX5_weigh 34 = .ok (.ireturn, 1) := by decide +kernel
theorem dX5_weigh_35 : decode cX5_weigh 35 = .ok (.aload_n 0, 1) := by decide +kernel
theorem dX5_weigh_36 : decode cX5_weigh 36 = .ok (.invokevirtual 160, 3) := by decide +kernel
theorem dX5_weigh_39 : decode cX5_weigh 39 = .ok (.aload_n 0, 1) := by decide +kernel
theorem dX5_weigh_40 : decode cX5_weigh 40 = .ok (.getfield 19, 3) := by decide +kernel
theorem dX5_weigh_43 : decode cX5_weigh 43 = .ok (.getfield 129, 3) := by decide +kernel
theorem dX5_weigh_46 : decode cX5_weigh 46 = .ok (.iload_n 1, 1) := by decide +kernel
theorem dX5_weigh_47 : decode cX5_weigh 47 = .ok (.iload_n 2, 1) := by decide +kernel
theorem dX5_weigh_48 : decode cX5_weigh 48 = .ok (.iastore, 1) := by decide +kernel
theorem dX5_weigh_49 : decode cX5_weigh 49 = .ok (.aload_n 0, 1) := by decide +kernel
theorem dX5_weigh_50 : decode cX5_weigh 50 = .ok (.invokevirtual 99, 3) := by decide +kernel
theorem dX5_weigh_53 : decode cX5_weigh 53 = .ok (.iload_n 3, 1) := by decide +kernel
theorem dX5_weigh_54 : decode cX5_weigh 54 = .ok (.ireturn, 1) := by decide +kernel
theorem dX5_mode_0 : decode cX5_mode 0 = .ok (.iload_n 1, 1) := by decide +kernel
theorem dX5_mode_1 : decode cX5_mode 1 = .ok (.ifCond .lt 8, 3) := by decide +kernel
theorem dX5_mode_4 : decode cX5_mode 4 = .ok (.iload_n 1, 1) := by decide +kernel
theorem dX5_mode_5 : decode cX5_mode 5 = .ok (.iconst 3, 1) := by decide +kernel
theorem dX5_mode_6 : decode cX5_mode 6 = .ok (.if_icmp .lt 5, 3) := by decide +kernel
theorem dX5_mode_9 : decode cX5_mode 9 = .ok (.iconst (-1), 1) := by decide +kernel
theorem dX5_mode_10 : decode cX5_mode 10 = .ok (.ireturn, 1) := by decide +kernel
theorem dX5_mode_11 : decode cX5_mode 11 = .ok (.aload_n 0, 1) := by decide +kernel
theorem dX5_mode_12 : decode cX5_mode 12 = .ok (.getfield 19, 3) := by decide +kernel
theorem dX5_mode_15 : decode cX5_mode 15 = .ok (.getfield 192, 3) := by decide +kernel
theorem dX5_mode_18 : decode cX5_mode 18 = .ok (.istore_n 2, 1) := by decide +kernel
theorem dX5_mode_19 : decode cX5_mode 19 = .ok (.iload_n 1, 1) := by decide +kernel
theorem dX5_mode_20 : decode cX5_mode 20 = .ok (.iload_n 2, 1) := by decide +kernel
theorem dX5_mode_21 : decode cX5_mode 21 = .ok (.if_icmp .ne 6, 3) := by decide +kernel
theorem dX5_mode_24 : decode cX5_mode 24 = .ok (.bipush (-2), 2) := by decide +kernel
theorem dX5_mode_26 : decode cX5_mode 26 = .ok (.ireturn, 1) := by decide +kernel
theorem dX5_mode_27 : decode cX5_mode 27 = .ok (.aload_n 0, 1) := by decide +kernel
theorem dX5_mode_28 : decode cX5_mode 28 = .ok (.invokevirtual 160, 3) := by decide +kernel
theorem dX5_mode_31 : decode cX5_mode 31 = .ok (.aload_n 0, 1) := by decide +kernel
theorem dX5_mode_32 : decode cX5_mode 32 = .ok (.getfield 19, 3) := by decide +kernel
theorem dX5_mode_35 : decode cX5_mode 35 = .ok (.iload_n 1, 1) := by decide +kernel
theorem dX5_mode_36 : decode cX5_mode 36 = .ok (.putfield 192, 3) := by decide +kernel
theorem dX5_mode_39 : decode cX5_mode 39 = .ok (.aload_n 0, 1) := by decide +kernel
theorem dX5_mode_40 : decode cX5_mode 40 = .ok (.invokevirtual 99, 3) := by decide +kernel
theorem dX5_mode_43 : decode cX5_mode 43 = .ok (.iload_n 2, 1) := by decide +kernel
theorem dX5_mode_44 : decode cX5_mode 44 = .ok (.ireturn, 1) := by decide +kernel
theorem dX5_undo_0 : decode cX5_undo 0 = .ok (.aload_n 0, 1) := by decide +kernel
theorem dX5_undo_1 : decode cX5_undo 1 = .ok (.getfield 93, 3) := by decide +kernel
theorem dX5_undo_4 : decode cX5_undo 4 = .ok (.ifCond .ne 6, 3) := by decide +kernel
theorem dX5_undo_7 : decode cX5_undo 7 = .ok (.bipush (-2), 2) := by decide +kernel
theorem dX5_undo_9 : decode cX5_undo 9 = .ok (.ireturn, 1) := by decide +kernel
theorem dX5_undo_10 : decode cX5_undo 10 = .ok (.aload_n 0, 1) := by decide +kernel
theorem dX5_undo_11 : decode cX5_undo 11 = .ok (.aload_n 0, 1) := by decide +kernel
theorem dX5_undo_12 : decode cX5_undo 12 = .ok (.getfield 195, 3) := by decide +kernel
theorem dX5_undo_15 : decode cX5_undo 15 = .ok (.bipush 8, 2) := by decide +kernel
theorem dX5_undo_17 : decode cX5_undo 17 = .ok (.iadd, 1) := by decide +kernel
theorem dX5_undo_18 : decode cX5_undo 18 = .ok (.iconst 1, 1) := by decide +kernel
theorem dX5_undo_19 : decode cX5_undo 19 = .ok (.isub, 1) := by decide +kernel
theorem dX5_undo_20 : decode cX5_undo 20 = .ok (.bipush 8, 2) := by decide +kernel
theorem dX5_undo_22 : decode cX5_undo 22 = .ok (.irem, 1) := by decide +kernel
theorem dX5_undo_23 : decode cX5_undo 23 = .ok (.putfield 195, 3) := by decide +kernel
theorem dX5_undo_26 : decode cX5_undo 26 = .ok (.aload_n 0, 1) := by decide +kernel
theorem dX5_undo_27 : decode cX5_undo 27 = .ok (.dup, 1) := by decide +kernel
theorem dX5_undo_28 : decode cX5_undo 28 = .ok (.getfield 93, 3) := by decide +kernel
theorem dX5_undo_31 : decode cX5_undo 31 = .ok (.iconst 1, 1) := by decide +kernel
theorem dX5_undo_32 : decode cX5_undo 32 = .ok (.isub, 1) := by decide +kernel
theorem dX5_undo_33 : decode cX5_undo 33 = .ok (.putfield 93, 3) := by decide +kernel
theorem dX5_undo_36 : decode cX5_undo 36 = .ok (.aload_n 0, 1) := by decide +kernel
theorem dX5_undo_37 : decode cX5_undo 37 = .ok (.getfield 19, 3) := by decide +kernel
theorem dX5_undo_40 : decode cX5_undo 40 = .ok (.aload_n 0, 1) := by decide +kernel
theorem dX5_undo_41 : decode cX5_undo 41 = .ok (.getfield 26, 3) := by decide +kernel
theorem dX5_undo_44 : decode cX5_undo 44 = .ok (.aload_n 0, 1) := by decide +kernel
theorem dX5_undo_45 : decode cX5_undo 45 = .ok (.getfield 195, 3) := by decide +kernel
theorem dX5_undo_48 : decode cX5_undo 48 = .ok (.aaload, 1) := by decide +kernel
theorem dX5_undo_49 : decode cX5_undo 49 = .ok (.invokevirtual 89, 3) := by decide +kernel
theorem dX5_undo_52 : decode cX5_undo 52 = .ok (.aload_n 0, 1) := by decide +kernel
theorem dX5_undo_53 : decode cX5_undo 53 = .ok (.invokevirtual 99, 3) := by decide +kernel
theorem dX5_undo_56 : decode cX5_undo 56 = .ok (.aload_n 0, 1) := by decide +kernel
theorem dX5_undo_57 : decode cX5_undo 57 = .ok (.getfield 93, 3) := by decide +kernel
theorem dX5_undo_60 : decode cX5_undo 60 = .ok (.ireturn, 1) := by decide +kernel
theorem dX5_price_0 : decode cX5_price 0 = .ok (.aload_n 0, 1) := by decide +kernel
theorem dX5_price_1 : decode cX5_price 1 = .ok (.invokevirtual 198, 3) := by decide +kernel
theorem dX5_price_4 : decode cX5_price 4 = .ok (.aload_n 0, 1) := by decide +kernel
theorem dX5_price_5 : decode cX5_price 5 = .ok (.getfield 36, 3) := by decide +kernel
theorem dX5_price_8 : decode cX5_price 8 = .ok (.aload_n 0, 1) := by decide +kernel
theorem dX5_price_9 : decode cX5_price 9 = .ok (.getfield 19, 3) := by decide +kernel
theorem dX5_price_12 : decode cX5_price 12 = .ok (.invokevirtual 201, 3) := by decide +kernel
theorem dX5_price_15 : decode cX5_price 15 = .ok (.ireturn, 1) := by decide +kernel
theorem dX5_run_0 : decode cX5_run 0 = .ok (.iload_n 1, 1) := by decide +kernel
theorem dX5_run_1 : decode cX5_run 1 = .ok (.iconst (-1), 1) := by decide +kernel
theorem dX5_run_2 : decode cX5_run 2 = .ok (.if_icmp .ge 5, 3) := by decide +kernel
theorem dX5_run_5 : decode cX5_run 5 = .ok (.iconst (-1), 1) := by decide +kernel
theorem dX5_run_6 : decode cX5_run 6 = .ok (.ireturn, 1) := by decide +kernel
theorem dX5_run_7 : decode cX5_run 7 = .ok (.aload_n 0, 1) := by decide +kernel
theorem dX5_run_8 : decode cX5_run 8 = .ok (.invokevirtual 204, 3) := by decide +kernel
theorem dX5_run_11 : decode cX5_run 11 = .ok (.aload_n 0, 1) := by decide +kernel
theorem dX5_run_12 : decode cX5_run 12 = .ok (.getfield 49, 3) := by decide +kernel
theorem dX5_run_15 : decode cX5_run 15 = .ok (.invokevirtual 207, 3) := by decide +kernel
theorem dX5_run_18 : decode cX5_run 18 = .ok (.istore_n 2, 1) := by decide +kernel
theorem dX5_run_19 : decode cX5_run 19 = .ok (.iload_n 2, 1) := by decide +kernel
theorem dX5_run_20 : decode cX5_run 20 = .ok (.bipush (-4), 2) := by decide +kernel
theorem dX5_run_22 : decode cX5_run 22 = .ok (.if_icmp .eq 8, 3) := by decide +kernel
theorem dX5_run_25 : decode cX5_run 25 = .ok (.iload_n 1, 1) := by decide +kernel
theorem dX5_run_26 : decode cX5_run 26 = .ok (.iload_n 2, 1) := by decide +kernel
theorem dX5_run_27 : decode cX5_run 27 = .ok (.if_icmp .lt 6, 3) := by decide +kernel
theorem dX5_run_30 : decode cX5_run 30 = .ok (.bipush (-4), 2) := by decide +kernel
theorem dX5_run_32 : decode cX5_run 32 = .ok (.ireturn, 1) := by decide +kernel
theorem dX5_run_33 : decode cX5_run 33 = .ok (.iload_n 1, 1) := by decide +kernel
theorem dX5_run_34 : decode cX5_run 34 = .ok (.iconst (-1), 1) := by decide +kernel
theorem dX5_run_35 : decode cX5_run 35 = .ok (.if_icmp .ne 5, 3) := by decide +kernel
theorem dX5_run_38 : decode cX5_run 38 = .ok (.iload_n 2, 1) := by decide +kernel
theorem dX5_run_39 : decode cX5_run 39 = .ok (.ireturn, 1) := by decide +kernel
theorem dX5_run_40 : decode cX5_run 40 = .ok (.iload_n 1, 1) := by decide +kernel
theorem dX5_run_41 : decode cX5_run 41 = .ok (.iconst 1, 1) := by decide +kernel
theorem dX5_run_42 : decode cX5_run 42 = .ok (.iadd, 1) := by decide +kernel
theorem dX5_run_43 : decode cX5_run 43 = .ok (.aload_n 0, 1) := by decide +kernel
theorem dX5_run_44 : decode cX5_run 44 = .ok (.getfield 49, 3) := by decide +kernel
theorem dX5_run_47 : decode cX5_run 47 = .ok (.getfield 210, 3) := by decide +kernel
theorem dX5_run_50 : decode cX5_run 50 = .ok (.if_icmp .ge 18, 3) := by decide +kernel
theorem dX5_run_53 : decode cX5_run 53 = .ok (.aload_n 0, 1) := by decide +kernel
theorem dX5_run_54 : decode cX5_run 54 = .ok (.getfield 49, 3) := by decide +kernel
theorem dX5_run_57 : decode cX5_run 57 = .ok (.aload_n 0, 1) := by decide +kernel
theorem dX5_run_58 : decode cX5_run 58 = .ok (.getfield 19, 3) := by decide +kernel
theorem dX5_run_61 : decode cX5_run 61 = .ok (.aload_n 0, 1) := by decide +kernel
theorem dX5_run_62 : decode cX5_run 62 = .ok (.getfield 40, 3) := by decide +kernel
theorem dX5_run_65 : decode cX5_run 65 = .ok (.invokevirtual 213, 3) := by decide +kernel
theorem dX5_run_68 : decode cX5_run 68 = .ok (.aload_n 0, 1) := by decide +kernel
theorem dX5_run_69 : decode cX5_run 69 = .ok (.getfield 49, 3) := by decide +kernel
theorem dX5_run_72 : decode cX5_run 72 = .ok (.iload_n 1, 1) := by decide +kernel
theorem dX5_run_73 : decode cX5_run 73 = .ok (.aload_n 0, 1) := by decide +kernel
theorem dX5_run_74 : decode cX5_run 74 = .ok (.getfield 19, 3) := by decide +kernel
theorem dX5_run_77 : decode cX5_run 77 = .ok (.aload_n 0, 1) := by decide +kernel
theorem dX5_run_78 : decode cX5_run 78 = .ok (.getfield 40, 3) := by decide +kernel
theorem dX5_run_81 : decode cX5_run 81 = .ok (.invokevirtual 217, 3) := by decide +kernel
theorem dX5_run_84 : decode cX5_run 84 = .ok (.ireturn, 1) := by decide +kernel
theorem dX5_heads_0 : decode cX5_heads 0 = .ok (.aload_n 0, 1) := by decide +kernel
theorem dX5_heads_1 : decode cX5_heads 1 = .ok (.iload_n 1, 1) := by decide +kernel
theorem dX5_heads_2 : decode cX5_heads 2 = .ok (.invokevirtual 179, 3) := by decide +kernel
theorem dX5_heads_5 : decode cX5_heads 5 = .ok (.ifCond .eq 10, 3) := by decide +kernel
theorem dX5_heads_8 : decode cX5_heads 8 = .ok (.iload_n 2, 1) := by decide +kernel
theorem dX5_heads_9 : decode cX5_heads 9 = .ok (.invokestatic 157, 3) := by decide +kernel
theorem dX5_heads_12 : decode cX5_heads 12 = .ok (.ifCond .ne 5, 3) := by decide +kernel
theorem dX5_heads_15 : decode cX5_heads 15 = .ok (.iconst (-1), 1) := by decide +kernel
theorem dX5_heads_16 : decode cX5_heads 16 = .ok (.ireturn, 1) := by decide +kernel
theorem dX5_heads_17 : decode cX5_heads 17 = .ok (.aload_n 0, 1) := by decide +kernel
theorem dX5_heads_18 : decode cX5_heads 18 = .ok (.getfield 56, 3) := by decide +kernel
theorem dX5_heads_21 : decode cX5_heads 21 = .ok (.aload_n 0, 1) := by decide +kernel
theorem dX5_heads_22 : decode cX5_heads 22 = .ok (.getfield 19, 3) := by decide +kernel
theorem dX5_heads_25 : decode cX5_heads 25 = .ok (.invokevirtual 221, 3) := by decide +kernel
theorem dX5_heads_28 : decode cX5_heads 28 = .ok (.aload_n 0, 1) := by decide +kernel
theorem dX5_heads_29 : decode cX5_heads 29 = .ok (.getfield 56, 3) := by decide +kernel
theorem dX5_heads_32 : decode cX5_heads 32 = .ok (.iload_n 1, 1) := by decide +kernel
theorem dX5_heads_33 : decode cX5_heads 33 = .ok (.iload_n 2, 1) := by decide +kernel
theorem dX5_heads_34 : decode cX5_heads 34 = .ok (.invokevirtual 224, 3) := by decide +kernel
theorem dX5_heads_37 : decode cX5_heads 37 = .ok (.ifCond .eq 7, 3) := by decide +kernel
theorem dX5_heads_40 : decode cX5_heads 40 = .ok (.iconst 1, 1) := by decide +kernel
theorem dX5_heads_41 : decode cX5_heads 41 = .ok (.goto 4, 3) := by decide +kernel
theorem dX5_heads_44 : decode cX5_heads 44 = .ok (.iconst 0, 1) := by decide +kernel
theorem dX5_heads_45 : decode cX5_heads 45 = .ok (.ireturn, 1) := by decide +kernel
theorem dX5_empty_0 : decode cX5_empty 0 = .ok (.aload_n 0, 1) := by decide +kernel
theorem dX5_empty_1 : decode cX5_empty 1 = .ok (.iload_n 1, 1) := by decide +kernel
theorem dX5_empty_2 : decode cX5_empty 2 = .ok (.invokevirtual 179, 3) := by decide +kernel
theorem dX5_empty_5 : decode cX5_empty 5 = .ok (.ifCond .ne 5, 3) := by decide +kernel
theorem dX5_empty_8 : decode cX5_empty 8 = .ok (.iconst (-1), 1) := by decide +kernel
theorem dX5_empty_9 : decode cX5_empty 9 = .ok (.ireturn, 1) := by decide +kernel
theorem dX5_empty_10 : decode cX5_empty 10 = .ok (.aload_n 0, 1) := by decide +kernel
theorem dX5_empty_11 : decode cX5_empty 11 = .ok (.getfield 56, 3) := by decide +kernel
theorem dX5_empty_14 : decode cX5_empty 14 = .ok (.aload_n 0, 1) := by decide +kernel
theorem dX5_empty_15 : decode cX5_empty 15 = .ok (.getfield 19, 3) := by decide +kernel
theorem dX5_empty_18 : decode cX5_empty 18 = .ok (.invokevirtual 221, 3) := by decide +kernel
theorem dX5_empty_21 : decode cX5_empty 21 = .ok (.aload_n 0, 1) := by decide +kernel
theorem dX5_empty_22 : decode cX5_empty 22 = .ok (.getfield 56, 3) := by decide +kernel
theorem dX5_empty_25 : decode cX5_empty 25 = .ok (.getfield 228, 3) := by decide +kernel
theorem dX5_empty_28 : decode cX5_empty 28 = .ok (.iload_n 1, 1) := by decide +kernel
theorem dX5_empty_29 : decode cX5_empty 29 = .ok (.ishr, 1) := by decide +kernel
theorem dX5_empty_30 : decode cX5_empty 30 = .ok (.iconst 1, 1) := by decide +kernel
theorem dX5_empty_31 : decode cX5_empty 31 = .ok (.iand, 1) := by decide +kernel
theorem dX5_empty_32 : decode cX5_empty 32 = .ok (.ireturn, 1) := by decide +kernel
theorem dX5_stuck_0 : decode cX5_stuck 0 = .ok (.aload_n 0, 1) := by decide +kernel
theorem dX5_stuck_1 : decode cX5_stuck 1 = .ok (.getfield 56, 3) := by decide +kernel
theorem dX5_stuck_4 : decode cX5_stuck 4 = .ok (.aload_n 0, 1) := by decide +kernel
theorem dX5_stuck_5 : decode cX5_stuck 5 = .ok (.getfield 19, 3) := by decide +kernel
theorem dX5_stuck_8 : decode cX5_stuck 8 = .ok (.invokevirtual 221, 3) := by decide +kernel
theorem dX5_stuck_11 : decode cX5_stuck 11 = .ok (.aload_n 0, 1) := by decide +kernel
theorem dX5_stuck_12 : decode cX5_stuck 12 = .ok (.getfield 56, 3) := by decide +kernel
theorem dX5_stuck_15 : decode cX5_stuck 15 = .ok (.getfield 228, 3) := by decide +kernel
theorem dX5_stuck_18 : decode cX5_stuck 18 = .ok (.invokestatic 231, 3) := by decide +kernel
theorem dX5_stuck_21 : decode cX5_stuck 21 = .ok (.istore_n 1, 1) := by decide +kernel
theorem dX5_stuck_22 : decode cX5_stuck 22 = .ok (.iconst 0, 1) := by decide +kernel
theorem dX5_stuck_23 : decode cX5_stuck 23 = .ok (.istore_n 2, 1) := by decide +kernel
theorem dX5_stuck_24 : decode cX5_stuck 24 = .ok (.iload_n 2, 1) := by decide +kernel
theorem dX5_stuck_25 : decode cX5_stuck 25 = .ok (.aload_n 0, 1) := by decide +kernel
theorem dX5_stuck_26 : decode cX5_stuck 26 = .ok (.getfield 19, 3) := by decide +kernel
theorem dX5_stuck_29 : decode cX5_stuck 29 = .ok (.getfield 236, 3) := by decide +kernel
theorem dX5_stuck_32 : decode cX5_stuck 32 = .ok (.if_icmp .ge 49, 3) := by decide +kernel
theorem dX5_stuck_35 : decode cX5_stuck 35 = .ok (.iconst 0, 1) := by decide +kernel
theorem dX5_stuck_36 : decode cX5_stuck 36 = .ok (.istore_n 3, 1) := by decide +kernel
theorem dX5_stuck_37 : decode cX5_stuck 37 = .ok (.iload_n 3, 1) := by decide +kernel
theorem dX5_stuck_38 : decode cX5_stuck 38 = .ok (.iconst 4, 1) := by decide +kernel
theorem dX5_stuck_39 : decode cX5_stuck 39 = .ok (.if_icmp .ge 36, 3) := by decide +kernel
theorem dX5_stuck_42 : decode cX5_stuck 42 = .ok (.aload_n 0, 1) := by decide +kernel
theorem dX5_stuck_43 : decode cX5_stuck 43 = .ok (.getfield 56, 3) := by decide +kernel
theorem dX5_stuck_46 : decode cX5_stuck 46 = .ok (.iload_n 2, 1) := by decide +kernel
theorem dX5_stuck_47 : decode cX5_stuck 47 = .ok (.iload_n 3, 1) := by decide +kernel
theorem dX5_stuck_48 : decode cX5_stuck 48 = .ok (.invokevirtual 224, 3) := by decide +kernel
theorem dX5_stuck_51 : decode cX5_stuck 51 = .ok (.ifCond .eq 18, 3) := by decide +kernel
theorem dX5_stuck_54 : decode cX5_stuck 54 = .ok (.aload_n 0, 1) := by decide +kernel
theorem dX5_stuck_55 : decode cX5_stuck 55 = .ok (.getfield 19, 3) := by decide +kernel
theorem dX5_stuck_58 : decode cX5_stuck 58 = .ok (.iload_n 2, 1) := by decide +kernel
theorem dX5_stuck_59 : decode cX5_stuck 59 = .ok (.iload_n 3, 1) := by decide +kernel
theorem dX5_stuck_60 : decode cX5_stuck 60 = .ok (.invokevirtual 239, 3) := by decide +kernel
theorem dX5_stuck_63 : decode cX5_stuck 63 = .ok (.ifCond .ne 6, 3) := by decide +kernel
theorem dX5_stuck_66 : decode cX5_stuck 66 = .ok (.iinc 1 1, 3) := by decide +kernel
theorem dX5_stuck_69 : decode cX5_stuck 69 = .ok (.iinc 3 1, 3) := by decide +kernel
theorem dX5_stuck_72 : decode cX5_stuck 72 = .ok (.goto (-35), 3) := by decide +kernel
theorem dX5_stuck_75 : decode cX5_stuck 75 = .ok (.iinc 2 1, 3) := by decide +kernel
theorem dX5_stuck_78 : decode cX5_stuck 78 = .ok (.goto (-54), 3) := by decide +kernel
theorem dX5_stuck_81 : decode cX5_stuck 81 = .ok (.iload_n 1, 1) := by decide +kernel
theorem dX5_stuck_82 : decode cX5_stuck 82 = .ok (.ireturn, 1) := by decide +kernel
theorem dX5_edge_0 : decode cX5_edge 0 = .ok (.aload_n 0, 1) := by decide +kernel
theorem dX5_edge_1 : decode cX5_edge 1 = .ok (.invokevirtual 198, 3) := by decide +kernel
theorem dX5_edge_4 : decode cX5_edge 4 = .ok (.aload_n 0, 1) := by decide +kernel
theorem dX5_edge_5 : decode cX5_edge 5 = .ok (.getfield 36, 3) := by decide +kernel
theorem dX5_edge_8 : decode cX5_edge 8 = .ok (.iload_n 1, 1) := by decide +kernel
theorem dX5_edge_9 : decode cX5_edge 9 = .ok (.invokevirtual 243, 3) := by decide +kernel
theorem dX5_edge_12 : decode cX5_edge 12 = .ok (.ifCond .eq 21, 3) := by decide +kernel
theorem dX5_edge_15 : decode cX5_edge 15 = .ok (.iload_n 2, 1) := by decide +kernel
theorem dX5_edge_16 : decode cX5_edge 16 = .ok (.invokestatic 157, 3) := by decide +kernel
theorem dX5_edge_19 : decode cX5_edge 19 = .ok (.ifCond .eq 14, 3) := by decide +kernel
theorem dX5_edge_22 : decode cX5_edge 22 = .ok (.aload_n 0, 1) := by decide +kernel
theorem dX5_edge_23 : decode cX5_edge 23 = .ok (.getfield 36, 3) := by decide +kernel
theorem dX5_edge_26 : decode cX5_edge 26 = .ok (.iload_n 3, 1) := by decide +kernel
theorem dX5_edge_27 : decode cX5_edge 27 = .ok (.invokevirtual 243, 3) := by decide +kernel
theorem dX5_edge_30 : decode cX5_edge 30 = .ok (.ifCond .ne 5, 3) := by decide +kernel
theorem dX5_edge_33 : decode cX5_edge 33 = .ok (.iconst (-1), 1) := by decide +kernel
theorem dX5_edge_34 : decode cX5_edge 34 = .ok (.ireturn, 1) := by decide +kernel
theorem dX5_edge_35 : decode cX5_edge 35 = .ok (.aload_n 0, 1) := by decide +kernel
theorem dX5_edge_36 : decode cX5_edge 36 = .ok (.getfield 36, 3) := by decide +kernel
theorem dX5_edge_39 : decode cX5_edge 39 = .ok (.getfield 246, 3) := by decide +kernel
theorem dX5_edge_42 : decode cX5_edge 42 = .ok (.iload_n 1, 1) := by decide +kernel
theorem dX5_edge_43 : decode cX5_edge 43 = .ok (.iload_n 2, 1) := by decide +kernel
theorem dX5_edge_44 : decode cX5_edge 44 = .ok (.iload_n 3, 1) := by decide +kernel
theorem dX5_edge_45 : decode cX5_edge 45 = .ok (.invokestatic 249, 3) := by decide +kernel
theorem dX5_edge_48 : decode cX5_edge 48 = .ok (.iaload, 1) := by decide +kernel
theorem dX5_edge_49 : decode cX5_edge 49 = .ok (.istore 4, 2) := by decide +kernel
theorem dX5_edge_51 : decode cX5_edge 51 = .ok (.iload 4, 2) := by decide +kernel
theorem dX5_edge_53 : decode cX5_edge 53 = .ok (.ldc 253, 2) := by decide +kernel
theorem dX5_edge_55 : decode cX5_edge 55 = .ok (.if_icmp .ge 8, 3) := by decide +kernel
theorem dX5_edge_58 : decode cX5_edge 58 = .ok (.iload 4, 2) := by decide +kernel
theorem dX5_edge_60 : decode cX5_edge 60 = .ok (.goto 5, 3) := by decide +kernel
theorem dX5_edge_63 : decode cX5_edge 63 = .ok (.bipush (-4), 2) := by decide +kernel
theorem dX5_edge_65 : decode cX5_edge 65 = .ok (.ireturn, 1) := by decide +kernel
theorem dX5_automaton_0 : decode cX5_automaton 0 = .ok (.aload_n 0, 1) := by decide +kernel
theorem dX5_automaton_1 : decode cX5_automaton 1 = .ok (.invokevirtual 198, 3) := by decide +kernel
theorem dX5_automaton_4 : decode cX5_automaton 4 = .ok (.iload_n 1, 1) := by decide +kernel
theorem dX5_automaton_5 : decode cX5_automaton 5 = .ok (.tableswitch 63 0 3 #[31, 39, 47, 55], 31) := by decide +kernel
theorem dX5_automaton_36 : decode cX5_automaton 36 = .ok (.aload_n 0, 1) := by decide +kernel
theorem dX5_automaton_37 : decode cX5_automaton 37 = .ok (.getfield 36, 3) := by decide +kernel
theorem dX5_automaton_40 : decode cX5_automaton 40 = .ok (.getfield 254, 3) := by decide +kernel
theorem dX5_automaton_43 : decode cX5_automaton 43 = .ok (.ireturn, 1) := by decide +kernel
theorem dX5_automaton_44 : decode cX5_automaton 44 = .ok (.aload_n 0, 1) := by decide +kernel
theorem dX5_automaton_45 : decode cX5_automaton 45 = .ok (.getfield 36, 3) := by decide +kernel
theorem dX5_automaton_48 : decode cX5_automaton 48 = .ok (.getfield 257, 3) := by decide +kernel
theorem dX5_automaton_51 : decode cX5_automaton 51 = .ok (.ireturn, 1) := by decide +kernel
theorem dX5_automaton_52 : decode cX5_automaton 52 = .ok (.aload_n 0, 1) := by decide +kernel
theorem dX5_automaton_53 : decode cX5_automaton 53 = .ok (.getfield 36, 3) := by decide +kernel
theorem dX5_automaton_56 : decode cX5_automaton 56 = .ok (.getfield 260, 3) := by decide +kernel
theorem dX5_automaton_59 : decode cX5_automaton 59 = .ok (.ireturn, 1) := by decide +kernel
theorem dX5_automaton_60 : decode cX5_automaton 60 = .ok (.aload_n 0, 1) := by decide +kernel
theorem dX5_automaton_61 : decode cX5_automaton 61 = .ok (.getfield 36, 3) := by decide +kernel
theorem dX5_automaton_64 : decode cX5_automaton 64 = .ok (.getfield 263, 3) := by decide +kernel
theorem dX5_automaton_67 : decode cX5_automaton 67 = .ok (.ireturn, 1) := by decide +kernel
theorem dX5_automaton_68 : decode cX5_automaton 68 = .ok (.iconst (-1), 1) := by decide +kernel
theorem dX5_automaton_69 : decode cX5_automaton 69 = .ok (.ireturn, 1) := by decide +kernel
theorem dX5_needed_0 : decode cX5_needed 0 = .ok (.aload_n 0, 1) := by decide +kernel
theorem dX5_needed_1 : decode cX5_needed 1 = .ok (.invokevirtual 266, 3) := by decide +kernel
theorem dX5_needed_4 : decode cX5_needed 4 = .ok (.bipush (-4), 2) := by decide +kernel
theorem dX5_needed_6 : decode cX5_needed 6 = .ok (.if_icmp .ne 5, 3) := by decide +kernel
theorem dX5_needed_9 : decode cX5_needed 9 = .ok (.iconst 0, 1) := by decide +kernel
theorem dX5_needed_10 : decode cX5_needed 10 = .ok (.ireturn, 1) := by decide +kernel
theorem dX5_needed_11 : decode cX5_needed 11 = .ok (.iconst 0, 1) := by decide +kernel
theorem dX5_needed_12 : decode cX5_needed 12 = .ok (.istore_n 1, 1) := by decide +kernel
theorem dX5_needed_13 : decode cX5_needed 13 = .ok (.iconst 0, 1) := by decide +kernel
theorem dX5_needed_14 : decode cX5_needed 14 = .ok (.istore_n 2, 1) := by decide +kernel
theorem dX5_needed_15 : decode cX5_needed 15 = .ok (.iload_n 2, 1) := by decide +kernel
theorem dX5_needed_16 : decode cX5_needed 16 = .ok (.aload_n 0, 1) := by decide +kernel
theorem dX5_needed_17 : decode cX5_needed 17 = .ok (.getfield 19, 3) := by decide +kernel
theorem dX5_needed_20 : decode cX5_needed 20 = .ok (.getfield 86, 3) := by decide +kernel
theorem dX5_needed_23 : decode cX5_needed 23 = .ok (.if_icmp .ge 45, 3) := by decide +kernel
theorem dX5_needed_26 : decode cX5_needed 26 = .ok (.aload_n 0, 1) := by decide +kernel
theorem dX5_needed_27 : decode cX5_needed 27 = .ok (.getfield 43, 3) := by decide +kernel
theorem dX5_needed_30 : decode cX5_needed 30 = .ok (.aload_n 0, 1) := by decide +kernel
theorem dX5_needed_31 : decode cX5_needed 31 = .ok (.getfield 19, 3) := by decide +kernel
theorem dX5_needed_34 : decode cX5_needed 34 = .ok (.iconst 2, 1) := by decide +kernel
theorem dX5_needed_35 : decode cX5_needed 35 = .ok (.iload_n 2, 1) := by decide +kernel
theorem dX5_needed_36 : decode cX5_needed 36 = .ok (.iconst (-1), 1) := by decide +kernel
theorem dX5_needed_37 : decode cX5_needed 37 = .ok (.invokevirtual 269, 3) := by decide +kernel
theorem dX5_needed_40 : decode cX5_needed 40 = .ok (.aload_n 0, 1) := by decide +kernel
theorem dX5_needed_41 : decode cX5_needed 41 = .ok (.getfield 43, 3) := by decide +kernel
theorem dX5_needed_44 : decode cX5_needed 44 = .ok (.aload_n 0, 1) := by decide +kernel
theorem dX5_needed_45 : decode cX5_needed 45 = .ok (.getfield 19, 3) := by decide +kernel
theorem dX5_needed_48 : decode cX5_needed 48 = .ok (.invokevirtual 201, 3) := by decide +kernel
theorem dX5_needed_51 : decode cX5_needed 51 = .ok (.bipush (-4), 2) := by decide +kernel
theorem dX5_needed_53 : decode cX5_needed 53 = .ok (.if_icmp .ne 9, 3) := by decide +kernel
theorem dX5_needed_56 : decode cX5_needed 56 = .ok (.iload_n 1, 1) := by decide +kernel
theorem dX5_needed_57 : decode cX5_needed 57 = .ok (.iconst 1, 1) := by decide +kernel
theorem dX5_needed_58 : decode cX5_needed 58 = .ok (.iload_n 2, 1) := by decide +kernel
theorem dX5_needed_59 : decode cX5_needed 59 = .ok (.ishl, 1) := by decide +kernel
theorem dX5_needed_60 : decode cX5_needed 60 = .ok (.ior, 1) := by decide +kernel
theorem dX5_needed_61 : decode cX5_needed 61 = .ok (.istore_n 1, 1) := by decide +kernel
theorem dX5_needed_62 : decode cX5_needed 62 = .ok (.iinc 2 1, 3) := by decide +kernel
theorem dX5_needed_65 : decode cX5_needed 65 = .ok (.goto (-50), 3) := by decide +kernel
theorem dX5_needed_68 : decode cX5_needed 68 = .ok (.iload_n 1, 1) := by decide +kernel
theorem dX5_needed_69 : decode cX5_needed 69 = .ok (.ireturn, 1) := by decide +kernel
theorem dX5_dear_0 : decode cX5_dear 0 = .ok (.aload_n 0, 1) := by decide +kernel
theorem dX5_dear_1 : decode cX5_dear 1 = .ok (.iload_n 1, 1) := by decide +kernel
theorem dX5_dear_2 : decode cX5_dear 2 = .ok (.invokevirtual 102, 3) := by decide +kernel
theorem dX5_dear_5 : decode cX5_dear 5 = .ok (.ifCond .ne 5, 3) := by decide +kernel
theorem dX5_dear_8 : decode cX5_dear 8 = .ok (.iconst (-1), 1) := by decide +kernel
theorem dX5_dear_9 : decode cX5_dear 9 = .ok (.ireturn, 1) := by decide +kernel
theorem dX5_dear_10 : decode cX5_dear 10 = .ok (.aload_n 0, 1) := by decide +kernel
theorem dX5_dear_11 : decode cX5_dear 11 = .ok (.invokevirtual 266, 3) := by decide +kernel
theorem dX5_dear_14 : decode cX5_dear 14 = .ok (.istore_n 2, 1) := by decide +kernel
theorem dX5_dear_15 : decode cX5_dear 15 = .ok (.iload_n 2, 1) := by decide +kernel
theorem dX5_dear_16 : decode cX5_dear 16 = .ok (.bipush (-4), 2) := by decide +kernel
theorem dX5_dear_18 : decode cX5_dear 18 = .ok (.if_icmp .ne 6, 3) := by decide +kernel
theorem dX5_dear_21 : decode cX5_dear 21 = .ok (.bipush (-4), 2) := by decide +kernel
theorem dX5_dear_23 : decode cX5_dear 23 = .ok (.ireturn, 1) := by decide +kernel
theorem dX5_dear_24 : decode cX5_dear 24 = .ok (.aload_n 0, 1) := by decide +kernel
theorem dX5_dear_25 : decode cX5_dear 25 = .ok (.iload_n 1, 1) := by decide +kernel
theorem dX5_dear_26 : decode cX5_dear 26 = .ok (.bipush 9, 2) := by decide +kernel
theorem dX5_dear_28 : decode cX5_dear 28 = .ok (.invokevirtual 273, 3) := by decide +kernel
theorem dX5_dear_31 : decode cX5_dear 31 = .ok (.iload_n 2, 1) := by decide +kernel
theorem dX5_dear_32 : decode cX5_dear 32 = .ok (.if_icmp .ne 6, 3) := by decide +kernel
theorem dX5_dear_35 : decode cX5_dear 35 = .ok (.bipush 9, 2) := by decide +kernel
theorem dX5_dear_37 : decode cX5_dear 37 = .ok (.ireturn, 1) := by decide +kernel
theorem dX5_dear_38 : decode cX5_dear 38 = .ok (.aload_n 0, 1) := by decide +kernel
theorem dX5_dear_39 : decode cX5_dear 39 = .ok (.getfield 19, 3) := by decide +kernel
theorem dX5_dear_42 : decode cX5_dear 42 = .ok (.getfield 129, 3) := by decide +kernel
theorem dX5_dear_45 : decode cX5_dear 45 = .ok (.iload_n 1, 1) := by decide +kernel
theorem dX5_dear_46 : decode cX5_dear 46 = .ok (.iaload, 1) := by decide +kernel
theorem dX5_dear_47 : decode cX5_dear 47 = .ok (.iconst 1, 1) := by decide +kernel
theorem dX5_dear_48 : decode cX5_dear 48 = .ok (.iadd, 1) := by decide +kernel
theorem dX5_dear_49 : decode cX5_dear 49 = .ok (.istore_n 3, 1) := by decide +kernel
theorem dX5_dear_50 : decode cX5_dear 50 = .ok (.iload_n 3, 1) := by decide +kernel
theorem dX5_dear_51 : decode cX5_dear 51 = .ok (.bipush 9, 2) := by decide +kernel
theorem dX5_dear_53 : decode cX5_dear 53 = .ok (.if_icmp .ge 23, 3) := by decide +kernel
theorem dX5_dear_56 : decode cX5_dear 56 = .ok (.aload_n 0, 1) := by decide +kernel
theorem dX5_dear_57 : decode cX5_dear 57 = .ok (.iload_n 1, 1) := by decide +kernel
theorem dX5_dear_58 : decode cX5_dear 58 = .ok (.iload_n 3, 1) := by decide +kernel
theorem dX5_dear_59 : decode cX5_dear 59 = .ok (.invokevirtual 273, 3) := by decide +kernel
theorem dX5_dear_62 : decode cX5_dear 62 = .ok (.iload_n 2, 1) := by decide +kernel
theorem dX5_dear_63 : decode cX5_dear 63 = .ok (.if_icmp .eq 7, 3) := by decide +kernel
theorem dX5_dear_66 : decode cX5_dear 66 = .ok (.iload_n 3, 1) := by decide +kernel
theorem dX5_dear_67 : decode cX5_dear 67 = .ok (.iconst 1, 1) := by decide +kernel
theorem dX5_dear_68 : decode cX5_dear 68 = .ok (.isub, 1) := by decide +kernel
theorem dX5_dear_69 : decode cX5_dear 69 = .ok (.ireturn, 1) := by decide +kernel
theorem dX5_dear_70 : decode cX5_dear 70 = .ok (.iinc 3 1, 3) := by decide +kernel
theorem dX5_dear_73 : decode cX5_dear 73 = .ok (.goto (-23), 3) := by decide +kernel
theorem dX5_dear_76 : decode cX5_dear 76 = .ok (.bipush 8, 2) := by decide +kernel
theorem dX5_dear_78 : decode cX5_dear 78 = .ok (.ireturn, 1) := by decide +kernel
theorem dX5_walk_0 : decode cX5_walk 0 = .ok (.iload_n 1, 1) := by decide +kernel
theorem dX5_walk_1 : decode cX5_walk 1 = .ok (.ifCond .lt 30, 3) := by decide +kernel
theorem dX5_walk_4 : decode cX5_walk 4 = .ok (.iload_n 1, 1) := by decide +kernel
theorem dX5_walk_5 : decode cX5_walk 5 = .ok (.sipush 9999, 3) := by decide +kernel
theorem dX5_walk_8 : decode cX5_walk 8 = .ok (.if_icmp .gt 23, 3) := by decide +kernel
theorem dX5_walk_11 : decode cX5_walk 11 = .ok (.iload_n 2, 1) := by decide +kernel
theorem dX5_walk_12 : decode cX5_walk 12 = .ok (.iconst 1, 1) := by decide +kernel
theorem dX5_walk_13 : decode cX5_walk 13 = .ok (.if_icmp .lt 18, 3) := by decide +kernel
theorem dX5_walk_16 : decode cX5_walk 16 = .ok (.iload_n 2, 1) := by decide +kernel
theorem dX5_walk_17 : decode cX5_walk 17 = .ok (.bipush 60, 2) := by decide +kernel
theorem dX5_walk_19 : decode cX5_walk 19 = .ok (.if_icmp .gt 12, 3) := by decide +kernel
theorem dX5_walk_22 : decode cX5_walk 22 = .ok (.iload_n 3, 1) := by decide +kernel
theorem dX5_walk_23 : decode cX5_walk 23 = .ok (.ifCond .lt 8, 3) := by decide +kernel
theorem dX5_walk_26 : decode cX5_walk 26 = .ok (.iload_n 3, 1) := by decide +kernel
theorem dX5_walk_27 : decode cX5_walk 27 = .ok (.iconst 2, 1) := by decide +kernel
theorem dX5_walk_28 : decode cX5_walk 28 = .ok (.if_icmp .le 5, 3) := by decide +kernel
theorem dX5_walk_31 : decode cX5_walk 31 = .ok (.iconst (-1), 1) := by decide +kernel
theorem dX5_walk_32 : decode cX5_walk 32 = .ok (.ireturn, 1) := by decide +kernel
theorem dX5_walk_33 : decode cX5_walk 33 = .ok (.aload_n 0, 1) := by decide +kernel
theorem dX5_walk_34 : decode cX5_walk 34 = .ok (.getfield 23, 3) := by decide +kernel
theorem dX5_walk_37 : decode cX5_walk 37 = .ok (.aload_n 0, 1) := by decide +kernel
theorem dX5_walk_38 : decode cX5_walk 38 = .ok (.getfield 19, 3) := by decide +kernel
theorem dX5_walk_41 : decode cX5_walk 41 = .ok (.invokevirtual 89, 3) := by decide +kernel
theorem dX5_walk_44 : decode cX5_walk 44 = .ok (.iconst 0, 1) := by decide +kernel
theorem dX5_walk_45 : decode cX5_walk 45 = .ok (.istore 4, 2) := by decide +kernel
theorem dX5_walk_47 : decode cX5_walk 47 = .ok (.iconst 0, 1) := by decide +kernel
theorem dX5_walk_48 : decode cX5_walk 48 = .ok (.istore 5, 2) := by decide +kernel
theorem dX5_walk_50 : decode cX5_walk 50 = .ok (.iload 5, 2) := by decide +kernel
theorem dX5_walk_52 : decode cX5_walk 52 = .ok (.iload_n 2, 1) := by decide +kernel
theorem dX5_walk_53 : decode cX5_walk 53 = .ok (.if_icmp .ge 59, 3) := by decide +kernel
theorem dX5_walk_56 : decode cX5_walk 56 = .ok (.aload_n 0, 1) := by decide +kernel
theorem dX5_walk_57 : decode cX5_walk 57 = .ok (.getfield 23, 3) := by decide +kernel
theorem dX5_walk_60 : decode cX5_walk 60 = .ok (.iload_n 1, 1) := by decide +kernel
theorem dX5_walk_61 : decode cX5_walk 61 = .ok (.iload 5, 2) := by decide +kernel
theorem dX5_walk_63 : decode cX5_walk 63 = .ok (.invokestatic 276, 3) := by decide +kernel
theorem dX5_walk_66 : decode cX5_walk 66 = .ok (.invokevirtual 279, 3) := by decide +kernel
theorem dX5_walk_69 : decode cX5_walk 69 = .ok (.istore 6, 2) := by decide +kernel
theorem dX5_walk_71 : decode cX5_walk 71 = .ok (.iload 6, 2) := by decide +kernel
theorem dX5_walk_73 : decode cX5_walk 73 = .ok (.iconst (-1), 1) := by decide +kernel
theorem dX5_walk_74 : decode cX5_walk 74 = .ok (.if_icmp .eq 38, 3) := by decide +kernel
theorem dX5_walk_77 : decode cX5_walk 77 = .ok (.aload_n 0, 1) := by decide +kernel
theorem dX5_walk_78 : decode cX5_walk 78 = .ok (.getfield 23, 3) := by decide +kernel
theorem dX5_walk_81 : decode cX5_walk 81 = .ok (.iload 6, 2) := by decide +kernel
theorem dX5_walk_83 : decode cX5_walk 83 = .ok (.invokevirtual 173, 3) := by decide +kernel
theorem dX5_walk_86 : decode cX5_walk 86 = .ok (.bipush 12, 2) := by decide +kernel
theorem dX5_walk_88 : decode cX5_walk 88 = .ok (.if_icmp .le 6, 3) := by decide +kernel
theorem dX5_walk_91 : decode cX5_walk 91 = .ok (.goto 21, 3) := by decide +kernel
theorem dX5_walk_94 : decode cX5_walk 94 = .ok (.aload_n 0, 1) := by decide +kernel
theorem dX5_walk_95 : decode cX5_walk 95 = .ok (.getfield 23, 3) := by decide +kernel
theorem dX5_walk_98 : decode cX5_walk 98 = .ok (.iload 6, 2) := by decide +kernel
theorem dX5_walk_100 : decode cX5_walk 100 = .ok (.invokevirtual 176, 3) := by decide +kernel
theorem dX5_walk_103 : decode cX5_walk 103 = .ok (.iinc 4 1, 3) := by decide +kernel
theorem dX5_walk_106 : decode cX5_walk 106 = .ok (.iinc 5 1, 3) := by decide +kernel
theorem dX5_walk_109 : decode cX5_walk 109 = .ok (.goto (-59), 3) := by decide +kernel
theorem dX5_walk_112 : decode cX5_walk 112 = .ok (.iload_n 3, 1) := by decide +kernel
theorem dX5_walk_113 : decode cX5_walk 113 = .ok (.ifCond .ne 6, 3) := by decide +kernel
theorem dX5_walk_116 : decode cX5_walk 116 = .ok (.iload 4, 2) := by decide +kernel
theorem dX5_walk_118 : decode cX5_walk 118 = .ok (.ireturn, 1) := by decide +kernel
theorem dX5_walk_119 : decode cX5_walk 119 = .ok (.iload_n 3, 1) := by decide +kernel
theorem dX5_walk_120 : decode cX5_walk 120 = .ok (.iconst 1, 1) := by decide +kernel
theorem dX5_walk_121 : decode cX5_walk 121 = .ok (.if_icmp .ne 13, 3) := by decide +kernel
theorem dX5_walk_124 : decode cX5_walk 124 = .ok (.aload_n 0, 1) := by decide +kernel
theorem dX5_walk_125 : decode cX5_walk 125 = .ok (.getfield 23, 3) := by decide +kernel
theorem dX5_walk_128 : decode cX5_walk 128 = .ok (.getfield 151, 3) := by decide +kernel
theorem dX5_walk_131 : decode cX5_walk 131 = .ok (.goto 10, 3) := by decide +kernel
theorem dX5_walk_134 : decode cX5_walk 134 = .ok (.aload_n 0, 1) := by decide +kernel
theorem dX5_walk_135 : decode cX5_walk 135 = .ok (.getfield 23, 3) := by decide +kernel
theorem dX5_walk_138 : decode cX5_walk 138 = .ok (.getfield 148, 3) := by decide +kernel
theorem dX5_walk_141 : decode cX5_walk 141 = .ok (.ireturn, 1) := by decide +kernel
theorem dX5_keep_0 : decode cX5_keep 0 = .ok (.aload_n 0, 1) := by decide +kernel
theorem dX5_keep_1 : decode cX5_keep 1 = .ok (.getfield 96, 3) := by decide +kernel
theorem dX5_keep_4 : decode cX5_keep 4 = .ok (.iconst 2, 1) := by decide +kernel
theorem dX5_keep_5 : decode cX5_keep 5 = .ok (.if_icmp .lt 6, 3) := by decide +kernel
theorem dX5_keep_8 : decode cX5_keep 8 = .ok (.bipush (-3), 2) := by decide +kernel
theorem dX5_keep_10 : decode cX5_keep 10 = .ok (.ireturn, 1) := by decide +kernel
theorem dX5_keep_11 : decode cX5_keep 11 = .ok (.aload_n 0, 1) := by decide +kernel
theorem dX5_keep_12 : decode cX5_keep 12 = .ok (.getfield 30, 3) := by decide +kernel
theorem dX5_keep_15 : decode cX5_keep 15 = .ok (.aload_n 0, 1) := by decide +kernel
theorem dX5_keep_16 : decode cX5_keep 16 = .ok (.getfield 96, 3) := by decide +kernel
theorem dX5_keep_19 : decode cX5_keep 19 = .ok (.aaload, 1) := by decide +kernel
theorem dX5_keep_20 : decode cX5_keep 20 = .ok (.aload_n 0, 1) := by decide +kernel
theorem dX5_keep_21 : decode cX5_keep 21 = .ok (.getfield 19, 3) := by decide +kernel
theorem dX5_keep_24 : decode cX5_keep 24 = .ok (.invokevirtual 89, 3) := by decide +kernel
theorem dX5_keep_27 : decode cX5_keep 27 = .ok (.aload_n 0, 1) := by decide +kernel
theorem dX5_keep_28 : decode cX5_keep 28 = .ok (.dup, 1) := by decide +kernel
theorem dX5_keep_29 : decode cX5_keep 29 = .ok (.getfield 96, 3) := by decide +kernel
theorem dX5_keep_32 : decode cX5_keep 32 = .ok (.iconst 1, 1) := by decide +kernel
theorem dX5_keep_33 : decode cX5_keep 33 = .ok (.iadd, 1) := by decide +kernel
theorem dX5_keep_34 : decode cX5_keep 34 = .ok (.putfield 96, 3) := by decide +kernel
theorem dX5_keep_37 : decode cX5_keep 37 = .ok (.aload_n 0, 1) := by decide +kernel
theorem dX5_keep_38 : decode cX5_keep 38 = .ok (.getfield 96, 3) := by decide +kernel
theorem dX5_keep_41 : decode cX5_keep 41 = .ok (.ireturn, 1) := by decide +kernel
theorem dX5_back_0 : decode cX5_back 0 = .ok (.aload_n 0, 1) := by decide +kernel
theorem dX5_back_1 : decode cX5_back 1 = .ok (.getfield 96, 3) := by decide +kernel
theorem dX5_back_4 : decode cX5_back 4 = .ok (.ifCond .ne 6, 3) := by decide +kernel
theorem dX5_back_7 : decode cX5_back 7 = .ok (.bipush (-2), 2) := by decide +kernel
theorem dX5_back_9 : decode cX5_back 9 = .ok (.ireturn, 1) := by decide +kernel
theorem dX5_back_10 : decode cX5_back 10 = .ok (.aload_n 0, 1) := by decide +kernel
theorem dX5_back_11 : decode cX5_back 11 = .ok (.dup, 1) := by decide +kernel
theorem dX5_back_12 : decode cX5_back 12 = .ok (.getfield 96, 3) := by decide +kernel
theorem dX5_back_15 : decode cX5_back 15 = .ok (.iconst 1, 1) := by decide +kernel
theorem dX5_back_16 : decode cX5_back 16 = .ok (.isub, 1) := by decide +kernel
theorem dX5_back_17 : decode cX5_back 17 = .ok (.putfield 96, 3) := by decide +kernel
theorem dX5_back_20 : decode cX5_back 20 = .ok (.aload_n 0, 1) := by decide +kernel
theorem dX5_back_21 : decode cX5_back 21 = .ok (.getfield 19, 3) := by decide +kernel
theorem dX5_back_24 : decode cX5_back 24 = .ok (.aload_n 0, 1) := by decide +kernel
theorem dX5_back_25 : decode cX5_back 25 = .ok (.getfield 30, 3) := by decide +kernel
theorem dX5_back_28 : decode cX5_back 28 = .ok (.aload_n 0, 1) := by decide +kernel
theorem dX5_back_29 : decode cX5_back 29 = .ok (.getfield 96, 3) := by decide +kernel
theorem dX5_back_32 : decode cX5_back 32 = .ok (.aaload, 1) := by decide +kernel
theorem dX5_back_33 : decode cX5_back 33 = .ok (.invokevirtual 89, 3) := by decide +kernel
theorem dX5_back_36 : decode cX5_back 36 = .ok (.aload_n 0, 1) := by decide +kernel
theorem dX5_back_37 : decode cX5_back 37 = .ok (.iconst 0, 1) := by decide +kernel
theorem dX5_back_38 : decode cX5_back 38 = .ok (.putfield 93, 3) := by decide +kernel
theorem dX5_back_41 : decode cX5_back 41 = .ok (.aload_n 0, 1) := by decide +kernel
theorem dX5_back_42 : decode cX5_back 42 = .ok (.invokevirtual 99, 3) := by decide +kernel
theorem dX5_back_45 : decode cX5_back 45 = .ok (.aload_n 0, 1) := by decide +kernel
theorem dX5_back_46 : decode cX5_back 46 = .ok (.getfield 96, 3) := by decide +kernel
theorem dX5_back_49 : decode cX5_back 49 = .ok (.ireturn, 1) := by decide +kernel
theorem dX5_count_0 : decode cX5_count 0 = .ok (.iload_n 1, 1) := by decide +kernel
theorem dX5_count_1 : decode cX5_count 1 = .ok (.tableswitch 93 0 6 #[43, 51, 59, 67, 75, 80, 85], 43) := by decide +kernel
theorem dX5_count_44 : decode cX5_count 44 = .ok (.aload_n 0, 1) := by decide +kernel
theorem dX5_count_45 : decode cX5_count 45 = .ok (.getfield 19, 3) := by decide +kernel
theorem dX5_count_48 : decode cX5_count 48 = .ok (.getfield 236, 3) := by decide +kernel
theorem dX5_count_51 : decode cX5_count 51 = .ok (.ireturn, 1) := by decide +kernel
theorem dX5_count_52 : decode cX5_count 52 = .ok (.aload_n 0, 1) := by decide +kernel
theorem dX5_count_53 : decode cX5_count 53 = .ok (.getfield 19, 3) := by decide +kernel
theorem dX5_count_56 : decode cX5_count 56 = .ok (.getfield 86, 3) := by decide +kernel
theorem dX5_count_59 : decode cX5_count 59 = .ok (.ireturn, 1) := by decide +kernel
theorem dX5_count_60 : decode cX5_count 60 = .ok (.aload_n 0, 1) := by decide +kernel
theorem dX5_count_61 : decode cX5_count 61 = .ok (.getfield 19, 3) := by decide +kernel
theorem dX5_count_64 : decode cX5_count 64 = .ok (.getfield 132, 3) := by decide +kernel
theorem dX5_count_67 : decode cX5_count 67 = .ok (.ireturn, 1) := by decide +kernel
theorem dX5_count_68 : decode cX5_count 68 = .ok (.aload_n 0, 1) := by decide +kernel
theorem dX5_count_69 : decode cX5_count 69 = .ok (.getfield 19, 3) := by decide +kernel
theorem dX5_count_72 : decode cX5_count 72 = .ok (.getfield 192, 3) := by decide +kernel
theorem dX5_count_75 : decode cX5_count 75 = .ok (.ireturn, 1) := by decide +kernel
theorem dX5_count_76 : decode cX5_count 76 = .ok (.aload_n 0, 1) := by decide +kernel
theorem dX5_count_77 : decode cX5_count 77 = .ok (.getfield 93, 3) := by decide +kernel
theorem dX5_count_80 : decode cX5_count 80 = .ok (.ireturn, 1) := by decide +kernel
theorem dX5_count_81 : decode cX5_count 81 = .ok (.aload_n 0, 1) := by decide +kernel
theorem dX5_count_82 : decode cX5_count 82 = .ok (.getfield 96, 3) := by decide +kernel
theorem dX5_count_85 : decode cX5_count 85 = .ok (.ireturn, 1) := by decide +kernel
theorem dX5_count_86 : decode cX5_count 86 = .ok (.aload_n 0, 1) := by decide +kernel
theorem dX5_count_87 : decode cX5_count 87 = .ok (.getfield 12, 3) := by decide +kernel
theorem dX5_count_90 : decode cX5_count 90 = .ok (.getfield 83, 3) := by decide +kernel
theorem dX5_count_93 : decode cX5_count 93 = .ok (.ireturn, 1) := by decide +kernel
theorem dX5_count_94 : decode cX5_count 94 = .ok (.iconst (-1), 1) := by decide +kernel
theorem dX5_count_95 : decode cX5_count 95 = .ok (.ireturn, 1) := by decide +kernel
theorem dX5_isState_0 : decode cX5_isState 0 = .ok (.iload_n 1, 1) := by decide +kernel
theorem dX5_isState_1 : decode cX5_isState 1 = .ok (.ifCond .lt 18, 3) := by decide +kernel
theorem dX5_isState_4 : decode cX5_isState 4 = .ok (.iload_n 1, 1) := by decide +kernel
theorem dX5_isState_5 : decode cX5_isState 5 = .ok (.aload_n 0, 1) := by decide +kernel
theorem dX5_isState_6 : decode cX5_isState 6 = .ok (.getfield 19, 3) := by decide +kernel
theorem dX5_isState_9 : decode cX5_isState 9 = .ok (.getfield 236, 3) := by decide +kernel
theorem dX5_isState_12 : decode cX5_isState 12 = .ok (.if_icmp .ge 7, 3) := by decide +kernel
theorem dX5_isState_15 : decode cX5_isState 15 = .ok (.iconst 1, 1) := by decide +kernel
theorem dX5_isState_16 : decode cX5_isState 16 = .ok (.goto 4, 3) := by decide +kernel
theorem dX5_isState_19 : decode cX5_isState 19 = .ok (.iconst 0, 1) := by decide +kernel
theorem dX5_isState_20 : decode cX5_isState 20 = .ok (.ireturn, 1) := by decide +kernel
theorem dX5_isRule_0 : decode cX5_isRule 0 = .ok (.iload_n 1, 1) := by decide +kernel
theorem dX5_isRule_1 : decode cX5_isRule 1 = .ok (.ifCond .lt 18, 3) := by decide +kernel
theorem dX5_isRule_4 : decode cX5_isRule 4 = .ok (.iload_n 1, 1) := by decide +kernel
theorem dX5_isRule_5 : decode cX5_isRule 5 = .ok (.aload_n 0, 1) := by decide +kernel
theorem dX5_isRule_6 : decode cX5_isRule 6 = .ok (.getfield 19, 3) := by decide +kernel
theorem dX5_isRule_9 : decode cX5_isRule 9 = .ok (.getfield 86, 3) := by decide +kernel
theorem dX5_isRule_12 : decode cX5_isRule 12 = .ok (.if_icmp .ge 7, 3) := by decide +kernel
theorem dX5_isRule_15 : decode cX5_isRule 15 = .ok (.iconst 1, 1) := by decide +kernel
theorem dX5_isRule_16 : decode cX5_isRule 16 = .ok (.goto 4, 3) := by decide +kernel
theorem dX5_isRule_19 : decode cX5_isRule 19 = .ok (.iconst 0, 1) := by decide +kernel
theorem dX5_isRule_20 : decode cX5_isRule 20 = .ok (.ireturn, 1) := by decide +kernel
theorem dX5_isLetter_0 : decode cX5_isLetter 0 = .ok (.iload_n 0, 1) := by decide +kernel
theorem dX5_isLetter_1 : decode cX5_isLetter 1 = .ok (.ifCond .lt 12, 3) := by decide +kernel
theorem dX5_isLetter_4 : decode cX5_isLetter 4 = .ok (.iload_n 0, 1) := by decide +kernel
theorem dX5_isLetter_5 : decode cX5_isLetter 5 = .ok (.iconst 4, 1) := by decide +kernel
theorem dX5_isLetter_6 : decode cX5_isLetter 6 = .ok (.if_icmp .ge 7, 3) := by decide +kernel
theorem dX5_isLetter_9 : decode cX5_isLetter 9 = .ok (.iconst 1, 1) := by decide +kernel
theorem dX5_isLetter_10 : decode cX5_isLetter 10 = .ok (.goto 4, 3) := by decide +kernel
theorem dX5_isLetter_13 : decode cX5_isLetter 13 = .ok (.iconst 0, 1) := by decide +kernel
theorem dX5_isLetter_14 : decode cX5_isLetter 14 = .ok (.ireturn, 1) := by decide +kernel
theorem dX5_isCost_0 : decode cX5_isCost 0 = .ok (.iload_n 0, 1) := by decide +kernel
theorem dX5_isCost_1 : decode cX5_isCost 1 = .ok (.ifCond .lt 13, 3) := by decide +kernel
theorem dX5_isCost_4 : decode cX5_isCost 4 = .ok (.iload_n 0, 1) := by decide +kernel
theorem dX5_isCost_5 : decode cX5_isCost 5 = .ok (.bipush 9, 2) := by decide +kernel
theorem dX5_isCost_7 : decode cX5_isCost 7 = .ok (.if_icmp .gt 7, 3) := by decide +kernel
theorem dX5_isCost_10 : decode cX5_isCost 10 = .ok (.iconst 1, 1) := by decide +kernel
theorem dX5_isCost_11 : decode cX5_isCost 11 = .ok (.goto 4, 3) := by decide +kernel
theorem dX5_isCost_14 : decode cX5_isCost 14 = .ok (.iconst 0, 1) := by decide +kernel
theorem dX5_isCost_15 : decode cX5_isCost 15 = .ok (.ireturn, 1) := by decide +kernel
theorem dX5_remember_0 : decode cX5_remember 0 = .ok (.aload_n 0, 1) := by decide +kernel
theorem dX5_remember_1 : decode cX5_remember 1 = .ok (.getfield 26, 3) := by decide +kernel
theorem dX5_remember_4 : decode cX5_remember 4 = .ok (.aload_n 0, 1) := by decide +kernel
theorem dX5_remember_5 : decode cX5_remember 5 = .ok (.getfield 195, 3) := by decide +kernel
theorem dX5_remember_8 : decode cX5_remember 8 = .ok (.aaload, 1) := by decide +kernel
theorem dX5_remember_9 : decode cX5_remember 9 = .ok (.aload_n 0, 1) := by decide +kernel
theorem dX5_remember_10 : decode cX5_remember 10 = .ok (.getfield 19, 3) := by decide +kernel
theorem dX5_remember_13 : decode cX5_remember 13 = .ok (.invokevirtual 89, 3) := by decide +kernel
theorem dX5_remember_16 : decode cX5_remember 16 = .ok (.aload_n 0, 1) := by decide +kernel
theorem dX5_remember_17 : decode cX5_remember 17 = .ok (.aload_n 0, 1) := by decide +kernel
theorem dX5_remember_18 : decode cX5_remember 18 = .ok (.getfield 195, 3) := by decide +kernel
theorem dX5_remember_21 : decode cX5_remember 21 = .ok (.iconst 1, 1) := by decide +kernel
theorem dX5_remember_22 : decode cX5_remember 22 = .ok (.iadd, 1) := by decide +kernel
theorem dX5_remember_23 : decode cX5_remember 23 = .ok (.bipush 8, 2) := by decide +kernel
theorem dX5_remember_25 : decode cX5_remember 25 = .ok (.irem, 1) := by decide +kernel
theorem dX5_remember_26 : decode cX5_remember 26 = .ok (.putfield 195, 3) := by decide +kernel
theorem dX5_remember_29 : decode cX5_remember 29 = .ok (.aload_n 0, 1) := by decide +kernel
theorem dX5_remember_30 : decode cX5_remember 30 = .ok (.getfield 93, 3) := by decide +kernel
theorem dX5_remember_33 : decode cX5_remember 33 = .ok (.bipush 8, 2) := by decide +kernel
theorem dX5_remember_35 : decode cX5_remember 35 = .ok (.if_icmp .ge 13, 3) := by decide +kernel
theorem dX5_remember_38 : decode cX5_remember 38 = .ok (.aload_n 0, 1) := by decide +kernel
theorem dX5_remember_39 : decode cX5_remember 39 = .ok (.dup, 1) := by decide +kernel
theorem dX5_remember_40 : decode cX5_remember 40 = .ok (.getfield 93, 3) := by decide +kernel
theorem dX5_remember_43 : decode cX5_remember 43 = .ok (.iconst 1, 1) := by decide +kernel
theorem dX5_remember_44 : decode cX5_remember 44 = .ok (.iadd, 1) := by decide +kernel
theorem dX5_remember_45 : decode cX5_remember 45 = .ok (.putfield 93, 3) := by decide +kernel
theorem dX5_remember_48 : decode cX5_remember 48 = .ok (.aload_n 0, 1) := by decide +kernel
theorem dX5_remember_49 : decode cX5_remember 49 = .ok (.iconst 0, 1) := by decide +kernel
theorem dX5_remember_50 : decode cX5_remember 50 = .ok (.putfield 282, 3) := by decide +kernel
theorem dX5_remember_53 : decode cX5_remember 53 = .ok (.return_, 1) := by decide +kernel
theorem dX5_noteNewRules_0 : decode cX5_noteNewRules 0 = .ok (.aload_n 0, 1) := by decide +kernel
theorem dX5_noteNewRules_1 : decode cX5_noteNewRules 1 = .ok (.iconst 0, 1) := by decide +kernel
theorem dX5_noteNewRules_2 : decode cX5_noteNewRules 2 = .ok (.putfield 286, 3) := by decide +kernel
theorem dX5_noteNewRules_5 : decode cX5_noteNewRules 5 = .ok (.aload_n 0, 1) := by decide +kernel
theorem dX5_noteNewRules_6 : decode cX5_noteNewRules 6 = .ok (.iconst 0, 1) := by decide +kernel
theorem dX5_noteNewRules_7 : decode cX5_noteNewRules 7 = .ok (.putfield 289, 3) := by decide +kernel
theorem dX5_noteNewRules_10 : decode cX5_noteNewRules 10 = .ok (.aload_n 0, 1) := by decide +kernel
theorem dX5_noteNewRules_11 : decode cX5_noteNewRules 11 = .ok (.iconst 0, 1) := by decide +kernel
theorem dX5_noteNewRules_12 : decode cX5_noteNewRules 12 = .ok (.putfield 282, 3) := by decide +kernel
theorem dX5_noteNewRules_15 : decode cX5_noteNewRules 15 = .ok (.return_, 1) := by decide +kernel
theorem dX5_renewNet_0 : decode cX5_renewNet 0 = .ok (.aload_n 0, 1) := by decide +kernel
theorem dX5_renewNet_1 : decode cX5_renewNet 1 = .ok (.getfield 286, 3) := by decide +kernel
theorem dX5_renewNet_4 : decode cX5_renewNet 4 = .ok (.ifCond .ne 28, 3) := by decide +kernel
theorem dX5_renewNet_7 : decode cX5_renewNet 7 = .ok (.aload_n 0, 1) := by decide +kernel
theorem dX5_renewNet_8 : decode cX5_renewNet 8 = .ok (.getfield 36, 3) := by decide +kernel
theorem dX5_renewNet_11 : decode cX5_renewNet 11 = .ok (.aload_n 0, 1) := by decide +kernel
theorem dX5_renewNet_12 : decode cX5_renewNet 12 = .ok (.getfield 19, 3) := by decide +kernel
theorem dX5_renewNet_15 : decode cX5_renewNet 15 = .ok (.aload_n 0, 1) := by decide +kernel
theorem dX5_renewNet_16 : decode cX5_renewNet 16 = .ok (.getfield 19, 3) := by decide +kernel
theorem dX5_renewNet_19 : decode cX5_renewNet 19 = .ok (.getfield 192, 3) := by decide +kernel
theorem dX5_renewNet_22 : decode cX5_renewNet 22 = .ok (.iconst (-1), 1) := by decide +kernel
theorem dX5_renewNet_23 : decode cX5_renewNet 23 = .ok (.iconst 0, 1) := by decide +kernel
theorem dX5_renewNet_24 : decode cX5_renewNet 24 = .ok (.invokevirtual 269, 3) := by decide +kernel
theorem dX5_renewNet_27 : decode cX5_renewNet 27 = .ok (.aload_n 0, 1) := by decide +kernel
theorem dX5_renewNet_28 : decode cX5_renewNet 28 = .ok (.iconst 1, 1) := by decide +kernel
theorem dX5_renewNet_29 : decode cX5_renewNet 29 = .ok (.putfield 286, 3) := by decide +kernel
theorem dX5_renewNet_32 : decode cX5_renewNet 32 = .ok (.return_, 1) := by decide +kernel
theorem dX5_renewRoute_0 : decode cX5_renewRoute 0 = .ok (.aload_n 0, 1) := by decide +kernel
theorem dX5_renewRoute_1 : decode cX5_renewRoute 1 = .ok (.getfield 289, 3) := by decide +kernel
theorem dX5_renewRoute_4 : decode cX5_renewRoute 4 = .ok (.ifCond .ne 22, 3) := by decide +kernel
theorem dX5_renewRoute_7 : decode cX5_renewRoute 7 = .ok (.aload_n 0, 1) := by decide +kernel
theorem dX5_renewRoute_8 : decode cX5_renewRoute 8 = .ok (.getfield 40, 3) := by decide +kernel
theorem dX5_renewRoute_11 : decode cX5_renewRoute 11 = .ok (.aload_n 0, 1) := by decide +kernel
theorem dX5_renewRoute_12 : decode cX5_renewRoute 12 = .ok (.getfield 19, 3) := by decide +kernel
theorem dX5_renewRoute_15 : decode cX5_renewRoute 15 = .ok (.iconst 1, 1) := by decide +kernel
theorem dX5_renewRoute_16 : decode cX5_renewRoute 16 = .ok (.iconst (-1), 1) := by decide +kernel
theorem dX5_renewRoute_17 : decode cX5_renewRoute 17 = .ok (.iconst 0, 1) := by decide +kernel
theorem dX5_renewRoute_18 : decode cX5_renewRoute 18 = .ok (.invokevirtual 269, 3) := by decide +kernel
theorem dX5_renewRoute_21 : decode cX5_renewRoute 21 = .ok (.aload_n 0, 1) := by decide +kernel
theorem dX5_renewRoute_22 : decode cX5_renewRoute 22 = .ok (.iconst 1, 1) := by decide +kernel
theorem dX5_renewRoute_23 : decode cX5_renewRoute 23 = .ok (.putfield 289, 3) := by decide +kernel
theorem dX5_renewRoute_26 : decode cX5_renewRoute 26 = .ok (.aload_n 0, 1) := by decide +kernel
theorem dX5_renewRoute_27 : decode cX5_renewRoute 27 = .ok (.getfield 282, 3) := by decide +kernel
theorem dX5_renewRoute_30 : decode cX5_renewRoute 30 = .ok (.ifCond .ne 23, 3) := by decide +kernel
theorem dX5_renewRoute_33 : decode cX5_renewRoute 33 = .ok (.aload_n 0, 1) := by decide +kernel
theorem dX5_renewRoute_34 : decode cX5_renewRoute 34 = .ok (.getfield 49, 3) := by decide +kernel
theorem dX5_renewRoute_37 : decode cX5_renewRoute 37 = .ok (.aload_n 0, 1) := by decide +kernel
theorem dX5_renewRoute_38 : decode cX5_renewRoute 38 = .ok (.getfield 19, 3) := by decide +kernel
theorem dX5_renewRoute_41 : decode cX5_renewRoute 41 = .ok (.aload_n 0, 1) := by decide +kernel
theorem dX5_renewRoute_42 : decode cX5_renewRoute 42 = .ok (.getfield 40, 3) := by decide +kernel
theorem dX5_renewRoute_45 : decode cX5_renewRoute 45 = .ok (.invokevirtual 213, 3) := by decide +kernel
theorem dX5_renewRoute_48 : decode cX5_renewRoute 48 = .ok (.aload_n 0, 1) := by decide +kernel
theorem dX5_renewRoute_49 : decode cX5_renewRoute 49 = .ok (.iconst 1, 1) := by decide +kernel
theorem dX5_renewRoute_50 : decode cX5_renewRoute 50 = .ok (.putfield 282, 3) := by decide +kernel
theorem dX5_renewRoute_53 : decode cX5_renewRoute 53 = .ok (.return_, 1) := by decide +kernel
theorem dX5_priceWith_0 : decode cX5_priceWith 0 = .ok (.aload_n 0, 1) := by decide +kernel
theorem dX5_priceWith_1 : decode cX5_priceWith 1 = .ok (.getfield 43, 3) := by decide +kernel
theorem dX5_priceWith_4 : decode cX5_priceWith 4 = .ok (.aload_n 0, 1) := by decide +kernel
theorem dX5_priceWith_5 : decode cX5_priceWith 5 = .ok (.getfield 19, 3) := by decide +kernel
theorem dX5_priceWith_8 : decode cX5_priceWith 8 = .ok (.aload_n 0, 1) := by decide +kernel
theorem dX5_priceWith_9 : decode cX5_priceWith 9 = .ok (.getfield 19, 3) := by decide +kernel
theorem dX5_priceWith_12 : decode cX5_priceWith 12 = .ok (.getfield 192, 3) := by decide +kernel
theorem dX5_priceWith_15 : decode cX5_priceWith 15 = .ok (.iload_n 1, 1) := by decide +kernel
theorem dX5_priceWith_16 : decode cX5_priceWith 16 = .ok (.iload_n 2, 1) := by decide +kernel
theorem dX5_priceWith_17 : decode cX5_priceWith 17 = .ok (.invokevirtual 269, 3) := by decide +kernel
theorem dX5_priceWith_20 : decode cX5_priceWith 20 = .ok (.aload_n 0, 1) := by decide +kernel
theorem dX5_priceWith_21 : decode cX5_priceWith 21 = .ok (.getfield 43, 3) := by decide +kernel
theorem dX5_priceWith_24 : decode cX5_priceWith 24 = .ok (.aload_n 0, 1) := by decide +kernel
theorem dX5_priceWith_25 : decode cX5_priceWith 25 = .ok (.getfield 19, 3) := by decide +kernel
theorem dX5_priceWith_28 : decode cX5_priceWith 28 = .ok (.invokevirtual 201, 3) := by decide +kernel
theorem dX5_priceWith_31 : decode cX5_priceWith 31 = .ok (.ireturn, 1) := by decide +kernel
theorem dX5_drawn_0 : decode cX5_drawn 0 = .ok (.ldc2_w 292, 3) := by decide +kernel
theorem dX5_drawn_3 : decode cX5_drawn 3 = .ok (.iload_n 0, 1) := by decide +kernel
theorem dX5_drawn_4 : decode cX5_drawn 4 = .ok (.i2l, 1) := by decide +kernel
theorem dX5_drawn_5 : decode cX5_drawn 5 = .ok (.lmul, 1) := by decide +kernel
theorem dX5_drawn_6 : decode cX5_drawn 6 = .ok (.ldc2_w 294, 3) := by decide +kernel
theorem dX5_drawn_9 : decode cX5_drawn 9 = .ok (.iload_n 1, 1) := by decide +kernel
theorem dX5_drawn_10 : decode cX5_drawn 10 = .ok (.i2l, 1) := by decide +kernel
theorem dX5_drawn_11 : decode cX5_drawn 11 = .ok (.lmul, 1) := by decide +kernel
theorem dX5_drawn_12 : decode cX5_drawn 12 = .ok (.ladd, 1) := by decide +kernel
theorem dX5_drawn_13 : decode cX5_drawn 13 = .ok (.lconst 1, 1) := by decide +kernel
theorem dX5_drawn_14 : decode cX5_drawn 14 = .ok (.ladd, 1) := by decide +kernel
theorem dX5_drawn_15 : decode cX5_drawn 15 = .ok (.lstore_n 2, 1) := by decide +kernel
theorem dX5_drawn_16 : decode cX5_drawn 16 = .ok (.lload_n 2, 1) := by decide +kernel
theorem dX5_drawn_17 : decode cX5_drawn 17 = .ok (.lload_n 2, 1) := by decide +kernel
theorem dX5_drawn_18 : decode cX5_drawn 18 = .ok (.lmul, 1) := by decide +kernel
theorem dX5_drawn_19 : decode cX5_drawn 19 = .ok (.ldc2_w 296, 3) := by decide +kernel
theorem dX5_drawn_22 : decode cX5_drawn 22 = .ok (.lrem, 1) := by decide +kernel
theorem dX5_drawn_23 : decode cX5_drawn 23 = .ok (.l2i, 1) := by decide +kernel
theorem dX5_drawn_24 : decode cX5_drawn 24 = .ok (.iconst 4, 1) := by decide +kernel
theorem dX5_drawn_25 : decode cX5_drawn 25 = .ok (.idiv, 1) := by decide +kernel
theorem dX5_drawn_26 : decode cX5_drawn 26 = .ok (.ireturn, 1) := by decide +kernel
theorem dX5_wordOf_0 : decode cX5_wordOf 0 = .ok (.iconst 5, 1) := by decide +kernel
theorem dX5_wordOf_1 : decode cX5_wordOf 1 = .ok (.iconst 4, 1) := by decide +kernel
theorem dX5_wordOf_2 : decode cX5_wordOf 2 = .ok (.iload_n 0, 1) := by decide +kernel
theorem dX5_wordOf_3 : decode cX5_wordOf 3 = .ok (.imul, 1) := by decide +kernel
theorem dX5_wordOf_4 : decode cX5_wordOf 4 = .ok (.iadd, 1) := by decide +kernel
theorem dX5_wordOf_5 : decode cX5_wordOf 5 = .ok (.iload_n 1, 1) := by decide +kernel
theorem dX5_wordOf_6 : decode cX5_wordOf 6 = .ok (.iadd, 1) := by decide +kernel
theorem dX5_wordOf_7 : decode cX5_wordOf 7 = .ok (.ireturn, 1) := by decide +kernel
theorem dX5_lettersIn_0 : decode cX5_lettersIn 0 = .ok (.iload_n 0, 1) := by decide +kernel
theorem dX5_lettersIn_1 : decode cX5_lettersIn 1 = .ok (.ifCond .ne 5, 3) := by decide +kernel
theorem dX5_lettersIn_4 : decode cX5_lettersIn 4 = .ok (.iconst 0, 1) := by decide +kernel
theorem dX5_lettersIn_5 : decode cX5_lettersIn 5 = .ok (.ireturn, 1) := by decide +kernel
theorem dX5_lettersIn_6 : decode cX5_lettersIn 6 = .ok (.iload_n 0, 1) := by decide +kernel
theorem dX5_lettersIn_7 : decode cX5_lettersIn 7 = .ok (.iconst 4, 1) := by decide +kernel
theorem dX5_lettersIn_8 : decode cX5_lettersIn 8 = .ok (.if_icmp .gt 7, 3) := by decide +kernel
theorem dX5_lettersIn_11 : decode cX5_lettersIn 11 = .ok (.iconst 1, 1) := by decide +kernel
theorem dX5_lettersIn_12 : decode cX5_lettersIn 12 = .ok (.goto 4, 3) := by decide +kernel
theorem dX5_lettersIn_15 : decode cX5_lettersIn 15 = .ok (.iconst 2, 1) := by decide +kernel
theorem dX5_lettersIn_16 : decode cX5_lettersIn 16 = .ok (.ireturn, 1) := by decide +kernel
theorem dX5_firstLetter_0 : decode cX5_firstLetter 0 = .ok (.iload_n 0, 1) := by decide +kernel
theorem dX5_firstLetter_1 : decode cX5_firstLetter 1 = .ok (.ifCond .ne 6, 3) := by decide +kernel
theorem dX5_firstLetter_4 : decode cX5_firstLetter 4 = .ok (.bipush (-4), 2) := by decide +kernel
theorem dX5_firstLetter_6 : decode cX5_firstLetter 6 = .ok (.ireturn, 1) := by decide +kernel
theorem dX5_firstLetter_7 : decode cX5_firstLetter 7 = .ok (.iload_n 0, 1) := by decide +kernel
theorem dX5_firstLetter_8 : decode cX5_firstLetter 8 = .ok (.iconst 4, 1) := by decide +kernel
theorem dX5_firstLetter_9 : decode cX5_firstLetter 9 = .ok (.if_icmp .gt 9, 3) := by decide +kernel
theorem dX5_firstLetter_12 : decode cX5_firstLetter 12 = .ok (.iload_n 0, 1) := by decide +kernel
theorem dX5_firstLetter_13 : decode cX5_firstLetter 13 = .ok (.iconst 1, 1) := by decide +kernel
theorem dX5_firstLetter_14 : decode cX5_firstLetter 14 = .ok (.isub, 1) := by decide +kernel
theorem dX5_firstLetter_15 : decode cX5_firstLetter 15 = .ok (.goto 10, 3) := by decide +kernel
theorem dX5_firstLetter_18 : decode cX5_firstLetter 18 = .ok (.iload_n 0, 1) := by decide +kernel
theorem dX5_firstLetter_19 : decode cX5_firstLetter 19 = .ok (.iconst 1, 1) := by decide +kernel
theorem dX5_firstLetter_20 : decode cX5_firstLetter 20 = .ok (.isub, 1) := by decide +kernel
theorem dX5_firstLetter_21 : decode cX5_firstLetter 21 = .ok (.iconst 4, 1) := by decide +kernel
theorem dX5_firstLetter_22 : decode cX5_firstLetter 22 = .ok (.isub, 1) := by decide +kernel
theorem dX5_firstLetter_23 : decode cX5_firstLetter 23 = .ok (.iconst 4, 1) := by decide +kernel
theorem dX5_firstLetter_24 : decode cX5_firstLetter 24 = .ok (.idiv, 1) := by decide +kernel
theorem dX5_firstLetter_25 : decode cX5_firstLetter 25 = .ok (.ireturn, 1) := by decide +kernel
theorem dX5_secondLetter_0 : decode cX5_secondLetter 0 = .ok (.iload_n 0, 1) := by decide +kernel
theorem dX5_secondLetter_1 : decode cX5_secondLetter 1 = .ok (.iconst 4, 1) := by decide +kernel
theorem dX5_secondLetter_2 : decode cX5_secondLetter 2 = .ok (.if_icmp .gt 8, 3) := by decide +kernel
theorem dX5_secondLetter_5 : decode cX5_secondLetter 5 = .ok (.bipush (-4), 2) := by decide +kernel
theorem dX5_secondLetter_7 : decode cX5_secondLetter 7 = .ok (.goto 10, 3) := by decide +kernel
theorem dX5_secondLetter_10 : decode cX5_secondLetter 10 = .ok (.iload_n 0, 1) := by decide +kernel
theorem dX5_secondLetter_11 : decode cX5_secondLetter 11 = .ok (.iconst 1, 1) := by decide +kernel
theorem dX5_secondLetter_12 : decode cX5_secondLetter 12 = .ok (.isub, 1) := by decide +kernel
theorem dX5_secondLetter_13 : decode cX5_secondLetter 13 = .ok (.iconst 4, 1) := by decide +kernel
theorem dX5_secondLetter_14 : decode cX5_secondLetter 14 = .ok (.isub, 1) := by decide +kernel
theorem dX5_secondLetter_15 : decode cX5_secondLetter 15 = .ok (.iconst 4, 1) := by decide +kernel
theorem dX5_secondLetter_16 : decode cX5_secondLetter 16 = .ok (.irem, 1) := by decide +kernel
theorem dX5_secondLetter_17 : decode cX5_secondLetter 17 = .ok (.ireturn, 1) := by decide +kernel
theorem dX5_edgeAt_0 : decode cX5_edgeAt 0 = .ok (.iload_n 0, 1) := by decide +kernel
theorem dX5_edgeAt_1 : decode cX5_edgeAt 1 = .ok (.iconst 4, 1) := by decide +kernel
theorem dX5_edgeAt_2 : decode cX5_edgeAt 2 = .ok (.imul, 1) := by decide +kernel
theorem dX5_edgeAt_3 : decode cX5_edgeAt 3 = .ok (.iload_n 1, 1) := by decide +kernel
theorem dX5_edgeAt_4 : decode cX5_edgeAt 4 = .ok (.iadd, 1) := by decide +kernel
theorem dX5_edgeAt_5 : decode cX5_edgeAt 5 = .ok (.bipush 13, 2) := by decide +kernel
theorem dX5_edgeAt_7 : decode cX5_edgeAt 7 = .ok (.imul, 1) := by decide +kernel
theorem dX5_edgeAt_8 : decode cX5_edgeAt 8 = .ok (.iload_n 2, 1) := by decide +kernel
theorem dX5_edgeAt_9 : decode cX5_edgeAt 9 = .ok (.iadd, 1) := by decide +kernel
theorem dX5_edgeAt_10 : decode cX5_edgeAt 10 = .ok (.ireturn, 1) := by decide +kernel
theorem dX6_init_0 : decode cX6_init 0 = .ok (.aload_n 0, 1) := by decide +kernel
theorem dX6_init_1 : decode cX6_init 1 = .ok (.invokespecial 1, 3) := by decide +kernel
theorem dX6_init_4 : decode cX6_init 4 = .ok (.aload_n 0, 1) := by decide +kernel
theorem dX6_init_5 : decode cX6_init 5 = .ok (.iconst 2, 1) := by decide +kernel
theorem dX6_init_6 : decode cX6_init 6 = .ok (.putfield 7, 3) := by decide +kernel
theorem dX6_init_9 : decode cX6_init 9 = .ok (.aload_n 0, 1) := by decide +kernel
theorem dX6_init_10 : decode cX6_init 10 = .ok (.bipush 7, 2) := by decide +kernel
theorem dX6_init_12 : decode cX6_init 12 = .ok (.putfield 13, 3) := by decide +kernel
theorem dX6_init_15 : decode cX6_init 15 = .ok (.aload_n 0, 1) := by decide +kernel
theorem dX6_init_16 : decode cX6_init 16 = .ok (.bipush 70, 2) := by decide +kernel
theorem dX6_init_18 : decode cX6_init 18 = .ok (.newarray .int, 2) := by decide +kernel
theorem dX6_init_20 : decode cX6_init 20 = .ok (.dup, 1) := by decide +kernel
theorem dX6_init_21 : decode cX6_init 21 = .ok (.iconst 0, 1) := by decide +kernel
theorem dX6_init_22 : decode cX6_init 22 = .ok (.iconst 0, 1) := by decide +kernel
theorem dX6_init_23 : decode cX6_init 23 = .ok (.iastore, 1) := by decide +kernel
theorem dX6_init_24 : decode cX6_init 24 = .ok (.dup, 1) := by decide +kernel
theorem dX6_init_25 : decode cX6_init 25 = .ok (.iconst 1, 1) := by decide +kernel
theorem dX6_init_26 : decode cX6_init 26 = .ok (.iconst 0, 1) := by decide +kernel
theorem dX6_init_27 : decode cX6_init 27 = .ok (.iastore, 1) := by decide +kernel
theorem dX6_init_28 : decode cX6_init 28 = .ok (.dup, 1) := by decide +kernel
theorem dX6_init_29 : decode cX6_init 29 = .ok (.iconst 2, 1) := by decide +kernel
theorem dX6_init_30 : decode cX6_init 30 = .ok (.iconst 0, 1) := by decide +kernel
theorem dX6_init_31 : decode cX6_init 31 = .ok (.iastore, 1) := by decide +kernel
theorem dX6_init_32 : decode cX6_init 32 = .ok (.dup, 1) := by decide +kernel
theorem dX6_init_33 : decode cX6_init 33 = .ok (.iconst 3, 1) := by decide +kernel
theorem dX6_init_34 : decode cX6_init 34 = .ok (.iconst 2, 1) := by decide +kernel
theorem dX6_init_35 : decode cX6_init 35 = .ok (.iastore, 1) := by decide +kernel
theorem dX6_init_36 : decode cX6_init 36 = .ok (.dup, 1) := by decide +kernel
theorem dX6_init_37 : decode cX6_init 37 = .ok (.iconst 4, 1) := by decide +kernel
theorem dX6_init_38 : decode cX6_init 38 = .ok (.iconst 1, 1) := by decide +kernel
theorem dX6_init_39 : decode cX6_init 39 = .ok (.iastore, 1) := by decide +kernel
theorem dX6_init_40 : decode cX6_init 40 = .ok (.dup, 1) := by decide +kernel
theorem dX6_init_41 : decode cX6_init 41 = .ok (.iconst 5, 1) := by decide +kernel
theorem dX6_init_42 : decode cX6_init 42 = .ok (.iconst 0, 1) := by decide +kernel
theorem dX6_init_43 : decode cX6_init 43 = .ok (.iastore, 1) := by decide +kernel
theorem dX6_init_44 : decode cX6_init 44 = .ok (.dup, 1) := by decide +kernel
theorem dX6_init_45 : decode cX6_init 45 = .ok (.bipush 6, 2) := by decide +kernel
theorem dX6_init_47 : decode cX6_init 47 = .ok (.iconst 2, 1) := by decide +kernel
theorem dX6_init_48 : decode cX6_init 48 = .ok (.iastore, 1) := by decide +kernel
theorem dX6_init_49 : decode cX6_init 49 = .ok (.dup, 1) := by decide +kernel
theorem dX6_init_50 : decode cX6_init 50 = .ok (.bipush 7, 2) := by decide +kernel
theorem dX6_init_52 : decode cX6_init 52 = .ok (.iconst 0, 1) := by decide +kernel
theorem dX6_init_53 : decode cX6_init 53 = .ok (.iastore, 1) := by decide +kernel
theorem dX6_init_54 : decode cX6_init 54 = .ok (.dup, 1) := by decide +kernel
theorem dX6_init_55 : decode cX6_init 55 = .ok (.bipush 8, 2) := by decide +kernel
theorem dX6_init_57 : decode cX6_init 57 = .ok (.iconst 1, 1) := by decide +kernel
theorem dX6_init_58 : decode cX6_init 58 = .ok (.iastore, 1) := by decide +kernel
theorem dX6_init_59 : decode cX6_init 59 = .ok (.dup, 1) := by decide +kernel
theorem dX6_init_60 : decode cX6_init 60 = .ok (.bipush 9, 2) := by decide +kernel
theorem dX6_init_62 : decode cX6_init 62 = .ok (.iconst 1, 1) := by decide +kernel
theorem dX6_init_63 : decode cX6_init 63 = .ok (.iastore, 1) := by decide +kernel
theorem dX6_init_64 : decode cX6_init 64 = .ok (.dup, 1) := by decide +kernel
theorem dX6_init_65 : decode cX6_init 65 = .ok (.bipush 10, 2) := by decide +kernel
theorem dX6_init_67 : decode cX6_init 67 = .ok (.iconst 0, 1) := by decide +kernel
theorem dX6_init_68 : decode cX6_init 68 = .ok (.iastore, 1) := by decide +kernel
theorem dX6_init_69 : decode cX6_init 69 = .ok (.dup, 1) := by decide +kernel
theorem dX6_init_70 : decode cX6_init 70 = .ok (.bipush 11, 2) := by decide +kernel
theorem dX6_init_72 : decode cX6_init 72 = .ok (.bipush (-4), 2) := by decide +kernel
theorem dX6_init_74 : decode cX6_init 74 = .ok (.iastore, 1) := by decide +kernel
theorem dX6_init_75 : decode cX6_init 75 = .ok (.dup, 1) := by decide +kernel
theorem dX6_init_76 : decode cX6_init 76 = .ok (.bipush 12, 2) := by decide +kernel
theorem dX6_init_78 : decode cX6_init 78 = .ok (.bipush (-4), 2) := by decide +kernel
theorem dX6_init_80 : decode cX6_init 80 = .ok (.iastore, 1) := by decide +kernel
theorem dX6_init_81 : decode cX6_init 81 = .ok (.dup, 1) := by decide +kernel
theorem dX6_init_82 : decode cX6_init 82 = .ok (.bipush 13, 2) := by decide +kernel
theorem dX6_init_84 : decode cX6_init 84 = .ok (.iconst 1, 1) := by decide +kernel
theorem dX6_init_85 : decode cX6_init 85 = .ok (.iastore, 1) := by decide +kernel
theorem dX6_init_86 : decode cX6_init 86 = .ok (.dup, 1) := by decide +kernel
theorem dX6_init_87 : decode cX6_init 87 = .ok (.bipush 14, 2) := by decide +kernel
theorem dX6_init_89 : decode cX6_init 89 = .ok (.iconst 1, 1) := by decide +kernel
theorem dX6_init_90 : decode cX6_init 90 = .ok (.iastore, 1) := by decide +kernel
theorem dX6_init_91 : decode cX6_init 91 = .ok (.dup, 1) := by decide +kernel
theorem dX6_init_92 : decode cX6_init 92 = .ok (.bipush 15, 2) := by decide +kernel
theorem dX6_init_94 : decode cX6_init 94 = .ok (.iconst 0, 1) := by decide +kernel
theorem dX6_init_95 : decode cX6_init 95 = .ok (.iastore, 1) := by decide +kernel
theorem dX6_init_96 : decode cX6_init 96 = .ok (.dup, 1) := by decide +kernel
theorem dX6_init_97 : decode cX6_init 97 = .ok (.bipush 16, 2) := by decide +kernel
theorem dX6_init_99 : decode cX6_init 99 = .ok (.iconst 1, 1) := by decide +kernel
theorem dX6_init_100 : decode cX6_init 100 = .ok (.iastore, 1) := by decide +kernel
theorem dX6_init_101 : decode cX6_init 101 = .ok (.dup, 1) := by decide +kernel
theorem dX6_init_102 : decode cX6_init 102 = .ok (.bipush 17, 2) := by decide +kernel
theorem dX6_init_104 : decode cX6_init 104 = .ok (.iconst 0, 1) := by decide +kernel
theorem dX6_init_105 : decode cX6_init 105 = .ok (.iastore, 1) := by decide +kernel
theorem dX6_init_106 : decode cX6_init 106 = .ok (.dup, 1) := by decide +kernel
theorem dX6_init_107 : decode cX6_init 107 = .ok (.bipush 18, 2) := by decide +kernel
theorem dX6_init_109 : decode cX6_init 109 = .ok (.bipush (-4), 2) := by decide +kernel
theorem dX6_init_111 : decode cX6_init 111 = .ok (.iastore, 1) := by decide +kernel
theorem dX6_init_112 : decode cX6_init 112 = .ok (.dup, 1) := by decide +kernel
theorem dX6_init_113 : decode cX6_init 113 = .ok (.bipush 19, 2) := by decide +kernel
theorem dX6_init_115 : decode cX6_init 115 = .ok (.bipush (-4), 2) := by decide +kernel
theorem dX6_init_117 : decode cX6_init 117 = .ok (.iastore, 1) := by decide +kernel
theorem dX6_init_118 : decode cX6_init 118 = .ok (.dup, 1) := by decide +kernel
theorem dX6_init_119 : decode cX6_init 119 = .ok (.bipush 20, 2) := by decide +kernel
theorem dX6_init_121 : decode cX6_init 121 = .ok (.iconst 3, 1) := by decide +kernel
theorem dX6_init_122 : decode cX6_init 122 = .ok (.iastore, 1) := by decide +kernel
theorem dX6_init_123 : decode cX6_init 123 = .ok (.dup, 1) := by decide +kernel
theorem dX6_init_124 : decode cX6_init 124 = .ok (.bipush 21, 2) := by decide +kernel
theorem dX6_init_126 : decode cX6_init 126 = .ok (.iconst 1, 1) := by decide +kernel
theorem dX6_init_127 : decode cX6_init 127 = .ok (.iastore, 1) := by decide +kernel
theorem dX6_init_128 : decode cX6_init 128 = .ok (.dup, 1) := by decide +kernel
theorem dX6_init_129 : decode cX6_init 129 = .ok (.bipush 22, 2) := by decide +kernel
theorem dX6_init_131 : decode cX6_init 131 = .ok (.iconst 1, 1) := by decide +kernel
theorem dX6_init_132 : decode cX6_init 132 = .ok (.iastore, 1) := by decide +kernel
theorem dX6_init_133 : decode cX6_init 133 = .ok (.dup, 1) := by decide +kernel
theorem dX6_init_134 : decode cX6_init 134 = .ok (.bipush 23, 2) := by decide +kernel
theorem dX6_init_136 : decode cX6_init 136 = .ok (.iconst 0, 1) := by decide +kernel
theorem dX6_init_137 : decode cX6_init 137 = .ok (.iastore, 1) := by decide +kernel
theorem dX6_init_138 : decode cX6_init 138 = .ok (.dup, 1) := by decide +kernel
theorem dX6_init_139 : decode cX6_init 139 = .ok (.bipush 24, 2) := by decide +kernel
theorem dX6_init_141 : decode cX6_init 141 = .ok (.iconst 1, 1) := by decide +kernel
theorem dX6_init_142 : decode cX6_init 142 = .ok (.iastore, 1) := by decide +kernel
theorem dX6_init_143 : decode cX6_init 143 = .ok (.dup, 1) := by decide +kernel
theorem dX6_init_144 : decode cX6_init 144 = .ok (.bipush 25, 2) := by decide +kernel
theorem dX6_init_146 : decode cX6_init 146 = .ok (.iconst 1, 1) := by decide +kernel
theorem dX6_init_147 : decode cX6_init 147 = .ok (.iastore, 1) := by decide +kernel
theorem dX6_init_148 : decode cX6_init 148 = .ok (.dup, 1) := by decide +kernel
theorem dX6_init_149 : decode cX6_init 149 = .ok (.bipush 26, 2) := by decide +kernel
theorem dX6_init_151 : decode cX6_init 151 = .ok (.bipush (-4), 2) := by decide +kernel
theorem dX6_init_153 : decode cX6_init 153 = .ok (.iastore, 1) := by decide +kernel
theorem dX6_init_154 : decode cX6_init 154 = .ok (.dup, 1) := by decide +kernel
theorem dX6_init_155 : decode cX6_init 155 = .ok (.bipush 27, 2) := by decide +kernel
theorem dX6_init_157 : decode cX6_init 157 = .ok (.iconst 0, 1) := by decide +kernel
theorem dX6_init_158 : decode cX6_init 158 = .ok (.iastore, 1) := by decide +kernel
theorem dX6_init_159 : decode cX6_init 159 = .ok (.dup, 1) := by decide +kernel
theorem dX6_init_160 : decode cX6_init 160 = .ok (.bipush 28, 2) := by decide +kernel
theorem dX6_init_162 : decode cX6_init 162 = .ok (.iconst 1, 1) := by decide +kernel
theorem dX6_init_163 : decode cX6_init 163 = .ok (.iastore, 1) := by decide +kernel
theorem dX6_init_164 : decode cX6_init 164 = .ok (.dup, 1) := by decide +kernel
theorem dX6_init_165 : decode cX6_init 165 = .ok (.bipush 29, 2) := by decide +kernel
theorem dX6_init_167 : decode cX6_init 167 = .ok (.iconst 0, 1) := by decide +kernel
theorem dX6_init_168 : decode cX6_init 168 = .ok (.iastore, 1) := by decide +kernel
theorem dX6_init_169 : decode cX6_init 169 = .ok (.dup, 1) := by decide +kernel
theorem dX6_init_170 : decode cX6_init 170 = .ok (.bipush 30, 2) := by decide +kernel
theorem dX6_init_172 : decode cX6_init 172 = .ok (.iconst 0, 1) := by decide +kernel
theorem dX6_init_173 : decode cX6_init 173 = .ok (.iastore, 1) := by decide +kernel
theorem dX6_init_174 : decode cX6_init 174 = .ok (.dup, 1) := by decide +kernel
theorem dX6_init_175 : decode cX6_init 175 = .ok (.bipush 31, 2) := by decide +kernel
theorem dX6_init_177 : decode cX6_init 177 = .ok (.iconst 1, 1) := by decide +kernel
theorem dX6_init_178 : decode cX6_init 178 = .ok (.iastore, 1) := by decide +kernel
theorem dX6_init_179 : decode cX6_init 179 = .ok (.dup, 1) := by decide +kernel
theorem dX6_init_180 : decode cX6_init 180 = .ok (.bipush 32, 2) := by decide +kernel
theorem dX6_init_182 : decode cX6_init 182 = .ok (.iconst 2, 1) := by decide +kernel
theorem dX6_init_183 : decode cX6_init 183 = .ok (.iastore, 1) := by decide +kernel
theorem dX6_init_184 : decode cX6_init 184 = .ok (.dup, 1) := by decide +kernel
theorem dX6_init_185 : decode cX6_init 185 = .ok (.bipush 33, 2) := by decide +kernel
theorem dX6_init_187 : decode cX6_init 187 = .ok (.bipush (-4), 2) := by decide +kernel
theorem dX6_init_189 : decode cX6_init 189 = .ok (.iastore, 1) := by decide +kernel
theorem dX6_init_190 : decode cX6_init 190 = .ok (.dup, 1) := by decide +kernel
theorem dX6_init_191 : decode cX6_init 191 = .ok (.bipush 34, 2) := by decide +kernel
theorem dX6_init_193 : decode cX6_init 193 = .ok (.iconst 5, 1) := by decide +kernel
theorem dX6_init_194 : decode cX6_init 194 = .ok (.iastore, 1) := by decide +kernel
theorem dX6_init_195 : decode cX6_init 195 = .ok (.dup, 1) := by decide +kernel
theorem dX6_init_196 : decode cX6_init 196 = .ok (.bipush 35, 2) := by decide +kernel
theorem dX6_init_198 : decode cX6_init 198 = .ok (.iconst 0, 1) := by decide +kernel
theorem dX6_init_199 : decode cX6_init 199 = .ok (.iastore, 1) := by decide +kernel
theorem dX6_init_200 : decode cX6_init 200 = .ok (.dup, 1) := by decide +kernel
theorem dX6_init_201 : decode cX6_init 201 = .ok (.bipush 36, 2) := by decide +kernel
theorem dX6_init_203 : decode cX6_init 203 = .ok (.iconst 2, 1) := by decide +kernel
theorem dX6_init_204 : decode cX6_init 204 = .ok (.iastore, 1) := by decide +kernel
theorem dX6_init_205 : decode cX6_init 205 = .ok (.dup, 1) := by decide +kernel
theorem dX6_init_206 : decode cX6_init 206 = .ok (.bipush 37, 2) := by decide +kernel
theorem dX6_init_208 : decode cX6_init 208 = .ok (.iconst 0, 1) := by decide +kernel
theorem dX6_init_209 : decode cX6_init 209 = .ok (.iastore, 1) := by decide +kernel
theorem dX6_init_210 : decode cX6_init 210 = .ok (.dup, 1) := by decide +kernel
theorem dX6_init_211 : decode cX6_init 211 = .ok (.bipush 38, 2) := by decide +kernel
theorem dX6_init_213 : decode cX6_init 213 = .ok (.iconst 2, 1) := by decide +kernel
theorem dX6_init_214 : decode cX6_init 214 = .ok (.iastore, 1) := by decide +kernel
theorem dX6_init_215 : decode cX6_init 215 = .ok (.dup, 1) := by decide +kernel
theorem dX6_init_216 : decode cX6_init 216 = .ok (.bipush 39, 2) := by decide +kernel
theorem dX6_init_218 : decode cX6_init 218 = .ok (.iconst 2, 1) := by decide +kernel
theorem dX6_init_219 : decode cX6_init 219 = .ok (.iastore, 1) := by decide +kernel
theorem dX6_init_220 : decode cX6_init 220 = .ok (.dup, 1) := by decide +kernel
theorem dX6_init_221 : decode cX6_init 221 = .ok (.bipush 40, 2) := by decide +kernel
theorem dX6_init_223 : decode cX6_init 223 = .ok (.iconst 2, 1) := by decide +kernel
theorem dX6_init_224 : decode cX6_init 224 = .ok (.iastore, 1) := by decide +kernel
theorem dX6_init_225 : decode cX6_init 225 = .ok (.dup, 1) := by decide +kernel
theorem dX6_init_226 : decode cX6_init 226 = .ok (.bipush 41, 2) := by decide +kernel
theorem dX6_init_228 : decode cX6_init 228 = .ok (.iconst 1, 1) := by decide +kernel
theorem dX6_init_229 : decode cX6_init 229 = .ok (.iastore, 1) := by decide +kernel
theorem dX6_init_230 : decode cX6_init 230 = .ok (.dup, 1) := by decide +kernel
theorem dX6_init_231 : decode cX6_init 231 = .ok (.bipush 42, 2) := by decide +kernel
theorem dX6_init_233 : decode cX6_init 233 = .ok (.iconst 0, 1) := by decide +kernel
theorem dX6_init_234 : decode cX6_init 234 = .ok (.iastore, 1) := by decide +kernel
theorem dX6_init_235 : decode cX6_init 235 = .ok (.dup, 1) := by decide +kernel
theorem dX6_init_236 : decode cX6_init 236 = .ok (.bipush 43, 2) := by decide +kernel
theorem dX6_init_238 : decode cX6_init 238 = .ok (.iconst 2, 1) := by decide +kernel
theorem dX6_init_239 : decode cX6_init 239 = .ok (.iastore, 1) := by decide +kernel
theorem dX6_init_240 : decode cX6_init 240 = .ok (.dup, 1) := by decide +kernel
theorem dX6_init_241 : decode cX6_init 241 = .ok (.bipush 44, 2) := by decide +kernel
theorem dX6_init_243 : decode cX6_init 243 = .ok (.iconst 1, 1) := by decide +kernel
theorem dX6_init_244 : decode cX6_init 244 = .ok (.iastore, 1) := by decide +kernel
theorem dX6_init_245 : decode cX6_init 245 = .ok (.dup, 1) := by decide +kernel
theorem dX6_init_246 : decode cX6_init 246 = .ok (.bipush 45, 2) := by decide +kernel
theorem dX6_init_248 : decode cX6_init 248 = .ok (.iconst 0, 1) := by decide +kernel
theorem dX6_init_249 : decode cX6_init 249 = .ok (.iastore, 1) := by decide +kernel
theorem dX6_init_250 : decode cX6_init 250 = .ok (.dup, 1) := by decide +kernel
theorem dX6_init_251 : decode cX6_init 251 = .ok (.bipush 46, 2) := by decide +kernel
theorem dX6_init_253 : decode cX6_init 253 = .ok (.bipush (-4), 2) := by decide +kernel
theorem dX6_init_255 : decode cX6_init 255 = .ok (.iastore, 1) := by decide +kernel
theorem dX6_init_256 : decode cX6_init 256 = .ok (.dup, 1) := by decide +kernel
theorem dX6_init_257 : decode cX6_init 257 = .ok (.bipush 47, 2) := by decide +kernel
theorem dX6_init_259 : decode cX6_init 259 = .ok (.bipush (-4), 2) := by decide +kernel
theorem dX6_init_261 : decode cX6_init 261 = .ok (.iastore, 1) := by decide +kernel
theorem dX6_init_262 : decode cX6_init 262 = .ok (.dup, 1) := by decide +kernel
theorem dX6_init_263 : decode cX6_init 263 = .ok (.bipush 48, 2) := by decide +kernel
theorem dX6_init_265 : decode cX6_init 265 = .ok (.iconst 4, 1) := by decide +kernel
theorem dX6_init_266 : decode cX6_init 266 = .ok (.iastore, 1) := by decide +kernel
theorem dX6_init_267 : decode cX6_init 267 = .ok (.dup, 1) := by decide +kernel
theorem dX6_init_268 : decode cX6_init 268 = .ok (.bipush 49, 2) := by decide +kernel
theorem dX6_init_270 : decode cX6_init 270 = .ok (.iconst 0, 1) := by decide +kernel
theorem dX6_init_271 : decode cX6_init 271 = .ok (.iastore, 1) := by decide +kernel
theorem dX6_init_272 : decode cX6_init 272 = .ok (.dup, 1) := by decide +kernel
theorem dX6_init_273 : decode cX6_init 273 = .ok (.bipush 50, 2) := by decide +kernel
theorem dX6_init_275 : decode cX6_init 275 = .ok (.iconst 0, 1) := by decide +kernel
theorem dX6_init_276 : decode cX6_init 276 = .ok (.iastore, 1) := by decide +kernel
theorem dX6_init_277 : decode cX6_init 277 = .ok (.dup, 1) := by decide +kernel
theorem dX6_init_278 : decode cX6_init 278 = .ok (.bipush 51, 2) := by decide +kernel
theorem dX6_init_280 : decode cX6_init 280 = .ok (.iconst 0, 1) := by decide +kernel
theorem dX6_init_281 : decode cX6_init 281 = .ok (.iastore, 1) := by decide +kernel
theorem dX6_init_282 : decode cX6_init 282 = .ok (.dup, 1) := by decide +kernel
theorem dX6_init_283 : decode cX6_init 283 = .ok (.bipush 52, 2) := by decide +kernel
theorem dX6_init_285 : decode cX6_init 285 = .ok (.iconst 0, 1) := by decide +kernel
theorem dX6_init_286 : decode cX6_init 286 = .ok (.iastore, 1) := by decide +kernel
theorem dX6_init_287 : decode cX6_init 287 = .ok (.dup, 1) := by decide +kernel
theorem dX6_init_288 : decode cX6_init 288 = .ok (.bipush 53, 2) := by decide +kernel
theorem dX6_init_290 : decode cX6_init 290 = .ok (.iconst 0, 1) := by decide +kernel
theorem dX6_init_291 : decode cX6_init 291 = .ok (.iastore, 1) := by decide +kernel
theorem dX6_init_292 : decode cX6_init 292 = .ok (.dup, 1) := by decide +kernel
theorem dX6_init_293 : decode cX6_init 293 = .ok (.bipush 54, 2) := by decide +kernel
theorem dX6_init_295 : decode cX6_init 295 = .ok (.iconst 0, 1) := by decide +kernel
theorem dX6_init_296 : decode cX6_init 296 = .ok (.iastore, 1) := by decide +kernel
theorem dX6_init_297 : decode cX6_init 297 = .ok (.dup, 1) := by decide +kernel
theorem dX6_init_298 : decode cX6_init 298 = .ok (.bipush 55, 2) := by decide +kernel
theorem dX6_init_300 : decode cX6_init 300 = .ok (.iconst 0, 1) := by decide +kernel
theorem dX6_init_301 : decode cX6_init 301 = .ok (.iastore, 1) := by decide +kernel
theorem dX6_init_302 : decode cX6_init 302 = .ok (.dup, 1) := by decide +kernel
theorem dX6_init_303 : decode cX6_init 303 = .ok (.bipush 56, 2) := by decide +kernel
theorem dX6_init_305 : decode cX6_init 305 = .ok (.iconst 0, 1) := by decide +kernel
theorem dX6_init_306 : decode cX6_init 306 = .ok (.iastore, 1) := by decide +kernel
theorem dX6_init_307 : decode cX6_init 307 = .ok (.dup, 1) := by decide +kernel
theorem dX6_init_308 : decode cX6_init 308 = .ok (.bipush 57, 2) := by decide +kernel
theorem dX6_init_310 : decode cX6_init 310 = .ok (.iconst 0, 1) := by decide +kernel
theorem dX6_init_311 : decode cX6_init 311 = .ok (.iastore, 1) := by decide +kernel
theorem dX6_init_312 : decode cX6_init 312 = .ok (.dup, 1) := by decide +kernel
theorem dX6_init_313 : decode cX6_init 313 = .ok (.bipush 58, 2) := by decide +kernel
theorem dX6_init_315 : decode cX6_init 315 = .ok (.iconst 0, 1) := by decide +kernel
theorem dX6_init_316 : decode cX6_init 316 = .ok (.iastore, 1) := by decide +kernel
theorem dX6_init_317 : decode cX6_init 317 = .ok (.dup, 1) := by decide +kernel
theorem dX6_init_318 : decode cX6_init 318 = .ok (.bipush 59, 2) := by decide +kernel
theorem dX6_init_320 : decode cX6_init 320 = .ok (.iconst 0, 1) := by decide +kernel
theorem dX6_init_321 : decode cX6_init 321 = .ok (.iastore, 1) := by decide +kernel
theorem dX6_init_322 : decode cX6_init 322 = .ok (.dup, 1) := by decide +kernel
theorem dX6_init_323 : decode cX6_init 323 = .ok (.bipush 60, 2) := by decide +kernel
theorem dX6_init_325 : decode cX6_init 325 = .ok (.iconst 0, 1) := by decide +kernel
theorem dX6_init_326 : decode cX6_init 326 = .ok (.iastore, 1) := by decide +kernel
theorem dX6_init_327 : decode cX6_init 327 = .ok (.dup, 1) := by decide +kernel
theorem dX6_init_328 : decode cX6_init 328 = .ok (.bipush 61, 2) := by decide +kernel
theorem dX6_init_330 : decode cX6_init 330 = .ok (.iconst 0, 1) := by decide +kernel
theorem dX6_init_331 : decode cX6_init 331 = .ok (.iastore, 1) := by decide +kernel
theorem dX6_init_332 : decode cX6_init 332 = .ok (.dup, 1) := by decide +kernel
theorem dX6_init_333 : decode cX6_init 333 = .ok (.bipush 62, 2) := by decide +kernel
theorem dX6_init_335 : decode cX6_init 335 = .ok (.iconst 0, 1) := by decide +kernel
theorem dX6_init_336 : decode cX6_init 336 = .ok (.iastore, 1) := by decide +kernel
theorem dX6_init_337 : decode cX6_init 337 = .ok (.dup, 1) := by decide +kernel
theorem dX6_init_338 : decode cX6_init 338 = .ok (.bipush 63, 2) := by decide +kernel
theorem dX6_init_340 : decode cX6_init 340 = .ok (.iconst 0, 1) := by decide +kernel
theorem dX6_init_341 : decode cX6_init 341 = .ok (.iastore, 1) := by decide +kernel
theorem dX6_init_342 : decode cX6_init 342 = .ok (.dup, 1) := by decide +kernel
theorem dX6_init_343 : decode cX6_init 343 = .ok (.bipush 64, 2) := by decide +kernel
theorem dX6_init_345 : decode cX6_init 345 = .ok (.iconst 0, 1) := by decide +kernel
theorem dX6_init_346 : decode cX6_init 346 = .ok (.iastore, 1) := by decide +kernel
theorem dX6_init_347 : decode cX6_init 347 = .ok (.dup, 1) := by decide +kernel
theorem dX6_init_348 : decode cX6_init 348 = .ok (.bipush 65, 2) := by decide +kernel
theorem dX6_init_350 : decode cX6_init 350 = .ok (.iconst 0, 1) := by decide +kernel
theorem dX6_init_351 : decode cX6_init 351 = .ok (.iastore, 1) := by decide +kernel
theorem dX6_init_352 : decode cX6_init 352 = .ok (.dup, 1) := by decide +kernel
theorem dX6_init_353 : decode cX6_init 353 = .ok (.bipush 66, 2) := by decide +kernel
theorem dX6_init_355 : decode cX6_init 355 = .ok (.iconst 0, 1) := by decide +kernel
theorem dX6_init_356 : decode cX6_init 356 = .ok (.iastore, 1) := by decide +kernel
theorem dX6_init_357 : decode cX6_init 357 = .ok (.dup, 1) := by decide +kernel
theorem dX6_init_358 : decode cX6_init 358 = .ok (.bipush 67, 2) := by decide +kernel
theorem dX6_init_360 : decode cX6_init 360 = .ok (.iconst 0, 1) := by decide +kernel
theorem dX6_init_361 : decode cX6_init 361 = .ok (.iastore, 1) := by decide +kernel
theorem dX6_init_362 : decode cX6_init 362 = .ok (.dup, 1) := by decide +kernel
theorem dX6_init_363 : decode cX6_init 363 = .ok (.bipush 68, 2) := by decide +kernel
theorem dX6_init_365 : decode cX6_init 365 = .ok (.iconst 0, 1) := by decide +kernel
theorem dX6_init_366 : decode cX6_init 366 = .ok (.iastore, 1) := by decide +kernel
theorem dX6_init_367 : decode cX6_init 367 = .ok (.dup, 1) := by decide +kernel
theorem dX6_init_368 : decode cX6_init 368 = .ok (.bipush 69, 2) := by decide +kernel
theorem dX6_init_370 : decode cX6_init 370 = .ok (.iconst 0, 1) := by decide +kernel
theorem dX6_init_371 : decode cX6_init 371 = .ok (.iastore, 1) := by decide +kernel
theorem dX6_init_372 : decode cX6_init 372 = .ok (.putfield 16, 3) := by decide +kernel
theorem dX6_init_375 : decode cX6_init 375 = .ok (.aload_n 0, 1) := by decide +kernel
theorem dX6_init_376 : decode cX6_init 376 = .ok (.iconst 2, 1) := by decide +kernel
theorem dX6_init_377 : decode cX6_init 377 = .ok (.putfield 20, 3) := by decide +kernel
theorem dX6_init_380 : decode cX6_init 380 = .ok (.aload_n 0, 1) := by decide +kernel
theorem dX6_init_381 : decode cX6_init 381 = .ok (.bipush 24, 2) := by decide +kernel
theorem dX6_init_383 : decode cX6_init 383 = .ok (.newarray .int, 2) := by decide +kernel
theorem dX6_init_385 : decode cX6_init 385 = .ok (.dup, 1) := by decide +kernel
theorem dX6_init_386 : decode cX6_init 386 = .ok (.iconst 0, 1) := by decide +kernel
theorem dX6_init_387 : decode cX6_init 387 = .ok (.iconst 1, 1) := by decide +kernel
theorem dX6_init_388 : decode cX6_init 388 = .ok (.iastore, 1) := by decide +kernel
theorem dX6_init_389 : decode cX6_init 389 = .ok (.dup, 1) := by decide +kernel
theorem dX6_init_390 : decode cX6_init 390 = .ok (.iconst 1, 1) := by decide +kernel
theorem dX6_init_391 : decode cX6_init 391 = .ok (.iconst 0, 1) := by decide +kernel
theorem dX6_init_392 : decode cX6_init 392 = .ok (.iastore, 1) := by decide +kernel
theorem dX6_init_393 : decode cX6_init 393 = .ok (.dup, 1) := by decide +kernel
theorem dX6_init_394 : decode cX6_init 394 = .ok (.iconst 2, 1) := by decide +kernel
theorem dX6_init_395 : decode cX6_init 395 = .ok (.iconst 0, 1) := by decide +kernel
theorem dX6_init_396 : decode cX6_init 396 = .ok (.iastore, 1) := by decide +kernel
theorem dX6_init_397 : decode cX6_init 397 = .ok (.dup, 1) := by decide +kernel
theorem dX6_init_398 : decode cX6_init 398 = .ok (.iconst 3, 1) := by decide +kernel
theorem dX6_init_399 : decode cX6_init 399 = .ok (.bipush (-4), 2) := by decide +kernel
theorem dX6_init_401 : decode cX6_init 401 = .ok (.iastore, 1) := by decide +kernel
theorem dX6_init_402 : decode cX6_init 402 = .ok (.dup, 1) := by decide +kernel
theorem dX6_init_403 : decode cX6_init 403 = .ok (.iconst 4, 1) := by decide +kernel
theorem dX6_init_404 : decode cX6_init 404 = .ok (.bipush (-4), 2) := by decide +kernel
theorem dX6_init_406 : decode cX6_init 406 = .ok (.iastore, 1) := by decide +kernel
theorem dX6_init_407 : decode cX6_init 407 = .ok (.dup, 1) := by decide +kernel
theorem dX6_init_408 : decode cX6_init 408 = .ok (.iconst 5, 1) := by decide +kernel
theorem dX6_init_409 : decode cX6_init 409 = .ok (.bipush (-4), 2) := by decide +kernel
theorem dX6_init_411 : decode cX6_init 411 = .ok (.iastore, 1) := by decide +kernel
theorem dX6_init_412 : decode cX6_init 412 = .ok (.dup, 1) := by decide +kernel
theorem dX6_init_413 : decode cX6_init 413 = .ok (.bipush 6, 2) := by decide +kernel
theorem dX6_init_415 : decode cX6_init 415 = .ok (.iconst 0, 1) := by decide +kernel
theorem dX6_init_416 : decode cX6_init 416 = .ok (.iastore, 1) := by decide +kernel
theorem dX6_init_417 : decode cX6_init 417 = .ok (.dup, 1) := by decide +kernel
theorem dX6_init_418 : decode cX6_init 418 = .ok (.bipush 7, 2) := by decide +kernel
theorem dX6_init_420 : decode cX6_init 420 = .ok (.iconst 2, 1) := by decide +kernel
theorem dX6_init_421 : decode cX6_init 421 = .ok (.iastore, 1) := by decide +kernel
theorem dX6_init_422 : decode cX6_init 422 = .ok (.dup, 1) := by decide +kernel
theorem dX6_init_423 : decode cX6_init 423 = .ok (.bipush 8, 2) := by decide +kernel
theorem dX6_init_425 : decode cX6_init 425 = .ok (.iconst 1, 1) := by decide +kernel
theorem dX6_init_426 : decode cX6_init 426 = .ok (.iastore, 1) := by decide +kernel
theorem dX6_init_427 : decode cX6_init 427 = .ok (.dup, 1) := by decide +kernel
theorem dX6_init_428 : decode cX6_init 428 = .ok (.bipush 9, 2) := by decide +kernel
theorem dX6_init_430 : decode cX6_init 430 = .ok (.iconst 2, 1) := by decide +kernel
theorem dX6_init_431 : decode cX6_init 431 = .ok (.iastore, 1) := by decide +kernel
theorem dX6_init_432 : decode cX6_init 432 = .ok (.dup, 1) := by decide +kernel
theorem dX6_init_433 : decode cX6_init 433 = .ok (.bipush 10, 2) := by decide +kernel
theorem dX6_init_435 : decode cX6_init 435 = .ok (.iconst 2, 1) := by decide +kernel
theorem dX6_init_436 : decode cX6_init 436 = .ok (.iastore, 1) := by decide +kernel
theorem dX6_init_437 : decode cX6_init 437 = .ok (.dup, 1) := by decide +kernel
theorem dX6_init_438 : decode cX6_init 438 = .ok (.bipush 11, 2) := by decide +kernel
theorem dX6_init_440 : decode cX6_init 440 = .ok (.bipush (-4), 2) := by decide +kernel
theorem dX6_init_442 : decode cX6_init 442 = .ok (.iastore, 1) := by decide +kernel
theorem dX6_init_443 : decode cX6_init 443 = .ok (.dup, 1) := by decide +kernel
theorem dX6_init_444 : decode cX6_init 444 = .ok (.bipush 12, 2) := by decide +kernel
theorem dX6_init_446 : decode cX6_init 446 = .ok (.iconst 0, 1) := by decide +kernel
theorem dX6_init_447 : decode cX6_init 447 = .ok (.iastore, 1) := by decide +kernel
theorem dX6_init_448 : decode cX6_init 448 = .ok (.dup, 1) := by decide +kernel
theorem dX6_init_449 : decode cX6_init 449 = .ok (.bipush 13, 2) := by decide +kernel
theorem dX6_init_451 : decode cX6_init 451 = .ok (.iconst 0, 1) := by decide +kernel
theorem dX6_init_452 : decode cX6_init 452 = .ok (.iastore, 1) := by decide +kernel
theorem dX6_init_453 : decode cX6_init 453 = .ok (.dup, 1) := by decide +kernel
theorem dX6_init_454 : decode cX6_init 454 = .ok (.bipush 14, 2) := by decide +kernel
theorem dX6_init_456 : decode cX6_init 456 = .ok (.iconst 0, 1) := by decide +kernel
theorem dX6_init_457 : decode cX6_init 457 = .ok (.iastore, 1) := by decide +kernel
theorem dX6_init_458 : decode cX6_init 458 = .ok (.dup, 1) := by decide +kernel
theorem dX6_init_459 : decode cX6_init 459 = .ok (.bipush 15, 2) := by decide +kernel
theorem dX6_init_461 : decode cX6_init 461 = .ok (.iconst 0, 1) := by decide +kernel
theorem dX6_init_462 : decode cX6_init 462 = .ok (.iastore, 1) := by decide +kernel
theorem dX6_init_463 : decode cX6_init 463 = .ok (.dup, 1) := by decide +kernel
theorem dX6_init_464 : decode cX6_init 464 = .ok (.bipush 16, 2) := by decide +kernel
theorem dX6_init_466 : decode cX6_init 466 = .ok (.iconst 0, 1) := by decide +kernel
theorem dX6_init_467 : decode cX6_init 467 = .ok (.iastore, 1) := by decide +kernel
theorem dX6_init_468 : decode cX6_init 468 = .ok (.dup, 1) := by decide +kernel
theorem dX6_init_469 : decode cX6_init 469 = .ok (.bipush 17, 2) := by decide +kernel
theorem dX6_init_471 : decode cX6_init 471 = .ok (.iconst 0, 1) := by decide +kernel
theorem dX6_init_472 : decode cX6_init 472 = .ok (.iastore, 1) := by decide +kernel
theorem dX6_init_473 : decode cX6_init 473 = .ok (.dup, 1) := by decide +kernel
end
section
theorem dX6_init_474 : decode cX6_init 474 = .ok (.bipush 18, 2) := by decide +kernel
theorem dX6_init_476 : decode cX6_init 476 = .ok (.iconst 0, 1) := by decide +kernel
theorem dX6_init_477 : decode cX6_init 477 = .ok (.iastore, 1) := by decide +kernel
theorem dX6_init_478 : decode cX6_init 478 = .ok (.dup, 1) := by decide +kernel
theorem dX6_init_479 : decode cX6_init 479 = .ok (.bipush 19, 2) := by decide +kernel
theorem dX6_init_481 : decode cX6_init 481 = .ok (.iconst 0, 1) := by decide +kernel
theorem dX6_init_482 : decode cX6_init 482 = .ok (.iastore, 1) := by decide +kernel
theorem dX6_init_483 : decode cX6_init 483 = .ok (.dup, 1) := by decide +kernel
theorem dX6_init_484 : decode cX6_init 484 = .ok (.bipush 20, 2) := by decide +kernel
theorem dX6_init_486 : decode cX6_init 486 = .ok (.iconst 0, 1) := by decide +kernel
theorem dX6_init_487 : decode cX6_init 487 = .ok (.iastore, 1) := by decide +kernel
theorem dX6_init_488 : decode cX6_init 488 = .ok (.dup, 1) := by decide +kernel
theorem dX6_init_489 : decode cX6_init 489 = .ok (.bipush 21, 2) := by decide +kernel
theorem dX6_init_491 : decode cX6_init 491 = .ok (.iconst 0, 1) := by decide +kernel
theorem dX6_init_492 : decode cX6_init 492 = .ok (.iastore, 1) := by decide +kernel
theorem dX6_init_493 : decode cX6_init 493 = .ok (.dup, 1) := by decide +kernel
theorem dX6_init_494 : decode cX6_init 494 = .ok (.bipush 22, 2) := by decide +kernel
theorem dX6_init_496 : decode cX6_init 496 = .ok (.iconst 0, 1) := by decide +kernel
theorem dX6_init_497 : decode cX6_init 497 = .ok (.iastore, 1) := by decide +kernel
theorem dX6_init_498 : decode cX6_init 498 = .ok (.dup, 1) := by decide +kernel
theorem dX6_init_499 : decode cX6_init 499 = .ok (.bipush 23, 2) := by decide +kernel
theorem dX6_init_501 : decode cX6_init 501 = .ok (.iconst 0, 1) := by decide +kernel
theorem dX6_init_502 : decode cX6_init 502 = .ok (.iastore, 1) := by decide +kernel
theorem dX6_init_503 : decode cX6_init 503 = .ok (.putfield 23, 3) := by decide +kernel
theorem dX6_init_506 : decode cX6_init 506 = .ok (.aload_n 0, 1) := by decide +kernel
theorem dX6_init_507 : decode cX6_init 507 = .ok (.iconst 2, 1) := by decide +kernel
theorem dX6_init_508 : decode cX6_init 508 = .ok (.putfield 26, 3) := by decide +kernel
theorem dX6_init_511 : decode cX6_init 511 = .ok (.aload_n 0, 1) := by decide +kernel
theorem dX6_init_512 : decode cX6_init 512 = .ok (.bipush 12, 2) := by decide +kernel
theorem dX6_init_514 : decode cX6_init 514 = .ok (.newarray .int, 2) := by decide +kernel
theorem dX6_init_516 : decode cX6_init 516 = .ok (.putfield 29, 3) := by decide +kernel
theorem dX6_init_519 : decode cX6_init 519 = .ok (.aload_n 0, 1) := by decide +kernel
theorem dX6_init_520 : decode cX6_init 520 = .ok (.sipush 720, 3) := by decide +kernel
theorem dX6_init_523 : decode cX6_init 523 = .ok (.newarray .int, 2) := by decide +kernel
theorem dX6_init_525 : decode cX6_init 525 = .ok (.putfield 32, 3) := by decide +kernel
theorem dX6_init_528 : decode cX6_init 528 = .ok (.aload_n 0, 1) := by decide +kernel
theorem dX6_init_529 : decode cX6_init 529 = .ok (.sipush 180, 3) := by decide +kernel
theorem dX6_init_532 : decode cX6_init 532 = .ok (.newarray .int, 2) := by decide +kernel
theorem dX6_init_534 : decode cX6_init 534 = .ok (.putfield 35, 3) := by decide +kernel
theorem dX6_init_537 : decode cX6_init 537 = .ok (.aload_n 0, 1) := by decide +kernel
theorem dX6_init_538 : decode cX6_init 538 = .ok (.sipush 676, 3) := by decide +kernel
theorem dX6_init_541 : decode cX6_init 541 = .ok (.newarray .int, 2) := by decide +kernel
theorem dX6_init_543 : decode cX6_init 543 = .ok (.putfield 38, 3) := by decide +kernel
theorem dX6_init_546 : decode cX6_init 546 = .ok (.aload_n 0, 1) := by decide +kernel
theorem dX6_init_547 : decode cX6_init 547 = .ok (.sipush 676, 3) := by decide +kernel
theorem dX6_init_550 : decode cX6_init 550 = .ok (.newarray .int, 2) := by decide +kernel
theorem dX6_init_552 : decode cX6_init 552 = .ok (.putfield 41, 3) := by decide +kernel
theorem dX6_init_555 : decode cX6_init 555 = .ok (.aload_n 0, 1) := by decide +kernel
theorem dX6_init_556 : decode cX6_init 556 = .ok (.bipush 13, 2) := by decide +kernel
theorem dX6_init_558 : decode cX6_init 558 = .ok (.newarray .int, 2) := by decide +kernel
theorem dX6_init_560 : decode cX6_init 560 = .ok (.putfield 44, 3) := by decide +kernel
theorem dX6_init_563 : decode cX6_init 563 = .ok (.aload_n 0, 1) := by decide +kernel
theorem dX6_init_564 : decode cX6_init 564 = .ok (.bipush 13, 2) := by decide +kernel
theorem dX6_init_566 : decode cX6_init 566 = .ok (.newarray .int, 2) := by decide +kernel
theorem dX6_init_568 : decode cX6_init 568 = .ok (.putfield 47, 3) := by decide +kernel
theorem dX6_init_571 : decode cX6_init 571 = .ok (.aload_n 0, 1) := by decide +kernel
theorem dX6_init_572 : decode cX6_init 572 = .ok (.sipush 400, 3) := by decide +kernel
theorem dX6_init_575 : decode cX6_init 575 = .ok (.newarray .int, 2) := by decide +kernel
theorem dX6_init_577 : decode cX6_init 577 = .ok (.putfield 50, 3) := by decide +kernel
theorem dX6_init_580 : decode cX6_init 580 = .ok (.aload_n 0, 1) := by decide +kernel
theorem dX6_init_581 : decode cX6_init 581 = .ok (.sipush 5213, 3) := by decide +kernel
theorem dX6_init_584 : decode cX6_init 584 = .ok (.newarray .int, 2) := by decide +kernel
theorem dX6_init_586 : decode cX6_init 586 = .ok (.putfield 53, 3) := by decide +kernel
theorem dX6_init_589 : decode cX6_init 589 = .ok (.aload_n 0, 1) := by decide +kernel
theorem dX6_init_590 : decode cX6_init 590 = .ok (.bipush 13, 2) := by decide +kernel
theorem dX6_init_592 : decode cX6_init 592 = .ok (.newarray .int, 2) := by decide +kernel
theorem dX6_init_594 : decode cX6_init 594 = .ok (.putfield 56, 3) := by decide +kernel
theorem dX6_init_597 : decode cX6_init 597 = .ok (.aload_n 0, 1) := by decide +kernel
theorem dX6_init_598 : decode cX6_init 598 = .ok (.bipush 13, 2) := by decide +kernel
theorem dX6_init_600 : decode cX6_init 600 = .ok (.newarray .int, 2) := by decide +kernel
theorem dX6_init_602 : decode cX6_init 602 = .ok (.putfield 59, 3) := by decide +kernel
theorem dX6_init_605 : decode cX6_init 605 = .ok (.aload_n 0, 1) := by decide +kernel
theorem dX6_init_606 : decode cX6_init 606 = .ok (.bipush 36, 2) := by decide +kernel
theorem dX6_init_608 : decode cX6_init 608 = .ok (.newarray .int, 2) := by decide +kernel
theorem dX6_init_610 : decode cX6_init 610 = .ok (.putfield 62, 3) := by decide +kernel
theorem dX6_init_613 : decode cX6_init 613 = .ok (.aload_n 0, 1) := by decide +kernel
theorem dX6_init_614 : decode cX6_init 614 = .ok (.bipush 12, 2) := by decide +kernel
theorem dX6_init_616 : decode cX6_init 616 = .ok (.newarray .int, 2) := by decide +kernel
theorem dX6_init_618 : decode cX6_init 618 = .ok (.putfield 65, 3) := by decide +kernel
theorem dX6_init_621 : decode cX6_init 621 = .ok (.aload_n 0, 1) := by decide +kernel
theorem dX6_init_622 : decode cX6_init 622 = .ok (.iconst 3, 1) := by decide +kernel
theorem dX6_init_623 : decode cX6_init 623 = .ok (.newarray .int, 2) := by decide +kernel
theorem dX6_init_625 : decode cX6_init 625 = .ok (.putfield 68, 3) := by decide +kernel
theorem dX6_init_628 : decode cX6_init 628 = .ok (.aload_n 0, 1) := by decide +kernel
theorem dX6_init_629 : decode cX6_init 629 = .ok (.bipush 90, 2) := by decide +kernel
theorem dX6_init_631 : decode cX6_init 631 = .ok (.newarray .int, 2) := by decide +kernel
theorem dX6_init_633 : decode cX6_init 633 = .ok (.putfield 71, 3) := by decide +kernel
theorem dX6_init_636 : decode cX6_init 636 = .ok (.aload_n 0, 1) := by decide +kernel
theorem dX6_init_637 : decode cX6_init 637 = .ok (.sipush 200, 3) := by decide +kernel
theorem dX6_init_640 : decode cX6_init 640 = .ok (.newarray .int, 2) := by decide +kernel
theorem dX6_init_642 : decode cX6_init 642 = .ok (.putfield 74, 3) := by decide +kernel
theorem dX6_init_645 : decode cX6_init 645 = .ok (.aload_n 0, 1) := by decide +kernel
theorem dX6_init_646 : decode cX6_init 646 = .ok (.bipush 6, 2) := by decide +kernel
theorem dX6_init_648 : decode cX6_init 648 = .ok (.newarray .int, 2) := by decide +kernel
theorem dX6_init_650 : decode cX6_init 650 = .ok (.putfield 77, 3) := by decide +kernel
theorem dX6_init_653 : decode cX6_init 653 = .ok (.return_, 1) := by decide +kernel
theorem dX6_in_0 : decode cX6_in 0 = .ok (.iload_n 0, 1) := by decide +kernel
theorem dX6_in_1 : decode cX6_in 1 = .ok (.iload_n 1, 1) := by decide +kernel
theorem dX6_in_2 : decode cX6_in 2 = .ok (.if_icmp .lt 12, 3) := by decide +kernel
theorem dX6_in_5 : decode cX6_in 5 = .ok (.iload_n 0, 1) := by decide +kernel
theorem dX6_in_6 : decode cX6_in 6 = .ok (.iload_n 2, 1) := by decide +kernel
theorem dX6_in_7 : decode cX6_in 7 = .ok (.if_icmp .gt 7, 3) := by decide +kernel
theorem dX6_in_10 : decode cX6_in 10 = .ok (.iconst 1, 1) := by decide +kernel
theorem dX6_in_11 : decode cX6_in 11 = .ok (.goto 4, 3) := by decide +kernel
theorem dX6_in_14 : decode cX6_in 14 = .ok (.iconst 0, 1) := by decide +kernel
theorem dX6_in_15 : decode cX6_in 15 = .ok (.ireturn, 1) := by decide +kernel
theorem dX6_writes_0 : decode cX6_writes 0 = .ok (.aload_n 1, 1) := by decide +kernel
theorem dX6_writes_1 : decode cX6_writes 1 = .ok (.iload_n 2, 1) := by decide +kernel
theorem dX6_writes_2 : decode cX6_writes 2 = .ok (.aload_n 0, 1) := by decide +kernel
theorem dX6_writes_3 : decode cX6_writes 3 = .ok (.getfield 13, 3) := by decide +kernel
theorem dX6_writes_6 : decode cX6_writes 6 = .ok (.iastore, 1) := by decide +kernel
theorem dX6_writes_7 : decode cX6_writes 7 = .ok (.aload_n 1, 1) := by decide +kernel
theorem dX6_writes_8 : decode cX6_writes 8 = .ok (.iload_n 2, 1) := by decide +kernel
theorem dX6_writes_9 : decode cX6_writes 9 = .ok (.iconst 1, 1) := by decide +kernel
theorem dX6_writes_10 : decode cX6_writes 10 = .ok (.iadd, 1) := by decide +kernel
theorem dX6_writes_11 : decode cX6_writes 11 = .ok (.aload_n 0, 1) := by decide +kernel
theorem dX6_writes_12 : decode cX6_writes 12 = .ok (.getfield 80, 3) := by decide +kernel
theorem dX6_writes_15 : decode cX6_writes 15 = .ok (.iastore, 1) := by decide +kernel
theorem dX6_writes_16 : decode cX6_writes 16 = .ok (.aload_n 1, 1) := by decide +kernel
theorem dX6_writes_17 : decode cX6_writes 17 = .ok (.iload_n 2, 1) := by decide +kernel
theorem dX6_writes_18 : decode cX6_writes 18 = .ok (.iconst 2, 1) := by decide +kernel
theorem dX6_writes_19 : decode cX6_writes 19 = .ok (.iadd, 1) := by decide +kernel
theorem dX6_writes_20 : decode cX6_writes 20 = .ok (.aload_n 0, 1) := by decide +kernel
theorem dX6_writes_21 : decode cX6_writes 21 = .ok (.getfield 26, 3) := by decide +kernel
theorem dX6_writes_24 : decode cX6_writes 24 = .ok (.iastore, 1) := by decide +kernel
theorem dX6_writes_25 : decode cX6_writes 25 = .ok (.aload_n 1, 1) := by decide +kernel
theorem dX6_writes_26 : decode cX6_writes 26 = .ok (.iload_n 2, 1) := by decide +kernel
theorem dX6_writes_27 : decode cX6_writes 27 = .ok (.iconst 3, 1) := by decide +kernel
theorem dX6_writes_28 : decode cX6_writes 28 = .ok (.iadd, 1) := by decide +kernel
theorem dX6_writes_29 : decode cX6_writes 29 = .ok (.aload_n 0, 1) := by decide +kernel
theorem dX6_writes_30 : decode cX6_writes 30 = .ok (.getfield 83, 3) := by decide +kernel
theorem dX6_writes_33 : decode cX6_writes 33 = .ok (.iastore, 1) := by decide +kernel
theorem dX6_writes_34 : decode cX6_writes 34 = .ok (.iconst 0, 1) := by decide +kernel
theorem dX6_writes_35 : decode cX6_writes 35 = .ok (.istore_n 3, 1) := by decide +kernel
theorem dX6_writes_36 : decode cX6_writes 36 = .ok (.iload_n 3, 1) := by decide +kernel
theorem dX6_writes_37 : decode cX6_writes 37 = .ok (.bipush 12, 2) := by decide +kernel
theorem dX6_writes_39 : decode cX6_writes 39 = .ok (.if_icmp .ge 22, 3) := by decide +kernel
theorem dX6_writes_42 : decode cX6_writes 42 = .ok (.aload_n 1, 1) := by decide +kernel
theorem dX6_writes_43 : decode cX6_writes 43 = .ok (.iload_n 2, 1) := by decide +kernel
theorem dX6_writes_44 : decode cX6_writes 44 = .ok (.iconst 4, 1) := by decide +kernel
theorem dX6_writes_45 : decode cX6_writes 45 = .ok (.iadd, 1) := by decide +kernel
theorem dX6_writes_46 : decode cX6_writes 46 = .ok (.iload_n 3, 1) := by decide +kernel
theorem dX6_writes_47 : decode cX6_writes 47 = .ok (.iadd, 1) := by decide +kernel
theorem dX6_writes_48 : decode cX6_writes 48 = .ok (.aload_n 0, 1) := by decide +kernel
theorem dX6_writes_49 : decode cX6_writes 49 = .ok (.getfield 29, 3) := by decide +kernel
theorem dX6_writes_52 : decode cX6_writes 52 = .ok (.iload_n 3, 1) := by decide +kernel
theorem dX6_writes_53 : decode cX6_writes 53 = .ok (.iaload, 1) := by decide +kernel
theorem dX6_writes_54 : decode cX6_writes 54 = .ok (.iastore, 1) := by decide +kernel
theorem dX6_writes_55 : decode cX6_writes 55 = .ok (.iinc 3 1, 3) := by decide +kernel
theorem dX6_writes_58 : decode cX6_writes 58 = .ok (.goto (-22), 3) := by decide +kernel
theorem dX6_writes_61 : decode cX6_writes 61 = .ok (.iconst 0, 1) := by decide +kernel
theorem dX6_writes_62 : decode cX6_writes 62 = .ok (.istore_n 3, 1) := by decide +kernel
theorem dX6_writes_63 : decode cX6_writes 63 = .ok (.iload_n 3, 1) := by decide +kernel
theorem dX6_writes_64 : decode cX6_writes 64 = .ok (.bipush 70, 2) := by decide +kernel
theorem dX6_writes_66 : decode cX6_writes 66 = .ok (.if_icmp .ge 23, 3) := by decide +kernel
theorem dX6_writes_69 : decode cX6_writes 69 = .ok (.aload_n 1, 1) := by decide +kernel
theorem dX6_writes_70 : decode cX6_writes 70 = .ok (.iload_n 2, 1) := by decide +kernel
theorem dX6_writes_71 : decode cX6_writes 71 = .ok (.bipush 16, 2) := by decide +kernel
theorem dX6_writes_73 : decode cX6_writes 73 = .ok (.iadd, 1) := by decide +kernel
theorem dX6_writes_74 : decode cX6_writes 74 = .ok (.iload_n 3, 1) := by decide +kernel
theorem dX6_writes_75 : decode cX6_writes 75 = .ok (.iadd, 1) := by decide +kernel
theorem dX6_writes_76 : decode cX6_writes 76 = .ok (.aload_n 0, 1) := by decide +kernel
theorem dX6_writes_77 : decode cX6_writes 77 = .ok (.getfield 16, 3) := by decide +kernel
theorem dX6_writes_80 : decode cX6_writes 80 = .ok (.iload_n 3, 1) := by decide +kernel
theorem dX6_writes_81 : decode cX6_writes 81 = .ok (.iaload, 1) := by decide +kernel
theorem dX6_writes_82 : decode cX6_writes 82 = .ok (.iastore, 1) := by decide +kernel
theorem dX6_writes_83 : decode cX6_writes 83 = .ok (.iinc 3 1, 3) := by decide +kernel
theorem dX6_writes_86 : decode cX6_writes 86 = .ok (.goto (-23), 3) := by decide +kernel
theorem dX6_writes_89 : decode cX6_writes 89 = .ok (.return_, 1) := by decide +kernel
theorem dX6_readsBack_0 : decode cX6_readsBack 0 = .ok (.aload_n 0, 1) := by decide +kernel
theorem dX6_readsBack_1 : decode cX6_readsBack 1 = .ok (.aload_n 1, 1) := by decide +kernel
theorem dX6_readsBack_2 : decode cX6_readsBack 2 = .ok (.iload_n 2, 1) := by decide +kernel
theorem dX6_readsBack_3 : decode cX6_readsBack 3 = .ok (.iaload, 1) := by decide +kernel
theorem dX6_readsBack_4 : decode cX6_readsBack 4 = .ok (.putfield 13, 3) := by decide +kernel
theorem dX6_readsBack_7 : decode cX6_readsBack 7 = .ok (.aload_n 0, 1) := by decide +kernel
theorem dX6_readsBack_8 : decode cX6_readsBack 8 = .ok (.aload_n 1, 1) := by decide +kernel
theorem dX6_readsBack_9 : decode cX6_readsBack 9 = .ok (.iload_n 2, 1) := by decide +kernel
theorem dX6_readsBack_10 : decode cX6_readsBack 10 = .ok (.iconst 1, 1) := by decide +kernel
theorem dX6_readsBack_11 : decode cX6_readsBack 11 = .ok (.iadd, 1) := by decide +kernel
theorem dX6_readsBack_12 : decode cX6_readsBack 12 = .ok (.iaload, 1) := by decide +kernel
theorem dX6_readsBack_13 : decode cX6_readsBack 13 = .ok (.putfield 80, 3) := by decide +kernel
theorem dX6_readsBack_16 : decode cX6_readsBack 16 = .ok (.aload_n 0, 1) := by decide +kernel
theorem dX6_readsBack_17 : decode cX6_readsBack 17 = .ok (.aload_n 1, 1) := by decide +kernel
theorem dX6_readsBack_18 : decode cX6_readsBack 18 = .ok (.iload_n 2, 1) := by decide +kernel
theorem dX6_readsBack_19 : decode cX6_readsBack 19 = .ok (.iconst 2, 1) := by decide +kernel
theorem dX6_readsBack_20 : decode cX6_readsBack 20 = .ok (.iadd, 1) := by decide +kernel
theorem dX6_readsBack_21 : decode cX6_readsBack 21 = .ok (.iaload, 1) := by decide +kernel
theorem dX6_readsBack_22 : decode cX6_readsBack 22 = .ok (.putfield 26, 3) := by decide +kernel
theorem dX6_readsBack_25 : decode cX6_readsBack 25 = .ok (.aload_n 0, 1) := by decide +kernel
theorem dX6_readsBack_26 : decode cX6_readsBack 26 = .ok (.aload_n 1, 1) := by decide +kernel
theorem dX6_readsBack_27 : decode cX6_readsBack 27 = .ok (.iload_n 2, 1) := by decide +kernel
theorem dX6_readsBack_28 : decode cX6_readsBack 28 = .ok (.iconst 3, 1) := by decide +kernel
theorem dX6_readsBack_29 : decode cX6_readsBack 29 = .ok (.iadd, 1) := by decide +kernel
theorem dX6_readsBack_30 : decode cX6_readsBack 30 = .ok (.iaload, 1) := by decide +kernel
theorem dX6_readsBack_31 : decode cX6_readsBack 31 = .ok (.putfield 83, 3) := by decide +kernel
theorem dX6_readsBack_34 : decode cX6_readsBack 34 = .ok (.iconst 0, 1) := by decide +kernel
theorem dX6_readsBack_35 : decode cX6_readsBack 35 = .ok (.istore_n 3, 1) := by decide +kernel
theorem dX6_readsBack_36 : decode cX6_readsBack 36 = .ok (.iload_n 3, 1) := by decide +kernel
theorem dX6_readsBack_37 : decode cX6_readsBack 37 = .ok (.bipush 12, 2) := by decide +kernel
theorem dX6_readsBack_39 : decode cX6_readsBack 39 = .ok (.if_icmp .ge 22, 3) := by decide +kernel
theorem dX6_readsBack_42 : decode cX6_readsBack 42 = .ok (.aload_n 0, 1) := by decide +kernel
theorem dX6_readsBack_43 : decode cX6_readsBack 43 = .ok (.getfield 29, 3) := by decide +kernel
theorem dX6_readsBack_46 : decode cX6_readsBack 46 = .ok (.iload_n 3, 1) := by decide +kernel
theorem dX6_readsBack_47 : decode cX6_readsBack 47 = .ok (.aload_n 1, 1) := by decide +kernel
theorem dX6_readsBack_48 : decode cX6_readsBack 48 = .ok (.iload_n 2, 1) := by decide +kernel
theorem dX6_readsBack_49 : decode cX6_readsBack 49 = .ok (.iconst 4, 1) := by decide +kernel
theorem dX6_readsBack_50 : decode cX6_readsBack 50 = .ok (.iadd, 1) := by decide +kernel
theorem dX6_readsBack_51 : decode cX6_readsBack 51 = .ok (.iload_n 3, 1) := by decide +kernel
theorem dX6_readsBack_52 : decode cX6_readsBack 52 = .ok (.iadd, 1) := by decide +kernel
theorem dX6_readsBack_53 : decode cX6_readsBack 53 = .ok (.iaload, 1) := by decide +kernel
theorem dX6_readsBack_54 : decode cX6_readsBack 54 = .ok (.iastore, 1) := by decide +kernel
theorem dX6_readsBack_55 : decode cX6_readsBack 55 = .ok (.iinc 3 1, 3) := by decide +kernel
theorem dX6_readsBack_58 : decode cX6_readsBack 58 = .ok (.goto (-22), 3) := by decide +kernel
theorem dX6_readsBack_61 : decode cX6_readsBack 61 = .ok (.iconst 0, 1) := by decide +kernel
theorem dX6_readsBack_62 : decode cX6_readsBack 62 = .ok (.istore_n 3, 1) := by decide +kernel
theorem dX6_readsBack_63 : decode cX6_readsBack 63 = .ok (.iload_n 3, 1) := by decide +kernel
theorem dX6_readsBack_64 : decode cX6_readsBack 64 = .ok (.bipush 70, 2) := by decide +kernel
theorem dX6_readsBack_66 : decode cX6_readsBack 66 = .ok (.if_icmp .ge 23, 3) := by decide +kernel
theorem dX6_readsBack_69 : decode cX6_readsBack 69 = .ok (.aload_n 0, 1) := by decide +kernel
theorem dX6_readsBack_70 : decode cX6_readsBack 70 = .ok (.getfield 16, 3) := by decide +kernel
theorem dX6_readsBack_73 : decode cX6_readsBack 73 = .ok (.iload_n 3, 1) := by decide +kernel
theorem dX6_readsBack_74 : decode cX6_readsBack 74 = .ok (.aload_n 1, 1) := by decide +kernel
theorem dX6_readsBack_75 : decode cX6_readsBack 75 = .ok (.iload_n 2, 1) := by decide +kernel
theorem dX6_readsBack_76 : decode cX6_readsBack 76 = .ok (.bipush 16, 2) := by decide +kernel
theorem dX6_readsBack_78 : decode cX6_readsBack 78 = .ok (.iadd, 1) := by decide +kernel
theorem dX6_readsBack_79 : decode cX6_readsBack 79 = .ok (.iload_n 3, 1) := by decide +kernel
theorem dX6_readsBack_80 : decode cX6_readsBack 80 = .ok (.iadd, 1) := by decide +kernel
theorem dX6_readsBack_81 : decode cX6_readsBack 81 = .ok (.iaload, 1) := by decide +kernel
theorem dX6_readsBack_82 : decode cX6_readsBack 82 = .ok (.iastore, 1) := by decide +kernel
theorem dX6_readsBack_83 : decode cX6_readsBack 83 = .ok (.iinc 3 1, 3) := by decide +kernel
theorem dX6_readsBack_86 : decode cX6_readsBack 86 = .ok (.goto (-23), 3) := by decide +kernel
theorem dX6_readsBack_89 : decode cX6_readsBack 89 = .ok (.return_, 1) := by decide +kernel
theorem dX6_notes_0 : decode cX6_notes 0 = .ok (.aload_n 0, 1) := by decide +kernel
theorem dX6_notes_1 : decode cX6_notes 1 = .ok (.getfield 86, 3) := by decide +kernel
theorem dX6_notes_4 : decode cX6_notes 4 = .ok (.bipush 8, 2) := by decide +kernel
theorem dX6_notes_6 : decode cX6_notes 6 = .ok (.if_icmp .ne 43, 3) := by decide +kernel
theorem dX6_notes_9 : decode cX6_notes 9 = .ok (.iconst 0, 1) := by decide +kernel
theorem dX6_notes_10 : decode cX6_notes 10 = .ok (.istore_n 1, 1) := by decide +kernel
theorem dX6_notes_11 : decode cX6_notes 11 = .ok (.iload_n 1, 1) := by decide +kernel
theorem dX6_notes_12 : decode cX6_notes 12 = .ok (.sipush 630, 3) := by decide +kernel
theorem dX6_notes_15 : decode cX6_notes 15 = .ok (.if_icmp .ge 24, 3) := by decide +kernel
theorem dX6_notes_18 : decode cX6_notes 18 = .ok (.aload_n 0, 1) := by decide +kernel
theorem dX6_notes_19 : decode cX6_notes 19 = .ok (.getfield 32, 3) := by decide +kernel
theorem dX6_notes_22 : decode cX6_notes 22 = .ok (.iload_n 1, 1) := by decide +kernel
theorem dX6_notes_23 : decode cX6_notes 23 = .ok (.aload_n 0, 1) := by decide +kernel
theorem dX6_notes_24 : decode cX6_notes 24 = .ok (.getfield 32, 3) := by decide +kernel
theorem dX6_notes_27 : decode cX6_notes 27 = .ok (.iload_n 1, 1) := by decide +kernel
theorem dX6_notes_28 : decode cX6_notes 28 = .ok (.bipush 90, 2) := by decide +kernel
theorem dX6_notes_30 : decode cX6_notes 30 = .ok (.iadd, 1) := by decide +kernel
theorem dX6_notes_31 : decode cX6_notes 31 = .ok (.iaload, 1) := by decide +kernel
theorem dX6_notes_32 : decode cX6_notes 32 = .ok (.iastore, 1) := by decide +kernel
theorem dX6_notes_33 : decode cX6_notes 33 = .ok (.iinc 1 1, 3) := by decide +kernel
theorem dX6_notes_36 : decode cX6_notes 36 = .ok (.goto (-25), 3) := by decide +kernel
theorem dX6_notes_39 : decode cX6_notes 39 = .ok (.aload_n 0, 1) := by decide +kernel
theorem dX6_notes_40 : decode cX6_notes 40 = .ok (.dup, 1) := by decide +kernel
theorem dX6_notes_41 : decode cX6_notes 41 = .ok (.getfield 86, 3) := by decide +kernel
theorem dX6_notes_44 : decode cX6_notes 44 = .ok (.iconst 1, 1) := by decide +kernel
theorem dX6_notes_45 : decode cX6_notes 45 = .ok (.isub, 1) := by decide +kernel
theorem dX6_notes_46 : decode cX6_notes 46 = .ok (.putfield 86, 3) := by decide +kernel
theorem dX6_notes_49 : decode cX6_notes 49 = .ok (.aload_n 0, 1) := by decide +kernel
theorem dX6_notes_50 : decode cX6_notes 50 = .ok (.aload_n 0, 1) := by decide +kernel
theorem dX6_notes_51 : decode cX6_notes 51 = .ok (.getfield 32, 3) := by decide +kernel
theorem dX6_notes_54 : decode cX6_notes 54 = .ok (.bipush 90, 2) := by decide +kernel
theorem dX6_notes_56 : decode cX6_notes 56 = .ok (.aload_n 0, 1) := by decide +kernel
theorem dX6_notes_57 : decode cX6_notes 57 = .ok (.getfield 86, 3) := by decide +kernel
theorem dX6_notes_60 : decode cX6_notes 60 = .ok (.imul, 1) := by decide +kernel
theorem dX6_notes_61 : decode cX6_notes 61 = .ok (.invokevirtual 89, 3) := by decide +kernel
theorem dX6_notes_64 : decode cX6_notes 64 = .ok (.aload_n 0, 1) := by decide +kernel
theorem dX6_notes_65 : decode cX6_notes 65 = .ok (.dup, 1) := by decide +kernel
theorem dX6_notes_66 : decode cX6_notes 66 = .ok (.getfield 86, 3) := by decide +kernel
theorem dX6_notes_69 : decode cX6_notes 69 = .ok (.iconst 1, 1) := by decide +kernel
theorem dX6_notes_70 : decode cX6_notes 70 = .ok (.iadd, 1) := by decide +kernel
theorem dX6_notes_71 : decode cX6_notes 71 = .ok (.putfield 86, 3) := by decide +kernel
theorem dX6_notes_74 : decode cX6_notes 74 = .ok (.return_, 1) := by decide +kernel
theorem dX6_undo_0 : decode cX6_undo 0 = .ok (.aload_n 0, 1) := by decide +kernel
theorem dX6_undo_1 : decode cX6_undo 1 = .ok (.getfield 86, 3) := by decide +kernel
theorem dX6_undo_4 : decode cX6_undo 4 = .ok (.ifCond .ne 6, 3) := by decide +kernel
theorem dX6_undo_7 : decode cX6_undo 7 = .ok (.bipush (-2), 2) := by decide +kernel
theorem dX6_undo_9 : decode cX6_undo 9 = .ok (.ireturn, 1) := by decide +kernel
theorem dX6_undo_10 : decode cX6_undo 10 = .ok (.aload_n 0, 1) := by decide +kernel
theorem dX6_undo_11 : decode cX6_undo 11 = .ok (.dup, 1) := by decide +kernel
theorem dX6_undo_12 : decode cX6_undo 12 = .ok (.getfield 86, 3) := by decide +kernel
theorem dX6_undo_15 : decode cX6_undo 15 = .ok (.iconst 1, 1) := by decide +kernel
theorem dX6_undo_16 : decode cX6_undo 16 = .ok (.isub, 1) := by decide +kernel
theorem dX6_undo_17 : decode cX6_undo 17 = .ok (.putfield 86, 3) := by decide +kernel
theorem dX6_undo_20 : decode cX6_undo 20 = .ok (.aload_n 0, 1) := by decide +kernel
theorem dX6_undo_21 : decode cX6_undo 21 = .ok (.aload_n 0, 1) := by decide +kernel
theorem dX6_undo_22 : decode cX6_undo 22 = .ok (.getfield 32, 3) := by decide +kernel
theorem dX6_undo_25 : decode cX6_undo 25 = .ok (.bipush 90, 2) := by decide +kernel
theorem dX6_undo_27 : decode cX6_undo 27 = .ok (.aload_n 0, 1) := by decide +kernel
theorem dX6_undo_28 : decode cX6_undo 28 = .ok (.getfield 86, 3) := by decide +kernel
theorem dX6_undo_31 : decode cX6_undo 31 = .ok (.imul, 1) := by decide +kernel
theorem dX6_undo_32 : decode cX6_undo 32 = .ok (.invokevirtual 93, 3) := by decide +kernel
theorem dX6_undo_35 : decode cX6_undo 35 = .ok (.aload_n 0, 1) := by decide +kernel
theorem dX6_undo_36 : decode cX6_undo 36 = .ok (.getfield 86, 3) := by decide +kernel
theorem dX6_undo_39 : decode cX6_undo 39 = .ok (.ireturn, 1) := by decide +kernel
theorem dX6_keep_0 : decode cX6_keep 0 = .ok (.aload_n 0, 1) := by decide +kernel
theorem dX6_keep_1 : decode cX6_keep 1 = .ok (.getfield 96, 3) := by decide +kernel
theorem dX6_keep_4 : decode cX6_keep 4 = .ok (.iconst 2, 1) := by decide +kernel
theorem dX6_keep_5 : decode cX6_keep 5 = .ok (.if_icmp .ne 6, 3) := by decide +kernel
theorem dX6_keep_8 : decode cX6_keep 8 = .ok (.bipush (-3), 2) := by decide +kernel
theorem dX6_keep_10 : decode cX6_keep 10 = .ok (.ireturn, 1) := by decide +kernel
theorem dX6_keep_11 : decode cX6_keep 11 = .ok (.aload_n 0, 1) := by decide +kernel
theorem dX6_keep_12 : decode cX6_keep 12 = .ok (.aload_n 0, 1) := by decide +kernel
theorem dX6_keep_13 : decode cX6_keep 13 = .ok (.getfield 35, 3) := by decide +kernel
theorem dX6_keep_16 : decode cX6_keep 16 = .ok (.bipush 90, 2) := by decide +kernel
theorem dX6_keep_18 : decode cX6_keep 18 = .ok (.aload_n 0, 1) := by decide +kernel
theorem dX6_keep_19 : decode cX6_keep 19 = .ok (.getfield 96, 3) := by decide +kernel
theorem dX6_keep_22 : decode cX6_keep 22 = .ok (.imul, 1) := by decide +kernel
theorem dX6_keep_23 : decode cX6_keep 23 = .ok (.invokevirtual 89, 3) := by decide +kernel
theorem dX6_keep_26 : decode cX6_keep 26 = .ok (.aload_n 0, 1) := by decide +kernel
theorem dX6_keep_27 : decode cX6_keep 27 = .ok (.dup, 1) := by decide +kernel
theorem dX6_keep_28 : decode cX6_keep 28 = .ok (.getfield 96, 3) := by decide +kernel
theorem dX6_keep_31 : decode cX6_keep 31 = .ok (.iconst 1, 1) := by decide +kernel
theorem dX6_keep_32 : decode cX6_keep 32 = .ok (.iadd, 1) := by decide +kernel
theorem dX6_keep_33 : decode cX6_keep 33 = .ok (.putfield 96, 3) := by decide +kernel
theorem dX6_keep_36 : decode cX6_keep 36 = .ok (.aload_n 0, 1) := by decide +kernel
theorem dX6_keep_37 : decode cX6_keep 37 = .ok (.getfield 96, 3) := by decide +kernel
theorem dX6_keep_40 : decode cX6_keep 40 = .ok (.ireturn, 1) := by decide +kernel
theorem dX6_back_0 : decode cX6_back 0 = .ok (.aload_n 0, 1) := by decide +kernel
theorem dX6_back_1 : decode cX6_back 1 = .ok (.getfield 96, 3) := by decide +kernel
theorem dX6_back_4 : decode cX6_back 4 = .ok (.ifCond .ne 6, 3) := by decide +kernel
theorem dX6_back_7 : decode cX6_back 7 = .ok (.bipush (-2), 2) := by decide +kernel
theorem dX6_back_9 : decode cX6_back 9 = .ok (.ireturn, 1) := by decide +kernel
theorem dX6_back_10 : decode cX6_back 10 = .ok (.aload_n 0, 1) := by decide +kernel
theorem dX6_back_11 : decode cX6_back 11 = .ok (.dup, 1) := by decide +kernel
theorem dX6_back_12 : decode cX6_back 12 = .ok (.getfield 96, 3) := by decide +kernel
theorem dX6_back_15 : decode cX6_back 15 = .ok (.iconst 1, 1) := by decide +kernel
theorem dX6_back_16 : decode cX6_back 16 = .ok (.isub, 1) := by decide +kernel
theorem dX6_back_17 : decode cX6_back 17 = .ok (.putfield 96, 3) := by decide +kernel
theorem dX6_back_20 : decode cX6_back 20 = .ok (.aload_n 0, 1) := by decide +kernel
theorem dX6_back_21 : decode cX6_back 21 = .ok (.aload_n 0, 1) := by decide +kernel
theorem dX6_back_22 : decode cX6_back 22 = .ok (.getfield 35, 3) := by decide +kernel
theorem dX6_back_25 : decode cX6_back 25 = .ok (.bipush 90, 2) := by decide +kernel
theorem dX6_back_27 : decode cX6_back 27 = .ok (.aload_n 0, 1) := by decide +kernel
theorem dX6_back_28 : decode cX6_back 28 = .ok (.getfield 96, 3) := by decide +kernel
theorem dX6_back_31 : decode cX6_back 31 = .ok (.imul, 1) := by decide +kernel
theorem dX6_back_32 : decode cX6_back 32 = .ok (.invokevirtual 93, 3) := by decide +kernel
theorem dX6_back_35 : decode cX6_back 35 = .ok (.aload_n 0, 1) := by decide +kernel
theorem dX6_back_36 : decode cX6_back 36 = .ok (.iconst 0, 1) := by decide +kernel
theorem dX6_back_37 : decode cX6_back 37 = .ok (.putfield 86, 3) := by decide +kernel
theorem dX6_back_40 : decode cX6_back 40 = .ok (.aload_n 0, 1) := by decide +kernel
theorem dX6_back_41 : decode cX6_back 41 = .ok (.getfield 96, 3) := by decide +kernel
theorem dX6_back_44 : decode cX6_back 44 = .ok (.ireturn, 1) := by decide +kernel
theorem dX6_isRule_0 : decode cX6_isRule 0 = .ok (.iload_n 1, 1) := by decide +kernel
theorem dX6_isRule_1 : decode cX6_isRule 1 = .ok (.iconst 0, 1) := by decide +kernel
theorem dX6_isRule_2 : decode cX6_isRule 2 = .ok (.aload_n 0, 1) := by decide +kernel
theorem dX6_isRule_3 : decode cX6_isRule 3 = .ok (.getfield 13, 3) := by decide +kernel
theorem dX6_isRule_6 : decode cX6_isRule 6 = .ok (.iconst 1, 1) := by decide +kernel
theorem dX6_isRule_7 : decode cX6_isRule 7 = .ok (.isub, 1) := by decide +kernel
theorem dX6_isRule_8 : decode cX6_isRule 8 = .ok (.invokestatic 99, 3) := by decide +kernel
theorem dX6_isRule_11 : decode cX6_isRule 11 = .ok (.ireturn, 1) := by decide +kernel
theorem dX6_isState_0 : decode cX6_isState 0 = .ok (.iload_n 1, 1) := by decide +kernel
theorem dX6_isState_1 : decode cX6_isState 1 = .ok (.iconst 0, 1) := by decide +kernel
theorem dX6_isState_2 : decode cX6_isState 2 = .ok (.aload_n 0, 1) := by decide +kernel
theorem dX6_isState_3 : decode cX6_isState 3 = .ok (.getfield 7, 3) := by decide +kernel
theorem dX6_isState_6 : decode cX6_isState 6 = .ok (.iconst 1, 1) := by decide +kernel
theorem dX6_isState_7 : decode cX6_isState 7 = .ok (.isub, 1) := by decide +kernel
theorem dX6_isState_8 : decode cX6_isState 8 = .ok (.invokestatic 99, 3) := by decide +kernel
theorem dX6_isState_11 : decode cX6_isState 11 = .ok (.ireturn, 1) := by decide +kernel
theorem dX6_isLetter_0 : decode cX6_isLetter 0 = .ok (.iload_n 0, 1) := by decide +kernel
theorem dX6_isLetter_1 : decode cX6_isLetter 1 = .ok (.iconst 0, 1) := by decide +kernel
theorem dX6_isLetter_2 : decode cX6_isLetter 2 = .ok (.iconst 3, 1) := by decide +kernel
theorem dX6_isLetter_3 : decode cX6_isLetter 3 = .ok (.invokestatic 99, 3) := by decide +kernel
theorem dX6_isLetter_6 : decode cX6_isLetter 6 = .ok (.ireturn, 1) := by decide +kernel
theorem dX6_rule_0 : decode cX6_rule 0 = .ok (.aload_n 0, 1) := by decide +kernel
theorem dX6_rule_1 : decode cX6_rule 1 = .ok (.iload_n 1, 1) := by decide +kernel
theorem dX6_rule_2 : decode cX6_rule 2 = .ok (.invokevirtual 103, 3) := by decide +kernel
theorem dX6_rule_5 : decode cX6_rule 5 = .ok (.ifCond .eq 13, 3) := by decide +kernel
theorem dX6_rule_8 : decode cX6_rule 8 = .ok (.iload_n 2, 1) := by decide +kernel
theorem dX6_rule_9 : decode cX6_rule 9 = .ok (.iconst 0, 1) := by decide +kernel
theorem dX6_rule_10 : decode cX6_rule 10 = .ok (.bipush 6, 2) := by decide +kernel
theorem dX6_rule_12 : decode cX6_rule 12 = .ok (.invokestatic 99, 3) := by decide +kernel
theorem dX6_rule_15 : decode cX6_rule 15 = .ok (.ifCond .ne 5, 3) := by decide +kernel
theorem dX6_rule_18 : decode cX6_rule 18 = .ok (.iconst (-1), 1) := by decide +kernel
theorem dX6_rule_19 : decode cX6_rule 19 = .ok (.ireturn, 1) := by decide +kernel
theorem dX6_rule_20 : decode cX6_rule 20 = .ok (.aload_n 0, 1) := by decide +kernel
theorem dX6_rule_21 : decode cX6_rule 21 = .ok (.getfield 16, 3) := by decide +kernel
theorem dX6_rule_24 : decode cX6_rule 24 = .ok (.bipush 7, 2) := by decide +kernel
theorem dX6_rule_26 : decode cX6_rule 26 = .ok (.iload_n 1, 1) := by decide +kernel
theorem dX6_rule_27 : decode cX6_rule 27 = .ok (.imul, 1) := by decide +kernel
theorem dX6_rule_28 : decode cX6_rule 28 = .ok (.iload_n 2, 1) := by decide +kernel
theorem dX6_rule_29 : decode cX6_rule 29 = .ok (.iadd, 1) := by decide +kernel
theorem dX6_rule_30 : decode cX6_rule 30 = .ok (.iaload, 1) := by decide +kernel
theorem dX6_rule_31 : decode cX6_rule 31 = .ok (.ireturn, 1) := by decide +kernel
theorem dX6_target_0 : decode cX6_target 0 = .ok (.iload_n 1, 1) := by decide +kernel
theorem dX6_target_1 : decode cX6_target 1 = .ok (.iconst 0, 1) := by decide +kernel
theorem dX6_target_2 : decode cX6_target 2 = .ok (.aload_n 0, 1) := by decide +kernel
theorem dX6_target_3 : decode cX6_target 3 = .ok (.getfield 20, 3) := by decide +kernel
theorem dX6_target_6 : decode cX6_target 6 = .ok (.iconst 1, 1) := by decide +kernel
theorem dX6_target_7 : decode cX6_target 7 = .ok (.isub, 1) := by decide +kernel
theorem dX6_target_8 : decode cX6_target 8 = .ok (.invokestatic 99, 3) := by decide +kernel
theorem dX6_target_11 : decode cX6_target 11 = .ok (.ifCond .eq 26, 3) := by decide +kernel
theorem dX6_target_14 : decode cX6_target 14 = .ok (.iload_n 2, 1) := by decide +kernel
theorem dX6_target_15 : decode cX6_target 15 = .ok (.iconst 0, 1) := by decide +kernel
theorem dX6_target_16 : decode cX6_target 16 = .ok (.iconst 5, 1) := by decide +kernel
theorem dX6_target_17 : decode cX6_target 17 = .ok (.invokestatic 99, 3) := by decide +kernel
theorem dX6_target_20 : decode cX6_target 20 = .ok (.ifCond .eq 17, 3) := by decide +kernel
theorem dX6_target_23 : decode cX6_target 23 = .ok (.aload_n 0, 1) := by decide +kernel
theorem dX6_target_24 : decode cX6_target 24 = .ok (.getfield 23, 3) := by decide +kernel
theorem dX6_target_27 : decode cX6_target 27 = .ok (.bipush 6, 2) := by decide +kernel
theorem dX6_target_29 : decode cX6_target 29 = .ok (.iload_n 1, 1) := by decide +kernel
theorem dX6_target_30 : decode cX6_target 30 = .ok (.imul, 1) := by decide +kernel
theorem dX6_target_31 : decode cX6_target 31 = .ok (.iload_n 2, 1) := by decide +kernel
theorem dX6_target_32 : decode cX6_target 32 = .ok (.iadd, 1) := by decide +kernel
theorem dX6_target_33 : decode cX6_target 33 = .ok (.iaload, 1) := by decide +kernel
theorem dX6_target_34 : decode cX6_target 34 = .ok (.goto 4, 3) := by decide +kernel
theorem dX6_target_37 : decode cX6_target 37 = .ok (.iconst (-1), 1) := by decide +kernel
theorem dX6_target_38 : decode cX6_target 38 = .ok (.ireturn, 1) := by decide +kernel
theorem dX6_stack_0 : decode cX6_stack 0 = .ok (.iload_n 1, 1) := by decide +kernel
theorem dX6_stack_1 : decode cX6_stack 1 = .ok (.bipush (-2), 2) := by decide +kernel
theorem dX6_stack_3 : decode cX6_stack 3 = .ok (.if_icmp .ge 5, 3) := by decide +kernel
theorem dX6_stack_6 : decode cX6_stack 6 = .ok (.iconst (-1), 1) := by decide +kernel
theorem dX6_stack_7 : decode cX6_stack 7 = .ok (.ireturn, 1) := by decide +kernel
theorem dX6_stack_8 : decode cX6_stack 8 = .ok (.iload_n 1, 1) := by decide +kernel
theorem dX6_stack_9 : decode cX6_stack 9 = .ok (.ifCond .ge 21, 3) := by decide +kernel
theorem dX6_stack_12 : decode cX6_stack 12 = .ok (.iload_n 1, 1) := by decide +kernel
theorem dX6_stack_13 : decode cX6_stack 13 = .ok (.bipush (-2), 2) := by decide +kernel
theorem dX6_stack_15 : decode cX6_stack 15 = .ok (.if_icmp .ne 10, 3) := by decide +kernel
theorem dX6_stack_18 : decode cX6_stack 18 = .ok (.aload_n 0, 1) := by decide +kernel
theorem dX6_stack_19 : decode cX6_stack 19 = .ok (.getfield 80, 3) := by decide +kernel
theorem dX6_stack_22 : decode cX6_stack 22 = .ok (.goto 7, 3) := by decide +kernel
theorem dX6_stack_25 : decode cX6_stack 25 = .ok (.aload_n 0, 1) := by decide +kernel
theorem dX6_stack_26 : decode cX6_stack 26 = .ok (.getfield 26, 3) := by decide +kernel
theorem dX6_stack_29 : decode cX6_stack 29 = .ok (.ireturn, 1) := by decide +kernel
theorem dX6_stack_30 : decode cX6_stack 30 = .ok (.iload_n 1, 1) := by decide +kernel
theorem dX6_stack_31 : decode cX6_stack 31 = .ok (.aload_n 0, 1) := by decide +kernel
theorem dX6_stack_32 : decode cX6_stack 32 = .ok (.getfield 26, 3) := by decide +kernel
theorem dX6_stack_35 : decode cX6_stack 35 = .ok (.if_icmp .ge 19, 3) := by decide +kernel
theorem dX6_stack_38 : decode cX6_stack 38 = .ok (.aload_n 0, 1) := by decide +kernel
theorem dX6_stack_39 : decode cX6_stack 39 = .ok (.getfield 29, 3) := by decide +kernel
theorem dX6_stack_42 : decode cX6_stack 42 = .ok (.aload_n 0, 1) := by decide +kernel
theorem dX6_stack_43 : decode cX6_stack 43 = .ok (.getfield 26, 3) := by decide +kernel
theorem dX6_stack_46 : decode cX6_stack 46 = .ok (.iconst 1, 1) := by decide +kernel
theorem dX6_stack_47 : decode cX6_stack 47 = .ok (.isub, 1) := by decide +kernel
theorem dX6_stack_48 : decode cX6_stack 48 = .ok (.iload_n 1, 1) := by decide +kernel
theorem dX6_stack_49 : decode cX6_stack 49 = .ok (.isub, 1) := by decide +kernel
theorem dX6_stack_50 : decode cX6_stack 50 = .ok (.iaload, 1) := by decide +kernel
theorem dX6_stack_51 : decode cX6_stack 51 = .ok (.goto 5, 3) := by decide +kernel
theorem dX6_stack_54 : decode cX6_stack 54 = .ok (.bipush (-4), 2) := by decide +kernel
theorem dX6_stack_56 : decode cX6_stack 56 = .ok (.ireturn, 1) := by decide +kernel
theorem dX6_push_0 : decode cX6_push 0 = .ok (.iload_n 1, 1) := by decide +kernel
theorem dX6_push_1 : decode cX6_push 1 = .ok (.invokestatic 107, 3) := by decide +kernel
theorem dX6_push_4 : decode cX6_push 4 = .ok (.ifCond .ne 5, 3) := by decide +kernel
theorem dX6_push_7 : decode cX6_push 7 = .ok (.iconst (-1), 1) := by decide +kernel
theorem dX6_push_8 : decode cX6_push 8 = .ok (.ireturn, 1) := by decide +kernel
theorem dX6_push_9 : decode cX6_push 9 = .ok (.aload_n 0, 1) := by decide +kernel
theorem dX6_push_10 : decode cX6_push 10 = .ok (.getfield 26, 3) := by decide +kernel
theorem dX6_push_13 : decode cX6_push 13 = .ok (.bipush 12, 2) := by decide +kernel
theorem dX6_push_15 : decode cX6_push 15 = .ok (.if_icmp .ne 6, 3) := by decide +kernel
theorem dX6_push_18 : decode cX6_push 18 = .ok (.bipush (-3), 2) := by decide +kernel
theorem dX6_push_20 : decode cX6_push 20 = .ok (.ireturn, 1) := by decide +kernel
theorem dX6_push_21 : decode cX6_push 21 = .ok (.aload_n 0, 1) := by decide +kernel
theorem dX6_push_22 : decode cX6_push 22 = .ok (.invokevirtual 110, 3) := by decide +kernel
theorem dX6_push_25 : decode cX6_push 25 = .ok (.aload_n 0, 1) := by decide +kernel
theorem dX6_push_26 : decode cX6_push 26 = .ok (.getfield 29, 3) := by decide +kernel
theorem dX6_push_29 : decode cX6_push 29 = .ok (.aload_n 0, 1) := by decide +kernel
theorem dX6_push_30 : decode cX6_push 30 = .ok (.getfield 26, 3) := by decide +kernel
theorem dX6_push_33 : decode cX6_push 33 = .ok (.iload_n 1, 1) := by decide +kernel
theorem dX6_push_34 : decode cX6_push 34 = .ok (.iastore, 1) := by decide +kernel
theorem dX6_push_35 : decode cX6_push 35 = .ok (.aload_n 0, 1) := by decide +kernel
theorem dX6_push_36 : decode cX6_push 36 = .ok (.dup, 1) := by decide +kernel
theorem dX6_push_37 : decode cX6_push 37 = .ok (.getfield 26, 3) := by decide +kernel
theorem dX6_push_40 : decode cX6_push 40 = .ok (.iconst 1, 1) := by decide +kernel
theorem dX6_push_41 : decode cX6_push 41 = .ok (.iadd, 1) := by decide +kernel
theorem dX6_push_42 : decode cX6_push 42 = .ok (.putfield 26, 3) := by decide +kernel
theorem dX6_push_45 : decode cX6_push 45 = .ok (.aload_n 0, 1) := by decide +kernel
theorem dX6_push_46 : decode cX6_push 46 = .ok (.getfield 26, 3) := by decide +kernel
theorem dX6_push_49 : decode cX6_push 49 = .ok (.ireturn, 1) := by decide +kernel
theorem dX6_pop_0 : decode cX6_pop 0 = .ok (.aload_n 0, 1) := by decide +kernel
theorem dX6_pop_1 : decode cX6_pop 1 = .ok (.getfield 26, 3) := by decide +kernel
theorem dX6_pop_4 : decode cX6_pop 4 = .ok (.ifCond .ne 6, 3) := by decide +kernel
theorem dX6_pop_7 : decode cX6_pop 7 = .ok (.bipush (-2), 2) := by decide +kernel
theorem dX6_pop_9 : decode cX6_pop 9 = .ok (.ireturn, 1) := by decide +kernel
theorem dX6_pop_10 : decode cX6_pop 10 = .ok (.aload_n 0, 1) := by decide +kernel
theorem dX6_pop_11 : decode cX6_pop 11 = .ok (.invokevirtual 110, 3) := by decide +kernel
theorem dX6_pop_14 : decode cX6_pop 14 = .ok (.aload_n 0, 1) := by decide +kernel
theorem dX6_pop_15 : decode cX6_pop 15 = .ok (.dup, 1) := by decide +kernel
theorem dX6_pop_16 : decode cX6_pop 16 = .ok (.getfield 26, 3) := by decide +kernel
theorem dX6_pop_19 : decode cX6_pop 19 = .ok (.iconst 1, 1) := by decide +kernel
theorem dX6_pop_20 : decode cX6_pop 20 = .ok (.isub, 1) := by decide +kernel
theorem dX6_pop_21 : decode cX6_pop 21 = .ok (.putfield 26, 3) := by decide +kernel
theorem dX6_pop_24 : decode cX6_pop 24 = .ok (.aload_n 0, 1) := by decide +kernel
theorem dX6_pop_25 : decode cX6_pop 25 = .ok (.getfield 29, 3) := by decide +kernel
theorem dX6_pop_28 : decode cX6_pop 28 = .ok (.aload_n 0, 1) := by decide +kernel
theorem dX6_pop_29 : decode cX6_pop 29 = .ok (.getfield 26, 3) := by decide +kernel
theorem dX6_pop_32 : decode cX6_pop 32 = .ok (.iaload, 1) := by decide +kernel
theorem dX6_pop_33 : decode cX6_pop 33 = .ok (.ireturn, 1) := by decide +kernel
theorem dX6_fits_0 : decode cX6_fits 0 = .ok (.aload_n 0, 1) := by decide +kernel
theorem dX6_fits_1 : decode cX6_fits 1 = .ok (.getfield 16, 3) := by decide +kernel
theorem dX6_fits_4 : decode cX6_fits 4 = .ok (.bipush 7, 2) := by decide +kernel
theorem dX6_fits_6 : decode cX6_fits 6 = .ok (.iload_n 1, 1) := by decide +kernel
theorem dX6_fits_7 : decode cX6_fits 7 = .ok (.imul, 1) := by decide +kernel
theorem dX6_fits_8 : decode cX6_fits 8 = .ok (.iaload, 1) := by decide +kernel
theorem dX6_fits_9 : decode cX6_fits 9 = .ok (.iload_n 2, 1) := by decide +kernel
theorem dX6_fits_10 : decode cX6_fits 10 = .ok (.if_icmp .ne 22, 3) := by decide +kernel
theorem dX6_fits_13 : decode cX6_fits 13 = .ok (.aload_n 0, 1) := by decide +kernel
theorem dX6_fits_14 : decode cX6_fits 14 = .ok (.getfield 16, 3) := by decide +kernel
theorem dX6_fits_17 : decode cX6_fits 17 = .ok (.bipush 7, 2) := by decide +kernel
theorem dX6_fits_19 : decode cX6_fits 19 = .ok (.iload_n 1, 1) := by decide +kernel
theorem dX6_fits_20 : decode cX6_fits 20 = .ok (.imul, 1) := by decide +kernel
theorem dX6_fits_21 : decode cX6_fits 21 = .ok (.iconst 1, 1) := by decide +kernel
theorem dX6_fits_22 : decode cX6_fits 22 = .ok (.iadd, 1) := by decide +kernel
theorem dX6_fits_23 : decode cX6_fits 23 = .ok (.iaload, 1) := by decide +kernel
theorem dX6_fits_24 : decode cX6_fits 24 = .ok (.iload_n 3, 1) := by decide +kernel
theorem dX6_fits_25 : decode cX6_fits 25 = .ok (.if_icmp .ne 7, 3) := by decide +kernel
theorem dX6_fits_28 : decode cX6_fits 28 = .ok (.iconst 1, 1) := by decide +kernel
theorem dX6_fits_29 : decode cX6_fits 29 = .ok (.goto 4, 3) := by decide +kernel
theorem dX6_fits_32 : decode cX6_fits 32 = .ok (.iconst 0, 1) := by decide +kernel
theorem dX6_fits_33 : decode cX6_fits 33 = .ok (.ireturn, 1) := by decide +kernel
theorem dX6_steps_0 : decode cX6_steps 0 = .ok (.aload_n 0, 1) := by decide +kernel
theorem dX6_steps_1 : decode cX6_steps 1 = .ok (.dup, 1) := by decide +kernel
theorem dX6_steps_2 : decode cX6_steps 2 = .ok (.getfield 26, 3) := by decide +kernel
theorem dX6_steps_5 : decode cX6_steps 5 = .ok (.iconst 1, 1) := by decide +kernel
theorem dX6_steps_6 : decode cX6_steps 6 = .ok (.isub, 1) := by decide +kernel
theorem dX6_steps_7 : decode cX6_steps 7 = .ok (.putfield 26, 3) := by decide +kernel
theorem dX6_steps_10 : decode cX6_steps 10 = .ok (.aload_n 0, 1) := by decide +kernel
theorem dX6_steps_11 : decode cX6_steps 11 = .ok (.getfield 16, 3) := by decide +kernel
theorem dX6_steps_14 : decode cX6_steps 14 = .ok (.bipush 7, 2) := by decide +kernel
theorem dX6_steps_16 : decode cX6_steps 16 = .ok (.iload_n 1, 1) := by decide +kernel
theorem dX6_steps_17 : decode cX6_steps 17 = .ok (.imul, 1) := by decide +kernel
theorem dX6_steps_18 : decode cX6_steps 18 = .ok (.iconst 3, 1) := by decide +kernel
theorem dX6_steps_19 : decode cX6_steps 19 = .ok (.iadd, 1) := by decide +kernel
theorem dX6_steps_20 : decode cX6_steps 20 = .ok (.iaload, 1) := by decide +kernel
theorem dX6_steps_21 : decode cX6_steps 21 = .ok (.iconst 1, 1) := by decide +kernel
theorem dX6_steps_22 : decode cX6_steps 22 = .ok (.isub, 1) := by decide +kernel
theorem dX6_steps_23 : decode cX6_steps 23 = .ok (.istore_n 2, 1) := by decide +kernel
theorem dX6_steps_24 : decode cX6_steps 24 = .ok (.iload_n 2, 1) := by decide +kernel
theorem dX6_steps_25 : decode cX6_steps 25 = .ok (.ifCond .lt 41, 3) := by decide +kernel
theorem dX6_steps_28 : decode cX6_steps 28 = .ok (.aload_n 0, 1) := by decide +kernel
theorem dX6_steps_29 : decode cX6_steps 29 = .ok (.getfield 29, 3) := by decide +kernel
theorem dX6_steps_32 : decode cX6_steps 32 = .ok (.aload_n 0, 1) := by decide +kernel
theorem dX6_steps_33 : decode cX6_steps 33 = .ok (.getfield 26, 3) := by decide +kernel
theorem dX6_steps_36 : decode cX6_steps 36 = .ok (.aload_n 0, 1) := by decide +kernel
theorem dX6_steps_37 : decode cX6_steps 37 = .ok (.getfield 16, 3) := by decide +kernel
theorem dX6_steps_40 : decode cX6_steps 40 = .ok (.bipush 7, 2) := by decide +kernel
theorem dX6_steps_42 : decode cX6_steps 42 = .ok (.iload_n 1, 1) := by decide +kernel
theorem dX6_steps_43 : decode cX6_steps 43 = .ok (.imul, 1) := by decide +kernel
theorem dX6_steps_44 : decode cX6_steps 44 = .ok (.iconst 4, 1) := by decide +kernel
theorem dX6_steps_45 : decode cX6_steps 45 = .ok (.iadd, 1) := by decide +kernel
theorem dX6_steps_46 : decode cX6_steps 46 = .ok (.iload_n 2, 1) := by decide +kernel
theorem dX6_steps_47 : decode cX6_steps 47 = .ok (.iadd, 1) := by decide +kernel
theorem dX6_steps_48 : decode cX6_steps 48 = .ok (.iaload, 1) := by decide +kernel
theorem dX6_steps_49 : decode cX6_steps 49 = .ok (.iastore, 1) := by decide +kernel
theorem dX6_steps_50 : decode cX6_steps 50 = .ok (.aload_n 0, 1) := by decide +kernel
theorem dX6_steps_51 : decode cX6_steps 51 = .ok (.dup, 1) := by decide +kernel
theorem dX6_steps_52 : decode cX6_steps 52 = .ok (.getfield 26, 3) := by decide +kernel
theorem dX6_steps_55 : decode cX6_steps 55 = .ok (.iconst 1, 1) := by decide +kernel
theorem dX6_steps_56 : decode cX6_steps 56 = .ok (.iadd, 1) := by decide +kernel
theorem dX6_steps_57 : decode cX6_steps 57 = .ok (.putfield 26, 3) := by decide +kernel
theorem dX6_steps_60 : decode cX6_steps 60 = .ok (.iinc 2 (-1), 3) := by decide +kernel
theorem dX6_steps_63 : decode cX6_steps 63 = .ok (.goto (-39), 3) := by decide +kernel
theorem dX6_steps_66 : decode cX6_steps 66 = .ok (.aload_n 0, 1) := by decide +kernel
theorem dX6_steps_67 : decode cX6_steps 67 = .ok (.aload_n 0, 1) := by decide +kernel
theorem dX6_steps_68 : decode cX6_steps 68 = .ok (.getfield 16, 3) := by decide +kernel
theorem dX6_steps_71 : decode cX6_steps 71 = .ok (.bipush 7, 2) := by decide +kernel
theorem dX6_steps_73 : decode cX6_steps 73 = .ok (.iload_n 1, 1) := by decide +kernel
theorem dX6_steps_74 : decode cX6_steps 74 = .ok (.imul, 1) := by decide +kernel
theorem dX6_steps_75 : decode cX6_steps 75 = .ok (.iconst 2, 1) := by decide +kernel
theorem dX6_steps_76 : decode cX6_steps 76 = .ok (.iadd, 1) := by decide +kernel
theorem dX6_steps_77 : decode cX6_steps 77 = .ok (.iaload, 1) := by decide +kernel
theorem dX6_steps_78 : decode cX6_steps 78 = .ok (.putfield 80, 3) := by decide +kernel
theorem dX6_steps_81 : decode cX6_steps 81 = .ok (.return_, 1) := by decide +kernel
theorem dX6_step_0 : decode cX6_step 0 = .ok (.aload_n 0, 1) := by decide +kernel
theorem dX6_step_1 : decode cX6_step 1 = .ok (.iload_n 1, 1) := by decide +kernel
theorem dX6_step_2 : decode cX6_step 2 = .ok (.invokevirtual 103, 3) := by decide +kernel
theorem dX6_step_5 : decode cX6_step 5 = .ok (.ifCond .ne 5, 3) := by decide +kernel
theorem dX6_step_8 : decode cX6_step 8 = .ok (.iconst (-1), 1) := by decide +kernel
theorem dX6_step_9 : decode cX6_step 9 = .ok (.ireturn, 1) := by decide +kernel
theorem dX6_step_10 : decode cX6_step 10 = .ok (.aload_n 0, 1) := by decide +kernel
theorem dX6_step_11 : decode cX6_step 11 = .ok (.getfield 26, 3) := by decide +kernel
theorem dX6_step_14 : decode cX6_step 14 = .ok (.ifCond .eq 26, 3) := by decide +kernel
theorem dX6_step_17 : decode cX6_step 17 = .ok (.aload_n 0, 1) := by decide +kernel
theorem dX6_step_18 : decode cX6_step 18 = .ok (.iload_n 1, 1) := by decide +kernel
theorem dX6_step_19 : decode cX6_step 19 = .ok (.aload_n 0, 1) := by decide +kernel
theorem dX6_step_20 : decode cX6_step 20 = .ok (.getfield 80, 3) := by decide +kernel
theorem dX6_step_23 : decode cX6_step 23 = .ok (.aload_n 0, 1) := by decide +kernel
theorem dX6_step_24 : decode cX6_step 24 = .ok (.getfield 29, 3) := by decide +kernel
theorem dX6_step_27 : decode cX6_step 27 = .ok (.aload_n 0, 1) := by decide +kernel
theorem dX6_step_28 : decode cX6_step 28 = .ok (.getfield 26, 3) := by decide +kernel
theorem dX6_step_31 : decode cX6_step 31 = .ok (.iconst 1, 1) := by decide +kernel
theorem dX6_step_32 : decode cX6_step 32 = .ok (.isub, 1) := by decide +kernel
theorem dX6_step_33 : decode cX6_step 33 = .ok (.iaload, 1) := by decide +kernel
theorem dX6_step_34 : decode cX6_step 34 = .ok (.invokevirtual 113, 3) := by decide +kernel
theorem dX6_step_37 : decode cX6_step 37 = .ok (.ifCond .ne 6, 3) := by decide +kernel
theorem dX6_step_40 : decode cX6_step 40 = .ok (.bipush (-2), 2) := by decide +kernel
theorem dX6_step_42 : decode cX6_step 42 = .ok (.ireturn, 1) := by decide +kernel
theorem dX6_step_43 : decode cX6_step 43 = .ok (.aload_n 0, 1) := by decide +kernel
theorem dX6_step_44 : decode cX6_step 44 = .ok (.getfield 26, 3) := by decide +kernel
theorem dX6_step_47 : decode cX6_step 47 = .ok (.iconst 1, 1) := by decide +kernel
theorem dX6_step_48 : decode cX6_step 48 = .ok (.isub, 1) := by decide +kernel
theorem dX6_step_49 : decode cX6_step 49 = .ok (.aload_n 0, 1) := by decide +kernel
theorem dX6_step_50 : decode cX6_step 50 = .ok (.getfield 16, 3) := by decide +kernel
theorem dX6_step_53 : decode cX6_step 53 = .ok (.bipush 7, 2) := by decide +kernel
theorem dX6_step_55 : decode cX6_step 55 = .ok (.iload_n 1, 1) := by decide +kernel
theorem dX6_step_56 : decode cX6_step 56 = .ok (.imul, 1) := by decide +kernel
theorem dX6_step_57 : decode cX6_step 57 = .ok (.iconst 3, 1) := by decide +kernel
theorem dX6_step_58 : decode cX6_step 58 = .ok (.iadd, 1) := by decide +kernel
theorem dX6_step_59 : decode cX6_step 59 = .ok (.iaload, 1) := by decide +kernel
theorem dX6_step_60 : decode cX6_step 60 = .ok (.iadd, 1) := by decide +kernel
theorem dX6_step_61 : decode cX6_step 61 = .ok (.bipush 12, 2) := by decide +kernel
theorem dX6_step_63 : decode cX6_step 63 = .ok (.if_icmp .le 6, 3) := by decide +kernel
theorem dX6_step_66 : decode cX6_step 66 = .ok (.bipush (-3), 2) := by decide +kernel
theorem dX6_step_68 : decode cX6_step 68 = .ok (.ireturn, 1) := by decide +kernel
theorem dX6_step_69 : decode cX6_step 69 = .ok (.aload_n 0, 1) := by decide +kernel
theorem dX6_step_70 : decode cX6_step 70 = .ok (.invokevirtual 110, 3) := by decide +kernel
theorem dX6_step_73 : decode cX6_step 73 = .ok (.aload_n 0, 1) := by decide +kernel
theorem dX6_step_74 : decode cX6_step 74 = .ok (.iload_n 1, 1) := by decide +kernel
theorem dX6_step_75 : decode cX6_step 75 = .ok (.invokevirtual 116, 3) := by decide +kernel
theorem dX6_step_78 : decode cX6_step 78 = .ok (.aload_n 0, 1) := by decide +kernel
theorem dX6_step_79 : decode cX6_step 79 = .ok (.getfield 26, 3) := by decide +kernel
theorem dX6_step_82 : decode cX6_step 82 = .ok (.ireturn, 1) := by decide +kernel
theorem dX6_go_0 : decode cX6_go 0 = .ok (.aload_n 0, 1) := by decide +kernel
theorem dX6_go_1 : decode cX6_go 1 = .ok (.iload_n 1, 1) := by decide +kernel
theorem dX6_go_2 : decode cX6_go 2 = .ok (.invokevirtual 120, 3) := by decide +kernel
theorem dX6_go_5 : decode cX6_go 5 = .ok (.ifCond .ne 5, 3) := by decide +kernel
theorem dX6_go_8 : decode cX6_go 8 = .ok (.iconst (-1), 1) := by decide +kernel
theorem dX6_go_9 : decode cX6_go 9 = .ok (.ireturn, 1) := by decide +kernel
theorem dX6_go_10 : decode cX6_go 10 = .ok (.iload_n 1, 1) := by decide +kernel
theorem dX6_go_11 : decode cX6_go 11 = .ok (.aload_n 0, 1) := by decide +kernel
theorem dX6_go_12 : decode cX6_go 12 = .ok (.getfield 80, 3) := by decide +kernel
theorem dX6_go_15 : decode cX6_go 15 = .ok (.if_icmp .ne 6, 3) := by decide +kernel
theorem dX6_go_18 : decode cX6_go 18 = .ok (.bipush (-2), 2) := by decide +kernel
theorem dX6_go_20 : decode cX6_go 20 = .ok (.ireturn, 1) := by decide +kernel
theorem dX6_go_21 : decode cX6_go 21 = .ok (.aload_n 0, 1) := by decide +kernel
theorem dX6_go_22 : decode cX6_go 22 = .ok (.invokevirtual 110, 3) := by decide +kernel
theorem dX6_go_25 : decode cX6_go 25 = .ok (.aload_n 0, 1) := by decide +kernel
theorem dX6_go_26 : decode cX6_go 26 = .ok (.getfield 80, 3) := by decide +kernel
theorem dX6_go_29 : decode cX6_go 29 = .ok (.istore_n 2, 1) := by decide +kernel
theorem dX6_go_30 : decode cX6_go 30 = .ok (.aload_n 0, 1) := by decide +kernel
theorem dX6_go_31 : decode cX6_go 31 = .ok (.iload_n 1, 1) := by decide +kernel
theorem dX6_go_32 : decode cX6_go 32 = .ok (.putfield 80, 3) := by decide +kernel
theorem dX6_go_35 : decode cX6_go 35 = .ok (.iload_n 2, 1) := by decide +kernel
theorem dX6_go_36 : decode cX6_go 36 = .ok (.ireturn, 1) := by decide +kernel
theorem dX6_enters_0 : decode cX6_enters 0 = .ok (.bipush 7, 2) := by decide +kernel
theorem dX6_enters_2 : decode cX6_enters 2 = .ok (.aload_n 0, 1) := by decide +kernel
theorem dX6_enters_3 : decode cX6_enters 3 = .ok (.getfield 13, 3) := by decide +kernel
theorem dX6_enters_6 : decode cX6_enters 6 = .ok (.imul, 1) := by decide +kernel
theorem dX6_enters_7 : decode cX6_enters 7 = .ok (.istore 6, 2) := by decide +kernel
theorem dX6_enters_9 : decode cX6_enters 9 = .ok (.aload_n 0, 1) := by decide +kernel
theorem dX6_enters_10 : decode cX6_enters 10 = .ok (.getfield 16, 3) := by decide +kernel
theorem dX6_enters_13 : decode cX6_enters 13 = .ok (.iload 6, 2) := by decide +kernel
theorem dX6_enters_15 : decode cX6_enters 15 = .ok (.iload_n 1, 1) := by decide +kernel
theorem dX6_enters_16 : decode cX6_enters 16 = .ok (.iastore, 1) := by decide +kernel
theorem dX6_enters_17 : decode cX6_enters 17 = .ok (.aload_n 0, 1) := by decide +kernel
theorem dX6_enters_18 : decode cX6_enters 18 = .ok (.getfield 16, 3) := by decide +kernel
theorem dX6_enters_21 : decode cX6_enters 21 = .ok (.iload 6, 2) := by decide +kernel
theorem dX6_enters_23 : decode cX6_enters 23 = .ok (.iconst 1, 1) := by decide +kernel
theorem dX6_enters_24 : decode cX6_enters 24 = .ok (.iadd, 1) := by decide +kernel
theorem dX6_enters_25 : decode cX6_enters 25 = .ok (.iload_n 2, 1) := by decide +kernel
theorem dX6_enters_26 : decode cX6_enters 26 = .ok (.iastore, 1) := by decide +kernel
theorem dX6_enters_27 : decode cX6_enters 27 = .ok (.aload_n 0, 1) := by decide +kernel
theorem dX6_enters_28 : decode cX6_enters 28 = .ok (.getfield 16, 3) := by decide +kernel
theorem dX6_enters_31 : decode cX6_enters 31 = .ok (.iload 6, 2) := by decide +kernel
theorem dX6_enters_33 : decode cX6_enters 33 = .ok (.iconst 2, 1) := by decide +kernel
theorem dX6_enters_34 : decode cX6_enters 34 = .ok (.iadd, 1) := by decide +kernel
theorem dX6_enters_35 : decode cX6_enters 35 = .ok (.iload_n 3, 1) := by decide +kernel
theorem dX6_enters_36 : decode cX6_enters 36 = .ok (.iastore, 1) := by decide +kernel
theorem dX6_enters_37 : decode cX6_enters 37 = .ok (.aload_n 0, 1) := by decide +kernel
theorem dX6_enters_38 : decode cX6_enters 38 = .ok (.getfield 16, 3) := by decide +kernel
theorem dX6_enters_41 : decode cX6_enters 41 = .ok (.iload 6, 2) := by decide +kernel
theorem dX6_enters_43 : decode cX6_enters 43 = .ok (.iconst 3, 1) := by decide +kernel
theorem dX6_enters_44 : decode cX6_enters 44 = .ok (.iadd, 1) := by decide +kernel
theorem dX6_enters_45 : decode cX6_enters 45 = .ok (.iload 4, 2) := by decide +kernel
theorem dX6_enters_47 : decode cX6_enters 47 = .ok (.ifCond .ne 7, 3) := by decide +kernel
theorem dX6_enters_50 : decode cX6_enters 50 = .ok (.iconst 0, 1) := by decide +kernel
theorem dX6_enters_51 : decode cX6_enters 51 = .ok (.goto 14, 3) := by decide +kernel
theorem dX6_enters_54 : decode cX6_enters 54 = .ok (.iload 4, 2) := by decide +kernel
theorem dX6_enters_56 : decode cX6_enters 56 = .ok (.iconst 5, 1) := by decide +kernel
theorem dX6_enters_57 : decode cX6_enters 57 = .ok (.if_icmp .ge 7, 3) := by decide +kernel
theorem dX6_enters_60 : decode cX6_enters 60 = .ok (.iconst 1, 1) := by decide +kernel
theorem dX6_enters_61 : decode cX6_enters 61 = .ok (.goto 4, 3) := by decide +kernel
theorem dX6_enters_64 : decode cX6_enters 64 = .ok (.iconst 2, 1) := by decide +kernel
theorem dX6_enters_65 : decode cX6_enters 65 = .ok (.iastore, 1) := by decide +kernel
theorem dX6_enters_66 : decode cX6_enters 66 = .ok (.aload_n 0, 1) := by decide +kernel
theorem dX6_enters_67 : decode cX6_enters 67 = .ok (.getfield 16, 3) := by decide +kernel
theorem dX6_enters_70 : decode cX6_enters 70 = .ok (.iload 6, 2) := by decide +kernel
theorem dX6_enters_72 : decode cX6_enters 72 = .ok (.iconst 4, 1) := by decide +kernel
theorem dX6_enters_73 : decode cX6_enters 73 = .ok (.iadd, 1) := by decide +kernel
theorem dX6_enters_74 : decode cX6_enters 74 = .ok (.iload 4, 2) := by decide +kernel
theorem dX6_enters_76 : decode cX6_enters 76 = .ok (.ifCond .ne 8, 3) := by decide +kernel
theorem dX6_enters_79 : decode cX6_enters 79 = .ok (.bipush (-4), 2) := by decide +kernel
theorem dX6_enters_81 : decode cX6_enters 81 = .ok (.goto 22, 3) := by decide +kernel
theorem dX6_enters_84 : decode cX6_enters 84 = .ok (.iload 4, 2) := by decide +kernel
theorem dX6_enters_86 : decode cX6_enters 86 = .ok (.iconst 5, 1) := by decide +kernel
theorem dX6_enters_87 : decode cX6_enters 87 = .ok (.if_icmp .ge 10, 3) := by decide +kernel
theorem dX6_enters_90 : decode cX6_enters 90 = .ok (.iload 4, 2) := by decide +kernel
theorem dX6_enters_92 : decode cX6_enters 92 = .ok (.iconst 1, 1) := by decide +kernel
theorem dX6_enters_93 : decode cX6_enters 93 = .ok (.isub, 1) := by decide +kernel
theorem dX6_enters_94 : decode cX6_enters 94 = .ok (.goto 9, 3) := by decide +kernel
theorem dX6_enters_97 : decode cX6_enters 97 = .ok (.iload 4, 2) := by decide +kernel
theorem dX6_enters_99 : decode cX6_enters 99 = .ok (.iconst 5, 1) := by decide +kernel
theorem dX6_enters_100 : decode cX6_enters 100 = .ok (.isub, 1) := by decide +kernel
theorem dX6_enters_101 : decode cX6_enters 101 = .ok (.iconst 4, 1) := by decide +kernel
theorem dX6_enters_102 : decode cX6_enters 102 = .ok (.idiv, 1) := by decide +kernel
theorem dX6_enters_103 : decode cX6_enters 103 = .ok (.iastore, 1) := by decide +kernel
theorem dX6_enters_104 : decode cX6_enters 104 = .ok (.aload_n 0, 1) := by decide +kernel
theorem dX6_enters_105 : decode cX6_enters 105 = .ok (.getfield 16, 3) := by decide +kernel
theorem dX6_enters_108 : decode cX6_enters 108 = .ok (.iload 6, 2) := by decide +kernel
theorem dX6_enters_110 : decode cX6_enters 110 = .ok (.iconst 5, 1) := by decide +kernel
theorem dX6_enters_111 : decode cX6_enters 111 = .ok (.iadd, 1) := by decide +kernel
theorem dX6_enters_112 : decode cX6_enters 112 = .ok (.iload 4, 2) := by decide +kernel
theorem dX6_enters_114 : decode cX6_enters 114 = .ok (.iconst 5, 1) := by decide +kernel
theorem dX6_enters_115 : decode cX6_enters 115 = .ok (.if_icmp .ge 8, 3) := by decide +kernel
theorem dX6_enters_118 : decode cX6_enters 118 = .ok (.bipush (-4), 2) := by decide +kernel
theorem dX6_enters_120 : decode cX6_enters 120 = .ok (.goto 9, 3) := by decide +kernel
theorem dX6_enters_123 : decode cX6_enters 123 = .ok (.iload 4, 2) := by decide +kernel
theorem dX6_enters_125 : decode cX6_enters 125 = .ok (.iconst 5, 1) := by decide +kernel
theorem dX6_enters_126 : decode cX6_enters 126 = .ok (.isub, 1) := by decide +kernel
theorem dX6_enters_127 : decode cX6_enters 127 = .ok (.iconst 4, 1) := by decide +kernel
theorem dX6_enters_128 : decode cX6_enters 128 = .ok (.irem, 1) := by decide +kernel
theorem dX6_enters_129 : decode cX6_enters 129 = .ok (.iastore, 1) := by decide +kernel
theorem dX6_enters_130 : decode cX6_enters 130 = .ok (.aload_n 0, 1) := by decide +kernel
theorem dX6_enters_131 : decode cX6_enters 131 = .ok (.getfield 16, 3) := by decide +kernel
theorem dX6_enters_134 : decode cX6_enters 134 = .ok (.iload 6, 2) := by decide +kernel
theorem dX6_enters_136 : decode cX6_enters 136 = .ok (.bipush 6, 2) := by decide +kernel
theorem dX6_enters_138 : decode cX6_enters 138 = .ok (.iadd, 1) := by decide +kernel
theorem dX6_enters_139 : decode cX6_enters 139 = .ok (.iload 5, 2) := by decide +kernel
theorem dX6_enters_141 : decode cX6_enters 141 = .ok (.iastore, 1) := by decide +kernel
theorem dX6_enters_142 : decode cX6_enters 142 = .ok (.aload_n 0, 1) := by decide +kernel
theorem dX6_enters_143 : decode cX6_enters 143 = .ok (.dup, 1) := by decide +kernel
theorem dX6_enters_144 : decode cX6_enters 144 = .ok (.getfield 13, 3) := by decide +kernel
theorem dX6_enters_147 : decode cX6_enters 147 = .ok (.iconst 1, 1) := by decide +kernel
theorem dX6_enters_148 : decode cX6_enters 148 = .ok (.iadd, 1) := by decide +kernel
theorem dX6_enters_149 : decode cX6_enters 149 = .ok (.putfield 13, 3) := by decide +kernel
theorem dX6_enters_152 : decode cX6_enters 152 = .ok (.return_, 1) := by decide +kernel
theorem dX6_enter_0 : decode cX6_enter 0 = .ok (.aload_n 0, 1) := by decide +kernel
theorem dX6_enter_1 : decode cX6_enter 1 = .ok (.iload_n 1, 1) := by decide +kernel
theorem dX6_enter_2 : decode cX6_enter 2 = .ok (.invokevirtual 120, 3) := by decide +kernel
theorem dX6_enter_5 : decode cX6_enter 5 = .ok (.ifCond .eq 40, 3) := by decide +kernel
theorem dX6_enter_8 : decode cX6_enter 8 = .ok (.iload_n 2, 1) := by decide +kernel
theorem dX6_enter_9 : decode cX6_enter 9 = .ok (.invokestatic 107, 3) := by decide +kernel
theorem dX6_enter_12 : decode cX6_enter 12 = .ok (.ifCond .eq 33, 3) := by decide +kernel
theorem dX6_enter_15 : decode cX6_enter 15 = .ok (.aload_n 0, 1) := by decide +kernel
theorem dX6_enter_16 : decode cX6_enter 16 = .ok (.iload_n 3, 1) := by decide +kernel
theorem dX6_enter_17 : decode cX6_enter 17 = .ok (.invokevirtual 120, 3) := by decide +kernel
theorem dX6_enter_20 : decode cX6_enter 20 = .ok (.ifCond .eq 25, 3) := by decide +kernel
theorem dX6_enter_23 : decode cX6_enter 23 = .ok (.iload 4, 2) := by decide +kernel
theorem dX6_enter_25 : decode cX6_enter 25 = .ok (.iconst 0, 1) := by decide +kernel
theorem dX6_enter_26 : decode cX6_enter 26 = .ok (.bipush 20, 2) := by decide +kernel
theorem dX6_enter_28 : decode cX6_enter 28 = .ok (.invokestatic 99, 3) := by decide +kernel
theorem dX6_enter_31 : decode cX6_enter 31 = .ok (.ifCond .eq 14, 3) := by decide +kernel
theorem dX6_enter_34 : decode cX6_enter 34 = .ok (.iload 5, 2) := by decide +kernel
theorem dX6_enter_36 : decode cX6_enter 36 = .ok (.iconst 0, 1) := by decide +kernel
theorem dX6_enter_37 : decode cX6_enter 37 = .ok (.bipush 9, 2) := by decide +kernel
theorem dX6_enter_39 : decode cX6_enter 39 = .ok (.invokestatic 99, 3) := by decide +kernel
theorem dX6_enter_42 : decode cX6_enter 42 = .ok (.ifCond .ne 5, 3) := by decide +kernel
theorem dX6_enter_45 : decode cX6_enter 45 = .ok (.iconst (-1), 1) := by decide +kernel
theorem dX6_enter_46 : decode cX6_enter 46 = .ok (.ireturn, 1) := by decide +kernel
theorem dX6_enter_47 : decode cX6_enter 47 = .ok (.aload_n 0, 1) := by decide +kernel
theorem dX6_enter_48 : decode cX6_enter 48 = .ok (.getfield 13, 3) := by decide +kernel
theorem dX6_enter_51 : decode cX6_enter 51 = .ok (.bipush 10, 2) := by decide +kernel
theorem dX6_enter_53 : decode cX6_enter 53 = .ok (.if_icmp .ne 6, 3) := by decide +kernel
theorem dX6_enter_56 : decode cX6_enter 56 = .ok (.bipush (-3), 2) := by decide +kernel
theorem dX6_enter_58 : decode cX6_enter 58 = .ok (.ireturn, 1) := by decide +kernel
theorem dX6_enter_59 : decode cX6_enter 59 = .ok (.aload_n 0, 1) := by decide +kernel
theorem dX6_enter_60 : decode cX6_enter 60 = .ok (.invokevirtual 110, 3) := by decide +kernel
theorem dX6_enter_63 : decode cX6_enter 63 = .ok (.aload_n 0, 1) := by decide +kernel
theorem dX6_enter_64 : decode cX6_enter 64 = .ok (.iload_n 1, 1) := by decide +kernel
theorem dX6_enter_65 : decode cX6_enter 65 = .ok (.iload_n 2, 1) := by decide +kernel
theorem dX6_enter_66 : decode cX6_enter 66 = .ok (.iload_n 3, 1) := by decide +kernel
theorem dX6_enter_67 : decode cX6_enter 67 = .ok (.iload 4, 2) := by decide +kernel
theorem dX6_enter_69 : decode cX6_enter 69 = .ok (.iload 5, 2) := by decide +kernel
theorem dX6_enter_71 : decode cX6_enter 71 = .ok (.invokevirtual 123, 3) := by decide +kernel
theorem dX6_enter_74 : decode cX6_enter 74 = .ok (.aload_n 0, 1) := by decide +kernel
theorem dX6_enter_75 : decode cX6_enter 75 = .ok (.getfield 13, 3) := by decide +kernel
theorem dX6_enter_78 : decode cX6_enter 78 = .ok (.iconst 1, 1) := by decide +kernel
theorem dX6_enter_79 : decode cX6_enter 79 = .ok (.isub, 1) := by decide +kernel
theorem dX6_enter_80 : decode cX6_enter 80 = .ok (.ireturn, 1) := by decide +kernel
theorem dX6_drop_0 : decode cX6_drop 0 = .ok (.aload_n 0, 1) := by decide +kernel
theorem dX6_drop_1 : decode cX6_drop 1 = .ok (.iload_n 1, 1) := by decide +kernel
theorem dX6_drop_2 : decode cX6_drop 2 = .ok (.invokevirtual 103, 3) := by decide +kernel
theorem dX6_drop_5 : decode cX6_drop 5 = .ok (.ifCond .ne 5, 3) := by decide +kernel
theorem dX6_drop_8 : decode cX6_drop 8 = .ok (.iconst (-1), 1) := by decide +kernel
theorem dX6_drop_9 : decode cX6_drop 9 = .ok (.ireturn, 1) := by decide +kernel
theorem dX6_drop_10 : decode cX6_drop 10 = .ok (.aload_n 0, 1) := by decide +kernel
theorem dX6_drop_11 : decode cX6_drop 11 = .ok (.getfield 13, 3) := by decide +kernel
theorem dX6_drop_14 : decode cX6_drop 14 = .ok (.iconst 1, 1) := by decide +kernel
theorem dX6_drop_15 : decode cX6_drop 15 = .ok (.if_icmp .ne 6, 3) := by decide +kernel
theorem dX6_drop_18 : decode cX6_drop 18 = .ok (.bipush (-2), 2) := by decide +kernel
theorem dX6_drop_20 : decode cX6_drop 20 = .ok (.ireturn, 1) := by decide +kernel
theorem dX6_drop_21 : decode cX6_drop 21 = .ok (.aload_n 0, 1) := by decide +kernel
theorem dX6_drop_22 : decode cX6_drop 22 = .ok (.invokevirtual 110, 3) := by decide +kernel
theorem dX6_drop_25 : decode cX6_drop 25 = .ok (.aload_n 0, 1) := by decide +kernel
theorem dX6_drop_26 : decode cX6_drop 26 = .ok (.dup, 1) := by decide +kernel
theorem dX6_drop_27 : decode cX6_drop 27 = .ok (.getfield 13, 3) := by decide +kernel
theorem dX6_drop_30 : decode cX6_drop 30 = .ok (.iconst 1, 1) := by decide +kernel
theorem dX6_drop_31 : decode cX6_drop 31 = .ok (.isub, 1) := by decide +kernel
theorem dX6_drop_32 : decode cX6_drop 32 = .ok (.putfield 13, 3) := by decide +kernel
theorem dX6_drop_35 : decode cX6_drop 35 = .ok (.bipush 7, 2) := by decide +kernel
theorem dX6_drop_37 : decode cX6_drop 37 = .ok (.iload_n 1, 1) := by decide +kernel
theorem dX6_drop_38 : decode cX6_drop 38 = .ok (.imul, 1) := by decide +kernel
theorem dX6_drop_39 : decode cX6_drop 39 = .ok (.istore_n 2, 1) := by decide +kernel
theorem dX6_drop_40 : decode cX6_drop 40 = .ok (.iload_n 2, 1) := by decide +kernel
theorem dX6_drop_41 : decode cX6_drop 41 = .ok (.bipush 7, 2) := by decide +kernel
theorem dX6_drop_43 : decode cX6_drop 43 = .ok (.aload_n 0, 1) := by decide +kernel
theorem dX6_drop_44 : decode cX6_drop 44 = .ok (.getfield 13, 3) := by decide +kernel
theorem dX6_drop_47 : decode cX6_drop 47 = .ok (.imul, 1) := by decide +kernel
theorem dX6_drop_48 : decode cX6_drop 48 = .ok (.if_icmp .ge 24, 3) := by decide +kernel
theorem dX6_drop_51 : decode cX6_drop 51 = .ok (.aload_n 0, 1) := by decide +kernel
theorem dX6_drop_52 : decode cX6_drop 52 = .ok (.getfield 16, 3) := by decide +kernel
theorem dX6_drop_55 : decode cX6_drop 55 = .ok (.iload_n 2, 1) := by decide +kernel
theorem dX6_drop_56 : decode cX6_drop 56 = .ok (.aload_n 0, 1) := by decide +kernel
theorem dX6_drop_57 : decode cX6_drop 57 = .ok (.getfield 16, 3) := by decide +kernel
theorem dX6_drop_60 : decode cX6_drop 60 = .ok (.iload_n 2, 1) := by decide +kernel
theorem dX6_drop_61 : decode cX6_drop 61 = .ok (.bipush 7, 2) := by decide +kernel
theorem dX6_drop_63 : decode cX6_drop 63 = .ok (.iadd, 1) := by decide +kernel
theorem dX6_drop_64 : decode cX6_drop 64 = .ok (.iaload, 1) := by decide +kernel
theorem dX6_drop_65 : decode cX6_drop 65 = .ok (.iastore, 1) := by decide +kernel
theorem dX6_drop_66 : decode cX6_drop 66 = .ok (.iinc 2 1, 3) := by decide +kernel
theorem dX6_drop_69 : decode cX6_drop 69 = .ok (.goto (-29), 3) := by decide +kernel
theorem dX6_drop_72 : decode cX6_drop 72 = .ok (.aload_n 0, 1) := by decide +kernel
theorem dX6_drop_73 : decode cX6_drop 73 = .ok (.getfield 13, 3) := by decide +kernel
theorem dX6_drop_76 : decode cX6_drop 76 = .ok (.ireturn, 1) := by decide +kernel
theorem dX6_weigh_0 : decode cX6_weigh 0 = .ok (.aload_n 0, 1) := by decide +kernel
theorem dX6_weigh_1 : decode cX6_weigh 1 = .ok (.iload_n 1, 1) := by decide +kernel
theorem dX6_weigh_2 : decode cX6_weigh 2 = .ok (.invokevirtual 103, 3) := by decide +kernel
theorem dX6_weigh_5 : decode cX6_weigh 5 = .ok (.ifCond .eq 13, 3) := by decide +kernel
theorem dX6_weigh_8 : decode cX6_weigh 8 = .ok (.iload_n 2, 1) := by decide +kernel
theorem dX6_weigh_9 : decode cX6_weigh 9 = .ok (.iconst 0, 1) := by decide +kernel
theorem dX6_weigh_10 : decode cX6_weigh 10 = .ok (.bipush 9, 2) := by decide +kernel
theorem dX6_weigh_12 : decode cX6_weigh 12 = .ok (.invokestatic 99, 3) := by decide +kernel
theorem dX6_weigh_15 : decode cX6_weigh 15 = .ok (.ifCond .ne 5, 3) := by decide +kernel
theorem dX6_weigh_18 : decode cX6_weigh 18 = .ok (.iconst (-1), 1) := by decide +kernel
theorem dX6_weigh_19 : decode cX6_weigh 19 = .ok (.ireturn, 1) := by decide +kernel
theorem dX6_weigh_20 : decode cX6_weigh 20 = .ok (.aload_n 0, 1) := by decide +kernel
theorem dX6_weigh_21 : decode cX6_weigh 21 = .ok (.getfield 16, 3) := by decide +kernel
theorem dX6_weigh_24 : decode cX6_weigh 24 = .ok (.bipush 7, 2) := by decide +kernel
theorem dX6_weigh_26 : decode cX6_weigh 26 = .ok (.iload_n 1, 1) := by decide +kernel
theorem dX6_weigh_27 : decode cX6_weigh 27 = .ok (.imul, 1) := by decide +kernel
theorem dX6_weigh_28 : decode cX6_weigh 28 = .ok (.bipush 6, 2) := by decide +kernel
theorem dX6_weigh_30 : decode cX6_weigh 30 = .ok (.iadd, 1) := by decide +kernel
theorem dX6_weigh_31 : decode cX6_weigh 31 = .ok (.iaload, 1) := by decide +kernel
theorem dX6_weigh_32 : decode cX6_weigh 32 = .ok (.istore_n 3, 1) := by decide +kernel
theorem dX6_weigh_33 : decode cX6_weigh 33 = .ok (.iload_n 3, 1) := by decide +kernel
theorem dX6_weigh_34 : decode cX6_weigh 34 = .ok (.iload_n 2, 1) := by decide +kernel
theorem dX6_weigh_35 : decode cX6_weigh 35 = .ok (.if_icmp .ne 6, 3) := by decide +kernel
theorem dX6_weigh_38 : decode cX6_weigh 38 = .ok (.bipush (-2), 2) := by decide +kernel
theorem dX6_weigh_40 : decode cX6_weigh 40 = .ok (.ireturn, 1) := by decide +kernel
theorem dX6_weigh_41 : decode cX6_weigh 41 = .ok (.aload_n 0, 1) := by decide +kernel
theorem dX6_weigh_42 : decode cX6_weigh 42 = .ok (.invokevirtual 110, 3) := by decide +kernel
theorem dX6_weigh_45 : decode cX6_weigh 45 = .ok (.aload_n 0, 1) := by decide +kernel
theorem dX6_weigh_46 : decode cX6_weigh 46 = .ok (.getfield 16, 3) := by decide +kernel
theorem dX6_weigh_49 : decode cX6_weigh 49 = .ok (.bipush 7, 2) := by decide +kernel
theorem dX6_weigh_51 : decode cX6_weigh 51 = .ok (.iload_n 1, 1) := by decide +kernel
theorem dX6_weigh_52 : decode cX6_weigh 52 = .ok (.imul, 1) := by decide +kernel
theorem dX6_weigh_53 : decode cX6_weigh 53 = .ok (.bipush 6, 2) := by decide +kernel
theorem dX6_weigh_55 : decode cX6_weigh 55 = .ok (.iadd, 1) := by decide +kernel
theorem dX6_weigh_56 : decode cX6_weigh 56 = .ok (.iload_n 2, 1) := by decide +kernel
theorem dX6_weigh_57 : decode cX6_weigh 57 = .ok (.iastore, 1) := by decide +kernel
theorem dX6_weigh_58 : decode cX6_weigh 58 = .ok (.iload_n 3, 1) := by decide +kernel
theorem dX6_weigh_59 : decode cX6_weigh 59 = .ok (.ireturn, 1) := by decide +kernel
theorem dX6_mode_0 : decode cX6_mode 0 = .ok (.iload_n 1, 1) := by decide +kernel
theorem dX6_mode_1 : decode cX6_mode 1 = .ok (.iconst 0, 1) := by decide +kernel
theorem dX6_mode_2 : decode cX6_mode 2 = .ok (.iconst 2, 1) := by decide +kernel
theorem dX6_mode_3 : decode cX6_mode 3 = .ok (.invokestatic 99, 3) := by decide +kernel
theorem dX6_mode_6 : decode cX6_mode 6 = .ok (.ifCond .ne 5, 3) := by decide +kernel
theorem dX6_mode_9 : decode cX6_mode 9 = .ok (.iconst (-1), 1) := by decide +kernel
theorem dX6_mode_10 : decode cX6_mode 10 = .ok (.ireturn, 1) := by decide +kernel
theorem dX6_mode_11 : decode cX6_mode 11 = .ok (.iload_n 1, 1) := by decide +kernel
theorem dX6_mode_12 : decode cX6_mode 12 = .ok (.aload_n 0, 1) := by decide +kernel
theorem dX6_mode_13 : decode cX6_mode 13 = .ok (.getfield 83, 3) := by decide +kernel
theorem dX6_mode_16 : decode cX6_mode 16 = .ok (.if_icmp .ne 6, 3) := by decide +kernel
theorem dX6_mode_19 : decode cX6_mode 19 = .ok (.bipush (-2), 2) := by decide +kernel
theorem dX6_mode_21 : decode cX6_mode 21 = .ok (.ireturn, 1) := by decide +kernel
theorem dX6_mode_22 : decode cX6_mode 22 = .ok (.aload_n 0, 1) := by decide +kernel
theorem dX6_mode_23 : decode cX6_mode 23 = .ok (.invokevirtual 110, 3) := by decide +kernel
theorem dX6_mode_26 : decode cX6_mode 26 = .ok (.aload_n 0, 1) := by decide +kernel
theorem dX6_mode_27 : decode cX6_mode 27 = .ok (.getfield 83, 3) := by decide +kernel
theorem dX6_mode_30 : decode cX6_mode 30 = .ok (.istore_n 2, 1) := by decide +kernel
theorem dX6_mode_31 : decode cX6_mode 31 = .ok (.aload_n 0, 1) := by decide +kernel
theorem dX6_mode_32 : decode cX6_mode 32 = .ok (.iload_n 1, 1) := by decide +kernel
theorem dX6_mode_33 : decode cX6_mode 33 = .ok (.putfield 83, 3) := by decide +kernel
theorem dX6_mode_36 : decode cX6_mode 36 = .ok (.iload_n 2, 1) := by decide +kernel
theorem dX6_mode_37 : decode cX6_mode 37 = .ok (.ireturn, 1) := by decide +kernel
theorem dX6_place_0 : decode cX6_place 0 = .ok (.bipush 52, 2) := by decide +kernel
theorem dX6_place_2 : decode cX6_place 2 = .ok (.iload_n 0, 1) := by decide +kernel
theorem dX6_place_3 : decode cX6_place 3 = .ok (.imul, 1) := by decide +kernel
theorem dX6_place_4 : decode cX6_place 4 = .ok (.bipush 13, 2) := by decide +kernel
theorem dX6_place_6 : decode cX6_place 6 = .ok (.iload_n 1, 1) := by decide +kernel
theorem dX6_place_7 : decode cX6_place 7 = .ok (.imul, 1) := by decide +kernel
theorem dX6_place_8 : decode cX6_place 8 = .ok (.iadd, 1) := by decide +kernel
theorem dX6_place_9 : decode cX6_place 9 = .ok (.iload_n 2, 1) := by decide +kernel
theorem dX6_place_10 : decode cX6_place 10 = .ok (.iadd, 1) := by decide +kernel
theorem dX6_place_11 : decode cX6_place 11 = .ok (.ireturn, 1) := by decide +kernel
theorem dX6_targetEdges_0 : decode cX6_targetEdges 0 = .ok (.bipush 6, 2) := by decide +kernel
theorem dX6_targetEdges_2 : decode cX6_targetEdges 2 = .ok (.iload_n 1, 1) := by decide +kernel
theorem dX6_targetEdges_3 : decode cX6_targetEdges 3 = .ok (.imul, 1) := by decide +kernel
theorem dX6_targetEdges_4 : decode cX6_targetEdges 4 = .ok (.istore_n 2, 1) := by decide +kernel
theorem dX6_targetEdges_5 : decode cX6_targetEdges 5 = .ok (.aload_n 0, 1) := by decide +kernel
theorem dX6_targetEdges_6 : decode cX6_targetEdges 6 = .ok (.getfield 7, 3) := by decide +kernel
theorem dX6_targetEdges_9 : decode cX6_targetEdges 9 = .ok (.iconst 1, 1) := by decide +kernel
theorem dX6_targetEdges_10 : decode cX6_targetEdges 10 = .ok (.iadd, 1) := by decide +kernel
theorem dX6_targetEdges_11 : decode cX6_targetEdges 11 = .ok (.istore_n 3, 1) := by decide +kernel
theorem dX6_targetEdges_12 : decode cX6_targetEdges 12 = .ok (.aload_n 0, 1) := by decide +kernel
theorem dX6_targetEdges_13 : decode cX6_targetEdges 13 = .ok (.getfield 23, 3) := by decide +kernel
theorem dX6_targetEdges_16 : decode cX6_targetEdges 16 = .ok (.iload_n 2, 1) := by decide +kernel
theorem dX6_targetEdges_17 : decode cX6_targetEdges 17 = .ok (.iaload, 1) := by decide +kernel
theorem dX6_targetEdges_18 : decode cX6_targetEdges 18 = .ok (.istore 4, 2) := by decide +kernel
theorem dX6_targetEdges_20 : decode cX6_targetEdges 20 = .ok (.aload_n 0, 1) := by decide +kernel
theorem dX6_targetEdges_21 : decode cX6_targetEdges 21 = .ok (.getfield 23, 3) := by decide +kernel
theorem dX6_targetEdges_24 : decode cX6_targetEdges 24 = .ok (.iload_n 2, 1) := by decide +kernel
theorem dX6_targetEdges_25 : decode cX6_targetEdges 25 = .ok (.iconst 1, 1) := by decide +kernel
theorem dX6_targetEdges_26 : decode cX6_targetEdges 26 = .ok (.iadd, 1) := by decide +kernel
theorem dX6_targetEdges_27 : decode cX6_targetEdges 27 = .ok (.iaload, 1) := by decide +kernel
theorem dX6_targetEdges_28 : decode cX6_targetEdges 28 = .ok (.istore 5, 2) := by decide +kernel
theorem dX6_targetEdges_30 : decode cX6_targetEdges 30 = .ok (.aload_n 0, 1) := by decide +kernel
theorem dX6_targetEdges_31 : decode cX6_targetEdges 31 = .ok (.getfield 23, 3) := by decide +kernel
theorem dX6_targetEdges_34 : decode cX6_targetEdges 34 = .ok (.iload_n 2, 1) := by decide +kernel
theorem dX6_targetEdges_35 : decode cX6_targetEdges 35 = .ok (.iconst 2, 1) := by decide +kernel
theorem dX6_targetEdges_36 : decode cX6_targetEdges 36 = .ok (.iadd, 1) := by decide +kernel
theorem dX6_targetEdges_37 : decode cX6_targetEdges 37 = .ok (.iaload, 1) := by decide +kernel
theorem dX6_targetEdges_38 : decode cX6_targetEdges 38 = .ok (.iconst 1, 1) := by decide +kernel
theorem dX6_targetEdges_39 : decode cX6_targetEdges 39 = .ok (.if_icmp .ne 7, 3) := by decide +kernel
theorem dX6_targetEdges_42 : decode cX6_targetEdges 42 = .ok (.iconst 1, 1) := by decide +kernel
theorem dX6_targetEdges_43 : decode cX6_targetEdges 43 = .ok (.goto 4, 3) := by decide +kernel
theorem dX6_targetEdges_46 : decode cX6_targetEdges 46 = .ok (.iconst 0, 1) := by decide +kernel
theorem dX6_targetEdges_47 : decode cX6_targetEdges 47 = .ok (.istore 6, 2) := by decide +kernel
theorem dX6_targetEdges_49 : decode cX6_targetEdges 49 = .ok (.iconst 0, 1) := by decide +kernel
theorem dX6_targetEdges_50 : decode cX6_targetEdges 50 = .ok (.istore 7, 2) := by decide +kernel
theorem dX6_targetEdges_52 : decode cX6_targetEdges 52 = .ok (.iload 7, 2) := by decide +kernel
theorem dX6_targetEdges_54 : decode cX6_targetEdges 54 = .ok (.iload 5, 2) := by decide +kernel
theorem dX6_targetEdges_56 : decode cX6_targetEdges 56 = .ok (.if_icmp .ge 91, 3) := by decide +kernel
theorem dX6_targetEdges_59 : decode cX6_targetEdges 59 = .ok (.iload 7, 2) := by decide +kernel
theorem dX6_targetEdges_61 : decode cX6_targetEdges 61 = .ok (.iload 5, 2) := by decide +kernel
theorem dX6_targetEdges_63 : decode cX6_targetEdges 63 = .ok (.iconst 1, 1) := by decide +kernel
theorem dX6_targetEdges_64 : decode cX6_targetEdges 64 = .ok (.isub, 1) := by decide +kernel
theorem dX6_targetEdges_65 : decode cX6_targetEdges 65 = .ok (.if_icmp .ge 10, 3) := by decide +kernel
theorem dX6_targetEdges_68 : decode cX6_targetEdges 68 = .ok (.aload_n 0, 1) := by decide +kernel
theorem dX6_targetEdges_69 : decode cX6_targetEdges 69 = .ok (.getfield 127, 3) := by decide +kernel
theorem dX6_targetEdges_72 : decode cX6_targetEdges 72 = .ok (.goto 16, 3) := by decide +kernel
theorem dX6_targetEdges_75 : decode cX6_targetEdges 75 = .ok (.iload 6, 2) := by decide +kernel
theorem dX6_targetEdges_77 : decode cX6_targetEdges 77 = .ok (.ifCond .eq 7, 3) := by decide +kernel
theorem dX6_targetEdges_80 : decode cX6_targetEdges 80 = .ok (.iload_n 3, 1) := by decide +kernel
theorem dX6_targetEdges_81 : decode cX6_targetEdges 81 = .ok (.goto 7, 3) := by decide +kernel
theorem dX6_targetEdges_84 : decode cX6_targetEdges 84 = .ok (.aload_n 0, 1) := by decide +kernel
theorem dX6_targetEdges_85 : decode cX6_targetEdges 85 = .ok (.getfield 7, 3) := by decide +kernel
theorem dX6_targetEdges_88 : decode cX6_targetEdges 88 = .ok (.istore 8, 2) := by decide +kernel
theorem dX6_targetEdges_90 : decode cX6_targetEdges 90 = .ok (.aload_n 0, 1) := by decide +kernel
theorem dX6_targetEdges_91 : decode cX6_targetEdges 91 = .ok (.getfield 38, 3) := by decide +kernel
theorem dX6_targetEdges_94 : decode cX6_targetEdges 94 = .ok (.iload 4, 2) := by decide +kernel
theorem dX6_targetEdges_96 : decode cX6_targetEdges 96 = .ok (.aload_n 0, 1) := by decide +kernel
theorem dX6_targetEdges_97 : decode cX6_targetEdges 97 = .ok (.getfield 23, 3) := by decide +kernel
theorem dX6_targetEdges_100 : decode cX6_targetEdges 100 = .ok (.iload_n 2, 1) := by decide +kernel
theorem dX6_targetEdges_101 : decode cX6_targetEdges 101 = .ok (.iconst 3, 1) := by decide +kernel
theorem dX6_targetEdges_102 : decode cX6_targetEdges 102 = .ok (.iadd, 1) := by decide +kernel
theorem dX6_targetEdges_103 : decode cX6_targetEdges 103 = .ok (.iload 7, 2) := by decide +kernel
theorem dX6_targetEdges_105 : decode cX6_targetEdges 105 = .ok (.iadd, 1) := by decide +kernel
theorem dX6_targetEdges_106 : decode cX6_targetEdges 106 = .ok (.iaload, 1) := by decide +kernel
theorem dX6_targetEdges_107 : decode cX6_targetEdges 107 = .ok (.iload 8, 2) := by decide +kernel
theorem dX6_targetEdges_109 : decode cX6_targetEdges 109 = .ok (.invokestatic 130, 3) := by decide +kernel
theorem dX6_targetEdges_112 : decode cX6_targetEdges 112 = .ok (.iconst 0, 1) := by decide +kernel
theorem dX6_targetEdges_113 : decode cX6_targetEdges 113 = .ok (.iastore, 1) := by decide +kernel
theorem dX6_targetEdges_114 : decode cX6_targetEdges 114 = .ok (.aload_n 0, 1) := by decide +kernel
theorem dX6_targetEdges_115 : decode cX6_targetEdges 115 = .ok (.dup, 1) := by decide +kernel
theorem dX6_targetEdges_116 : decode cX6_targetEdges 116 = .ok (.getfield 127, 3) := by decide +kernel
theorem dX6_targetEdges_119 : decode cX6_targetEdges 119 = .ok (.iload 7, 2) := by decide +kernel
theorem dX6_targetEdges_121 : decode cX6_targetEdges 121 = .ok (.iload 5, 2) := by decide +kernel
theorem dX6_targetEdges_123 : decode cX6_targetEdges 123 = .ok (.iconst 1, 1) := by decide +kernel
theorem dX6_targetEdges_124 : decode cX6_targetEdges 124 = .ok (.isub, 1) := by decide +kernel
theorem dX6_targetEdges_125 : decode cX6_targetEdges 125 = .ok (.if_icmp .ge 7, 3) := by decide +kernel
theorem dX6_targetEdges_128 : decode cX6_targetEdges 128 = .ok (.iconst 1, 1) := by decide +kernel
theorem dX6_targetEdges_129 : decode cX6_targetEdges 129 = .ok (.goto 4, 3) := by decide +kernel
theorem dX6_targetEdges_132 : decode cX6_targetEdges 132 = .ok (.iconst 0, 1) := by decide +kernel
theorem dX6_targetEdges_133 : decode cX6_targetEdges 133 = .ok (.iadd, 1) := by decide +kernel
theorem dX6_targetEdges_134 : decode cX6_targetEdges 134 = .ok (.putfield 127, 3) := by decide +kernel
theorem dX6_targetEdges_137 : decode cX6_targetEdges 137 = .ok (.iload 8, 2) := by decide +kernel
theorem dX6_targetEdges_139 : decode cX6_targetEdges 139 = .ok (.istore 4, 2) := by decide +kernel
theorem dX6_targetEdges_141 : decode cX6_targetEdges 141 = .ok (.iinc 7 1, 3) := by decide +kernel
theorem dX6_targetEdges_144 : decode cX6_targetEdges 144 = .ok (.goto (-92), 3) := by decide +kernel
theorem dX6_targetEdges_147 : decode cX6_targetEdges 147 = .ok (.iconst 0, 1) := by decide +kernel
theorem dX6_targetEdges_148 : decode cX6_targetEdges 148 = .ok (.istore 7, 2) := by decide +kernel
theorem dX6_targetEdges_150 : decode cX6_targetEdges 150 = .ok (.iload 7, 2) := by decide +kernel
theorem dX6_targetEdges_152 : decode cX6_targetEdges 152 = .ok (.iconst 4, 1) := by decide +kernel
theorem dX6_targetEdges_153 : decode cX6_targetEdges 153 = .ok (.if_icmp .ge 33, 3) := by decide +kernel
theorem dX6_targetEdges_156 : decode cX6_targetEdges 156 = .ok (.iload 5, 2) := by decide +kernel
theorem dX6_targetEdges_158 : decode cX6_targetEdges 158 = .ok (.ifCond .ne 28, 3) := by decide +kernel
theorem dX6_targetEdges_161 : decode cX6_targetEdges 161 = .ok (.iload 6, 2) := by decide +kernel
theorem dX6_targetEdges_163 : decode cX6_targetEdges 163 = .ok (.ifCond .eq 23, 3) := by decide +kernel
theorem dX6_targetEdges_166 : decode cX6_targetEdges 166 = .ok (.aload_n 0, 1) := by decide +kernel
theorem dX6_targetEdges_167 : decode cX6_targetEdges 167 = .ok (.getfield 38, 3) := by decide +kernel
theorem dX6_targetEdges_170 : decode cX6_targetEdges 170 = .ok (.iload 4, 2) := by decide +kernel
theorem dX6_targetEdges_172 : decode cX6_targetEdges 172 = .ok (.iload 7, 2) := by decide +kernel
theorem dX6_targetEdges_174 : decode cX6_targetEdges 174 = .ok (.iload_n 3, 1) := by decide +kernel
theorem dX6_targetEdges_175 : decode cX6_targetEdges 175 = .ok (.invokestatic 130, 3) := by decide +kernel
theorem dX6_targetEdges_178 : decode cX6_targetEdges 178 = .ok (.iconst 0, 1) := by decide +kernel
theorem dX6_targetEdges_179 : decode cX6_targetEdges 179 = .ok (.iastore, 1) := by decide +kernel
theorem dX6_targetEdges_180 : decode cX6_targetEdges 180 = .ok (.iinc 7 1, 3) := by decide +kernel
theorem dX6_targetEdges_183 : decode cX6_targetEdges 183 = .ok (.goto (-33), 3) := by decide +kernel
theorem dX6_targetEdges_186 : decode cX6_targetEdges 186 = .ok (.return_, 1) := by decide +kernel
theorem dX6_edges_0 : decode cX6_edges 0 = .ok (.iconst 0, 1) := by decide +kernel
theorem dX6_edges_1 : decode cX6_edges 1 = .ok (.istore_n 1, 1) := by decide +kernel
theorem dX6_edges_2 : decode cX6_edges 2 = .ok (.iconst 0, 1) := by decide +kernel
theorem dX6_edges_3 : decode cX6_edges 3 = .ok (.istore_n 2, 1) := by decide +kernel
theorem dX6_edges_4 : decode cX6_edges 4 = .ok (.iload_n 2, 1) := by decide +kernel
theorem dX6_edges_5 : decode cX6_edges 5 = .ok (.sipush 676, 3) := by decide +kernel
theorem dX6_edges_8 : decode cX6_edges 8 = .ok (.if_icmp .ge 26, 3) := by decide +kernel
theorem dX6_edges_11 : decode cX6_edges 11 = .ok (.iload_n 1, 1) := by decide +kernel
theorem dX6_edges_12 : decode cX6_edges 12 = .ok (.aload_n 0, 1) := by decide +kernel
theorem dX6_edges_13 : decode cX6_edges 13 = .ok (.getfield 38, 3) := by decide +kernel
theorem dX6_edges_16 : decode cX6_edges 16 = .ok (.iload_n 2, 1) := by decide +kernel
theorem dX6_edges_17 : decode cX6_edges 17 = .ok (.iaload, 1) := by decide +kernel
theorem dX6_edges_18 : decode cX6_edges 18 = .ok (.ifCond .lt 7, 3) := by decide +kernel
theorem dX6_edges_21 : decode cX6_edges 21 = .ok (.iconst 1, 1) := by decide +kernel
theorem dX6_edges_22 : decode cX6_edges 22 = .ok (.goto 4, 3) := by decide +kernel
theorem dX6_edges_25 : decode cX6_edges 25 = .ok (.iconst 0, 1) := by decide +kernel
theorem dX6_edges_26 : decode cX6_edges 26 = .ok (.iadd, 1) := by decide +kernel
theorem dX6_edges_27 : decode cX6_edges 27 = .ok (.istore_n 1, 1) := by decide +kernel
theorem dX6_edges_28 : decode cX6_edges 28 = .ok (.iinc 2 1, 3) := by decide +kernel
theorem dX6_edges_31 : decode cX6_edges 31 = .ok (.goto (-27), 3) := by decide +kernel
theorem dX6_edges_34 : decode cX6_edges 34 = .ok (.iload_n 1, 1) := by decide +kernel
theorem dX6_edges_35 : decode cX6_edges 35 = .ok (.ireturn, 1) := by decide +kernel
theorem dX6_begins_0 : decode cX6_begins 0 = .ok (.iconst 0, 1) := by decide +kernel
theorem dX6_begins_1 : decode cX6_begins 1 = .ok (.istore_n 1, 1) := by decide +kernel
theorem dX6_begins_2 : decode cX6_begins 2 = .ok (.iload_n 1, 1) := by decide +kernel
theorem dX6_begins_3 : decode cX6_begins 3 = .ok (.sipush 676, 3) := by decide +kernel
theorem dX6_begins_6 : decode cX6_begins 6 = .ok (.if_icmp .ge 16, 3) := by decide +kernel
theorem dX6_begins_9 : decode cX6_begins 9 = .ok (.aload_n 0, 1) := by decide +kernel
theorem dX6_begins_10 : decode cX6_begins 10 = .ok (.getfield 38, 3) := by decide +kernel
theorem dX6_begins_13 : decode cX6_begins 13 = .ok (.iload_n 1, 1) := by decide +kernel
theorem dX6_begins_14 : decode cX6_begins 14 = .ok (.iconst (-1), 1) := by decide +kernel
theorem dX6_begins_15 : decode cX6_begins 15 = .ok (.iastore, 1) := by decide +kernel
theorem dX6_begins_16 : decode cX6_begins 16 = .ok (.iinc 1 1, 3) := by decide +kernel
theorem dX6_begins_19 : decode cX6_begins 19 = .ok (.goto (-17), 3) := by decide +kernel
theorem dX6_begins_22 : decode cX6_begins 22 = .ok (.aload_n 0, 1) := by decide +kernel
theorem dX6_begins_23 : decode cX6_begins 23 = .ok (.aload_n 0, 1) := by decide +kernel
theorem dX6_begins_24 : decode cX6_begins 24 = .ok (.getfield 7, 3) := by decide +kernel
theorem dX6_begins_27 : decode cX6_begins 27 = .ok (.iconst 2, 1) := by decide +kernel
theorem dX6_begins_28 : decode cX6_begins 28 = .ok (.iadd, 1) := by decide +kernel
theorem dX6_begins_29 : decode cX6_begins 29 = .ok (.putfield 127, 3) := by decide +kernel
theorem dX6_begins_32 : decode cX6_begins 32 = .ok (.iconst 0, 1) := by decide +kernel
theorem dX6_begins_33 : decode cX6_begins 33 = .ok (.istore_n 1, 1) := by decide +kernel
theorem dX6_begins_34 : decode cX6_begins 34 = .ok (.iload_n 1, 1) := by decide +kernel
theorem dX6_begins_35 : decode cX6_begins 35 = .ok (.iconst 4, 1) := by decide +kernel
theorem dX6_begins_36 : decode cX6_begins 36 = .ok (.if_icmp .ge 31, 3) := by decide +kernel
theorem dX6_begins_39 : decode cX6_begins 39 = .ok (.aload_n 0, 1) := by decide +kernel
theorem dX6_begins_40 : decode cX6_begins 40 = .ok (.getfield 38, 3) := by decide +kernel
theorem dX6_begins_43 : decode cX6_begins 43 = .ok (.aload_n 0, 1) := by decide +kernel
theorem dX6_begins_44 : decode cX6_begins 44 = .ok (.getfield 7, 3) := by decide +kernel
theorem dX6_begins_47 : decode cX6_begins 47 = .ok (.iconst 1, 1) := by decide +kernel
theorem dX6_begins_48 : decode cX6_begins 48 = .ok (.iadd, 1) := by decide +kernel
theorem dX6_begins_49 : decode cX6_begins 49 = .ok (.iload_n 1, 1) := by decide +kernel
theorem dX6_begins_50 : decode cX6_begins 50 = .ok (.aload_n 0, 1) := by decide +kernel
theorem dX6_begins_51 : decode cX6_begins 51 = .ok (.getfield 7, 3) := by decide +kernel
theorem dX6_begins_54 : decode cX6_begins 54 = .ok (.iconst 1, 1) := by decide +kernel
theorem dX6_begins_55 : decode cX6_begins 55 = .ok (.iadd, 1) := by decide +kernel
theorem dX6_begins_56 : decode cX6_begins 56 = .ok (.invokestatic 130, 3) := by decide +kernel
theorem dX6_begins_59 : decode cX6_begins 59 = .ok (.iconst 0, 1) := by decide +kernel
theorem dX6_begins_60 : decode cX6_begins 60 = .ok (.iastore, 1) := by decide +kernel
theorem dX6_begins_61 : decode cX6_begins 61 = .ok (.iinc 1 1, 3) := by decide +kernel
theorem dX6_begins_64 : decode cX6_begins 64 = .ok (.goto (-30), 3) := by decide +kernel
theorem dX6_begins_67 : decode cX6_begins 67 = .ok (.iconst 0, 1) := by decide +kernel
theorem dX6_begins_68 : decode cX6_begins 68 = .ok (.istore_n 1, 1) := by decide +kernel
theorem dX6_begins_69 : decode cX6_begins 69 = .ok (.iload_n 1, 1) := by decide +kernel
theorem dX6_begins_70 : decode cX6_begins 70 = .ok (.aload_n 0, 1) := by decide +kernel
theorem dX6_begins_71 : decode cX6_begins 71 = .ok (.getfield 20, 3) := by decide +kernel
theorem dX6_begins_74 : decode cX6_begins 74 = .ok (.if_icmp .ge 14, 3) := by decide +kernel
theorem dX6_begins_77 : decode cX6_begins 77 = .ok (.aload_n 0, 1) := by decide +kernel
theorem dX6_begins_78 : decode cX6_begins 78 = .ok (.iload_n 1, 1) := by decide +kernel
theorem dX6_begins_79 : decode cX6_begins 79 = .ok (.invokevirtual 134, 3) := by decide +kernel
theorem dX6_begins_82 : decode cX6_begins 82 = .ok (.iinc 1 1, 3) := by decide +kernel
theorem dX6_begins_85 : decode cX6_begins 85 = .ok (.goto (-16), 3) := by decide +kernel
theorem dX6_begins_88 : decode cX6_begins 88 = .ok (.aload_n 0, 1) := by decide +kernel
theorem dX6_begins_89 : decode cX6_begins 89 = .ok (.aload_n 0, 1) := by decide +kernel
theorem dX6_begins_90 : decode cX6_begins 90 = .ok (.invokevirtual 137, 3) := by decide +kernel
theorem dX6_begins_93 : decode cX6_begins 93 = .ok (.putfield 141, 3) := by decide +kernel
theorem dX6_begins_96 : decode cX6_begins 96 = .ok (.aload_n 0, 1) := by decide +kernel
theorem dX6_begins_97 : decode cX6_begins 97 = .ok (.iconst 0, 1) := by decide +kernel
theorem dX6_begins_98 : decode cX6_begins 98 = .ok (.putfield 144, 3) := by decide +kernel
theorem dX6_begins_101 : decode cX6_begins 101 = .ok (.return_, 1) := by decide +kernel
theorem dX6_made_0 : decode cX6_made 0 = .ok (.iload_n 0, 1) := by decide +kernel
theorem dX6_made_1 : decode cX6_made 1 = .ok (.iconst 2, 1) := by decide +kernel
theorem dX6_made_2 : decode cX6_made 2 = .ok (.if_icmp .ne 16, 3) := by decide +kernel
theorem dX6_made_5 : decode cX6_made 5 = .ok (.iload_n 1, 1) := by decide +kernel
theorem dX6_made_6 : decode cX6_made 6 = .ok (.iload_n 2, 1) := by decide +kernel
theorem dX6_made_7 : decode cX6_made 7 = .ok (.if_icmp .le 7, 3) := by decide +kernel
theorem dX6_made_10 : decode cX6_made 10 = .ok (.iload_n 1, 1) := by decide +kernel
theorem dX6_made_11 : decode cX6_made 11 = .ok (.goto 10, 3) := by decide +kernel
theorem dX6_made_14 : decode cX6_made 14 = .ok (.iload_n 2, 1) := by decide +kernel
theorem dX6_made_15 : decode cX6_made 15 = .ok (.goto 6, 3) := by decide +kernel
theorem dX6_made_18 : decode cX6_made 18 = .ok (.iload_n 1, 1) := by decide +kernel
theorem dX6_made_19 : decode cX6_made 19 = .ok (.iload_n 2, 1) := by decide +kernel
theorem dX6_made_20 : decode cX6_made 20 = .ok (.iadd, 1) := by decide +kernel
theorem dX6_made_21 : decode cX6_made 21 = .ok (.ireturn, 1) := by decide +kernel
theorem dX6_lesser_0 : decode cX6_lesser 0 = .ok (.iload_n 0, 1) := by decide +kernel
theorem dX6_lesser_1 : decode cX6_lesser 1 = .ok (.ifCond .lt 8, 3) := by decide +kernel
theorem dX6_lesser_4 : decode cX6_lesser 4 = .ok (.iload_n 1, 1) := by decide +kernel
theorem dX6_lesser_5 : decode cX6_lesser 5 = .ok (.iload_n 0, 1) := by decide +kernel
theorem dX6_lesser_6 : decode cX6_lesser 6 = .ok (.if_icmp .ge 7, 3) := by decide +kernel
theorem dX6_lesser_9 : decode cX6_lesser 9 = .ok (.iload_n 1, 1) := by decide +kernel
theorem dX6_lesser_10 : decode cX6_lesser 10 = .ok (.goto 4, 3) := by decide +kernel
theorem dX6_lesser_13 : decode cX6_lesser 13 = .ok (.iload_n 0, 1) := by decide +kernel
theorem dX6_lesser_14 : decode cX6_lesser 14 = .ok (.ireturn, 1) := by decide +kernel
theorem dX6_reads_0 : decode cX6_reads 0 = .ok (.iconst 0, 1) := by decide +kernel
theorem dX6_reads_1 : decode cX6_reads 1 = .ok (.istore_n 3, 1) := by decide +kernel
theorem dX6_reads_2 : decode cX6_reads 2 = .ok (.iload_n 3, 1) := by decide +kernel
theorem dX6_reads_3 : decode cX6_reads 3 = .ok (.bipush 13, 2) := by decide +kernel
theorem dX6_reads_5 : decode cX6_reads 5 = .ok (.if_icmp .ge 89, 3) := by decide +kernel
theorem dX6_reads_8 : decode cX6_reads 8 = .ok (.aload_n 0, 1) := by decide +kernel
theorem dX6_reads_9 : decode cX6_reads 9 = .ok (.getfield 47, 3) := by decide +kernel
theorem dX6_reads_12 : decode cX6_reads 12 = .ok (.iload_n 3, 1) := by decide +kernel
theorem dX6_reads_13 : decode cX6_reads 13 = .ok (.iconst (-1), 1) := by decide +kernel
theorem dX6_reads_14 : decode cX6_reads 14 = .ok (.iastore, 1) := by decide +kernel
theorem dX6_reads_15 : decode cX6_reads 15 = .ok (.iconst 0, 1) := by decide +kernel
theorem dX6_reads_16 : decode cX6_reads 16 = .ok (.istore 4, 2) := by decide +kernel
theorem dX6_reads_18 : decode cX6_reads 18 = .ok (.iload 4, 2) := by decide +kernel
theorem dX6_reads_20 : decode cX6_reads 20 = .ok (.bipush 13, 2) := by decide +kernel
theorem dX6_reads_22 : decode cX6_reads 22 = .ok (.if_icmp .ge 66, 3) := by decide +kernel
theorem dX6_reads_25 : decode cX6_reads 25 = .ok (.aload_n 0, 1) := by decide +kernel
theorem dX6_reads_26 : decode cX6_reads 26 = .ok (.getfield 41, 3) := by decide +kernel
theorem dX6_reads_29 : decode cX6_reads 29 = .ok (.iload 4, 2) := by decide +kernel
theorem dX6_reads_31 : decode cX6_reads 31 = .ok (.iload_n 2, 1) := by decide +kernel
theorem dX6_reads_32 : decode cX6_reads 32 = .ok (.iload_n 3, 1) := by decide +kernel
theorem dX6_reads_33 : decode cX6_reads 33 = .ok (.invokestatic 130, 3) := by decide +kernel
theorem dX6_reads_36 : decode cX6_reads 36 = .ok (.iaload, 1) := by decide +kernel
theorem dX6_reads_37 : decode cX6_reads 37 = .ok (.istore 5, 2) := by decide +kernel
theorem dX6_reads_39 : decode cX6_reads 39 = .ok (.aload_n 0, 1) := by decide +kernel
theorem dX6_reads_40 : decode cX6_reads 40 = .ok (.getfield 44, 3) := by decide +kernel
theorem dX6_reads_43 : decode cX6_reads 43 = .ok (.iload 4, 2) := by decide +kernel
theorem dX6_reads_45 : decode cX6_reads 45 = .ok (.iaload, 1) := by decide +kernel
theorem dX6_reads_46 : decode cX6_reads 46 = .ok (.ifCond .lt 36, 3) := by decide +kernel
theorem dX6_reads_49 : decode cX6_reads 49 = .ok (.iload 5, 2) := by decide +kernel
theorem dX6_reads_51 : decode cX6_reads 51 = .ok (.ifCond .lt 31, 3) := by decide +kernel
theorem dX6_reads_54 : decode cX6_reads 54 = .ok (.aload_n 0, 1) := by decide +kernel
theorem dX6_reads_55 : decode cX6_reads 55 = .ok (.getfield 47, 3) := by decide +kernel
theorem dX6_reads_58 : decode cX6_reads 58 = .ok (.iload_n 3, 1) := by decide +kernel
theorem dX6_reads_59 : decode cX6_reads 59 = .ok (.aload_n 0, 1) := by decide +kernel
theorem dX6_reads_60 : decode cX6_reads 60 = .ok (.getfield 47, 3) := by decide +kernel
theorem dX6_reads_63 : decode cX6_reads 63 = .ok (.iload_n 3, 1) := by decide +kernel
theorem dX6_reads_64 : decode cX6_reads 64 = .ok (.iaload, 1) := by decide +kernel
theorem dX6_reads_65 : decode cX6_reads 65 = .ok (.iload_n 1, 1) := by decide +kernel
theorem dX6_reads_66 : decode cX6_reads 66 = .ok (.aload_n 0, 1) := by decide +kernel
theorem dX6_reads_67 : decode cX6_reads 67 = .ok (.getfield 44, 3) := by decide +kernel
theorem dX6_reads_70 : decode cX6_reads 70 = .ok (.iload 4, 2) := by decide +kernel
theorem dX6_reads_72 : decode cX6_reads 72 = .ok (.iaload, 1) := by decide +kernel
theorem dX6_reads_73 : decode cX6_reads 73 = .ok (.iload 5, 2) := by decide +kernel
theorem dX6_reads_75 : decode cX6_reads 75 = .ok (.invokestatic 147, 3) := by decide +kernel
theorem dX6_reads_78 : decode cX6_reads 78 = .ok (.invokestatic 150, 3) := by decide +kernel
theorem dX6_reads_81 : decode cX6_reads 81 = .ok (.iastore, 1) := by decide +kernel
theorem dX6_reads_82 : decode cX6_reads 82 = .ok (.iinc 4 1, 3) := by decide +kernel
theorem dX6_reads_85 : decode cX6_reads 85 = .ok (.goto (-67), 3) := by decide +kernel
theorem dX6_reads_88 : decode cX6_reads 88 = .ok (.iinc 3 1, 3) := by decide +kernel
theorem dX6_reads_91 : decode cX6_reads 91 = .ok (.goto (-89), 3) := by decide +kernel
theorem dX6_reads_94 : decode cX6_reads 94 = .ok (.iconst 0, 1) := by decide +kernel
theorem dX6_reads_95 : decode cX6_reads 95 = .ok (.istore_n 3, 1) := by decide +kernel
theorem dX6_reads_96 : decode cX6_reads 96 = .ok (.iload_n 3, 1) := by decide +kernel
theorem dX6_reads_97 : decode cX6_reads 97 = .ok (.bipush 13, 2) := by decide +kernel
theorem dX6_reads_99 : decode cX6_reads 99 = .ok (.if_icmp .ge 21, 3) := by decide +kernel
theorem dX6_reads_102 : decode cX6_reads 102 = .ok (.aload_n 0, 1) := by decide +kernel
theorem dX6_reads_103 : decode cX6_reads 103 = .ok (.getfield 44, 3) := by decide +kernel
theorem dX6_reads_106 : decode cX6_reads 106 = .ok (.iload_n 3, 1) := by decide +kernel
theorem dX6_reads_107 : decode cX6_reads 107 = .ok (.aload_n 0, 1) := by decide +kernel
theorem dX6_reads_108 : decode cX6_reads 108 = .ok (.getfield 47, 3) := by decide +kernel
theorem dX6_reads_111 : decode cX6_reads 111 = .ok (.iload_n 3, 1) := by decide +kernel
theorem dX6_reads_112 : decode cX6_reads 112 = .ok (.iaload, 1) := by decide +kernel
theorem dX6_reads_113 : decode cX6_reads 113 = .ok (.iastore, 1) := by decide +kernel
theorem dX6_reads_114 : decode cX6_reads 114 = .ok (.iinc 3 1, 3) := by decide +kernel
theorem dX6_reads_117 : decode cX6_reads 117 = .ok (.goto (-21), 3) := by decide +kernel
theorem dX6_reads_120 : decode cX6_reads 120 = .ok (.return_, 1) := by decide +kernel
theorem dX6_standsAt_0 : decode cX6_standsAt 0 = .ok (.iconst 0, 1) := by decide +kernel
theorem dX6_standsAt_1 : decode cX6_standsAt 1 = .ok (.istore_n 2, 1) := by decide +kernel
theorem dX6_standsAt_2 : decode cX6_standsAt 2 = .ok (.iload_n 2, 1) := by decide +kernel
theorem dX6_standsAt_3 : decode cX6_standsAt 3 = .ok (.bipush 13, 2) := by decide +kernel
theorem dX6_standsAt_5 : decode cX6_standsAt 5 = .ok (.if_icmp .ge 25, 3) := by decide +kernel
theorem dX6_standsAt_8 : decode cX6_standsAt 8 = .ok (.aload_n 0, 1) := by decide +kernel
theorem dX6_standsAt_9 : decode cX6_standsAt 9 = .ok (.getfield 44, 3) := by decide +kernel
theorem dX6_standsAt_12 : decode cX6_standsAt 12 = .ok (.iload_n 2, 1) := by decide +kernel
theorem dX6_standsAt_13 : decode cX6_standsAt 13 = .ok (.iload_n 2, 1) := by decide +kernel
theorem dX6_standsAt_14 : decode cX6_standsAt 14 = .ok (.iload_n 1, 1) := by decide +kernel
theorem dX6_standsAt_15 : decode cX6_standsAt 15 = .ok (.if_icmp .ne 7, 3) := by decide +kernel
theorem dX6_standsAt_18 : decode cX6_standsAt 18 = .ok (.iconst 0, 1) := by decide +kernel
theorem dX6_standsAt_19 : decode cX6_standsAt 19 = .ok (.goto 4, 3) := by decide +kernel
theorem dX6_standsAt_22 : decode cX6_standsAt 22 = .ok (.iconst (-1), 1) := by decide +kernel
theorem dX6_standsAt_23 : decode cX6_standsAt 23 = .ok (.iastore, 1) := by decide +kernel
theorem dX6_standsAt_24 : decode cX6_standsAt 24 = .ok (.iinc 2 1, 3) := by decide +kernel
theorem dX6_standsAt_27 : decode cX6_standsAt 27 = .ok (.goto (-25), 3) := by decide +kernel
theorem dX6_standsAt_30 : decode cX6_standsAt 30 = .ok (.return_, 1) := by decide +kernel
theorem dX6_roundBy_0 : decode cX6_roundBy 0 = .ok (.bipush 7, 2) := by decide +kernel
theorem dX6_roundBy_2 : decode cX6_roundBy 2 = .ok (.iload_n 1, 1) := by decide +kernel
theorem dX6_roundBy_3 : decode cX6_roundBy 3 = .ok (.imul, 1) := by decide +kernel
theorem dX6_roundBy_4 : decode cX6_roundBy 4 = .ok (.istore 4, 2) := by decide +kernel
theorem dX6_roundBy_6 : decode cX6_roundBy 6 = .ok (.aload_n 0, 1) := by decide +kernel
theorem dX6_roundBy_7 : decode cX6_roundBy 7 = .ok (.aload_n 0, 1) := by decide +kernel
theorem dX6_roundBy_8 : decode cX6_roundBy 8 = .ok (.getfield 16, 3) := by decide +kernel
theorem dX6_roundBy_11 : decode cX6_roundBy 11 = .ok (.iload 4, 2) := by decide +kernel
theorem dX6_roundBy_13 : decode cX6_roundBy 13 = .ok (.iconst 2, 1) := by decide +kernel
theorem dX6_roundBy_14 : decode cX6_roundBy 14 = .ok (.iadd, 1) := by decide +kernel
theorem dX6_roundBy_15 : decode cX6_roundBy 15 = .ok (.iaload, 1) := by decide +kernel
theorem dX6_roundBy_16 : decode cX6_roundBy 16 = .ok (.invokevirtual 154, 3) := by decide +kernel
theorem dX6_roundBy_19 : decode cX6_roundBy 19 = .ok (.iconst 0, 1) := by decide +kernel
theorem dX6_roundBy_20 : decode cX6_roundBy 20 = .ok (.istore 5, 2) := by decide +kernel
theorem dX6_roundBy_22 : decode cX6_roundBy 22 = .ok (.iload 5, 2) := by decide +kernel
theorem dX6_roundBy_24 : decode cX6_roundBy 24 = .ok (.aload_n 0, 1) := by decide +kernel
theorem dX6_roundBy_25 : decode cX6_roundBy 25 = .ok (.getfield 16, 3) := by decide +kernel
theorem dX6_roundBy_28 : decode cX6_roundBy 28 = .ok (.iload 4, 2) := by decide +kernel
theorem dX6_roundBy_30 : decode cX6_roundBy 30 = .ok (.iconst 3, 1) := by decide +kernel
theorem dX6_roundBy_31 : decode cX6_roundBy 31 = .ok (.iadd, 1) := by decide +kernel
theorem dX6_roundBy_32 : decode cX6_roundBy 32 = .ok (.iaload, 1) := by decide +kernel
theorem dX6_roundBy_33 : decode cX6_roundBy 33 = .ok (.if_icmp .ge 26, 3) := by decide +kernel
theorem dX6_roundBy_36 : decode cX6_roundBy 36 = .ok (.aload_n 0, 1) := by decide +kernel
theorem dX6_roundBy_37 : decode cX6_roundBy 37 = .ok (.iload_n 2, 1) := by decide +kernel
theorem dX6_roundBy_38 : decode cX6_roundBy 38 = .ok (.aload_n 0, 1) := by decide +kernel
theorem dX6_roundBy_39 : decode cX6_roundBy 39 = .ok (.getfield 16, 3) := by decide +kernel
theorem dX6_roundBy_42 : decode cX6_roundBy 42 = .ok (.iload 4, 2) := by decide +kernel
theorem dX6_roundBy_44 : decode cX6_roundBy 44 = .ok (.iconst 4, 1) := by decide +kernel
theorem dX6_roundBy_45 : decode cX6_roundBy 45 = .ok (.iadd, 1) := by decide +kernel
theorem dX6_roundBy_46 : decode cX6_roundBy 46 = .ok (.iload 5, 2) := by decide +kernel
theorem dX6_roundBy_48 : decode cX6_roundBy 48 = .ok (.iadd, 1) := by decide +kernel
theorem dX6_roundBy_49 : decode cX6_roundBy 49 = .ok (.iaload, 1) := by decide +kernel
theorem dX6_roundBy_50 : decode cX6_roundBy 50 = .ok (.invokevirtual 157, 3) := by decide +kernel
theorem dX6_roundBy_53 : decode cX6_roundBy 53 = .ok (.iinc 5 1, 3) := by decide +kernel
theorem dX6_roundBy_56 : decode cX6_roundBy 56 = .ok (.goto (-34), 3) := by decide +kernel
theorem dX6_roundBy_59 : decode cX6_roundBy 59 = .ok (.iconst 0, 1) := by decide +kernel
theorem dX6_roundBy_60 : decode cX6_roundBy 60 = .ok (.istore 5, 2) := by decide +kernel
theorem dX6_roundBy_62 : decode cX6_roundBy 62 = .ok (.iconst 0, 1) := by decide +kernel
theorem dX6_roundBy_63 : decode cX6_roundBy 63 = .ok (.istore 6, 2) := by decide +kernel
theorem dX6_roundBy_65 : decode cX6_roundBy 65 = .ok (.iload 6, 2) := by decide +kernel
theorem dX6_roundBy_67 : decode cX6_roundBy 67 = .ok (.bipush 13, 2) := by decide +kernel
theorem dX6_roundBy_69 : decode cX6_roundBy 69 = .ok (.if_icmp .ge 109, 3) := by decide +kernel
theorem dX6_roundBy_72 : decode cX6_roundBy 72 = .ok (.aload_n 0, 1) := by decide +kernel
theorem dX6_roundBy_73 : decode cX6_roundBy 73 = .ok (.getfield 44, 3) := by decide +kernel
theorem dX6_roundBy_76 : decode cX6_roundBy 76 = .ok (.iload 6, 2) := by decide +kernel
theorem dX6_roundBy_78 : decode cX6_roundBy 78 = .ok (.iaload, 1) := by decide +kernel
theorem dX6_roundBy_79 : decode cX6_roundBy 79 = .ok (.ifCond .lt 93, 3) := by decide +kernel
theorem dX6_roundBy_82 : decode cX6_roundBy 82 = .ok (.aload_n 0, 1) := by decide +kernel
theorem dX6_roundBy_83 : decode cX6_roundBy 83 = .ok (.getfield 16, 3) := by decide +kernel
theorem dX6_roundBy_86 : decode cX6_roundBy 86 = .ok (.iload 4, 2) := by decide +kernel
theorem dX6_roundBy_88 : decode cX6_roundBy 88 = .ok (.iaload, 1) := by decide +kernel
theorem dX6_roundBy_89 : decode cX6_roundBy 89 = .ok (.aload_n 0, 1) := by decide +kernel
theorem dX6_roundBy_90 : decode cX6_roundBy 90 = .ok (.getfield 16, 3) := by decide +kernel
theorem dX6_roundBy_93 : decode cX6_roundBy 93 = .ok (.iload 4, 2) := by decide +kernel
theorem dX6_roundBy_95 : decode cX6_roundBy 95 = .ok (.iconst 1, 1) := by decide +kernel
theorem dX6_roundBy_96 : decode cX6_roundBy 96 = .ok (.iadd, 1) := by decide +kernel
theorem dX6_roundBy_97 : decode cX6_roundBy 97 = .ok (.iaload, 1) := by decide +kernel
theorem dX6_roundBy_98 : decode cX6_roundBy 98 = .ok (.iload 6, 2) := by decide +kernel
theorem dX6_roundBy_100 : decode cX6_roundBy 100 = .ok (.invokestatic 130, 3) := by decide +kernel
theorem dX6_roundBy_103 : decode cX6_roundBy 103 = .ok (.istore 7, 2) := by decide +kernel
theorem dX6_roundBy_105 : decode cX6_roundBy 105 = .ok (.iload_n 2, 1) := by decide +kernel
theorem dX6_roundBy_106 : decode cX6_roundBy 106 = .ok (.iload_n 3, 1) := by decide +kernel
theorem dX6_roundBy_107 : decode cX6_roundBy 107 = .ok (.aload_n 0, 1) := by decide +kernel
theorem dX6_roundBy_108 : decode cX6_roundBy 108 = .ok (.getfield 44, 3) := by decide +kernel
theorem dX6_roundBy_111 : decode cX6_roundBy 111 = .ok (.iload 6, 2) := by decide +kernel
theorem dX6_roundBy_113 : decode cX6_roundBy 113 = .ok (.iaload, 1) := by decide +kernel
theorem dX6_roundBy_114 : decode cX6_roundBy 114 = .ok (.invokestatic 147, 3) := by decide +kernel
theorem dX6_roundBy_117 : decode cX6_roundBy 117 = .ok (.istore 8, 2) := by decide +kernel
theorem dX6_roundBy_119 : decode cX6_roundBy 119 = .ok (.iload 5, 2) := by decide +kernel
theorem dX6_roundBy_121 : decode cX6_roundBy 121 = .ok (.ifCond .ne 25, 3) := by decide +kernel
theorem dX6_roundBy_124 : decode cX6_roundBy 124 = .ok (.aload_n 0, 1) := by decide +kernel
theorem dX6_roundBy_125 : decode cX6_roundBy 125 = .ok (.getfield 38, 3) := by decide +kernel
theorem dX6_roundBy_128 : decode cX6_roundBy 128 = .ok (.iload 7, 2) := by decide +kernel
theorem dX6_roundBy_130 : decode cX6_roundBy 130 = .ok (.iaload, 1) := by decide +kernel
theorem dX6_roundBy_131 : decode cX6_roundBy 131 = .ok (.ifCond .lt 15, 3) := by decide +kernel
theorem dX6_roundBy_134 : decode cX6_roundBy 134 = .ok (.iload 8, 2) := by decide +kernel
theorem dX6_roundBy_136 : decode cX6_roundBy 136 = .ok (.aload_n 0, 1) := by decide +kernel
theorem dX6_roundBy_137 : decode cX6_roundBy 137 = .ok (.getfield 38, 3) := by decide +kernel
theorem dX6_roundBy_140 : decode cX6_roundBy 140 = .ok (.iload 7, 2) := by decide +kernel
theorem dX6_roundBy_142 : decode cX6_roundBy 142 = .ok (.iaload, 1) := by decide +kernel
theorem dX6_roundBy_143 : decode cX6_roundBy 143 = .ok (.if_icmp .ge 7, 3) := by decide +kernel
theorem dX6_roundBy_146 : decode cX6_roundBy 146 = .ok (.iconst 1, 1) := by decide +kernel
theorem dX6_roundBy_147 : decode cX6_roundBy 147 = .ok (.goto 4, 3) := by decide +kernel
theorem dX6_roundBy_150 : decode cX6_roundBy 150 = .ok (.iconst 0, 1) := by decide +kernel
theorem dX6_roundBy_151 : decode cX6_roundBy 151 = .ok (.istore 5, 2) := by decide +kernel
theorem dX6_roundBy_153 : decode cX6_roundBy 153 = .ok (.aload_n 0, 1) := by decide +kernel
theorem dX6_roundBy_154 : decode cX6_roundBy 154 = .ok (.getfield 38, 3) := by decide +kernel
theorem dX6_roundBy_157 : decode cX6_roundBy 157 = .ok (.iload 7, 2) := by decide +kernel
theorem dX6_roundBy_159 : decode cX6_roundBy 159 = .ok (.aload_n 0, 1) := by decide +kernel
theorem dX6_roundBy_160 : decode cX6_roundBy 160 = .ok (.getfield 38, 3) := by decide +kernel
theorem dX6_roundBy_163 : decode cX6_roundBy 163 = .ok (.iload 7, 2) := by decide +kernel
theorem dX6_roundBy_165 : decode cX6_roundBy 165 = .ok (.iaload, 1) := by decide +kernel
theorem dX6_roundBy_166 : decode cX6_roundBy 166 = .ok (.iload 8, 2) := by decide +kernel
theorem dX6_roundBy_168 : decode cX6_roundBy 168 = .ok (.invokestatic 150, 3) := by decide +kernel
theorem dX6_roundBy_171 : decode cX6_roundBy 171 = .ok (.iastore, 1) := by decide +kernel
theorem dX6_roundBy_172 : decode cX6_roundBy 172 = .ok (.iinc 6 1, 3) := by decide +kernel
theorem dX6_roundBy_175 : decode cX6_roundBy 175 = .ok (.goto (-110), 3) := by decide +kernel
theorem dX6_roundBy_178 : decode cX6_roundBy 178 = .ok (.iload 5, 2) := by decide +kernel
theorem dX6_roundBy_180 : decode cX6_roundBy 180 = .ok (.ireturn, 1) := by decide +kernel
theorem dX6_grows_0 : decode cX6_grows 0 = .ok (.aload_n 0, 1) := by decide +kernel
theorem dX6_grows_1 : decode cX6_grows 1 = .ok (.invokevirtual 161, 3) := by decide +kernel
theorem dX6_grows_4 : decode cX6_grows 4 = .ok (.iconst 1, 1) := by decide +kernel
theorem dX6_grows_5 : decode cX6_grows 5 = .ok (.istore_n 3, 1) := by decide +kernel
theorem dX6_grows_6 : decode cX6_grows 6 = .ok (.iload_n 3, 1) := by decide +kernel
theorem dX6_grows_7 : decode cX6_grows 7 = .ok (.ifCond .eq 127, 3) := by decide +kernel
theorem dX6_grows_10 : decode cX6_grows 10 = .ok (.iconst 0, 1) := by decide +kernel
theorem dX6_grows_11 : decode cX6_grows 11 = .ok (.istore 4, 2) := by decide +kernel
theorem dX6_grows_13 : decode cX6_grows 13 = .ok (.iload 4, 2) := by decide +kernel
theorem dX6_grows_15 : decode cX6_grows 15 = .ok (.sipush 676, 3) := by decide +kernel
theorem dX6_grows_18 : decode cX6_grows 18 = .ok (.if_icmp .ge 23, 3) := by decide +kernel
theorem dX6_grows_21 : decode cX6_grows 21 = .ok (.aload_n 0, 1) := by decide +kernel
theorem dX6_grows_22 : decode cX6_grows 22 = .ok (.getfield 41, 3) := by decide +kernel
theorem dX6_grows_25 : decode cX6_grows 25 = .ok (.iload 4, 2) := by decide +kernel
theorem dX6_grows_27 : decode cX6_grows 27 = .ok (.aload_n 0, 1) := by decide +kernel
theorem dX6_grows_28 : decode cX6_grows 28 = .ok (.getfield 38, 3) := by decide +kernel
theorem dX6_grows_31 : decode cX6_grows 31 = .ok (.iload 4, 2) := by decide +kernel
theorem dX6_grows_33 : decode cX6_grows 33 = .ok (.iaload, 1) := by decide +kernel
theorem dX6_grows_34 : decode cX6_grows 34 = .ok (.iastore, 1) := by decide +kernel
theorem dX6_grows_35 : decode cX6_grows 35 = .ok (.iinc 4 1, 3) := by decide +kernel
theorem dX6_grows_38 : decode cX6_grows 38 = .ok (.goto (-25), 3) := by decide +kernel
theorem dX6_grows_41 : decode cX6_grows 41 = .ok (.iconst 0, 1) := by decide +kernel
theorem dX6_grows_42 : decode cX6_grows 42 = .ok (.istore_n 3, 1) := by decide +kernel
theorem dX6_grows_43 : decode cX6_grows 43 = .ok (.iconst 0, 1) := by decide +kernel
theorem dX6_grows_44 : decode cX6_grows 44 = .ok (.istore 4, 2) := by decide +kernel
theorem dX6_grows_46 : decode cX6_grows 46 = .ok (.iload 4, 2) := by decide +kernel
theorem dX6_grows_48 : decode cX6_grows 48 = .ok (.aload_n 0, 1) := by decide +kernel
theorem dX6_grows_49 : decode cX6_grows 49 = .ok (.getfield 13, 3) := by decide +kernel
theorem dX6_grows_52 : decode cX6_grows 52 = .ok (.if_icmp .ge 61, 3) := by decide +kernel
theorem dX6_grows_55 : decode cX6_grows 55 = .ok (.iload 4, 2) := by decide +kernel
theorem dX6_grows_57 : decode cX6_grows 57 = .ok (.iload_n 2, 1) := by decide +kernel
theorem dX6_grows_58 : decode cX6_grows 58 = .ok (.if_icmp .eq 49, 3) := by decide +kernel
theorem dX6_grows_61 : decode cX6_grows 61 = .ok (.aload_n 0, 1) := by decide +kernel
theorem dX6_grows_62 : decode cX6_grows 62 = .ok (.iload 4, 2) := by decide +kernel
theorem dX6_grows_64 : decode cX6_grows 64 = .ok (.iload_n 1, 1) := by decide +kernel
theorem dX6_grows_65 : decode cX6_grows 65 = .ok (.iload_n 1, 1) := by decide +kernel
theorem dX6_grows_66 : decode cX6_grows 66 = .ok (.iconst 1, 1) := by decide +kernel
theorem dX6_grows_67 : decode cX6_grows 67 = .ok (.if_icmp .ne 7, 3) := by decide +kernel
theorem dX6_grows_70 : decode cX6_grows 70 = .ok (.iconst 1, 1) := by decide +kernel
theorem dX6_grows_71 : decode cX6_grows 71 = .ok (.goto 16, 3) := by decide +kernel
theorem dX6_grows_74 : decode cX6_grows 74 = .ok (.aload_n 0, 1) := by decide +kernel
theorem dX6_grows_75 : decode cX6_grows 75 = .ok (.getfield 16, 3) := by decide +kernel
theorem dX6_grows_78 : decode cX6_grows 78 = .ok (.bipush 7, 2) := by decide +kernel
theorem dX6_grows_80 : decode cX6_grows 80 = .ok (.iload 4, 2) := by decide +kernel
theorem dX6_grows_82 : decode cX6_grows 82 = .ok (.imul, 1) := by decide +kernel
theorem dX6_grows_83 : decode cX6_grows 83 = .ok (.bipush 6, 2) := by decide +kernel
theorem dX6_grows_85 : decode cX6_grows 85 = .ok (.iadd, 1) := by decide +kernel
theorem dX6_grows_86 : decode cX6_grows 86 = .ok (.iaload, 1) := by decide +kernel
theorem dX6_grows_87 : decode cX6_grows 87 = .ok (.invokevirtual 164, 3) := by decide +kernel
theorem dX6_grows_90 : decode cX6_grows 90 = .ok (.istore 5, 2) := by decide +kernel
theorem dX6_grows_92 : decode cX6_grows 92 = .ok (.iload_n 3, 1) := by decide +kernel
theorem dX6_grows_93 : decode cX6_grows 93 = .ok (.ifCond .ne 8, 3) := by decide +kernel
theorem dX6_grows_96 : decode cX6_grows 96 = .ok (.iload 5, 2) := by decide +kernel
theorem dX6_grows_98 : decode cX6_grows 98 = .ok (.ifCond .eq 7, 3) := by decide +kernel
theorem dX6_grows_101 : decode cX6_grows 101 = .ok (.iconst 1, 1) := by decide +kernel
theorem dX6_grows_102 : decode cX6_grows 102 = .ok (.goto 4, 3) := by decide +kernel
theorem dX6_grows_105 : decode cX6_grows 105 = .ok (.iconst 0, 1) := by decide +kernel
theorem dX6_grows_106 : decode cX6_grows 106 = .ok (.istore_n 3, 1) := by decide +kernel
theorem dX6_grows_107 : decode cX6_grows 107 = .ok (.iinc 4 1, 3) := by decide +kernel
theorem dX6_grows_110 : decode cX6_grows 110 = .ok (.goto (-64), 3) := by decide +kernel
theorem dX6_grows_113 : decode cX6_grows 113 = .ok (.aload_n 0, 1) := by decide +kernel
theorem dX6_grows_114 : decode cX6_grows 114 = .ok (.dup, 1) := by decide +kernel
theorem dX6_grows_115 : decode cX6_grows 115 = .ok (.getfield 144, 3) := by decide +kernel
theorem dX6_grows_118 : decode cX6_grows 118 = .ok (.iload_n 3, 1) := by decide +kernel
theorem dX6_grows_119 : decode cX6_grows 119 = .ok (.ifCond .eq 7, 3) := by decide +kernel
theorem dX6_grows_122 : decode cX6_grows 122 = .ok (.iconst 1, 1) := by decide +kernel
theorem dX6_grows_123 : decode cX6_grows 123 = .ok (.goto 4, 3) := by decide +kernel
theorem dX6_grows_126 : decode cX6_grows 126 = .ok (.iconst 0, 1) := by decide +kernel
theorem dX6_grows_127 : decode cX6_grows 127 = .ok (.iadd, 1) := by decide +kernel
theorem dX6_grows_128 : decode cX6_grows 128 = .ok (.putfield 144, 3) := by decide +kernel
theorem dX6_grows_131 : decode cX6_grows 131 = .ok (.goto (-125), 3) := by decide +kernel
theorem dX6_grows_134 : decode cX6_grows 134 = .ok (.return_, 1) := by decide +kernel
theorem dX6_isEnd_0 : decode cX6_isEnd 0 = .ok (.iload_n 1, 1) := by decide +kernel
theorem dX6_isEnd_1 : decode cX6_isEnd 1 = .ok (.aload_n 0, 1) := by decide +kernel
theorem dX6_isEnd_2 : decode cX6_isEnd 2 = .ok (.getfield 7, 3) := by decide +kernel
theorem dX6_isEnd_5 : decode cX6_isEnd 5 = .ok (.if_icmp .eq 13, 3) := by decide +kernel
theorem dX6_isEnd_8 : decode cX6_isEnd 8 = .ok (.iload_n 1, 1) := by decide +kernel
theorem dX6_isEnd_9 : decode cX6_isEnd 9 = .ok (.aload_n 0, 1) := by decide +kernel
theorem dX6_isEnd_10 : decode cX6_isEnd 10 = .ok (.getfield 7, 3) := by decide +kernel
theorem dX6_isEnd_13 : decode cX6_isEnd 13 = .ok (.iconst 1, 1) := by decide +kernel
theorem dX6_isEnd_14 : decode cX6_isEnd 14 = .ok (.iadd, 1) := by decide +kernel
theorem dX6_isEnd_15 : decode cX6_isEnd 15 = .ok (.if_icmp .ne 7, 3) := by decide +kernel
theorem dX6_isEnd_18 : decode cX6_isEnd 18 = .ok (.iconst 1, 1) := by decide +kernel
theorem dX6_isEnd_19 : decode cX6_isEnd 19 = .ok (.goto 4, 3) := by decide +kernel
theorem dX6_isEnd_22 : decode cX6_isEnd 22 = .ok (.iconst 0, 1) := by decide +kernel
theorem dX6_isEnd_23 : decode cX6_isEnd 23 = .ok (.istore_n 2, 1) := by decide +kernel
theorem dX6_isEnd_24 : decode cX6_isEnd 24 = .ok (.iconst 0, 1) := by decide +kernel
theorem dX6_isEnd_25 : decode cX6_isEnd 25 = .ok (.istore_n 3, 1) := by decide +kernel
theorem dX6_isEnd_26 : decode cX6_isEnd 26 = .ok (.iload_n 3, 1) := by decide +kernel
theorem dX6_isEnd_27 : decode cX6_isEnd 27 = .ok (.aload_n 0, 1) := by decide +kernel
theorem dX6_isEnd_28 : decode cX6_isEnd 28 = .ok (.getfield 20, 3) := by decide +kernel
theorem dX6_isEnd_31 : decode cX6_isEnd 31 = .ok (.if_icmp .ge 46, 3) := by decide +kernel
theorem dX6_isEnd_34 : decode cX6_isEnd 34 = .ok (.iload_n 2, 1) := by decide +kernel
theorem dX6_isEnd_35 : decode cX6_isEnd 35 = .ok (.ifCond .ne 30, 3) := by decide +kernel
theorem dX6_isEnd_38 : decode cX6_isEnd 38 = .ok (.aload_n 0, 1) := by decide +kernel
theorem dX6_isEnd_39 : decode cX6_isEnd 39 = .ok (.getfield 23, 3) := by decide +kernel
theorem dX6_isEnd_42 : decode cX6_isEnd 42 = .ok (.bipush 6, 2) := by decide +kernel
theorem dX6_isEnd_44 : decode cX6_isEnd 44 = .ok (.iload_n 3, 1) := by decide +kernel
theorem dX6_isEnd_45 : decode cX6_isEnd 45 = .ok (.imul, 1) := by decide +kernel
theorem dX6_isEnd_46 : decode cX6_isEnd 46 = .ok (.iconst 1, 1) := by decide +kernel
theorem dX6_isEnd_47 : decode cX6_isEnd 47 = .ok (.iadd, 1) := by decide +kernel
theorem dX6_isEnd_48 : decode cX6_isEnd 48 = .ok (.iaload, 1) := by decide +kernel
theorem dX6_isEnd_49 : decode cX6_isEnd 49 = .ok (.ifCond .ne 20, 3) := by decide +kernel
theorem dX6_isEnd_52 : decode cX6_isEnd 52 = .ok (.aload_n 0, 1) := by decide +kernel
theorem dX6_isEnd_53 : decode cX6_isEnd 53 = .ok (.getfield 23, 3) := by decide +kernel
theorem dX6_isEnd_56 : decode cX6_isEnd 56 = .ok (.bipush 6, 2) := by decide +kernel
theorem dX6_isEnd_58 : decode cX6_isEnd 58 = .ok (.iload_n 3, 1) := by decide +kernel
theorem dX6_isEnd_59 : decode cX6_isEnd 59 = .ok (.imul, 1) := by decide +kernel
theorem dX6_isEnd_60 : decode cX6_isEnd 60 = .ok (.iaload, 1) := by decide +kernel
theorem dX6_isEnd_61 : decode cX6_isEnd 61 = .ok (.iload_n 1, 1) := by decide +kernel
theorem dX6_isEnd_62 : decode cX6_isEnd 62 = .ok (.if_icmp .ne 7, 3) := by decide +kernel
theorem dX6_isEnd_65 : decode cX6_isEnd 65 = .ok (.iconst 1, 1) := by decide +kernel
theorem dX6_isEnd_66 : decode cX6_isEnd 66 = .ok (.goto 4, 3) := by decide +kernel
theorem dX6_isEnd_69 : decode cX6_isEnd 69 = .ok (.iconst 0, 1) := by decide +kernel
theorem dX6_isEnd_70 : decode cX6_isEnd 70 = .ok (.istore_n 2, 1) := by decide +kernel
theorem dX6_isEnd_71 : decode cX6_isEnd 71 = .ok (.iinc 3 1, 3) := by decide +kernel
theorem dX6_isEnd_74 : decode cX6_isEnd 74 = .ok (.goto (-48), 3) := by decide +kernel
theorem dX6_isEnd_77 : decode cX6_isEnd 77 = .ok (.iload_n 2, 1) := by decide +kernel
theorem dX6_isEnd_78 : decode cX6_isEnd 78 = .ok (.ireturn, 1) := by decide +kernel
theorem dX6_least_0 : decode cX6_least 0 = .ok (.aload_n 0, 1) := by decide +kernel
theorem dX6_least_1 : decode cX6_least 1 = .ok (.aload_n 0, 1) := by decide +kernel
theorem dX6_least_2 : decode cX6_least 2 = .ok (.getfield 80, 3) := by decide +kernel
theorem dX6_least_5 : decode cX6_least 5 = .ok (.invokevirtual 154, 3) := by decide +kernel
theorem dX6_least_8 : decode cX6_least 8 = .ok (.aload_n 0, 1) := by decide +kernel
theorem dX6_least_9 : decode cX6_least 9 = .ok (.getfield 26, 3) := by decide +kernel
theorem dX6_least_12 : decode cX6_least 12 = .ok (.iconst 1, 1) := by decide +kernel
theorem dX6_least_13 : decode cX6_least 13 = .ok (.isub, 1) := by decide +kernel
theorem dX6_least_14 : decode cX6_least 14 = .ok (.istore_n 2, 1) := by decide +kernel
theorem dX6_least_15 : decode cX6_least 15 = .ok (.iload_n 2, 1) := by decide +kernel
theorem dX6_least_16 : decode cX6_least 16 = .ok (.ifCond .lt 20, 3) := by decide +kernel
theorem dX6_least_19 : decode cX6_least 19 = .ok (.aload_n 0, 1) := by decide +kernel
theorem dX6_least_20 : decode cX6_least 20 = .ok (.iload_n 1, 1) := by decide +kernel
theorem dX6_least_21 : decode cX6_least 21 = .ok (.aload_n 0, 1) := by decide +kernel
theorem dX6_least_22 : decode cX6_least 22 = .ok (.getfield 29, 3) := by decide +kernel
theorem dX6_least_25 : decode cX6_least 25 = .ok (.iload_n 2, 1) := by decide +kernel
theorem dX6_least_26 : decode cX6_least 26 = .ok (.iaload, 1) := by decide +kernel
theorem dX6_least_27 : decode cX6_least 27 = .ok (.invokevirtual 157, 3) := by decide +kernel
theorem dX6_least_30 : decode cX6_least 30 = .ok (.iinc 2 (-1), 3) := by decide +kernel
theorem dX6_least_33 : decode cX6_least 33 = .ok (.goto (-18), 3) := by decide +kernel
theorem dX6_least_36 : decode cX6_least 36 = .ok (.iconst (-1), 1) := by decide +kernel
theorem dX6_least_37 : decode cX6_least 37 = .ok (.istore_n 2, 1) := by decide +kernel
theorem dX6_least_38 : decode cX6_least 38 = .ok (.iconst 0, 1) := by decide +kernel
theorem dX6_least_39 : decode cX6_least 39 = .ok (.istore_n 3, 1) := by decide +kernel
theorem dX6_least_40 : decode cX6_least 40 = .ok (.iload_n 3, 1) := by decide +kernel
theorem dX6_least_41 : decode cX6_least 41 = .ok (.bipush 13, 2) := by decide +kernel
theorem dX6_least_43 : decode cX6_least 43 = .ok (.if_icmp .ge 41, 3) := by decide +kernel
theorem dX6_least_46 : decode cX6_least 46 = .ok (.aload_n 0, 1) := by decide +kernel
theorem dX6_least_47 : decode cX6_least 47 = .ok (.iload_n 3, 1) := by decide +kernel
theorem dX6_least_48 : decode cX6_least 48 = .ok (.invokevirtual 167, 3) := by decide +kernel
theorem dX6_least_51 : decode cX6_least 51 = .ok (.ifCond .eq 25, 3) := by decide +kernel
theorem dX6_least_54 : decode cX6_least 54 = .ok (.aload_n 0, 1) := by decide +kernel
theorem dX6_least_55 : decode cX6_least 55 = .ok (.getfield 44, 3) := by decide +kernel
theorem dX6_least_58 : decode cX6_least 58 = .ok (.iload_n 3, 1) := by decide +kernel
theorem dX6_least_59 : decode cX6_least 59 = .ok (.iaload, 1) := by decide +kernel
theorem dX6_least_60 : decode cX6_least 60 = .ok (.ifCond .lt 16, 3) := by decide +kernel
theorem dX6_least_63 : decode cX6_least 63 = .ok (.iload_n 2, 1) := by decide +kernel
theorem dX6_least_64 : decode cX6_least 64 = .ok (.aload_n 0, 1) := by decide +kernel
theorem dX6_least_65 : decode cX6_least 65 = .ok (.getfield 44, 3) := by decide +kernel
theorem dX6_least_68 : decode cX6_least 68 = .ok (.iload_n 3, 1) := by decide +kernel
theorem dX6_least_69 : decode cX6_least 69 = .ok (.iaload, 1) := by decide +kernel
theorem dX6_least_70 : decode cX6_least 70 = .ok (.invokestatic 150, 3) := by decide +kernel
theorem dX6_least_73 : decode cX6_least 73 = .ok (.goto 4, 3) := by decide +kernel
theorem dX6_least_76 : decode cX6_least 76 = .ok (.iload_n 2, 1) := by decide +kernel
theorem dX6_least_77 : decode cX6_least 77 = .ok (.istore_n 2, 1) := by decide +kernel
theorem dX6_least_78 : decode cX6_least 78 = .ok (.iinc 3 1, 3) := by decide +kernel
theorem dX6_least_81 : decode cX6_least 81 = .ok (.goto (-41), 3) := by decide +kernel
theorem dX6_least_84 : decode cX6_least 84 = .ok (.iload_n 2, 1) := by decide +kernel
theorem dX6_least_85 : decode cX6_least 85 = .ok (.ifCond .ge 8, 3) := by decide +kernel
theorem dX6_least_88 : decode cX6_least 88 = .ok (.bipush (-4), 2) := by decide +kernel
theorem dX6_least_90 : decode cX6_least 90 = .ok (.goto 4, 3) := by decide +kernel
theorem dX6_least_93 : decode cX6_least 93 = .ok (.iload_n 2, 1) := by decide +kernel
theorem dX6_least_94 : decode cX6_least 94 = .ok (.ireturn, 1) := by decide +kernel
theorem dX6_priceWithout_0 : decode cX6_priceWithout 0 = .ok (.aload_n 0, 1) := by decide +kernel
theorem dX6_priceWithout_1 : decode cX6_priceWithout 1 = .ok (.aload_n 0, 1) := by decide +kernel
theorem dX6_priceWithout_2 : decode cX6_priceWithout 2 = .ok (.getfield 83, 3) := by decide +kernel
theorem dX6_priceWithout_5 : decode cX6_priceWithout 5 = .ok (.iload_n 1, 1) := by decide +kernel
theorem dX6_priceWithout_6 : decode cX6_priceWithout 6 = .ok (.invokevirtual 170, 3) := by decide +kernel
theorem dX6_priceWithout_9 : decode cX6_priceWithout 9 = .ok (.aload_n 0, 1) := by decide +kernel
theorem dX6_priceWithout_10 : decode cX6_priceWithout 10 = .ok (.aload_n 0, 1) := by decide +kernel
theorem dX6_priceWithout_11 : decode cX6_priceWithout 11 = .ok (.getfield 83, 3) := by decide +kernel
theorem dX6_priceWithout_14 : decode cX6_priceWithout 14 = .ok (.invokevirtual 173, 3) := by decide +kernel
theorem dX6_priceWithout_17 : decode cX6_priceWithout 17 = .ok (.ireturn, 1) := by decide +kernel
theorem dX6_price_0 : decode cX6_price 0 = .ok (.aload_n 0, 1) := by decide +kernel
theorem dX6_price_1 : decode cX6_price 1 = .ok (.bipush (-4), 2) := by decide +kernel
theorem dX6_price_3 : decode cX6_price 3 = .ok (.invokevirtual 177, 3) := by decide +kernel
theorem dX6_price_6 : decode cX6_price 6 = .ok (.ireturn, 1) := by decide +kernel
theorem dX6_edge_0 : decode cX6_edge 0 = .ok (.aload_n 0, 1) := by decide +kernel
theorem dX6_edge_1 : decode cX6_edge 1 = .ok (.invokevirtual 161, 3) := by decide +kernel
theorem dX6_edge_4 : decode cX6_edge 4 = .ok (.iload_n 1, 1) := by decide +kernel
theorem dX6_edge_5 : decode cX6_edge 5 = .ok (.iconst 0, 1) := by decide +kernel
theorem dX6_edge_6 : decode cX6_edge 6 = .ok (.aload_n 0, 1) := by decide +kernel
theorem dX6_edge_7 : decode cX6_edge 7 = .ok (.getfield 127, 3) := by decide +kernel
theorem dX6_edge_10 : decode cX6_edge 10 = .ok (.iconst 1, 1) := by decide +kernel
theorem dX6_edge_11 : decode cX6_edge 11 = .ok (.isub, 1) := by decide +kernel
theorem dX6_edge_12 : decode cX6_edge 12 = .ok (.invokestatic 99, 3) := by decide +kernel
theorem dX6_edge_15 : decode cX6_edge 15 = .ok (.ifCond .eq 24, 3) := by decide +kernel
theorem dX6_edge_18 : decode cX6_edge 18 = .ok (.iload_n 2, 1) := by decide +kernel
theorem dX6_edge_19 : decode cX6_edge 19 = .ok (.invokestatic 107, 3) := by decide +kernel
theorem dX6_edge_22 : decode cX6_edge 22 = .ok (.ifCond .eq 17, 3) := by decide +kernel
theorem dX6_edge_25 : decode cX6_edge 25 = .ok (.iload_n 3, 1) := by decide +kernel
theorem dX6_edge_26 : decode cX6_edge 26 = .ok (.iconst 0, 1) := by decide +kernel
theorem dX6_edge_27 : decode cX6_edge 27 = .ok (.aload_n 0, 1) := by decide +kernel
theorem dX6_edge_28 : decode cX6_edge 28 = .ok (.getfield 127, 3) := by decide +kernel
theorem dX6_edge_31 : decode cX6_edge 31 = .ok (.iconst 1, 1) := by decide +kernel
theorem dX6_edge_32 : decode cX6_edge 32 = .ok (.isub, 1) := by decide +kernel
theorem dX6_edge_33 : decode cX6_edge 33 = .ok (.invokestatic 99, 3) := by decide +kernel
theorem dX6_edge_36 : decode cX6_edge 36 = .ok (.ifCond .ne 5, 3) := by decide +kernel
theorem dX6_edge_39 : decode cX6_edge 39 = .ok (.iconst (-1), 1) := by decide +kernel
theorem dX6_edge_40 : decode cX6_edge 40 = .ok (.ireturn, 1) := by decide +kernel
theorem dX6_edge_41 : decode cX6_edge 41 = .ok (.aload_n 0, 1) := by decide +kernel
theorem dX6_edge_42 : decode cX6_edge 42 = .ok (.aload_n 0, 1) := by decide +kernel
theorem dX6_edge_43 : decode cX6_edge 43 = .ok (.getfield 83, 3) := by decide +kernel
theorem dX6_edge_46 : decode cX6_edge 46 = .ok (.bipush (-4), 2) := by decide +kernel
theorem dX6_edge_48 : decode cX6_edge 48 = .ok (.invokevirtual 170, 3) := by decide +kernel
theorem dX6_edge_51 : decode cX6_edge 51 = .ok (.aload_n 0, 1) := by decide +kernel
theorem dX6_edge_52 : decode cX6_edge 52 = .ok (.getfield 38, 3) := by decide +kernel
theorem dX6_edge_55 : decode cX6_edge 55 = .ok (.iload_n 1, 1) := by decide +kernel
theorem dX6_edge_56 : decode cX6_edge 56 = .ok (.iload_n 2, 1) := by decide +kernel
theorem dX6_edge_57 : decode cX6_edge 57 = .ok (.iload_n 3, 1) := by decide +kernel
theorem dX6_edge_58 : decode cX6_edge 58 = .ok (.invokestatic 130, 3) := by decide +kernel
theorem dX6_edge_61 : decode cX6_edge 61 = .ok (.iaload, 1) := by decide +kernel
theorem dX6_edge_62 : decode cX6_edge 62 = .ok (.istore 4, 2) := by decide +kernel
theorem dX6_edge_64 : decode cX6_edge 64 = .ok (.iload 4, 2) := by decide +kernel
theorem dX6_edge_66 : decode cX6_edge 66 = .ok (.ifCond .ge 8, 3) := by decide +kernel
theorem dX6_edge_69 : decode cX6_edge 69 = .ok (.bipush (-4), 2) := by decide +kernel
theorem dX6_edge_71 : decode cX6_edge 71 = .ok (.goto 5, 3) := by decide +kernel
theorem dX6_edge_74 : decode cX6_edge 74 = .ok (.iload 4, 2) := by decide +kernel
theorem dX6_edge_76 : decode cX6_edge 76 = .ok (.ireturn, 1) := by decide +kernel
theorem dX6_automaton_0 : decode cX6_automaton 0 = .ok (.iload_n 1, 1) := by decide +kernel
theorem dX6_automaton_1 : decode cX6_automaton 1 = .ok (.iconst 0, 1) := by decide +kernel
theorem dX6_automaton_2 : decode cX6_automaton 2 = .ok (.iconst 3, 1) := by decide +kernel
theorem dX6_automaton_3 : decode cX6_automaton 3 = .ok (.invokestatic 99, 3) := by decide +kernel
theorem dX6_automaton_6 : decode cX6_automaton 6 = .ok (.ifCond .ne 5, 3) := by decide +kernel
theorem dX6_automaton_9 : decode cX6_automaton 9 = .ok (.iconst (-1), 1) := by decide +kernel
theorem dX6_automaton_10 : decode cX6_automaton 10 = .ok (.ireturn, 1) := by decide +kernel
theorem dX6_automaton_11 : decode cX6_automaton 11 = .ok (.aload_n 0, 1) := by decide +kernel
theorem dX6_automaton_12 : decode cX6_automaton 12 = .ok (.aload_n 0, 1) := by decide +kernel
theorem dX6_automaton_13 : decode cX6_automaton 13 = .ok (.getfield 83, 3) := by decide +kernel
theorem dX6_automaton_16 : decode cX6_automaton 16 = .ok (.bipush (-4), 2) := by decide +kernel
theorem dX6_automaton_18 : decode cX6_automaton 18 = .ok (.invokevirtual 170, 3) := by decide +kernel
theorem dX6_automaton_21 : decode cX6_automaton 21 = .ok (.iload_n 1, 1) := by decide +kernel
theorem dX6_automaton_22 : decode cX6_automaton 22 = .ok (.ifCond .ne 10, 3) := by decide +kernel
theorem dX6_automaton_25 : decode cX6_automaton 25 = .ok (.aload_n 0, 1) := by decide +kernel
theorem dX6_automaton_26 : decode cX6_automaton 26 = .ok (.getfield 127, 3) := by decide +kernel
theorem dX6_automaton_29 : decode cX6_automaton 29 = .ok (.goto 31, 3) := by decide +kernel
theorem dX6_automaton_32 : decode cX6_automaton 32 = .ok (.iload_n 1, 1) := by decide +kernel
theorem dX6_automaton_33 : decode cX6_automaton 33 = .ok (.iconst 1, 1) := by decide +kernel
theorem dX6_automaton_34 : decode cX6_automaton 34 = .ok (.if_icmp .ne 10, 3) := by decide +kernel
theorem dX6_automaton_37 : decode cX6_automaton 37 = .ok (.aload_n 0, 1) := by decide +kernel
theorem dX6_automaton_38 : decode cX6_automaton 38 = .ok (.getfield 141, 3) := by decide +kernel
theorem dX6_automaton_41 : decode cX6_automaton 41 = .ok (.goto 19, 3) := by decide +kernel
theorem dX6_automaton_44 : decode cX6_automaton 44 = .ok (.iload_n 1, 1) := by decide +kernel
theorem dX6_automaton_45 : decode cX6_automaton 45 = .ok (.iconst 2, 1) := by decide +kernel
theorem dX6_automaton_46 : decode cX6_automaton 46 = .ok (.if_icmp .ne 10, 3) := by decide +kernel
theorem dX6_automaton_49 : decode cX6_automaton 49 = .ok (.aload_n 0, 1) := by decide +kernel
theorem dX6_automaton_50 : decode cX6_automaton 50 = .ok (.invokevirtual 137, 3) := by decide +kernel
theorem dX6_automaton_53 : decode cX6_automaton 53 = .ok (.goto 7, 3) := by decide +kernel
theorem dX6_automaton_56 : decode cX6_automaton 56 = .ok (.aload_n 0, 1) := by decide +kernel
theorem dX6_automaton_57 : decode cX6_automaton 57 = .ok (.getfield 144, 3) := by decide +kernel
theorem dX6_automaton_60 : decode cX6_automaton 60 = .ok (.ireturn, 1) := by decide +kernel
theorem dX6_needed_0 : decode cX6_needed 0 = .ok (.iconst 0, 1) := by decide +kernel
theorem dX6_needed_1 : decode cX6_needed 1 = .ok (.istore_n 1, 1) := by decide +kernel
theorem dX6_needed_2 : decode cX6_needed 2 = .ok (.aload_n 0, 1) := by decide +kernel
theorem dX6_needed_3 : decode cX6_needed 3 = .ok (.invokevirtual 180, 3) := by decide +kernel
theorem dX6_needed_6 : decode cX6_needed 6 = .ok (.bipush (-4), 2) := by decide +kernel
theorem dX6_needed_8 : decode cX6_needed 8 = .ok (.if_icmp .eq 39, 3) := by decide +kernel
theorem dX6_needed_11 : decode cX6_needed 11 = .ok (.iconst 0, 1) := by decide +kernel
theorem dX6_needed_12 : decode cX6_needed 12 = .ok (.istore_n 2, 1) := by decide +kernel
theorem dX6_needed_13 : decode cX6_needed 13 = .ok (.iload_n 2, 1) := by decide +kernel
theorem dX6_needed_14 : decode cX6_needed 14 = .ok (.aload_n 0, 1) := by decide +kernel
theorem dX6_needed_15 : decode cX6_needed 15 = .ok (.getfield 13, 3) := by decide +kernel
theorem dX6_needed_18 : decode cX6_needed 18 = .ok (.if_icmp .ge 29, 3) := by decide +kernel
theorem dX6_needed_21 : decode cX6_needed 21 = .ok (.iload_n 1, 1) := by decide +kernel
theorem dX6_needed_22 : decode cX6_needed 22 = .ok (.aload_n 0, 1) := by decide +kernel
theorem dX6_needed_23 : decode cX6_needed 23 = .ok (.iload_n 2, 1) := by decide +kernel
theorem dX6_needed_24 : decode cX6_needed 24 = .ok (.invokevirtual 177, 3) := by decide +kernel
theorem dX6_needed_27 : decode cX6_needed 27 = .ok (.bipush (-4), 2) := by decide +kernel
theorem dX6_needed_29 : decode cX6_needed 29 = .ok (.if_icmp .ne 9, 3) := by decide +kernel
theorem dX6_needed_32 : decode cX6_needed 32 = .ok (.iconst 1, 1) := by decide +kernel
theorem dX6_needed_33 : decode cX6_needed 33 = .ok (.iload_n 2, 1) := by decide +kernel
theorem dX6_needed_34 : decode cX6_needed 34 = .ok (.ishl, 1) := by decide +kernel
theorem dX6_needed_35 : decode cX6_needed 35 = .ok (.goto 4, 3) := by decide +kernel
theorem dX6_needed_38 : decode cX6_needed 38 = .ok (.iconst 0, 1) := by decide +kernel
theorem dX6_needed_39 : decode cX6_needed 39 = .ok (.ior, 1) := by decide +kernel
theorem dX6_needed_40 : decode cX6_needed 40 = .ok (.istore_n 1, 1) := by decide +kernel
theorem dX6_needed_41 : decode cX6_needed 41 = .ok (.iinc 2 1, 3) := by decide +kernel
theorem dX6_needed_44 : decode cX6_needed 44 = .ok (.goto (-31), 3) := by decide +kernel
theorem dX6_needed_47 : decode cX6_needed 47 = .ok (.iload_n 1, 1) := by decide +kernel
theorem dX6_needed_48 : decode cX6_needed 48 = .ok (.ireturn, 1) := by decide +kernel
theorem dX6_dear_0 : decode cX6_dear 0 = .ok (.aload_n 0, 1) := by decide +kernel
theorem dX6_dear_1 : decode cX6_dear 1 = .ok (.iload_n 1, 1) := by decide +kernel
theorem dX6_dear_2 : decode cX6_dear 2 = .ok (.invokevirtual 103, 3) := by decide +kernel
theorem dX6_dear_5 : decode cX6_dear 5 = .ok (.ifCond .ne 5, 3) := by decide +kernel
theorem dX6_dear_8 : decode cX6_dear 8 = .ok (.iconst (-1), 1) := by decide +kernel
theorem dX6_dear_9 : decode cX6_dear 9 = .ok (.ireturn, 1) := by decide +kernel
theorem dX6_dear_10 : decode cX6_dear 10 = .ok (.aload_n 0, 1) := by decide +kernel
theorem dX6_dear_11 : decode cX6_dear 11 = .ok (.invokevirtual 180, 3) := by decide +kernel
theorem dX6_dear_14 : decode cX6_dear 14 = .ok (.istore_n 2, 1) := by decide +kernel
theorem dX6_dear_15 : decode cX6_dear 15 = .ok (.iload_n 2, 1) := by decide +kernel
theorem dX6_dear_16 : decode cX6_dear 16 = .ok (.bipush (-4), 2) := by decide +kernel
theorem dX6_dear_18 : decode cX6_dear 18 = .ok (.if_icmp .ne 6, 3) := by decide +kernel
theorem dX6_dear_21 : decode cX6_dear 21 = .ok (.bipush (-4), 2) := by decide +kernel
theorem dX6_dear_23 : decode cX6_dear 23 = .ok (.ireturn, 1) := by decide +kernel
theorem dX6_dear_24 : decode cX6_dear 24 = .ok (.aload_n 0, 1) := by decide +kernel
theorem dX6_dear_25 : decode cX6_dear 25 = .ok (.getfield 16, 3) := by decide +kernel
theorem dX6_dear_28 : decode cX6_dear 28 = .ok (.bipush 7, 2) := by decide +kernel
theorem dX6_dear_30 : decode cX6_dear 30 = .ok (.iload_n 1, 1) := by decide +kernel
theorem dX6_dear_31 : decode cX6_dear 31 = .ok (.imul, 1) := by decide +kernel
theorem dX6_dear_32 : decode cX6_dear 32 = .ok (.bipush 6, 2) := by decide +kernel
theorem dX6_dear_34 : decode cX6_dear 34 = .ok (.iadd, 1) := by decide +kernel
theorem dX6_dear_35 : decode cX6_dear 35 = .ok (.iaload, 1) := by decide +kernel
theorem dX6_dear_36 : decode cX6_dear 36 = .ok (.istore_n 3, 1) := by decide +kernel
theorem dX6_dear_37 : decode cX6_dear 37 = .ok (.bipush 9, 2) := by decide +kernel
theorem dX6_dear_39 : decode cX6_dear 39 = .ok (.istore 4, 2) := by decide +kernel
theorem dX6_dear_41 : decode cX6_dear 41 = .ok (.aload_n 0, 1) := by decide +kernel
theorem dX6_dear_42 : decode cX6_dear 42 = .ok (.getfield 16, 3) := by decide +kernel
theorem dX6_dear_45 : decode cX6_dear 45 = .ok (.bipush 7, 2) := by decide +kernel
theorem dX6_dear_47 : decode cX6_dear 47 = .ok (.iload_n 1, 1) := by decide +kernel
theorem dX6_dear_48 : decode cX6_dear 48 = .ok (.imul, 1) := by decide +kernel
theorem dX6_dear_49 : decode cX6_dear 49 = .ok (.bipush 6, 2) := by decide +kernel
theorem dX6_dear_51 : decode cX6_dear 51 = .ok (.iadd, 1) := by decide +kernel
theorem dX6_dear_52 : decode cX6_dear 52 = .ok (.bipush 9, 2) := by decide +kernel
theorem dX6_dear_54 : decode cX6_dear 54 = .ok (.iastore, 1) := by decide +kernel
theorem dX6_dear_55 : decode cX6_dear 55 = .ok (.iload 4, 2) := by decide +kernel
theorem dX6_dear_57 : decode cX6_dear 57 = .ok (.iload_n 3, 1) := by decide +kernel
theorem dX6_dear_58 : decode cX6_dear 58 = .ok (.if_icmp .le 31, 3) := by decide +kernel
theorem dX6_dear_61 : decode cX6_dear 61 = .ok (.aload_n 0, 1) := by decide +kernel
theorem dX6_dear_62 : decode cX6_dear 62 = .ok (.invokevirtual 180, 3) := by decide +kernel
theorem dX6_dear_65 : decode cX6_dear 65 = .ok (.iload_n 2, 1) := by decide +kernel
theorem dX6_dear_66 : decode cX6_dear 66 = .ok (.if_icmp .eq 23, 3) := by decide +kernel
theorem dX6_dear_69 : decode cX6_dear 69 = .ok (.iinc 4 (-1), 3) := by decide +kernel
theorem dX6_dear_72 : decode cX6_dear 72 = .ok (.aload_n 0, 1) := by decide +kernel
theorem dX6_dear_73 : decode cX6_dear 73 = .ok (.getfield 16, 3) := by decide +kernel
theorem dX6_dear_76 : decode cX6_dear 76 = .ok (.bipush 7, 2) := by decide +kernel
theorem dX6_dear_78 : decode cX6_dear 78 = .ok (.iload_n 1, 1) := by decide +kernel
theorem dX6_dear_79 : decode cX6_dear 79 = .ok (.imul, 1) := by decide +kernel
theorem dX6_dear_80 : decode cX6_dear 80 = .ok (.bipush 6, 2) := by decide +kernel
theorem dX6_dear_82 : decode cX6_dear 82 = .ok (.iadd, 1) := by decide +kernel
theorem dX6_dear_83 : decode cX6_dear 83 = .ok (.iload 4, 2) := by decide +kernel
theorem dX6_dear_85 : decode cX6_dear 85 = .ok (.iastore, 1) := by decide +kernel
theorem dX6_dear_86 : decode cX6_dear 86 = .ok (.goto (-31), 3) := by decide +kernel
theorem dX6_dear_89 : decode cX6_dear 89 = .ok (.aload_n 0, 1) := by decide +kernel
theorem dX6_dear_90 : decode cX6_dear 90 = .ok (.getfield 16, 3) := by decide +kernel
theorem dX6_dear_93 : decode cX6_dear 93 = .ok (.bipush 7, 2) := by decide +kernel
theorem dX6_dear_95 : decode cX6_dear 95 = .ok (.iload_n 1, 1) := by decide +kernel
theorem dX6_dear_96 : decode cX6_dear 96 = .ok (.imul, 1) := by decide +kernel
theorem dX6_dear_97 : decode cX6_dear 97 = .ok (.bipush 6, 2) := by decide +kernel
theorem dX6_dear_99 : decode cX6_dear 99 = .ok (.iadd, 1) := by decide +kernel
theorem dX6_dear_100 : decode cX6_dear 100 = .ok (.iload_n 3, 1) := by decide +kernel
theorem dX6_dear_101 : decode cX6_dear 101 = .ok (.iastore, 1) := by decide +kernel
theorem dX6_dear_102 : decode cX6_dear 102 = .ok (.iload 4, 2) := by decide +kernel
theorem dX6_dear_104 : decode cX6_dear 104 = .ok (.ireturn, 1) := by decide +kernel
theorem dX6_goesBy_0 : decode cX6_goesBy 0 = .ok (.iconst 0, 1) := by decide +kernel
theorem dX6_goesBy_1 : decode cX6_goesBy 1 = .ok (.istore_n 2, 1) := by decide +kernel
theorem dX6_goesBy_2 : decode cX6_goesBy 2 = .ok (.iload_n 2, 1) := by decide +kernel
theorem dX6_goesBy_3 : decode cX6_goesBy 3 = .ok (.bipush 13, 2) := by decide +kernel
theorem dX6_goesBy_5 : decode cX6_goesBy 5 = .ok (.if_icmp .ge 81, 3) := by decide +kernel
theorem dX6_goesBy_8 : decode cX6_goesBy 8 = .ok (.aload_n 0, 1) := by decide +kernel
theorem dX6_goesBy_9 : decode cX6_goesBy 9 = .ok (.getfield 59, 3) := by decide +kernel
theorem dX6_goesBy_12 : decode cX6_goesBy 12 = .ok (.iload_n 2, 1) := by decide +kernel
theorem dX6_goesBy_13 : decode cX6_goesBy 13 = .ok (.iconst (-1), 1) := by decide +kernel
theorem dX6_goesBy_14 : decode cX6_goesBy 14 = .ok (.iastore, 1) := by decide +kernel
theorem dX6_goesBy_15 : decode cX6_goesBy 15 = .ok (.iconst 0, 1) := by decide +kernel
theorem dX6_goesBy_16 : decode cX6_goesBy 16 = .ok (.istore_n 3, 1) := by decide +kernel
theorem dX6_goesBy_17 : decode cX6_goesBy 17 = .ok (.iload_n 3, 1) := by decide +kernel
theorem dX6_goesBy_18 : decode cX6_goesBy 18 = .ok (.bipush 13, 2) := by decide +kernel
theorem dX6_goesBy_20 : decode cX6_goesBy 20 = .ok (.if_icmp .ge 60, 3) := by decide +kernel
theorem dX6_goesBy_23 : decode cX6_goesBy 23 = .ok (.aload_n 0, 1) := by decide +kernel
theorem dX6_goesBy_24 : decode cX6_goesBy 24 = .ok (.getfield 38, 3) := by decide +kernel
theorem dX6_goesBy_27 : decode cX6_goesBy 27 = .ok (.iload_n 2, 1) := by decide +kernel
theorem dX6_goesBy_28 : decode cX6_goesBy 28 = .ok (.iload_n 1, 1) := by decide +kernel
theorem dX6_goesBy_29 : decode cX6_goesBy 29 = .ok (.iload_n 3, 1) := by decide +kernel
theorem dX6_goesBy_30 : decode cX6_goesBy 30 = .ok (.invokestatic 130, 3) := by decide +kernel
theorem dX6_goesBy_33 : decode cX6_goesBy 33 = .ok (.iaload, 1) := by decide +kernel
theorem dX6_goesBy_34 : decode cX6_goesBy 34 = .ok (.istore 4, 2) := by decide +kernel
theorem dX6_goesBy_36 : decode cX6_goesBy 36 = .ok (.iload 4, 2) := by decide +kernel
theorem dX6_goesBy_38 : decode cX6_goesBy 38 = .ok (.ifCond .lt 36, 3) := by decide +kernel
theorem dX6_goesBy_41 : decode cX6_goesBy 41 = .ok (.aload_n 0, 1) := by decide +kernel
theorem dX6_goesBy_42 : decode cX6_goesBy 42 = .ok (.getfield 56, 3) := by decide +kernel
theorem dX6_goesBy_45 : decode cX6_goesBy 45 = .ok (.iload_n 3, 1) := by decide +kernel
theorem dX6_goesBy_46 : decode cX6_goesBy 46 = .ok (.iaload, 1) := by decide +kernel
theorem dX6_goesBy_47 : decode cX6_goesBy 47 = .ok (.ifCond .lt 27, 3) := by decide +kernel
theorem dX6_goesBy_50 : decode cX6_goesBy 50 = .ok (.aload_n 0, 1) := by decide +kernel
theorem dX6_goesBy_51 : decode cX6_goesBy 51 = .ok (.getfield 59, 3) := by decide +kernel
theorem dX6_goesBy_54 : decode cX6_goesBy 54 = .ok (.iload_n 2, 1) := by decide +kernel
theorem dX6_goesBy_55 : decode cX6_goesBy 55 = .ok (.aload_n 0, 1) := by decide +kernel
theorem dX6_goesBy_56 : decode cX6_goesBy 56 = .ok (.getfield 59, 3) := by decide +kernel
theorem dX6_goesBy_59 : decode cX6_goesBy 59 = .ok (.iload_n 2, 1) := by decide +kernel
theorem dX6_goesBy_60 : decode cX6_goesBy 60 = .ok (.iaload, 1) := by decide +kernel
theorem dX6_goesBy_61 : decode cX6_goesBy 61 = .ok (.iload 4, 2) := by decide +kernel
theorem dX6_goesBy_63 : decode cX6_goesBy 63 = .ok (.aload_n 0, 1) := by decide +kernel
theorem dX6_goesBy_64 : decode cX6_goesBy 64 = .ok (.getfield 56, 3) := by decide +kernel
theorem dX6_goesBy_67 : decode cX6_goesBy 67 = .ok (.iload_n 3, 1) := by decide +kernel
theorem dX6_goesBy_68 : decode cX6_goesBy 68 = .ok (.iaload, 1) := by decide +kernel
theorem dX6_goesBy_69 : decode cX6_goesBy 69 = .ok (.iadd, 1) := by decide +kernel
theorem dX6_goesBy_70 : decode cX6_goesBy 70 = .ok (.invokestatic 150, 3) := by decide +kernel
theorem dX6_goesBy_73 : decode cX6_goesBy 73 = .ok (.iastore, 1) := by decide +kernel
theorem dX6_goesBy_74 : decode cX6_goesBy 74 = .ok (.iinc 3 1, 3) := by decide +kernel
theorem dX6_goesBy_77 : decode cX6_goesBy 77 = .ok (.goto (-60), 3) := by decide +kernel
theorem dX6_goesBy_80 : decode cX6_goesBy 80 = .ok (.iinc 2 1, 3) := by decide +kernel
theorem dX6_goesBy_83 : decode cX6_goesBy 83 = .ok (.goto (-81), 3) := by decide +kernel
theorem dX6_goesBy_86 : decode cX6_goesBy 86 = .ok (.iconst 0, 1) := by decide +kernel
theorem dX6_goesBy_87 : decode cX6_goesBy 87 = .ok (.istore_n 2, 1) := by decide +kernel
theorem dX6_goesBy_88 : decode cX6_goesBy 88 = .ok (.iload_n 2, 1) := by decide +kernel
theorem dX6_goesBy_89 : decode cX6_goesBy 89 = .ok (.bipush 13, 2) := by decide +kernel
theorem dX6_goesBy_91 : decode cX6_goesBy 91 = .ok (.if_icmp .ge 21, 3) := by decide +kernel
theorem dX6_goesBy_94 : decode cX6_goesBy 94 = .ok (.aload_n 0, 1) := by decide +kernel
theorem dX6_goesBy_95 : decode cX6_goesBy 95 = .ok (.getfield 56, 3) := by decide +kernel
theorem dX6_goesBy_98 : decode cX6_goesBy 98 = .ok (.iload_n 2, 1) := by decide +kernel
theorem dX6_goesBy_99 : decode cX6_goesBy 99 = .ok (.aload_n 0, 1) := by decide +kernel
theorem dX6_goesBy_100 : decode cX6_goesBy 100 = .ok (.getfield 59, 3) := by decide +kernel
theorem dX6_goesBy_103 : decode cX6_goesBy 103 = .ok (.iload_n 2, 1) := by decide +kernel
theorem dX6_goesBy_104 : decode cX6_goesBy 104 = .ok (.iaload, 1) := by decide +kernel
theorem dX6_goesBy_105 : decode cX6_goesBy 105 = .ok (.iastore, 1) := by decide +kernel
theorem dX6_goesBy_106 : decode cX6_goesBy 106 = .ok (.iinc 2 1, 3) := by decide +kernel
theorem dX6_goesBy_109 : decode cX6_goesBy 109 = .ok (.goto (-21), 3) := by decide +kernel
theorem dX6_goesBy_112 : decode cX6_goesBy 112 = .ok (.return_, 1) := by decide +kernel
theorem dX6_standsOn_0 : decode cX6_standsOn 0 = .ok (.iconst 0, 1) := by decide +kernel
theorem dX6_standsOn_1 : decode cX6_standsOn 1 = .ok (.istore_n 2, 1) := by decide +kernel
theorem dX6_standsOn_2 : decode cX6_standsOn 2 = .ok (.iload_n 2, 1) := by decide +kernel
theorem dX6_standsOn_3 : decode cX6_standsOn 3 = .ok (.bipush 13, 2) := by decide +kernel
theorem dX6_standsOn_5 : decode cX6_standsOn 5 = .ok (.if_icmp .ge 26, 3) := by decide +kernel
theorem dX6_standsOn_8 : decode cX6_standsOn 8 = .ok (.aload_n 0, 1) := by decide +kernel
theorem dX6_standsOn_9 : decode cX6_standsOn 9 = .ok (.getfield 56, 3) := by decide +kernel
theorem dX6_standsOn_12 : decode cX6_standsOn 12 = .ok (.iload_n 2, 1) := by decide +kernel
theorem dX6_standsOn_13 : decode cX6_standsOn 13 = .ok (.aload_n 0, 1) := by decide +kernel
theorem dX6_standsOn_14 : decode cX6_standsOn 14 = .ok (.getfield 53, 3) := by decide +kernel
theorem dX6_standsOn_17 : decode cX6_standsOn 17 = .ok (.bipush 13, 2) := by decide +kernel
theorem dX6_standsOn_19 : decode cX6_standsOn 19 = .ok (.iload_n 1, 1) := by decide +kernel
theorem dX6_standsOn_20 : decode cX6_standsOn 20 = .ok (.imul, 1) := by decide +kernel
theorem dX6_standsOn_21 : decode cX6_standsOn 21 = .ok (.iload_n 2, 1) := by decide +kernel
theorem dX6_standsOn_22 : decode cX6_standsOn 22 = .ok (.iadd, 1) := by decide +kernel
theorem dX6_standsOn_23 : decode cX6_standsOn 23 = .ok (.iaload, 1) := by decide +kernel
theorem dX6_standsOn_24 : decode cX6_standsOn 24 = .ok (.iastore, 1) := by decide +kernel
theorem dX6_standsOn_25 : decode cX6_standsOn 25 = .ok (.iinc 2 1, 3) := by decide +kernel
theorem dX6_standsOn_28 : decode cX6_standsOn 28 = .ok (.goto (-26), 3) := by decide +kernel
theorem dX6_standsOn_31 : decode cX6_standsOn 31 = .ok (.return_, 1) := by decide +kernel
theorem dX6_puts_0 : decode cX6_puts 0 = .ok (.aload_n 0, 1) := by decide +kernel
theorem dX6_puts_1 : decode cX6_puts 1 = .ok (.aload_n 0, 1) := by decide +kernel
theorem dX6_puts_2 : decode cX6_puts 2 = .ok (.getfield 183, 3) := by decide +kernel
theorem dX6_puts_5 : decode cX6_puts 5 = .ok (.invokevirtual 186, 3) := by decide +kernel
theorem dX6_puts_8 : decode cX6_puts 8 = .ok (.aload_n 0, 1) := by decide +kernel
theorem dX6_puts_9 : decode cX6_puts 9 = .ok (.iload_n 1, 1) := by decide +kernel
theorem dX6_puts_10 : decode cX6_puts 10 = .ok (.invokevirtual 189, 3) := by decide +kernel
theorem dX6_puts_13 : decode cX6_puts 13 = .ok (.aload_n 0, 1) := by decide +kernel
theorem dX6_puts_14 : decode cX6_puts 14 = .ok (.getfield 50, 3) := by decide +kernel
theorem dX6_puts_17 : decode cX6_puts 17 = .ok (.aload_n 0, 1) := by decide +kernel
theorem dX6_puts_18 : decode cX6_puts 18 = .ok (.getfield 183, 3) := by decide +kernel
theorem dX6_puts_21 : decode cX6_puts 21 = .ok (.iload_n 1, 1) := by decide +kernel
theorem dX6_puts_22 : decode cX6_puts 22 = .ok (.iastore, 1) := by decide +kernel
theorem dX6_puts_23 : decode cX6_puts 23 = .ok (.aload_n 0, 1) := by decide +kernel
theorem dX6_puts_24 : decode cX6_puts 24 = .ok (.dup, 1) := by decide +kernel
theorem dX6_puts_25 : decode cX6_puts 25 = .ok (.getfield 183, 3) := by decide +kernel
theorem dX6_puts_28 : decode cX6_puts 28 = .ok (.iconst 1, 1) := by decide +kernel
theorem dX6_puts_29 : decode cX6_puts 29 = .ok (.iadd, 1) := by decide +kernel
theorem dX6_puts_30 : decode cX6_puts 30 = .ok (.putfield 183, 3) := by decide +kernel
theorem dX6_puts_33 : decode cX6_puts 33 = .ok (.iconst 0, 1) := by decide +kernel
theorem dX6_puts_34 : decode cX6_puts 34 = .ok (.istore_n 2, 1) := by decide +kernel
theorem dX6_puts_35 : decode cX6_puts 35 = .ok (.iload_n 2, 1) := by decide +kernel
theorem dX6_puts_36 : decode cX6_puts 36 = .ok (.bipush 13, 2) := by decide +kernel
theorem dX6_puts_38 : decode cX6_puts 38 = .ok (.if_icmp .ge 29, 3) := by decide +kernel
theorem dX6_puts_41 : decode cX6_puts 41 = .ok (.aload_n 0, 1) := by decide +kernel
theorem dX6_puts_42 : decode cX6_puts 42 = .ok (.getfield 53, 3) := by decide +kernel
theorem dX6_puts_45 : decode cX6_puts 45 = .ok (.bipush 13, 2) := by decide +kernel
theorem dX6_puts_47 : decode cX6_puts 47 = .ok (.aload_n 0, 1) := by decide +kernel
theorem dX6_puts_48 : decode cX6_puts 48 = .ok (.getfield 183, 3) := by decide +kernel
theorem dX6_puts_51 : decode cX6_puts 51 = .ok (.imul, 1) := by decide +kernel
theorem dX6_puts_52 : decode cX6_puts 52 = .ok (.iload_n 2, 1) := by decide +kernel
theorem dX6_puts_53 : decode cX6_puts 53 = .ok (.iadd, 1) := by decide +kernel
theorem dX6_puts_54 : decode cX6_puts 54 = .ok (.aload_n 0, 1) := by decide +kernel
theorem dX6_puts_55 : decode cX6_puts 55 = .ok (.getfield 56, 3) := by decide +kernel
theorem dX6_puts_58 : decode cX6_puts 58 = .ok (.iload_n 2, 1) := by decide +kernel
theorem dX6_puts_59 : decode cX6_puts 59 = .ok (.iaload, 1) := by decide +kernel
theorem dX6_puts_60 : decode cX6_puts 60 = .ok (.iastore, 1) := by decide +kernel
theorem dX6_puts_61 : decode cX6_puts 61 = .ok (.iinc 2 1, 3) := by decide +kernel
theorem dX6_puts_64 : decode cX6_puts 64 = .ok (.goto (-29), 3) := by decide +kernel
theorem dX6_puts_67 : decode cX6_puts 67 = .ok (.return_, 1) := by decide +kernel
theorem dX6_behind_0 : decode cX6_behind 0 = .ok (.aload_n 0, 1) := by decide +kernel
theorem dX6_behind_1 : decode cX6_behind 1 = .ok (.aload_n 0, 1) := by decide +kernel
theorem dX6_behind_2 : decode cX6_behind 2 = .ok (.getfield 183, 3) := by decide +kernel
theorem dX6_behind_5 : decode cX6_behind 5 = .ok (.iconst 1, 1) := by decide +kernel
theorem dX6_behind_6 : decode cX6_behind 6 = .ok (.isub, 1) := by decide +kernel
theorem dX6_behind_7 : decode cX6_behind 7 = .ok (.invokevirtual 186, 3) := by decide +kernel
theorem dX6_behind_10 : decode cX6_behind 10 = .ok (.aload_n 0, 1) := by decide +kernel
theorem dX6_behind_11 : decode cX6_behind 11 = .ok (.getfield 16, 3) := by decide +kernel
theorem dX6_behind_14 : decode cX6_behind 14 = .ok (.bipush 7, 2) := by decide +kernel
theorem dX6_behind_16 : decode cX6_behind 16 = .ok (.iload_n 1, 1) := by decide +kernel
theorem dX6_behind_17 : decode cX6_behind 17 = .ok (.imul, 1) := by decide +kernel
theorem dX6_behind_18 : decode cX6_behind 18 = .ok (.iconst 3, 1) := by decide +kernel
theorem dX6_behind_19 : decode cX6_behind 19 = .ok (.iadd, 1) := by decide +kernel
theorem dX6_behind_20 : decode cX6_behind 20 = .ok (.iaload, 1) := by decide +kernel
theorem dX6_behind_21 : decode cX6_behind 21 = .ok (.iconst 1, 1) := by decide +kernel
theorem dX6_behind_22 : decode cX6_behind 22 = .ok (.isub, 1) := by decide +kernel
theorem dX6_behind_23 : decode cX6_behind 23 = .ok (.istore_n 2, 1) := by decide +kernel
theorem dX6_behind_24 : decode cX6_behind 24 = .ok (.iload_n 2, 1) := by decide +kernel
theorem dX6_behind_25 : decode cX6_behind 25 = .ok (.ifCond .lt 26, 3) := by decide +kernel
theorem dX6_behind_28 : decode cX6_behind 28 = .ok (.aload_n 0, 1) := by decide +kernel
theorem dX6_behind_29 : decode cX6_behind 29 = .ok (.aload_n 0, 1) := by decide +kernel
theorem dX6_behind_30 : decode cX6_behind 30 = .ok (.getfield 16, 3) := by decide +kernel
theorem dX6_behind_33 : decode cX6_behind 33 = .ok (.bipush 7, 2) := by decide +kernel
theorem dX6_behind_35 : decode cX6_behind 35 = .ok (.iload_n 1, 1) := by decide +kernel
theorem dX6_behind_36 : decode cX6_behind 36 = .ok (.imul, 1) := by decide +kernel
theorem dX6_behind_37 : decode cX6_behind 37 = .ok (.iconst 4, 1) := by decide +kernel
theorem dX6_behind_38 : decode cX6_behind 38 = .ok (.iadd, 1) := by decide +kernel
theorem dX6_behind_39 : decode cX6_behind 39 = .ok (.iload_n 2, 1) := by decide +kernel
theorem dX6_behind_40 : decode cX6_behind 40 = .ok (.iadd, 1) := by decide +kernel
theorem dX6_behind_41 : decode cX6_behind 41 = .ok (.iaload, 1) := by decide +kernel
theorem dX6_behind_42 : decode cX6_behind 42 = .ok (.invokevirtual 189, 3) := by decide +kernel
theorem dX6_behind_45 : decode cX6_behind 45 = .ok (.iinc 2 (-1), 3) := by decide +kernel
theorem dX6_behind_48 : decode cX6_behind 48 = .ok (.goto (-24), 3) := by decide +kernel
theorem dX6_behind_51 : decode cX6_behind 51 = .ok (.aload_n 0, 1) := by decide +kernel
theorem dX6_behind_52 : decode cX6_behind 52 = .ok (.getfield 56, 3) := by decide +kernel
theorem dX6_behind_55 : decode cX6_behind 55 = .ok (.aload_n 0, 1) := by decide +kernel
theorem dX6_behind_56 : decode cX6_behind 56 = .ok (.getfield 16, 3) := by decide +kernel
theorem dX6_behind_59 : decode cX6_behind 59 = .ok (.bipush 7, 2) := by decide +kernel
theorem dX6_behind_61 : decode cX6_behind 61 = .ok (.iload_n 1, 1) := by decide +kernel
theorem dX6_behind_62 : decode cX6_behind 62 = .ok (.imul, 1) := by decide +kernel
theorem dX6_behind_63 : decode cX6_behind 63 = .ok (.iconst 2, 1) := by decide +kernel
theorem dX6_behind_64 : decode cX6_behind 64 = .ok (.iadd, 1) := by decide +kernel
theorem dX6_behind_65 : decode cX6_behind 65 = .ok (.iaload, 1) := by decide +kernel
theorem dX6_behind_66 : decode cX6_behind 66 = .ok (.iaload, 1) := by decide +kernel
theorem dX6_behind_67 : decode cX6_behind 67 = .ok (.ireturn, 1) := by decide +kernel
theorem dX6_towerBegins_0 : decode cX6_towerBegins 0 = .ok (.aload_n 0, 1) := by decide +kernel
theorem dX6_towerBegins_1 : decode cX6_towerBegins 1 = .ok (.iconst 1, 1) := by decide +kernel
theorem dX6_towerBegins_2 : decode cX6_towerBegins 2 = .ok (.bipush (-4), 2) := by decide +kernel
theorem dX6_towerBegins_4 : decode cX6_towerBegins 4 = .ok (.invokevirtual 170, 3) := by decide +kernel
theorem dX6_towerBegins_7 : decode cX6_towerBegins 7 = .ok (.aload_n 0, 1) := by decide +kernel
theorem dX6_towerBegins_8 : decode cX6_towerBegins 8 = .ok (.iconst 0, 1) := by decide +kernel
theorem dX6_towerBegins_9 : decode cX6_towerBegins 9 = .ok (.putfield 183, 3) := by decide +kernel
theorem dX6_towerBegins_12 : decode cX6_towerBegins 12 = .ok (.iconst 0, 1) := by decide +kernel
theorem dX6_towerBegins_13 : decode cX6_towerBegins 13 = .ok (.istore_n 1, 1) := by decide +kernel
theorem dX6_towerBegins_14 : decode cX6_towerBegins 14 = .ok (.iload_n 1, 1) := by decide +kernel
theorem dX6_towerBegins_15 : decode cX6_towerBegins 15 = .ok (.bipush 13, 2) := by decide +kernel
theorem dX6_towerBegins_17 : decode cX6_towerBegins 17 = .ok (.if_icmp .ge 28, 3) := by decide +kernel
theorem dX6_towerBegins_20 : decode cX6_towerBegins 20 = .ok (.aload_n 0, 1) := by decide +kernel
theorem dX6_towerBegins_21 : decode cX6_towerBegins 21 = .ok (.getfield 53, 3) := by decide +kernel
theorem dX6_towerBegins_24 : decode cX6_towerBegins 24 = .ok (.iload_n 1, 1) := by decide +kernel
theorem dX6_towerBegins_25 : decode cX6_towerBegins 25 = .ok (.aload_n 0, 1) := by decide +kernel
theorem dX6_towerBegins_26 : decode cX6_towerBegins 26 = .ok (.iload_n 1, 1) := by decide +kernel
theorem dX6_towerBegins_27 : decode cX6_towerBegins 27 = .ok (.invokevirtual 167, 3) := by decide +kernel
theorem dX6_towerBegins_30 : decode cX6_towerBegins 30 = .ok (.ifCond .eq 7, 3) := by decide +kernel
theorem dX6_towerBegins_33 : decode cX6_towerBegins 33 = .ok (.iconst 0, 1) := by decide +kernel
theorem dX6_towerBegins_34 : decode cX6_towerBegins 34 = .ok (.goto 4, 3) := by decide +kernel
theorem dX6_towerBegins_37 : decode cX6_towerBegins 37 = .ok (.iconst (-1), 1) := by decide +kernel
theorem dX6_towerBegins_38 : decode cX6_towerBegins 38 = .ok (.iastore, 1) := by decide +kernel
theorem dX6_towerBegins_39 : decode cX6_towerBegins 39 = .ok (.iinc 1 1, 3) := by decide +kernel
theorem dX6_towerBegins_42 : decode cX6_towerBegins 42 = .ok (.goto (-28), 3) := by decide +kernel
theorem dX6_towerBegins_45 : decode cX6_towerBegins 45 = .ok (.iconst 0, 1) := by decide +kernel
theorem dX6_towerBegins_46 : decode cX6_towerBegins 46 = .ok (.istore_n 1, 1) := by decide +kernel
theorem dX6_towerBegins_47 : decode cX6_towerBegins 47 = .ok (.iload_n 1, 1) := by decide +kernel
theorem dX6_towerBegins_48 : decode cX6_towerBegins 48 = .ok (.aload_n 0, 1) := by decide +kernel
theorem dX6_towerBegins_49 : decode cX6_towerBegins 49 = .ok (.getfield 26, 3) := by decide +kernel
theorem dX6_towerBegins_52 : decode cX6_towerBegins 52 = .ok (.if_icmp .ge 19, 3) := by decide +kernel
theorem dX6_towerBegins_55 : decode cX6_towerBegins 55 = .ok (.aload_n 0, 1) := by decide +kernel
theorem dX6_towerBegins_56 : decode cX6_towerBegins 56 = .ok (.aload_n 0, 1) := by decide +kernel
theorem dX6_towerBegins_57 : decode cX6_towerBegins 57 = .ok (.getfield 29, 3) := by decide +kernel
theorem dX6_towerBegins_60 : decode cX6_towerBegins 60 = .ok (.iload_n 1, 1) := by decide +kernel
theorem dX6_towerBegins_61 : decode cX6_towerBegins 61 = .ok (.iaload, 1) := by decide +kernel
theorem dX6_towerBegins_62 : decode cX6_towerBegins 62 = .ok (.invokevirtual 192, 3) := by decide +kernel
theorem dX6_towerBegins_65 : decode cX6_towerBegins 65 = .ok (.iinc 1 1, 3) := by decide +kernel
theorem dX6_towerBegins_68 : decode cX6_towerBegins 68 = .ok (.goto (-21), 3) := by decide +kernel
theorem dX6_towerBegins_71 : decode cX6_towerBegins 71 = .ok (.return_, 1) := by decide +kernel
theorem dX6_ruleOn_0 : decode cX6_ruleOn 0 = .ok (.iconst 0, 1) := by decide +kernel
theorem dX6_ruleOn_1 : decode cX6_ruleOn 1 = .ok (.istore_n 3, 1) := by decide +kernel
theorem dX6_ruleOn_2 : decode cX6_ruleOn 2 = .ok (.iload_n 3, 1) := by decide +kernel
theorem dX6_ruleOn_3 : decode cX6_ruleOn 3 = .ok (.aload_n 0, 1) := by decide +kernel
theorem dX6_ruleOn_4 : decode cX6_ruleOn 4 = .ok (.getfield 13, 3) := by decide +kernel
theorem dX6_ruleOn_7 : decode cX6_ruleOn 7 = .ok (.if_icmp .ge 42, 3) := by decide +kernel
theorem dX6_ruleOn_10 : decode cX6_ruleOn 10 = .ok (.aload_n 0, 1) := by decide +kernel
theorem dX6_ruleOn_11 : decode cX6_ruleOn 11 = .ok (.iload_n 3, 1) := by decide +kernel
theorem dX6_ruleOn_12 : decode cX6_ruleOn 12 = .ok (.iload_n 1, 1) := by decide +kernel
theorem dX6_ruleOn_13 : decode cX6_ruleOn 13 = .ok (.aload_n 0, 1) := by decide +kernel
theorem dX6_ruleOn_14 : decode cX6_ruleOn 14 = .ok (.getfield 50, 3) := by decide +kernel
theorem dX6_ruleOn_17 : decode cX6_ruleOn 17 = .ok (.aload_n 0, 1) := by decide +kernel
theorem dX6_ruleOn_18 : decode cX6_ruleOn 18 = .ok (.getfield 183, 3) := by decide +kernel
theorem dX6_ruleOn_21 : decode cX6_ruleOn 21 = .ok (.iconst 1, 1) := by decide +kernel
theorem dX6_ruleOn_22 : decode cX6_ruleOn 22 = .ok (.isub, 1) := by decide +kernel
theorem dX6_ruleOn_23 : decode cX6_ruleOn 23 = .ok (.iaload, 1) := by decide +kernel
theorem dX6_ruleOn_24 : decode cX6_ruleOn 24 = .ok (.invokevirtual 113, 3) := by decide +kernel
theorem dX6_ruleOn_27 : decode cX6_ruleOn 27 = .ok (.ifCond .eq 16, 3) := by decide +kernel
theorem dX6_ruleOn_30 : decode cX6_ruleOn 30 = .ok (.aload_n 0, 1) := by decide +kernel
theorem dX6_ruleOn_31 : decode cX6_ruleOn 31 = .ok (.iload_n 3, 1) := by decide +kernel
theorem dX6_ruleOn_32 : decode cX6_ruleOn 32 = .ok (.invokevirtual 195, 3) := by decide +kernel
theorem dX6_ruleOn_35 : decode cX6_ruleOn 35 = .ok (.iload_n 2, 1) := by decide +kernel
theorem dX6_ruleOn_36 : decode cX6_ruleOn 36 = .ok (.iconst 1, 1) := by decide +kernel
theorem dX6_ruleOn_37 : decode cX6_ruleOn 37 = .ok (.isub, 1) := by decide +kernel
theorem dX6_ruleOn_38 : decode cX6_ruleOn 38 = .ok (.if_icmp .ne 5, 3) := by decide +kernel
theorem dX6_ruleOn_41 : decode cX6_ruleOn 41 = .ok (.iload_n 3, 1) := by decide +kernel
theorem dX6_ruleOn_42 : decode cX6_ruleOn 42 = .ok (.ireturn, 1) := by decide +kernel
theorem dX6_ruleOn_43 : decode cX6_ruleOn 43 = .ok (.iinc 3 1, 3) := by decide +kernel
theorem dX6_ruleOn_46 : decode cX6_ruleOn 46 = .ok (.goto (-44), 3) := by decide +kernel
theorem dX6_ruleOn_49 : decode cX6_ruleOn 49 = .ok (.bipush (-4), 2) := by decide +kernel
theorem dX6_ruleOn_51 : decode cX6_ruleOn 51 = .ok (.ireturn, 1) := by decide +kernel
theorem dX6_towerSteps_0 : decode cX6_towerSteps 0 = .ok (.aload_n 0, 1) := by decide +kernel
theorem dX6_towerSteps_1 : decode cX6_towerSteps 1 = .ok (.dup, 1) := by decide +kernel
theorem dX6_towerSteps_2 : decode cX6_towerSteps 2 = .ok (.getfield 183, 3) := by decide +kernel
theorem dX6_towerSteps_5 : decode cX6_towerSteps 5 = .ok (.iconst 1, 1) := by decide +kernel
theorem dX6_towerSteps_6 : decode cX6_towerSteps 6 = .ok (.isub, 1) := by decide +kernel
theorem dX6_towerSteps_7 : decode cX6_towerSteps 7 = .ok (.putfield 183, 3) := by decide +kernel
theorem dX6_towerSteps_10 : decode cX6_towerSteps 10 = .ok (.aload_n 0, 1) := by decide +kernel
theorem dX6_towerSteps_11 : decode cX6_towerSteps 11 = .ok (.getfield 16, 3) := by decide +kernel
theorem dX6_towerSteps_14 : decode cX6_towerSteps 14 = .ok (.bipush 7, 2) := by decide +kernel
theorem dX6_towerSteps_16 : decode cX6_towerSteps 16 = .ok (.iload_n 1, 1) := by decide +kernel
theorem dX6_towerSteps_17 : decode cX6_towerSteps 17 = .ok (.imul, 1) := by decide +kernel
theorem dX6_towerSteps_18 : decode cX6_towerSteps 18 = .ok (.iconst 3, 1) := by decide +kernel
theorem dX6_towerSteps_19 : decode cX6_towerSteps 19 = .ok (.iadd, 1) := by decide +kernel
theorem dX6_towerSteps_20 : decode cX6_towerSteps 20 = .ok (.iaload, 1) := by decide +kernel
theorem dX6_towerSteps_21 : decode cX6_towerSteps 21 = .ok (.iconst 1, 1) := by decide +kernel
theorem dX6_towerSteps_22 : decode cX6_towerSteps 22 = .ok (.isub, 1) := by decide +kernel
theorem dX6_towerSteps_23 : decode cX6_towerSteps 23 = .ok (.istore_n 2, 1) := by decide +kernel
theorem dX6_towerSteps_24 : decode cX6_towerSteps 24 = .ok (.iload_n 2, 1) := by decide +kernel
theorem dX6_towerSteps_25 : decode cX6_towerSteps 25 = .ok (.ifCond .lt 26, 3) := by decide +kernel
theorem dX6_towerSteps_28 : decode cX6_towerSteps 28 = .ok (.aload_n 0, 1) := by decide +kernel
theorem dX6_towerSteps_29 : decode cX6_towerSteps 29 = .ok (.aload_n 0, 1) := by decide +kernel
theorem dX6_towerSteps_30 : decode cX6_towerSteps 30 = .ok (.getfield 16, 3) := by decide +kernel
theorem dX6_towerSteps_33 : decode cX6_towerSteps 33 = .ok (.bipush 7, 2) := by decide +kernel
theorem dX6_towerSteps_35 : decode cX6_towerSteps 35 = .ok (.iload_n 1, 1) := by decide +kernel
theorem dX6_towerSteps_36 : decode cX6_towerSteps 36 = .ok (.imul, 1) := by decide +kernel
theorem dX6_towerSteps_37 : decode cX6_towerSteps 37 = .ok (.iconst 4, 1) := by decide +kernel
theorem dX6_towerSteps_38 : decode cX6_towerSteps 38 = .ok (.iadd, 1) := by decide +kernel
theorem dX6_towerSteps_39 : decode cX6_towerSteps 39 = .ok (.iload_n 2, 1) := by decide +kernel
theorem dX6_towerSteps_40 : decode cX6_towerSteps 40 = .ok (.iadd, 1) := by decide +kernel
theorem dX6_towerSteps_41 : decode cX6_towerSteps 41 = .ok (.iaload, 1) := by decide +kernel
theorem dX6_towerSteps_42 : decode cX6_towerSteps 42 = .ok (.invokevirtual 192, 3) := by decide +kernel
theorem dX6_towerSteps_45 : decode cX6_towerSteps 45 = .ok (.iinc 2 (-1), 3) := by decide +kernel
theorem dX6_towerSteps_48 : decode cX6_towerSteps 48 = .ok (.goto (-24), 3) := by decide +kernel
theorem dX6_towerSteps_51 : decode cX6_towerSteps 51 = .ok (.return_, 1) := by decide +kernel
theorem dX6_run_0 : decode cX6_run 0 = .ok (.iload_n 1, 1) := by decide +kernel
theorem dX6_run_1 : decode cX6_run 1 = .ok (.iconst (-1), 1) := by decide +kernel
theorem dX6_run_2 : decode cX6_run 2 = .ok (.if_icmp .ge 5, 3) := by decide +kernel
theorem dX6_run_5 : decode cX6_run 5 = .ok (.iconst (-1), 1) := by decide +kernel
theorem dX6_run_6 : decode cX6_run 6 = .ok (.ireturn, 1) := by decide +kernel
theorem dX6_run_7 : decode cX6_run 7 = .ok (.aload_n 0, 1) := by decide +kernel
theorem dX6_run_8 : decode cX6_run 8 = .ok (.invokevirtual 198, 3) := by decide +kernel
theorem dX6_run_11 : decode cX6_run 11 = .ok (.aload_n 0, 1) := by decide +kernel
theorem dX6_run_12 : decode cX6_run 12 = .ok (.getfield 53, 3) := by decide +kernel
theorem dX6_run_15 : decode cX6_run 15 = .ok (.bipush 13, 2) := by decide +kernel
theorem dX6_run_17 : decode cX6_run 17 = .ok (.aload_n 0, 1) := by decide +kernel
theorem dX6_run_18 : decode cX6_run 18 = .ok (.getfield 183, 3) := by decide +kernel
theorem dX6_run_21 : decode cX6_run 21 = .ok (.imul, 1) := by decide +kernel
theorem dX6_run_22 : decode cX6_run 22 = .ok (.aload_n 0, 1) := by decide +kernel
theorem dX6_run_23 : decode cX6_run 23 = .ok (.getfield 80, 3) := by decide +kernel
theorem dX6_run_26 : decode cX6_run 26 = .ok (.iadd, 1) := by decide +kernel
theorem dX6_run_27 : decode cX6_run 27 = .ok (.iaload, 1) := by decide +kernel
theorem dX6_run_28 : decode cX6_run 28 = .ok (.istore_n 2, 1) := by decide +kernel
theorem dX6_run_29 : decode cX6_run 29 = .ok (.iload_n 2, 1) := by decide +kernel
theorem dX6_run_30 : decode cX6_run 30 = .ok (.ifCond .ge 6, 3) := by decide +kernel
theorem dX6_run_33 : decode cX6_run 33 = .ok (.bipush (-4), 2) := by decide +kernel
theorem dX6_run_35 : decode cX6_run 35 = .ok (.ireturn, 1) := by decide +kernel
theorem dX6_run_36 : decode cX6_run 36 = .ok (.iload_n 1, 1) := by decide +kernel
theorem dX6_run_37 : decode cX6_run 37 = .ok (.iconst (-1), 1) := by decide +kernel
theorem dX6_run_38 : decode cX6_run 38 = .ok (.if_icmp .ne 5, 3) := by decide +kernel
theorem dX6_run_41 : decode cX6_run 41 = .ok (.iload_n 2, 1) := by decide +kernel
theorem dX6_run_42 : decode cX6_run 42 = .ok (.ireturn, 1) := by decide +kernel
theorem dX6_run_43 : decode cX6_run 43 = .ok (.iload_n 1, 1) := by decide +kernel
theorem dX6_run_44 : decode cX6_run 44 = .ok (.iload_n 2, 1) := by decide +kernel
theorem dX6_run_45 : decode cX6_run 45 = .ok (.if_icmp .lt 6, 3) := by decide +kernel
theorem dX6_run_48 : decode cX6_run 48 = .ok (.bipush (-4), 2) := by decide +kernel
theorem dX6_run_50 : decode cX6_run 50 = .ok (.ireturn, 1) := by decide +kernel
theorem dX6_run_51 : decode cX6_run 51 = .ok (.aload_n 0, 1) := by decide +kernel
theorem dX6_run_52 : decode cX6_run 52 = .ok (.getfield 80, 3) := by decide +kernel
theorem dX6_run_55 : decode cX6_run 55 = .ok (.istore_n 3, 1) := by decide +kernel
theorem dX6_run_56 : decode cX6_run 56 = .ok (.aload_n 0, 1) := by decide +kernel
theorem dX6_run_57 : decode cX6_run 57 = .ok (.iload_n 3, 1) := by decide +kernel
theorem dX6_run_58 : decode cX6_run 58 = .ok (.iload_n 2, 1) := by decide +kernel
theorem dX6_run_59 : decode cX6_run 59 = .ok (.invokevirtual 201, 3) := by decide +kernel
theorem dX6_run_62 : decode cX6_run 62 = .ok (.istore 4, 2) := by decide +kernel
theorem dX6_run_64 : decode cX6_run 64 = .ok (.iconst 0, 1) := by decide +kernel
theorem dX6_run_65 : decode cX6_run 65 = .ok (.istore 5, 2) := by decide +kernel
theorem dX6_run_67 : decode cX6_run 67 = .ok (.iload 5, 2) := by decide +kernel
theorem dX6_run_69 : decode cX6_run 69 = .ok (.iload_n 1, 1) := by decide +kernel
theorem dX6_run_70 : decode cX6_run 70 = .ok (.if_icmp .ge 39, 3) := by decide +kernel
theorem dX6_run_73 : decode cX6_run 73 = .ok (.aload_n 0, 1) := by decide +kernel
theorem dX6_run_74 : decode cX6_run 74 = .ok (.iload 4, 2) := by decide +kernel
theorem dX6_run_76 : decode cX6_run 76 = .ok (.invokevirtual 204, 3) := by decide +kernel
theorem dX6_run_79 : decode cX6_run 79 = .ok (.aload_n 0, 1) := by decide +kernel
theorem dX6_run_80 : decode cX6_run 80 = .ok (.getfield 16, 3) := by decide +kernel
theorem dX6_run_83 : decode cX6_run 83 = .ok (.bipush 7, 2) := by decide +kernel
theorem dX6_run_85 : decode cX6_run 85 = .ok (.iload 4, 2) := by decide +kernel
theorem dX6_run_87 : decode cX6_run 87 = .ok (.imul, 1) := by decide +kernel
theorem dX6_run_88 : decode cX6_run 88 = .ok (.iconst 2, 1) := by decide +kernel
theorem dX6_run_89 : decode cX6_run 89 = .ok (.iadd, 1) := by decide +kernel
theorem dX6_run_90 : decode cX6_run 90 = .ok (.iaload, 1) := by decide +kernel
theorem dX6_run_91 : decode cX6_run 91 = .ok (.istore_n 3, 1) := by decide +kernel
theorem dX6_run_92 : decode cX6_run 92 = .ok (.iinc 2 (-1), 3) := by decide +kernel
theorem dX6_run_95 : decode cX6_run 95 = .ok (.aload_n 0, 1) := by decide +kernel
theorem dX6_run_96 : decode cX6_run 96 = .ok (.iload_n 3, 1) := by decide +kernel
theorem dX6_run_97 : decode cX6_run 97 = .ok (.iload_n 2, 1) := by decide +kernel
theorem dX6_run_98 : decode cX6_run 98 = .ok (.invokevirtual 201, 3) := by decide +kernel
theorem dX6_run_101 : decode cX6_run 101 = .ok (.istore 4, 2) := by decide +kernel
theorem dX6_run_103 : decode cX6_run 103 = .ok (.iinc 5 1, 3) := by decide +kernel
theorem dX6_run_106 : decode cX6_run 106 = .ok (.goto (-39), 3) := by decide +kernel
theorem dX6_run_109 : decode cX6_run 109 = .ok (.iload 4, 2) := by decide +kernel
theorem dX6_run_111 : decode cX6_run 111 = .ok (.ireturn, 1) := by decide +kernel
theorem dX6_popsBy_0 : decode cX6_popsBy 0 = .ok (.aload_n 0, 1) := by decide +kernel
theorem dX6_popsBy_1 : decode cX6_popsBy 1 = .ok (.getfield 62, 3) := by decide +kernel
theorem dX6_popsBy_4 : decode cX6_popsBy 4 = .ok (.bipush 12, 2) := by decide +kernel
theorem dX6_popsBy_6 : decode cX6_popsBy 6 = .ok (.iload_n 1, 1) := by decide +kernel
theorem dX6_popsBy_7 : decode cX6_popsBy 7 = .ok (.imul, 1) := by decide +kernel
theorem dX6_popsBy_8 : decode cX6_popsBy 8 = .ok (.iconst 3, 1) := by decide +kernel
theorem dX6_popsBy_9 : decode cX6_popsBy 9 = .ok (.iload_n 2, 1) := by decide +kernel
theorem dX6_popsBy_10 : decode cX6_popsBy 10 = .ok (.imul, 1) := by decide +kernel
theorem dX6_popsBy_11 : decode cX6_popsBy 11 = .ok (.iadd, 1) := by decide +kernel
theorem dX6_popsBy_12 : decode cX6_popsBy 12 = .ok (.iload_n 3, 1) := by decide +kernel
theorem dX6_popsBy_13 : decode cX6_popsBy 13 = .ok (.iadd, 1) := by decide +kernel
theorem dX6_popsBy_14 : decode cX6_popsBy 14 = .ok (.iaload, 1) := by decide +kernel
theorem dX6_popsBy_15 : decode cX6_popsBy 15 = .ok (.ireturn, 1) := by decide +kernel
theorem dX6_isGone_0 : decode cX6_isGone 0 = .ok (.aload_n 0, 1) := by decide +kernel
theorem dX6_isGone_1 : decode cX6_isGone 1 = .ok (.getfield 16, 3) := by decide +kernel
theorem dX6_isGone_4 : decode cX6_isGone 4 = .ok (.bipush 7, 2) := by decide +kernel
theorem dX6_isGone_6 : decode cX6_isGone 6 = .ok (.iload_n 1, 1) := by decide +kernel
theorem dX6_isGone_7 : decode cX6_isGone 7 = .ok (.imul, 1) := by decide +kernel
theorem dX6_isGone_8 : decode cX6_isGone 8 = .ok (.iconst 2, 1) := by decide +kernel
theorem dX6_isGone_9 : decode cX6_isGone 9 = .ok (.iadd, 1) := by decide +kernel
theorem dX6_isGone_10 : decode cX6_isGone 10 = .ok (.iaload, 1) := by decide +kernel
theorem dX6_isGone_11 : decode cX6_isGone 11 = .ok (.istore_n 3, 1) := by decide +kernel
theorem dX6_isGone_12 : decode cX6_isGone 12 = .ok (.aload_n 0, 1) := by decide +kernel
theorem dX6_isGone_13 : decode cX6_isGone 13 = .ok (.getfield 16, 3) := by decide +kernel
theorem dX6_isGone_16 : decode cX6_isGone 16 = .ok (.bipush 7, 2) := by decide +kernel
theorem dX6_isGone_18 : decode cX6_isGone 18 = .ok (.iload_n 1, 1) := by decide +kernel
theorem dX6_isGone_19 : decode cX6_isGone 19 = .ok (.imul, 1) := by decide +kernel
theorem dX6_isGone_20 : decode cX6_isGone 20 = .ok (.iconst 3, 1) := by decide +kernel
theorem dX6_isGone_21 : decode cX6_isGone 21 = .ok (.iadd, 1) := by decide +kernel
theorem dX6_isGone_22 : decode cX6_isGone 22 = .ok (.iaload, 1) := by decide +kernel
theorem dX6_isGone_23 : decode cX6_isGone 23 = .ok (.istore 4, 2) := by decide +kernel
theorem dX6_isGone_25 : decode cX6_isGone 25 = .ok (.aload_n 0, 1) := by decide +kernel
theorem dX6_isGone_26 : decode cX6_isGone 26 = .ok (.getfield 16, 3) := by decide +kernel
theorem dX6_isGone_29 : decode cX6_isGone 29 = .ok (.bipush 7, 2) := by decide +kernel
theorem dX6_isGone_31 : decode cX6_isGone 31 = .ok (.iload_n 1, 1) := by decide +kernel
theorem dX6_isGone_32 : decode cX6_isGone 32 = .ok (.imul, 1) := by decide +kernel
theorem dX6_isGone_33 : decode cX6_isGone 33 = .ok (.iconst 4, 1) := by decide +kernel
theorem dX6_isGone_34 : decode cX6_isGone 34 = .ok (.iadd, 1) := by decide +kernel
theorem dX6_isGone_35 : decode cX6_isGone 35 = .ok (.iaload, 1) := by decide +kernel
theorem dX6_isGone_36 : decode cX6_isGone 36 = .ok (.istore 5, 2) := by decide +kernel
theorem dX6_isGone_38 : decode cX6_isGone 38 = .ok (.iload 4, 2) := by decide +kernel
theorem dX6_isGone_40 : decode cX6_isGone 40 = .ok (.ifCond .ne 14, 3) := by decide +kernel
theorem dX6_isGone_43 : decode cX6_isGone 43 = .ok (.iload_n 3, 1) := by decide +kernel
theorem dX6_isGone_44 : decode cX6_isGone 44 = .ok (.iload_n 2, 1) := by decide +kernel
theorem dX6_isGone_45 : decode cX6_isGone 45 = .ok (.if_icmp .ne 7, 3) := by decide +kernel
theorem dX6_isGone_48 : decode cX6_isGone 48 = .ok (.iconst 1, 1) := by decide +kernel
theorem dX6_isGone_49 : decode cX6_isGone 49 = .ok (.goto 4, 3) := by decide +kernel
theorem dX6_isGone_52 : decode cX6_isGone 52 = .ok (.iconst 0, 1) := by decide +kernel
theorem dX6_isGone_53 : decode cX6_isGone 53 = .ok (.ireturn, 1) := by decide +kernel
theorem dX6_isGone_54 : decode cX6_isGone 54 = .ok (.iload 4, 2) := by decide +kernel
theorem dX6_isGone_56 : decode cX6_isGone 56 = .ok (.iconst 1, 1) := by decide +kernel
theorem dX6_isGone_57 : decode cX6_isGone 57 = .ok (.if_icmp .ne 21, 3) := by decide +kernel
theorem dX6_isGone_60 : decode cX6_isGone 60 = .ok (.aload_n 0, 1) := by decide +kernel
theorem dX6_isGone_61 : decode cX6_isGone 61 = .ok (.iload_n 3, 1) := by decide +kernel
theorem dX6_isGone_62 : decode cX6_isGone 62 = .ok (.iload 5, 2) := by decide +kernel
theorem dX6_isGone_64 : decode cX6_isGone 64 = .ok (.iload_n 2, 1) := by decide +kernel
theorem dX6_isGone_65 : decode cX6_isGone 65 = .ok (.invokevirtual 207, 3) := by decide +kernel
theorem dX6_isGone_68 : decode cX6_isGone 68 = .ok (.iconst 1, 1) := by decide +kernel
theorem dX6_isGone_69 : decode cX6_isGone 69 = .ok (.if_icmp .ne 7, 3) := by decide +kernel
theorem dX6_isGone_72 : decode cX6_isGone 72 = .ok (.iconst 1, 1) := by decide +kernel
theorem dX6_isGone_73 : decode cX6_isGone 73 = .ok (.goto 4, 3) := by decide +kernel
theorem dX6_isGone_76 : decode cX6_isGone 76 = .ok (.iconst 0, 1) := by decide +kernel
theorem dX6_isGone_77 : decode cX6_isGone 77 = .ok (.ireturn, 1) := by decide +kernel
theorem dX6_isGone_78 : decode cX6_isGone 78 = .ok (.iconst 0, 1) := by decide +kernel
theorem dX6_isGone_79 : decode cX6_isGone 79 = .ok (.istore 6, 2) := by decide +kernel
theorem dX6_isGone_81 : decode cX6_isGone 81 = .ok (.iconst 0, 1) := by decide +kernel
theorem dX6_isGone_82 : decode cX6_isGone 82 = .ok (.istore 7, 2) := by decide +kernel
theorem dX6_isGone_84 : decode cX6_isGone 84 = .ok (.iload 7, 2) := by decide +kernel
theorem dX6_isGone_86 : decode cX6_isGone 86 = .ok (.aload_n 0, 1) := by decide +kernel
theorem dX6_isGone_87 : decode cX6_isGone 87 = .ok (.getfield 7, 3) := by decide +kernel
theorem dX6_isGone_90 : decode cX6_isGone 90 = .ok (.if_icmp .ge 56, 3) := by decide +kernel
theorem dX6_isGone_93 : decode cX6_isGone 93 = .ok (.iload 6, 2) := by decide +kernel
theorem dX6_isGone_95 : decode cX6_isGone 95 = .ok (.ifCond .ne 38, 3) := by decide +kernel
theorem dX6_isGone_98 : decode cX6_isGone 98 = .ok (.aload_n 0, 1) := by decide +kernel
theorem dX6_isGone_99 : decode cX6_isGone 99 = .ok (.iload_n 3, 1) := by decide +kernel
theorem dX6_isGone_100 : decode cX6_isGone 100 = .ok (.iload 5, 2) := by decide +kernel
theorem dX6_isGone_102 : decode cX6_isGone 102 = .ok (.iload 7, 2) := by decide +kernel
theorem dX6_isGone_104 : decode cX6_isGone 104 = .ok (.invokevirtual 207, 3) := by decide +kernel
theorem dX6_isGone_107 : decode cX6_isGone 107 = .ok (.iconst 1, 1) := by decide +kernel
theorem dX6_isGone_108 : decode cX6_isGone 108 = .ok (.if_icmp .ne 29, 3) := by decide +kernel
theorem dX6_isGone_111 : decode cX6_isGone 111 = .ok (.aload_n 0, 1) := by decide +kernel
theorem dX6_isGone_112 : decode cX6_isGone 112 = .ok (.iload 7, 2) := by decide +kernel
theorem dX6_isGone_114 : decode cX6_isGone 114 = .ok (.aload_n 0, 1) := by decide +kernel
theorem dX6_isGone_115 : decode cX6_isGone 115 = .ok (.getfield 16, 3) := by decide +kernel
theorem dX6_isGone_118 : decode cX6_isGone 118 = .ok (.bipush 7, 2) := by decide +kernel
theorem dX6_isGone_120 : decode cX6_isGone 120 = .ok (.iload_n 1, 1) := by decide +kernel
theorem dX6_isGone_121 : decode cX6_isGone 121 = .ok (.imul, 1) := by decide +kernel
theorem dX6_isGone_122 : decode cX6_isGone 122 = .ok (.iconst 5, 1) := by decide +kernel
theorem dX6_isGone_123 : decode cX6_isGone 123 = .ok (.iadd, 1) := by decide +kernel
theorem dX6_isGone_124 : decode cX6_isGone 124 = .ok (.iaload, 1) := by decide +kernel
theorem dX6_isGone_125 : decode cX6_isGone 125 = .ok (.iload_n 2, 1) := by decide +kernel
theorem dX6_isGone_126 : decode cX6_isGone 126 = .ok (.invokevirtual 207, 3) := by decide +kernel
theorem dX6_isGone_129 : decode cX6_isGone 129 = .ok (.iconst 1, 1) := by decide +kernel
theorem dX6_isGone_130 : decode cX6_isGone 130 = .ok (.if_icmp .ne 7, 3) := by decide +kernel
theorem dX6_isGone_133 : decode cX6_isGone 133 = .ok (.iconst 1, 1) := by decide +kernel
theorem dX6_isGone_134 : decode cX6_isGone 134 = .ok (.goto 4, 3) := by decide +kernel
theorem dX6_isGone_137 : decode cX6_isGone 137 = .ok (.iconst 0, 1) := by decide +kernel
theorem dX6_isGone_138 : decode cX6_isGone 138 = .ok (.istore 6, 2) := by decide +kernel
theorem dX6_isGone_140 : decode cX6_isGone 140 = .ok (.iinc 7 1, 3) := by decide +kernel
theorem dX6_isGone_143 : decode cX6_isGone 143 = .ok (.goto (-59), 3) := by decide +kernel
theorem dX6_isGone_146 : decode cX6_isGone 146 = .ok (.iload 6, 2) := by decide +kernel
theorem dX6_isGone_148 : decode cX6_isGone 148 = .ok (.ireturn, 1) := by decide +kernel
theorem dX6_setPops_0 : decode cX6_setPops 0 = .ok (.iconst 0, 1) := by decide +kernel
theorem dX6_setPops_1 : decode cX6_setPops 1 = .ok (.istore_n 1, 1) := by decide +kernel
theorem dX6_setPops_2 : decode cX6_setPops 2 = .ok (.iload_n 1, 1) := by decide +kernel
theorem dX6_setPops_3 : decode cX6_setPops 3 = .ok (.bipush 36, 2) := by decide +kernel
theorem dX6_setPops_5 : decode cX6_setPops 5 = .ok (.if_icmp .ge 16, 3) := by decide +kernel
theorem dX6_setPops_8 : decode cX6_setPops 8 = .ok (.aload_n 0, 1) := by decide +kernel
theorem dX6_setPops_9 : decode cX6_setPops 9 = .ok (.getfield 62, 3) := by decide +kernel
theorem dX6_setPops_12 : decode cX6_setPops 12 = .ok (.iload_n 1, 1) := by decide +kernel
theorem dX6_setPops_13 : decode cX6_setPops 13 = .ok (.iconst 0, 1) := by decide +kernel
theorem dX6_setPops_14 : decode cX6_setPops 14 = .ok (.iastore, 1) := by decide +kernel
theorem dX6_setPops_15 : decode cX6_setPops 15 = .ok (.iinc 1 1, 3) := by decide +kernel
theorem dX6_setPops_18 : decode cX6_setPops 18 = .ok (.goto (-16), 3) := by decide +kernel
theorem dX6_setPops_21 : decode cX6_setPops 21 = .ok (.iconst 1, 1) := by decide +kernel
theorem dX6_setPops_22 : decode cX6_setPops 22 = .ok (.istore_n 1, 1) := by decide +kernel
theorem dX6_setPops_23 : decode cX6_setPops 23 = .ok (.iload_n 1, 1) := by decide +kernel
theorem dX6_setPops_24 : decode cX6_setPops 24 = .ok (.ifCond .eq 99, 3) := by decide +kernel
theorem dX6_setPops_27 : decode cX6_setPops 27 = .ok (.iconst 0, 1) := by decide +kernel
theorem dX6_setPops_28 : decode cX6_setPops 28 = .ok (.istore_n 1, 1) := by decide +kernel
theorem dX6_setPops_29 : decode cX6_setPops 29 = .ok (.iconst 0, 1) := by decide +kernel
theorem dX6_setPops_30 : decode cX6_setPops 30 = .ok (.istore_n 2, 1) := by decide +kernel
theorem dX6_setPops_31 : decode cX6_setPops 31 = .ok (.iload_n 2, 1) := by decide +kernel
theorem dX6_setPops_32 : decode cX6_setPops 32 = .ok (.aload_n 0, 1) := by decide +kernel
theorem dX6_setPops_33 : decode cX6_setPops 33 = .ok (.getfield 13, 3) := by decide +kernel
theorem dX6_setPops_36 : decode cX6_setPops 36 = .ok (.if_icmp .ge 84, 3) := by decide +kernel
theorem dX6_setPops_39 : decode cX6_setPops 39 = .ok (.iconst 0, 1) := by decide +kernel
theorem dX6_setPops_40 : decode cX6_setPops 40 = .ok (.istore_n 3, 1) := by decide +kernel
theorem dX6_setPops_41 : decode cX6_setPops 41 = .ok (.iload_n 3, 1) := by decide +kernel
theorem dX6_setPops_42 : decode cX6_setPops 42 = .ok (.aload_n 0, 1) := by decide +kernel
theorem dX6_setPops_43 : decode cX6_setPops 43 = .ok (.getfield 7, 3) := by decide +kernel
theorem dX6_setPops_46 : decode cX6_setPops 46 = .ok (.if_icmp .ge 68, 3) := by decide +kernel
theorem dX6_setPops_49 : decode cX6_setPops 49 = .ok (.bipush 12, 2) := by decide +kernel
theorem dX6_setPops_51 : decode cX6_setPops 51 = .ok (.aload_n 0, 1) := by decide +kernel
theorem dX6_setPops_52 : decode cX6_setPops 52 = .ok (.getfield 16, 3) := by decide +kernel
theorem dX6_setPops_55 : decode cX6_setPops 55 = .ok (.bipush 7, 2) := by decide +kernel
theorem dX6_setPops_57 : decode cX6_setPops 57 = .ok (.iload_n 2, 1) := by decide +kernel
theorem dX6_setPops_58 : decode cX6_setPops 58 = .ok (.imul, 1) := by decide +kernel
theorem dX6_setPops_59 : decode cX6_setPops 59 = .ok (.iaload, 1) := by decide +kernel
theorem dX6_setPops_60 : decode cX6_setPops 60 = .ok (.imul, 1) := by decide +kernel
theorem dX6_setPops_61 : decode cX6_setPops 61 = .ok (.iconst 3, 1) := by decide +kernel
theorem dX6_setPops_62 : decode cX6_setPops 62 = .ok (.aload_n 0, 1) := by decide +kernel
theorem dX6_setPops_63 : decode cX6_setPops 63 = .ok (.getfield 16, 3) := by decide +kernel
theorem dX6_setPops_66 : decode cX6_setPops 66 = .ok (.bipush 7, 2) := by decide +kernel
theorem dX6_setPops_68 : decode cX6_setPops 68 = .ok (.iload_n 2, 1) := by decide +kernel
theorem dX6_setPops_69 : decode cX6_setPops 69 = .ok (.imul, 1) := by decide +kernel
theorem dX6_setPops_70 : decode cX6_setPops 70 = .ok (.iconst 1, 1) := by decide +kernel
theorem dX6_setPops_71 : decode cX6_setPops 71 = .ok (.iadd, 1) := by decide +kernel
theorem dX6_setPops_72 : decode cX6_setPops 72 = .ok (.iaload, 1) := by decide +kernel
theorem dX6_setPops_73 : decode cX6_setPops 73 = .ok (.imul, 1) := by decide +kernel
theorem dX6_setPops_74 : decode cX6_setPops 74 = .ok (.iadd, 1) := by decide +kernel
theorem dX6_setPops_75 : decode cX6_setPops 75 = .ok (.iload_n 3, 1) := by decide +kernel
theorem dX6_setPops_76 : decode cX6_setPops 76 = .ok (.iadd, 1) := by decide +kernel
theorem dX6_setPops_77 : decode cX6_setPops 77 = .ok (.istore 4, 2) := by decide +kernel
theorem dX6_setPops_79 : decode cX6_setPops 79 = .ok (.aload_n 0, 1) := by decide +kernel
theorem dX6_setPops_80 : decode cX6_setPops 80 = .ok (.getfield 62, 3) := by decide +kernel
theorem dX6_setPops_83 : decode cX6_setPops 83 = .ok (.iload 4, 2) := by decide +kernel
theorem dX6_setPops_85 : decode cX6_setPops 85 = .ok (.iaload, 1) := by decide +kernel
theorem dX6_setPops_86 : decode cX6_setPops 86 = .ok (.ifCond .ne 22, 3) := by decide +kernel
theorem dX6_setPops_89 : decode cX6_setPops 89 = .ok (.aload_n 0, 1) := by decide +kernel
theorem dX6_setPops_90 : decode cX6_setPops 90 = .ok (.iload_n 2, 1) := by decide +kernel
theorem dX6_setPops_91 : decode cX6_setPops 91 = .ok (.iload_n 3, 1) := by decide +kernel
theorem dX6_setPops_92 : decode cX6_setPops 92 = .ok (.invokevirtual 210, 3) := by decide +kernel
theorem dX6_setPops_95 : decode cX6_setPops 95 = .ok (.ifCond .eq 13, 3) := by decide +kernel
theorem dX6_setPops_98 : decode cX6_setPops 98 = .ok (.aload_n 0, 1) := by decide +kernel
theorem dX6_setPops_99 : decode cX6_setPops 99 = .ok (.getfield 62, 3) := by decide +kernel
theorem dX6_setPops_102 : decode cX6_setPops 102 = .ok (.iload 4, 2) := by decide +kernel
theorem dX6_setPops_104 : decode cX6_setPops 104 = .ok (.iconst 1, 1) := by decide +kernel
theorem dX6_setPops_105 : decode cX6_setPops 105 = .ok (.iastore, 1) := by decide +kernel
theorem dX6_setPops_106 : decode cX6_setPops 106 = .ok (.iconst 1, 1) := by decide +kernel
theorem dX6_setPops_107 : decode cX6_setPops 107 = .ok (.istore_n 1, 1) := by decide +kernel
theorem dX6_setPops_108 : decode cX6_setPops 108 = .ok (.iinc 3 1, 3) := by decide +kernel
theorem dX6_setPops_111 : decode cX6_setPops 111 = .ok (.goto (-70), 3) := by decide +kernel
theorem dX6_setPops_114 : decode cX6_setPops 114 = .ok (.iinc 2 1, 3) := by decide +kernel
theorem dX6_setPops_117 : decode cX6_setPops 117 = .ok (.goto (-86), 3) := by decide +kernel
theorem dX6_setPops_120 : decode cX6_setPops 120 = .ok (.goto (-97), 3) := by decide +kernel
theorem dX6_setPops_123 : decode cX6_setPops 123 = .ok (.return_, 1) := by decide +kernel
theorem dX6_headsOfPile_0 : decode cX6_headsOfPile 0 = .ok (.iconst 0, 1) := by decide +kernel
theorem dX6_headsOfPile_1 : decode cX6_headsOfPile 1 = .ok (.istore_n 1, 1) := by decide +kernel
theorem dX6_headsOfPile_2 : decode cX6_headsOfPile 2 = .ok (.iload_n 1, 1) := by decide +kernel
theorem dX6_headsOfPile_3 : decode cX6_headsOfPile 3 = .ok (.iconst 3, 1) := by decide +kernel
theorem dX6_headsOfPile_4 : decode cX6_headsOfPile 4 = .ok (.if_icmp .ge 28, 3) := by decide +kernel
theorem dX6_headsOfPile_7 : decode cX6_headsOfPile 7 = .ok (.aload_n 0, 1) := by decide +kernel
theorem dX6_headsOfPile_8 : decode cX6_headsOfPile 8 = .ok (.getfield 68, 3) := by decide +kernel
theorem dX6_headsOfPile_11 : decode cX6_headsOfPile 11 = .ok (.iload_n 1, 1) := by decide +kernel
theorem dX6_headsOfPile_12 : decode cX6_headsOfPile 12 = .ok (.iload_n 1, 1) := by decide +kernel
theorem dX6_headsOfPile_13 : decode cX6_headsOfPile 13 = .ok (.aload_n 0, 1) := by decide +kernel
theorem dX6_headsOfPile_14 : decode cX6_headsOfPile 14 = .ok (.getfield 80, 3) := by decide +kernel
theorem dX6_headsOfPile_17 : decode cX6_headsOfPile 17 = .ok (.if_icmp .ne 7, 3) := by decide +kernel
theorem dX6_headsOfPile_20 : decode cX6_headsOfPile 20 = .ok (.iconst 1, 1) := by decide +kernel
theorem dX6_headsOfPile_21 : decode cX6_headsOfPile 21 = .ok (.goto 4, 3) := by decide +kernel
theorem dX6_headsOfPile_24 : decode cX6_headsOfPile 24 = .ok (.iconst 0, 1) := by decide +kernel
theorem dX6_headsOfPile_25 : decode cX6_headsOfPile 25 = .ok (.iastore, 1) := by decide +kernel
theorem dX6_headsOfPile_26 : decode cX6_headsOfPile 26 = .ok (.iinc 1 1, 3) := by decide +kernel
theorem dX6_headsOfPile_29 : decode cX6_headsOfPile 29 = .ok (.goto (-27), 3) := by decide +kernel
theorem dX6_headsOfPile_32 : decode cX6_headsOfPile 32 = .ok (.aload_n 0, 1) := by decide +kernel
theorem dX6_headsOfPile_33 : decode cX6_headsOfPile 33 = .ok (.getfield 26, 3) := by decide +kernel
theorem dX6_headsOfPile_36 : decode cX6_headsOfPile 36 = .ok (.iconst 1, 1) := by decide +kernel
theorem dX6_headsOfPile_37 : decode cX6_headsOfPile 37 = .ok (.isub, 1) := by decide +kernel
theorem dX6_headsOfPile_38 : decode cX6_headsOfPile 38 = .ok (.istore_n 1, 1) := by decide +kernel
theorem dX6_headsOfPile_39 : decode cX6_headsOfPile 39 = .ok (.iload_n 1, 1) := by decide +kernel
theorem dX6_headsOfPile_40 : decode cX6_headsOfPile 40 = .ok (.ifCond .lt 120, 3) := by decide +kernel
theorem dX6_headsOfPile_43 : decode cX6_headsOfPile 43 = .ok (.aload_n 0, 1) := by decide +kernel
theorem dX6_headsOfPile_44 : decode cX6_headsOfPile 44 = .ok (.getfield 29, 3) := by decide +kernel
theorem dX6_headsOfPile_47 : decode cX6_headsOfPile 47 = .ok (.iload_n 1, 1) := by decide +kernel
theorem dX6_headsOfPile_48 : decode cX6_headsOfPile 48 = .ok (.iaload, 1) := by decide +kernel
theorem dX6_headsOfPile_49 : decode cX6_headsOfPile 49 = .ok (.istore_n 2, 1) := by decide +kernel
theorem dX6_headsOfPile_50 : decode cX6_headsOfPile 50 = .ok (.iconst 0, 1) := by decide +kernel
theorem dX6_headsOfPile_51 : decode cX6_headsOfPile 51 = .ok (.istore_n 3, 1) := by decide +kernel
theorem dX6_headsOfPile_52 : decode cX6_headsOfPile 52 = .ok (.iconst 0, 1) := by decide +kernel
theorem dX6_headsOfPile_53 : decode cX6_headsOfPile 53 = .ok (.istore 4, 2) := by decide +kernel
theorem dX6_headsOfPile_55 : decode cX6_headsOfPile 55 = .ok (.iload 4, 2) := by decide +kernel
theorem dX6_headsOfPile_57 : decode cX6_headsOfPile 57 = .ok (.aload_n 0, 1) := by decide +kernel
theorem dX6_headsOfPile_58 : decode cX6_headsOfPile 58 = .ok (.getfield 7, 3) := by decide +kernel
theorem dX6_headsOfPile_61 : decode cX6_headsOfPile 61 = .ok (.if_icmp .ge 65, 3) := by decide +kernel
theorem dX6_headsOfPile_64 : decode cX6_headsOfPile 64 = .ok (.aload_n 0, 1) := by decide +kernel
theorem dX6_headsOfPile_65 : decode cX6_headsOfPile 65 = .ok (.getfield 68, 3) := by decide +kernel
theorem dX6_headsOfPile_68 : decode cX6_headsOfPile 68 = .ok (.iload 4, 2) := by decide +kernel
theorem dX6_headsOfPile_70 : decode cX6_headsOfPile 70 = .ok (.iaload, 1) := by decide +kernel
theorem dX6_headsOfPile_71 : decode cX6_headsOfPile 71 = .ok (.iconst 1, 1) := by decide +kernel
theorem dX6_headsOfPile_72 : decode cX6_headsOfPile 72 = .ok (.if_icmp .ne 48, 3) := by decide +kernel
theorem dX6_headsOfPile_75 : decode cX6_headsOfPile 75 = .ok (.aload_n 0, 1) := by decide +kernel
theorem dX6_headsOfPile_76 : decode cX6_headsOfPile 76 = .ok (.getfield 65, 3) := by decide +kernel
theorem dX6_headsOfPile_79 : decode cX6_headsOfPile 79 = .ok (.iconst 4, 1) := by decide +kernel
theorem dX6_headsOfPile_80 : decode cX6_headsOfPile 80 = .ok (.iload 4, 2) := by decide +kernel
theorem dX6_headsOfPile_82 : decode cX6_headsOfPile 82 = .ok (.imul, 1) := by decide +kernel
theorem dX6_headsOfPile_83 : decode cX6_headsOfPile 83 = .ok (.iload_n 2, 1) := by decide +kernel
theorem dX6_headsOfPile_84 : decode cX6_headsOfPile 84 = .ok (.iadd, 1) := by decide +kernel
theorem dX6_headsOfPile_85 : decode cX6_headsOfPile 85 = .ok (.iconst 1, 1) := by decide +kernel
theorem dX6_headsOfPile_86 : decode cX6_headsOfPile 86 = .ok (.iastore, 1) := by decide +kernel
theorem dX6_headsOfPile_87 : decode cX6_headsOfPile 87 = .ok (.iconst 0, 1) := by decide +kernel
theorem dX6_headsOfPile_88 : decode cX6_headsOfPile 88 = .ok (.istore 5, 2) := by decide +kernel
theorem dX6_headsOfPile_90 : decode cX6_headsOfPile 90 = .ok (.iload 5, 2) := by decide +kernel
theorem dX6_headsOfPile_92 : decode cX6_headsOfPile 92 = .ok (.aload_n 0, 1) := by decide +kernel
theorem dX6_headsOfPile_93 : decode cX6_headsOfPile 93 = .ok (.getfield 7, 3) := by decide +kernel
theorem dX6_headsOfPile_96 : decode cX6_headsOfPile 96 = .ok (.if_icmp .ge 24, 3) := by decide +kernel
theorem dX6_headsOfPile_99 : decode cX6_headsOfPile 99 = .ok (.iload_n 3, 1) := by decide +kernel
theorem dX6_headsOfPile_100 : decode cX6_headsOfPile 100 = .ok (.aload_n 0, 1) := by decide +kernel
theorem dX6_headsOfPile_101 : decode cX6_headsOfPile 101 = .ok (.iload 4, 2) := by decide +kernel
theorem dX6_headsOfPile_103 : decode cX6_headsOfPile 103 = .ok (.iload_n 2, 1) := by decide +kernel
theorem dX6_headsOfPile_104 : decode cX6_headsOfPile 104 = .ok (.iload 5, 2) := by decide +kernel
theorem dX6_headsOfPile_106 : decode cX6_headsOfPile 106 = .ok (.invokevirtual 207, 3) := by decide +kernel
theorem dX6_headsOfPile_109 : decode cX6_headsOfPile 109 = .ok (.iload 5, 2) := by decide +kernel
theorem dX6_headsOfPile_111 : decode cX6_headsOfPile 111 = .ok (.ishl, 1) := by decide +kernel
theorem dX6_headsOfPile_112 : decode cX6_headsOfPile 112 = .ok (.ior, 1) := by decide +kernel
theorem dX6_headsOfPile_113 : decode cX6_headsOfPile 113 = .ok (.istore_n 3, 1) := by decide +kernel
theorem dX6_headsOfPile_114 : decode cX6_headsOfPile 114 = .ok (.iinc 5 1, 3) := by decide +kernel
theorem dX6_headsOfPile_117 : decode cX6_headsOfPile 117 = .ok (.goto (-27), 3) := by decide +kernel
theorem dX6_headsOfPile_120 : decode cX6_headsOfPile 120 = .ok (.iinc 4 1, 3) := by decide +kernel
theorem dX6_headsOfPile_123 : decode cX6_headsOfPile 123 = .ok (.goto (-68), 3) := by decide +kernel
theorem dX6_headsOfPile_126 : decode cX6_headsOfPile 126 = .ok (.iconst 0, 1) := by decide +kernel
theorem dX6_headsOfPile_127 : decode cX6_headsOfPile 127 = .ok (.istore 4, 2) := by decide +kernel
theorem dX6_headsOfPile_129 : decode cX6_headsOfPile 129 = .ok (.iload 4, 2) := by decide +kernel
theorem dX6_headsOfPile_131 : decode cX6_headsOfPile 131 = .ok (.iconst 3, 1) := by decide +kernel
theorem dX6_headsOfPile_132 : decode cX6_headsOfPile 132 = .ok (.if_icmp .ge 22, 3) := by decide +kernel
theorem dX6_headsOfPile_135 : decode cX6_headsOfPile 135 = .ok (.aload_n 0, 1) := by decide +kernel
theorem dX6_headsOfPile_136 : decode cX6_headsOfPile 136 = .ok (.getfield 68, 3) := by decide +kernel
theorem dX6_headsOfPile_139 : decode cX6_headsOfPile 139 = .ok (.iload 4, 2) := by decide +kernel
theorem dX6_headsOfPile_141 : decode cX6_headsOfPile 141 = .ok (.iload_n 3, 1) := by decide +kernel
theorem dX6_headsOfPile_142 : decode cX6_headsOfPile 142 = .ok (.iload 4, 2) := by decide +kernel
theorem dX6_headsOfPile_144 : decode cX6_headsOfPile 144 = .ok (.ishr, 1) := by decide +kernel
theorem dX6_headsOfPile_145 : decode cX6_headsOfPile 145 = .ok (.iconst 1, 1) := by decide +kernel
theorem dX6_headsOfPile_146 : decode cX6_headsOfPile 146 = .ok (.iand, 1) := by decide +kernel
theorem dX6_headsOfPile_147 : decode cX6_headsOfPile 147 = .ok (.iastore, 1) := by decide +kernel
theorem dX6_headsOfPile_148 : decode cX6_headsOfPile 148 = .ok (.iinc 4 1, 3) := by decide +kernel
theorem dX6_headsOfPile_151 : decode cX6_headsOfPile 151 = .ok (.goto (-22), 3) := by decide +kernel
theorem dX6_headsOfPile_154 : decode cX6_headsOfPile 154 = .ok (.iinc 1 (-1), 3) := by decide +kernel
theorem dX6_headsOfPile_157 : decode cX6_headsOfPile 157 = .ok (.goto (-118), 3) := by decide +kernel
theorem dX6_headsOfPile_160 : decode cX6_headsOfPile 160 = .ok (.return_, 1) := by decide +kernel
theorem dX6_headMany_0 : decode cX6_headMany 0 = .ok (.iconst 0, 1) := by decide +kernel
theorem dX6_headMany_1 : decode cX6_headMany 1 = .ok (.istore_n 1, 1) := by decide +kernel
theorem dX6_headMany_2 : decode cX6_headMany 2 = .ok (.iconst 0, 1) := by decide +kernel
theorem dX6_headMany_3 : decode cX6_headMany 3 = .ok (.istore_n 2, 1) := by decide +kernel
theorem dX6_headMany_4 : decode cX6_headMany 4 = .ok (.iload_n 2, 1) := by decide +kernel
theorem dX6_headMany_5 : decode cX6_headMany 5 = .ok (.bipush 12, 2) := by decide +kernel
theorem dX6_headMany_7 : decode cX6_headMany 7 = .ok (.if_icmp .ge 18, 3) := by decide +kernel
theorem dX6_headMany_10 : decode cX6_headMany 10 = .ok (.iload_n 1, 1) := by decide +kernel
theorem dX6_headMany_11 : decode cX6_headMany 11 = .ok (.aload_n 0, 1) := by decide +kernel
theorem dX6_headMany_12 : decode cX6_headMany 12 = .ok (.getfield 65, 3) := by decide +kernel
theorem dX6_headMany_15 : decode cX6_headMany 15 = .ok (.iload_n 2, 1) := by decide +kernel
theorem dX6_headMany_16 : decode cX6_headMany 16 = .ok (.iaload, 1) := by decide +kernel
theorem dX6_headMany_17 : decode cX6_headMany 17 = .ok (.iadd, 1) := by decide +kernel
theorem dX6_headMany_18 : decode cX6_headMany 18 = .ok (.istore_n 1, 1) := by decide +kernel
theorem dX6_headMany_19 : decode cX6_headMany 19 = .ok (.iinc 2 1, 3) := by decide +kernel
theorem dX6_headMany_22 : decode cX6_headMany 22 = .ok (.goto (-18), 3) := by decide +kernel
theorem dX6_headMany_25 : decode cX6_headMany 25 = .ok (.iload_n 1, 1) := by decide +kernel
theorem dX6_headMany_26 : decode cX6_headMany 26 = .ok (.ireturn, 1) := by decide +kernel
theorem dX6_headsOf_0 : decode cX6_headsOf 0 = .ok (.aload_n 0, 1) := by decide +kernel
theorem dX6_headsOf_1 : decode cX6_headsOf 1 = .ok (.getfield 16, 3) := by decide +kernel
theorem dX6_headsOf_4 : decode cX6_headsOf 4 = .ok (.bipush 7, 2) := by decide +kernel
theorem dX6_headsOf_6 : decode cX6_headsOf 6 = .ok (.iload_n 1, 1) := by decide +kernel
theorem dX6_headsOf_7 : decode cX6_headsOf 7 = .ok (.imul, 1) := by decide +kernel
theorem dX6_headsOf_8 : decode cX6_headsOf 8 = .ok (.iconst 2, 1) := by decide +kernel
theorem dX6_headsOf_9 : decode cX6_headsOf 9 = .ok (.iadd, 1) := by decide +kernel
theorem dX6_headsOf_10 : decode cX6_headsOf 10 = .ok (.iaload, 1) := by decide +kernel
theorem dX6_headsOf_11 : decode cX6_headsOf 11 = .ok (.istore_n 2, 1) := by decide +kernel
theorem dX6_headsOf_12 : decode cX6_headsOf 12 = .ok (.aload_n 0, 1) := by decide +kernel
theorem dX6_headsOf_13 : decode cX6_headsOf 13 = .ok (.getfield 16, 3) := by decide +kernel
theorem dX6_headsOf_16 : decode cX6_headsOf 16 = .ok (.bipush 7, 2) := by decide +kernel
theorem dX6_headsOf_18 : decode cX6_headsOf 18 = .ok (.iload_n 1, 1) := by decide +kernel
theorem dX6_headsOf_19 : decode cX6_headsOf 19 = .ok (.imul, 1) := by decide +kernel
theorem dX6_headsOf_20 : decode cX6_headsOf 20 = .ok (.iconst 3, 1) := by decide +kernel
theorem dX6_headsOf_21 : decode cX6_headsOf 21 = .ok (.iadd, 1) := by decide +kernel
theorem dX6_headsOf_22 : decode cX6_headsOf 22 = .ok (.iaload, 1) := by decide +kernel
theorem dX6_headsOf_23 : decode cX6_headsOf 23 = .ok (.istore_n 3, 1) := by decide +kernel
theorem dX6_headsOf_24 : decode cX6_headsOf 24 = .ok (.iload_n 3, 1) := by decide +kernel
theorem dX6_headsOf_25 : decode cX6_headsOf 25 = .ok (.ifCond .le 24, 3) := by decide +kernel
theorem dX6_headsOf_28 : decode cX6_headsOf 28 = .ok (.aload_n 0, 1) := by decide +kernel
theorem dX6_headsOf_29 : decode cX6_headsOf 29 = .ok (.getfield 65, 3) := by decide +kernel
theorem dX6_headsOf_32 : decode cX6_headsOf 32 = .ok (.iconst 4, 1) := by decide +kernel
theorem dX6_headsOf_33 : decode cX6_headsOf 33 = .ok (.iload_n 2, 1) := by decide +kernel
theorem dX6_headsOf_34 : decode cX6_headsOf 34 = .ok (.imul, 1) := by decide +kernel
theorem dX6_headsOf_35 : decode cX6_headsOf 35 = .ok (.aload_n 0, 1) := by decide +kernel
theorem dX6_headsOf_36 : decode cX6_headsOf 36 = .ok (.getfield 16, 3) := by decide +kernel
theorem dX6_headsOf_39 : decode cX6_headsOf 39 = .ok (.bipush 7, 2) := by decide +kernel
theorem dX6_headsOf_41 : decode cX6_headsOf 41 = .ok (.iload_n 1, 1) := by decide +kernel
theorem dX6_headsOf_42 : decode cX6_headsOf 42 = .ok (.imul, 1) := by decide +kernel
theorem dX6_headsOf_43 : decode cX6_headsOf 43 = .ok (.iconst 4, 1) := by decide +kernel
theorem dX6_headsOf_44 : decode cX6_headsOf 44 = .ok (.iadd, 1) := by decide +kernel
theorem dX6_headsOf_45 : decode cX6_headsOf 45 = .ok (.iaload, 1) := by decide +kernel
theorem dX6_headsOf_46 : decode cX6_headsOf 46 = .ok (.iadd, 1) := by decide +kernel
theorem dX6_headsOf_47 : decode cX6_headsOf 47 = .ok (.iconst 1, 1) := by decide +kernel
theorem dX6_headsOf_48 : decode cX6_headsOf 48 = .ok (.iastore, 1) := by decide +kernel
theorem dX6_headsOf_49 : decode cX6_headsOf 49 = .ok (.iconst 0, 1) := by decide +kernel
theorem dX6_headsOf_50 : decode cX6_headsOf 50 = .ok (.istore 4, 2) := by decide +kernel
theorem dX6_headsOf_52 : decode cX6_headsOf 52 = .ok (.iload 4, 2) := by decide +kernel
theorem dX6_headsOf_54 : decode cX6_headsOf 54 = .ok (.aload_n 0, 1) := by decide +kernel
theorem dX6_headsOf_55 : decode cX6_headsOf 55 = .ok (.getfield 7, 3) := by decide +kernel
theorem dX6_headsOf_58 : decode cX6_headsOf 58 = .ok (.if_icmp .ge 58, 3) := by decide +kernel
theorem dX6_headsOf_61 : decode cX6_headsOf 61 = .ok (.iload_n 3, 1) := by decide +kernel
theorem dX6_headsOf_62 : decode cX6_headsOf 62 = .ok (.iconst 2, 1) := by decide +kernel
theorem dX6_headsOf_63 : decode cX6_headsOf 63 = .ok (.if_icmp .ne 53, 3) := by decide +kernel
theorem dX6_headsOf_66 : decode cX6_headsOf 66 = .ok (.aload_n 0, 1) := by decide +kernel
theorem dX6_headsOf_67 : decode cX6_headsOf 67 = .ok (.iload_n 2, 1) := by decide +kernel
theorem dX6_headsOf_68 : decode cX6_headsOf 68 = .ok (.aload_n 0, 1) := by decide +kernel
theorem dX6_headsOf_69 : decode cX6_headsOf 69 = .ok (.getfield 16, 3) := by decide +kernel
theorem dX6_headsOf_72 : decode cX6_headsOf 72 = .ok (.bipush 7, 2) := by decide +kernel
theorem dX6_headsOf_74 : decode cX6_headsOf 74 = .ok (.iload_n 1, 1) := by decide +kernel
theorem dX6_headsOf_75 : decode cX6_headsOf 75 = .ok (.imul, 1) := by decide +kernel
theorem dX6_headsOf_76 : decode cX6_headsOf 76 = .ok (.iconst 4, 1) := by decide +kernel
theorem dX6_headsOf_77 : decode cX6_headsOf 77 = .ok (.iadd, 1) := by decide +kernel
theorem dX6_headsOf_78 : decode cX6_headsOf 78 = .ok (.iaload, 1) := by decide +kernel
theorem dX6_headsOf_79 : decode cX6_headsOf 79 = .ok (.iload 4, 2) := by decide +kernel
theorem dX6_headsOf_81 : decode cX6_headsOf 81 = .ok (.invokevirtual 207, 3) := by decide +kernel
theorem dX6_headsOf_84 : decode cX6_headsOf 84 = .ok (.iconst 1, 1) := by decide +kernel
theorem dX6_headsOf_85 : decode cX6_headsOf 85 = .ok (.if_icmp .ne 25, 3) := by decide +kernel
theorem dX6_headsOf_88 : decode cX6_headsOf 88 = .ok (.aload_n 0, 1) := by decide +kernel
theorem dX6_headsOf_89 : decode cX6_headsOf 89 = .ok (.getfield 65, 3) := by decide +kernel
theorem dX6_headsOf_92 : decode cX6_headsOf 92 = .ok (.iconst 4, 1) := by decide +kernel
theorem dX6_headsOf_93 : decode cX6_headsOf 93 = .ok (.iload 4, 2) := by decide +kernel
theorem dX6_headsOf_95 : decode cX6_headsOf 95 = .ok (.imul, 1) := by decide +kernel
theorem dX6_headsOf_96 : decode cX6_headsOf 96 = .ok (.aload_n 0, 1) := by decide +kernel
theorem dX6_headsOf_97 : decode cX6_headsOf 97 = .ok (.getfield 16, 3) := by decide +kernel
theorem dX6_headsOf_100 : decode cX6_headsOf 100 = .ok (.bipush 7, 2) := by decide +kernel
theorem dX6_headsOf_102 : decode cX6_headsOf 102 = .ok (.iload_n 1, 1) := by decide +kernel
theorem dX6_headsOf_103 : decode cX6_headsOf 103 = .ok (.imul, 1) := by decide +kernel
theorem dX6_headsOf_104 : decode cX6_headsOf 104 = .ok (.iconst 5, 1) := by decide +kernel
theorem dX6_headsOf_105 : decode cX6_headsOf 105 = .ok (.iadd, 1) := by decide +kernel
theorem dX6_headsOf_106 : decode cX6_headsOf 106 = .ok (.iaload, 1) := by decide +kernel
theorem dX6_headsOf_107 : decode cX6_headsOf 107 = .ok (.iadd, 1) := by decide +kernel
theorem dX6_headsOf_108 : decode cX6_headsOf 108 = .ok (.iconst 1, 1) := by decide +kernel
theorem dX6_headsOf_109 : decode cX6_headsOf 109 = .ok (.iastore, 1) := by decide +kernel
theorem dX6_headsOf_110 : decode cX6_headsOf 110 = .ok (.iinc 4 1, 3) := by decide +kernel
theorem dX6_headsOf_113 : decode cX6_headsOf 113 = .ok (.goto (-61), 3) := by decide +kernel
theorem dX6_headsOf_116 : decode cX6_headsOf 116 = .ok (.return_, 1) := by decide +kernel
theorem dX6_setHeads_0 : decode cX6_setHeads 0 = .ok (.aload_n 0, 1) := by decide +kernel
theorem dX6_setHeads_1 : decode cX6_setHeads 1 = .ok (.invokevirtual 214, 3) := by decide +kernel
theorem dX6_setHeads_4 : decode cX6_setHeads 4 = .ok (.iconst 0, 1) := by decide +kernel
theorem dX6_setHeads_5 : decode cX6_setHeads 5 = .ok (.istore_n 1, 1) := by decide +kernel
theorem dX6_setHeads_6 : decode cX6_setHeads 6 = .ok (.iload_n 1, 1) := by decide +kernel
theorem dX6_setHeads_7 : decode cX6_setHeads 7 = .ok (.bipush 12, 2) := by decide +kernel
theorem dX6_setHeads_9 : decode cX6_setHeads 9 = .ok (.if_icmp .ge 16, 3) := by decide +kernel
theorem dX6_setHeads_12 : decode cX6_setHeads 12 = .ok (.aload_n 0, 1) := by decide +kernel
theorem dX6_setHeads_13 : decode cX6_setHeads 13 = .ok (.getfield 65, 3) := by decide +kernel
theorem dX6_setHeads_16 : decode cX6_setHeads 16 = .ok (.iload_n 1, 1) := by decide +kernel
theorem dX6_setHeads_17 : decode cX6_setHeads 17 = .ok (.iconst 0, 1) := by decide +kernel
theorem dX6_setHeads_18 : decode cX6_setHeads 18 = .ok (.iastore, 1) := by decide +kernel
theorem dX6_setHeads_19 : decode cX6_setHeads 19 = .ok (.iinc 1 1, 3) := by decide +kernel
theorem dX6_setHeads_22 : decode cX6_setHeads 22 = .ok (.goto (-16), 3) := by decide +kernel
theorem dX6_setHeads_25 : decode cX6_setHeads 25 = .ok (.aload_n 0, 1) := by decide +kernel
theorem dX6_setHeads_26 : decode cX6_setHeads 26 = .ok (.invokevirtual 217, 3) := by decide +kernel
theorem dX6_setHeads_29 : decode cX6_setHeads 29 = .ok (.iconst (-1), 1) := by decide +kernel
theorem dX6_setHeads_30 : decode cX6_setHeads 30 = .ok (.istore_n 1, 1) := by decide +kernel
theorem dX6_setHeads_31 : decode cX6_setHeads 31 = .ok (.iload_n 1, 1) := by decide +kernel
theorem dX6_setHeads_32 : decode cX6_setHeads 32 = .ok (.aload_n 0, 1) := by decide +kernel
theorem dX6_setHeads_33 : decode cX6_setHeads 33 = .ok (.invokevirtual 220, 3) := by decide +kernel
theorem dX6_setHeads_36 : decode cX6_setHeads 36 = .ok (.if_icmp .eq 64, 3) := by decide +kernel
theorem dX6_setHeads_39 : decode cX6_setHeads 39 = .ok (.aload_n 0, 1) := by decide +kernel
theorem dX6_setHeads_40 : decode cX6_setHeads 40 = .ok (.invokevirtual 220, 3) := by decide +kernel
theorem dX6_setHeads_43 : decode cX6_setHeads 43 = .ok (.istore_n 1, 1) := by decide +kernel
theorem dX6_setHeads_44 : decode cX6_setHeads 44 = .ok (.iconst 0, 1) := by decide +kernel
theorem dX6_setHeads_45 : decode cX6_setHeads 45 = .ok (.istore_n 2, 1) := by decide +kernel
theorem dX6_setHeads_46 : decode cX6_setHeads 46 = .ok (.iload_n 2, 1) := by decide +kernel
theorem dX6_setHeads_47 : decode cX6_setHeads 47 = .ok (.aload_n 0, 1) := by decide +kernel
theorem dX6_setHeads_48 : decode cX6_setHeads 48 = .ok (.getfield 13, 3) := by decide +kernel
theorem dX6_setHeads_51 : decode cX6_setHeads 51 = .ok (.if_icmp .ge 46, 3) := by decide +kernel
theorem dX6_setHeads_54 : decode cX6_setHeads 54 = .ok (.aload_n 0, 1) := by decide +kernel
theorem dX6_setHeads_55 : decode cX6_setHeads 55 = .ok (.getfield 65, 3) := by decide +kernel
theorem dX6_setHeads_58 : decode cX6_setHeads 58 = .ok (.iconst 4, 1) := by decide +kernel
theorem dX6_setHeads_59 : decode cX6_setHeads 59 = .ok (.aload_n 0, 1) := by decide +kernel
theorem dX6_setHeads_60 : decode cX6_setHeads 60 = .ok (.getfield 16, 3) := by decide +kernel
theorem dX6_setHeads_63 : decode cX6_setHeads 63 = .ok (.bipush 7, 2) := by decide +kernel
theorem dX6_setHeads_65 : decode cX6_setHeads 65 = .ok (.iload_n 2, 1) := by decide +kernel
theorem dX6_setHeads_66 : decode cX6_setHeads 66 = .ok (.imul, 1) := by decide +kernel
theorem dX6_setHeads_67 : decode cX6_setHeads 67 = .ok (.iaload, 1) := by decide +kernel
theorem dX6_setHeads_68 : decode cX6_setHeads 68 = .ok (.imul, 1) := by decide +kernel
theorem dX6_setHeads_69 : decode cX6_setHeads 69 = .ok (.aload_n 0, 1) := by decide +kernel
theorem dX6_setHeads_70 : decode cX6_setHeads 70 = .ok (.getfield 16, 3) := by decide +kernel
theorem dX6_setHeads_73 : decode cX6_setHeads 73 = .ok (.bipush 7, 2) := by decide +kernel
theorem dX6_setHeads_75 : decode cX6_setHeads 75 = .ok (.iload_n 2, 1) := by decide +kernel
theorem dX6_setHeads_76 : decode cX6_setHeads 76 = .ok (.imul, 1) := by decide +kernel
theorem dX6_setHeads_77 : decode cX6_setHeads 77 = .ok (.iconst 1, 1) := by decide +kernel
theorem dX6_setHeads_78 : decode cX6_setHeads 78 = .ok (.iadd, 1) := by decide +kernel
theorem dX6_setHeads_79 : decode cX6_setHeads 79 = .ok (.iaload, 1) := by decide +kernel
theorem dX6_setHeads_80 : decode cX6_setHeads 80 = .ok (.iadd, 1) := by decide +kernel
theorem dX6_setHeads_81 : decode cX6_setHeads 81 = .ok (.iaload, 1) := by decide +kernel
theorem dX6_setHeads_82 : decode cX6_setHeads 82 = .ok (.iconst 1, 1) := by decide +kernel
theorem dX6_setHeads_83 : decode cX6_setHeads 83 = .ok (.if_icmp .ne 8, 3) := by decide +kernel
theorem dX6_setHeads_86 : decode cX6_setHeads 86 = .ok (.aload_n 0, 1) := by decide +kernel
theorem dX6_setHeads_87 : decode cX6_setHeads 87 = .ok (.iload_n 2, 1) := by decide +kernel
theorem dX6_setHeads_88 : decode cX6_setHeads 88 = .ok (.invokevirtual 223, 3) := by decide +kernel
theorem dX6_setHeads_91 : decode cX6_setHeads 91 = .ok (.iinc 2 1, 3) := by decide +kernel
theorem dX6_setHeads_94 : decode cX6_setHeads 94 = .ok (.goto (-48), 3) := by decide +kernel
theorem dX6_setHeads_97 : decode cX6_setHeads 97 = .ok (.goto (-66), 3) := by decide +kernel
theorem dX6_setHeads_100 : decode cX6_setHeads 100 = .ok (.return_, 1) := by decide +kernel
theorem dX6_heads_0 : decode cX6_heads 0 = .ok (.aload_n 0, 1) := by decide +kernel
theorem dX6_heads_1 : decode cX6_heads 1 = .ok (.iload_n 1, 1) := by decide +kernel
theorem dX6_heads_2 : decode cX6_heads 2 = .ok (.invokevirtual 120, 3) := by decide +kernel
theorem dX6_heads_5 : decode cX6_heads 5 = .ok (.ifCond .eq 10, 3) := by decide +kernel
theorem dX6_heads_8 : decode cX6_heads 8 = .ok (.iload_n 2, 1) := by decide +kernel
theorem dX6_heads_9 : decode cX6_heads 9 = .ok (.invokestatic 107, 3) := by decide +kernel
theorem dX6_heads_12 : decode cX6_heads 12 = .ok (.ifCond .ne 5, 3) := by decide +kernel
theorem dX6_heads_15 : decode cX6_heads 15 = .ok (.iconst (-1), 1) := by decide +kernel
theorem dX6_heads_16 : decode cX6_heads 16 = .ok (.ireturn, 1) := by decide +kernel
theorem dX6_heads_17 : decode cX6_heads 17 = .ok (.aload_n 0, 1) := by decide +kernel
theorem dX6_heads_18 : decode cX6_heads 18 = .ok (.invokevirtual 226, 3) := by decide +kernel
theorem dX6_heads_21 : decode cX6_heads 21 = .ok (.aload_n 0, 1) := by decide +kernel
theorem dX6_heads_22 : decode cX6_heads 22 = .ok (.getfield 65, 3) := by decide +kernel
theorem dX6_heads_25 : decode cX6_heads 25 = .ok (.iconst 4, 1) := by decide +kernel
theorem dX6_heads_26 : decode cX6_heads 26 = .ok (.iload_n 1, 1) := by decide +kernel
theorem dX6_heads_27 : decode cX6_heads 27 = .ok (.imul, 1) := by decide +kernel
theorem dX6_heads_28 : decode cX6_heads 28 = .ok (.iload_n 2, 1) := by decide +kernel
theorem dX6_heads_29 : decode cX6_heads 29 = .ok (.iadd, 1) := by decide +kernel
theorem dX6_heads_30 : decode cX6_heads 30 = .ok (.iaload, 1) := by decide +kernel
theorem dX6_heads_31 : decode cX6_heads 31 = .ok (.ireturn, 1) := by decide +kernel
theorem dX6_empty_0 : decode cX6_empty 0 = .ok (.aload_n 0, 1) := by decide +kernel
theorem dX6_empty_1 : decode cX6_empty 1 = .ok (.iload_n 1, 1) := by decide +kernel
theorem dX6_empty_2 : decode cX6_empty 2 = .ok (.invokevirtual 120, 3) := by decide +kernel
theorem dX6_empty_5 : decode cX6_empty 5 = .ok (.ifCond .ne 5, 3) := by decide +kernel
theorem dX6_empty_8 : decode cX6_empty 8 = .ok (.iconst (-1), 1) := by decide +kernel
theorem dX6_empty_9 : decode cX6_empty 9 = .ok (.ireturn, 1) := by decide +kernel
theorem dX6_empty_10 : decode cX6_empty 10 = .ok (.aload_n 0, 1) := by decide +kernel
theorem dX6_empty_11 : decode cX6_empty 11 = .ok (.invokevirtual 226, 3) := by decide +kernel
theorem dX6_empty_14 : decode cX6_empty 14 = .ok (.aload_n 0, 1) := by decide +kernel
theorem dX6_empty_15 : decode cX6_empty 15 = .ok (.getfield 68, 3) := by decide +kernel
theorem dX6_empty_18 : decode cX6_empty 18 = .ok (.iload_n 1, 1) := by decide +kernel
theorem dX6_empty_19 : decode cX6_empty 19 = .ok (.iaload, 1) := by decide +kernel
theorem dX6_empty_20 : decode cX6_empty 20 = .ok (.ireturn, 1) := by decide +kernel
theorem dX6_stuck_0 : decode cX6_stuck 0 = .ok (.aload_n 0, 1) := by decide +kernel
theorem dX6_stuck_1 : decode cX6_stuck 1 = .ok (.invokevirtual 226, 3) := by decide +kernel
theorem dX6_stuck_4 : decode cX6_stuck 4 = .ok (.aload_n 0, 1) := by decide +kernel
theorem dX6_stuck_5 : decode cX6_stuck 5 = .ok (.getfield 68, 3) := by decide +kernel
theorem dX6_stuck_8 : decode cX6_stuck 8 = .ok (.iconst 0, 1) := by decide +kernel
theorem dX6_stuck_9 : decode cX6_stuck 9 = .ok (.iaload, 1) := by decide +kernel
theorem dX6_stuck_10 : decode cX6_stuck 10 = .ok (.aload_n 0, 1) := by decide +kernel
theorem dX6_stuck_11 : decode cX6_stuck 11 = .ok (.getfield 68, 3) := by decide +kernel
theorem dX6_stuck_14 : decode cX6_stuck 14 = .ok (.iconst 1, 1) := by decide +kernel
theorem dX6_stuck_15 : decode cX6_stuck 15 = .ok (.iaload, 1) := by decide +kernel
theorem dX6_stuck_16 : decode cX6_stuck 16 = .ok (.iadd, 1) := by decide +kernel
theorem dX6_stuck_17 : decode cX6_stuck 17 = .ok (.aload_n 0, 1) := by decide +kernel
theorem dX6_stuck_18 : decode cX6_stuck 18 = .ok (.getfield 68, 3) := by decide +kernel
theorem dX6_stuck_21 : decode cX6_stuck 21 = .ok (.iconst 2, 1) := by decide +kernel
theorem dX6_stuck_22 : decode cX6_stuck 22 = .ok (.iaload, 1) := by decide +kernel
theorem dX6_stuck_23 : decode cX6_stuck 23 = .ok (.iadd, 1) := by decide +kernel
theorem dX6_stuck_24 : decode cX6_stuck 24 = .ok (.istore_n 1, 1) := by decide +kernel
theorem dX6_stuck_25 : decode cX6_stuck 25 = .ok (.iconst 0, 1) := by decide +kernel
theorem dX6_stuck_26 : decode cX6_stuck 26 = .ok (.istore_n 2, 1) := by decide +kernel
theorem dX6_stuck_27 : decode cX6_stuck 27 = .ok (.iload_n 2, 1) := by decide +kernel
theorem dX6_stuck_28 : decode cX6_stuck 28 = .ok (.iconst 4, 1) := by decide +kernel
theorem dX6_stuck_29 : decode cX6_stuck 29 = .ok (.aload_n 0, 1) := by decide +kernel
theorem dX6_stuck_30 : decode cX6_stuck 30 = .ok (.getfield 7, 3) := by decide +kernel
theorem dX6_stuck_33 : decode cX6_stuck 33 = .ok (.imul, 1) := by decide +kernel
theorem dX6_stuck_34 : decode cX6_stuck 34 = .ok (.if_icmp .ge 76, 3) := by decide +kernel
theorem dX6_stuck_37 : decode cX6_stuck 37 = .ok (.iconst 0, 1) := by decide +kernel
theorem dX6_stuck_38 : decode cX6_stuck 38 = .ok (.istore_n 3, 1) := by decide +kernel
theorem dX6_stuck_39 : decode cX6_stuck 39 = .ok (.iconst 0, 1) := by decide +kernel
theorem dX6_stuck_40 : decode cX6_stuck 40 = .ok (.istore 4, 2) := by decide +kernel
theorem dX6_stuck_42 : decode cX6_stuck 42 = .ok (.iload 4, 2) := by decide +kernel
theorem dX6_stuck_44 : decode cX6_stuck 44 = .ok (.aload_n 0, 1) := by decide +kernel
theorem dX6_stuck_45 : decode cX6_stuck 45 = .ok (.getfield 13, 3) := by decide +kernel
theorem dX6_stuck_48 : decode cX6_stuck 48 = .ok (.if_icmp .ge 34, 3) := by decide +kernel
theorem dX6_stuck_51 : decode cX6_stuck 51 = .ok (.iload_n 3, 1) := by decide +kernel
theorem dX6_stuck_52 : decode cX6_stuck 52 = .ok (.ifCond .ne 18, 3) := by decide +kernel
theorem dX6_stuck_55 : decode cX6_stuck 55 = .ok (.aload_n 0, 1) := by decide +kernel
theorem dX6_stuck_56 : decode cX6_stuck 56 = .ok (.iload 4, 2) := by decide +kernel
theorem dX6_stuck_58 : decode cX6_stuck 58 = .ok (.iload_n 2, 1) := by decide +kernel
theorem dX6_stuck_59 : decode cX6_stuck 59 = .ok (.iconst 4, 1) := by decide +kernel
theorem dX6_stuck_60 : decode cX6_stuck 60 = .ok (.idiv, 1) := by decide +kernel
theorem dX6_stuck_61 : decode cX6_stuck 61 = .ok (.iload_n 2, 1) := by decide +kernel
theorem dX6_stuck_62 : decode cX6_stuck 62 = .ok (.iconst 4, 1) := by decide +kernel
theorem dX6_stuck_63 : decode cX6_stuck 63 = .ok (.irem, 1) := by decide +kernel
theorem dX6_stuck_64 : decode cX6_stuck 64 = .ok (.invokevirtual 113, 3) := by decide +kernel
theorem dX6_stuck_67 : decode cX6_stuck 67 = .ok (.ifCond .eq 7, 3) := by decide +kernel
theorem dX6_stuck_70 : decode cX6_stuck 70 = .ok (.iconst 1, 1) := by decide +kernel
theorem dX6_stuck_71 : decode cX6_stuck 71 = .ok (.goto 4, 3) := by decide +kernel
theorem dX6_stuck_74 : decode cX6_stuck 74 = .ok (.iconst 0, 1) := by decide +kernel
theorem dX6_stuck_75 : decode cX6_stuck 75 = .ok (.istore_n 3, 1) := by decide +kernel
theorem dX6_stuck_76 : decode cX6_stuck 76 = .ok (.iinc 4 1, 3) := by decide +kernel
theorem dX6_stuck_79 : decode cX6_stuck 79 = .ok (.goto (-37), 3) := by decide +kernel
theorem dX6_stuck_82 : decode cX6_stuck 82 = .ok (.iload_n 1, 1) := by decide +kernel
theorem dX6_stuck_83 : decode cX6_stuck 83 = .ok (.aload_n 0, 1) := by decide +kernel
theorem dX6_stuck_84 : decode cX6_stuck 84 = .ok (.getfield 65, 3) := by decide +kernel
theorem dX6_stuck_87 : decode cX6_stuck 87 = .ok (.iload_n 2, 1) := by decide +kernel
theorem dX6_stuck_88 : decode cX6_stuck 88 = .ok (.iaload, 1) := by decide +kernel
theorem dX6_stuck_89 : decode cX6_stuck 89 = .ok (.iconst 1, 1) := by decide +kernel
theorem dX6_stuck_90 : decode cX6_stuck 90 = .ok (.if_icmp .ne 11, 3) := by decide +kernel
theorem dX6_stuck_93 : decode cX6_stuck 93 = .ok (.iload_n 3, 1) := by decide +kernel
theorem dX6_stuck_94 : decode cX6_stuck 94 = .ok (.ifCond .ne 7, 3) := by decide +kernel
theorem dX6_stuck_97 : decode cX6_stuck 97 = .ok (.iconst 1, 1) := by decide +kernel
theorem dX6_stuck_98 : decode cX6_stuck 98 = .ok (.goto 4, 3) := by decide +kernel
theorem dX6_stuck_101 : decode cX6_stuck 101 = .ok (.iconst 0, 1) := by decide +kernel
theorem dX6_stuck_102 : decode cX6_stuck 102 = .ok (.iadd, 1) := by decide +kernel
theorem dX6_stuck_103 : decode cX6_stuck 103 = .ok (.istore_n 1, 1) := by decide +kernel
theorem dX6_stuck_104 : decode cX6_stuck 104 = .ok (.iinc 2 1, 3) := by decide +kernel
theorem dX6_stuck_107 : decode cX6_stuck 107 = .ok (.goto (-80), 3) := by decide +kernel
theorem dX6_stuck_110 : decode cX6_stuck 110 = .ok (.iload_n 1, 1) := by decide +kernel
theorem dX6_stuck_111 : decode cX6_stuck 111 = .ok (.ireturn, 1) := by decide +kernel
theorem dX6_fitting_0 : decode cX6_fitting 0 = .ok (.iconst 0, 1) := by decide +kernel
theorem dX6_fitting_1 : decode cX6_fitting 1 = .ok (.istore_n 1, 1) := by decide +kernel
theorem dX6_fitting_2 : decode cX6_fitting 2 = .ok (.iconst 0, 1) := by decide +kernel
theorem dX6_fitting_3 : decode cX6_fitting 3 = .ok (.istore_n 2, 1) := by decide +kernel
theorem dX6_fitting_4 : decode cX6_fitting 4 = .ok (.iload_n 2, 1) := by decide +kernel
theorem dX6_fitting_5 : decode cX6_fitting 5 = .ok (.aload_n 0, 1) := by decide +kernel
theorem dX6_fitting_6 : decode cX6_fitting 6 = .ok (.getfield 13, 3) := by decide +kernel
theorem dX6_fitting_9 : decode cX6_fitting 9 = .ok (.if_icmp .ge 47, 3) := by decide +kernel
theorem dX6_fitting_12 : decode cX6_fitting 12 = .ok (.aload_n 0, 1) := by decide +kernel
theorem dX6_fitting_13 : decode cX6_fitting 13 = .ok (.getfield 26, 3) := by decide +kernel
theorem dX6_fitting_16 : decode cX6_fitting 16 = .ok (.ifCond .le 40, 3) := by decide +kernel
theorem dX6_fitting_19 : decode cX6_fitting 19 = .ok (.iload_n 1, 1) := by decide +kernel
theorem dX6_fitting_20 : decode cX6_fitting 20 = .ok (.aload_n 0, 1) := by decide +kernel
theorem dX6_fitting_21 : decode cX6_fitting 21 = .ok (.iload_n 2, 1) := by decide +kernel
theorem dX6_fitting_22 : decode cX6_fitting 22 = .ok (.aload_n 0, 1) := by decide +kernel
theorem dX6_fitting_23 : decode cX6_fitting 23 = .ok (.getfield 80, 3) := by decide +kernel
theorem dX6_fitting_26 : decode cX6_fitting 26 = .ok (.aload_n 0, 1) := by decide +kernel
theorem dX6_fitting_27 : decode cX6_fitting 27 = .ok (.getfield 29, 3) := by decide +kernel
theorem dX6_fitting_30 : decode cX6_fitting 30 = .ok (.aload_n 0, 1) := by decide +kernel
theorem dX6_fitting_31 : decode cX6_fitting 31 = .ok (.getfield 26, 3) := by decide +kernel
theorem dX6_fitting_34 : decode cX6_fitting 34 = .ok (.iconst 1, 1) := by decide +kernel
theorem dX6_fitting_35 : decode cX6_fitting 35 = .ok (.isub, 1) := by decide +kernel
theorem dX6_fitting_36 : decode cX6_fitting 36 = .ok (.iaload, 1) := by decide +kernel
theorem dX6_fitting_37 : decode cX6_fitting 37 = .ok (.invokevirtual 113, 3) := by decide +kernel
theorem dX6_fitting_40 : decode cX6_fitting 40 = .ok (.ifCond .eq 7, 3) := by decide +kernel
theorem dX6_fitting_43 : decode cX6_fitting 43 = .ok (.iconst 1, 1) := by decide +kernel
theorem dX6_fitting_44 : decode cX6_fitting 44 = .ok (.goto 4, 3) := by decide +kernel
theorem dX6_fitting_47 : decode cX6_fitting 47 = .ok (.iconst 0, 1) := by decide +kernel
theorem dX6_fitting_48 : decode cX6_fitting 48 = .ok (.iadd, 1) := by decide +kernel
theorem dX6_fitting_49 : decode cX6_fitting 49 = .ok (.istore_n 1, 1) := by decide +kernel
theorem dX6_fitting_50 : decode cX6_fitting 50 = .ok (.iinc 2 1, 3) := by decide +kernel
theorem dX6_fitting_53 : decode cX6_fitting 53 = .ok (.goto (-49), 3) := by decide +kernel
theorem dX6_fitting_56 : decode cX6_fitting 56 = .ok (.iload_n 1, 1) := by decide +kernel
theorem dX6_fitting_57 : decode cX6_fitting 57 = .ok (.ireturn, 1) := by decide +kernel
theorem dX6_fittingAt_0 : decode cX6_fittingAt 0 = .ok (.iload_n 1, 1) := by decide +kernel
theorem dX6_fittingAt_1 : decode cX6_fittingAt 1 = .ok (.istore_n 2, 1) := by decide +kernel
theorem dX6_fittingAt_2 : decode cX6_fittingAt 2 = .ok (.iconst 0, 1) := by decide +kernel
theorem dX6_fittingAt_3 : decode cX6_fittingAt 3 = .ok (.istore_n 3, 1) := by decide +kernel
theorem dX6_fittingAt_4 : decode cX6_fittingAt 4 = .ok (.iload_n 3, 1) := by decide +kernel
theorem dX6_fittingAt_5 : decode cX6_fittingAt 5 = .ok (.aload_n 0, 1) := by decide +kernel
theorem dX6_fittingAt_6 : decode cX6_fittingAt 6 = .ok (.getfield 13, 3) := by decide +kernel
theorem dX6_fittingAt_9 : decode cX6_fittingAt 9 = .ok (.if_icmp .ge 41, 3) := by decide +kernel
theorem dX6_fittingAt_12 : decode cX6_fittingAt 12 = .ok (.aload_n 0, 1) := by decide +kernel
theorem dX6_fittingAt_13 : decode cX6_fittingAt 13 = .ok (.iload_n 3, 1) := by decide +kernel
theorem dX6_fittingAt_14 : decode cX6_fittingAt 14 = .ok (.aload_n 0, 1) := by decide +kernel
theorem dX6_fittingAt_15 : decode cX6_fittingAt 15 = .ok (.getfield 80, 3) := by decide +kernel
theorem dX6_fittingAt_18 : decode cX6_fittingAt 18 = .ok (.aload_n 0, 1) := by decide +kernel
theorem dX6_fittingAt_19 : decode cX6_fittingAt 19 = .ok (.getfield 29, 3) := by decide +kernel
theorem dX6_fittingAt_22 : decode cX6_fittingAt 22 = .ok (.aload_n 0, 1) := by decide +kernel
theorem dX6_fittingAt_23 : decode cX6_fittingAt 23 = .ok (.getfield 26, 3) := by decide +kernel
theorem dX6_fittingAt_26 : decode cX6_fittingAt 26 = .ok (.iconst 1, 1) := by decide +kernel
theorem dX6_fittingAt_27 : decode cX6_fittingAt 27 = .ok (.isub, 1) := by decide +kernel
theorem dX6_fittingAt_28 : decode cX6_fittingAt 28 = .ok (.iaload, 1) := by decide +kernel
theorem dX6_fittingAt_29 : decode cX6_fittingAt 29 = .ok (.invokevirtual 113, 3) := by decide +kernel
theorem dX6_fittingAt_32 : decode cX6_fittingAt 32 = .ok (.ifCond .eq 12, 3) := by decide +kernel
theorem dX6_fittingAt_35 : decode cX6_fittingAt 35 = .ok (.iload_n 2, 1) := by decide +kernel
theorem dX6_fittingAt_36 : decode cX6_fittingAt 36 = .ok (.ifCond .ne 5, 3) := by decide +kernel
theorem dX6_fittingAt_39 : decode cX6_fittingAt 39 = .ok (.iload_n 3, 1) := by decide +kernel
theorem dX6_fittingAt_40 : decode cX6_fittingAt 40 = .ok (.ireturn, 1) := by decide +kernel
theorem dX6_fittingAt_41 : decode cX6_fittingAt 41 = .ok (.iinc 2 (-1), 3) := by decide +kernel
theorem dX6_fittingAt_44 : decode cX6_fittingAt 44 = .ok (.iinc 3 1, 3) := by decide +kernel
theorem dX6_fittingAt_47 : decode cX6_fittingAt 47 = .ok (.goto (-43), 3) := by decide +kernel
theorem dX6_fittingAt_50 : decode cX6_fittingAt 50 = .ok (.bipush (-4), 2) := by decide +kernel
theorem dX6_fittingAt_52 : decode cX6_fittingAt 52 = .ok (.ireturn, 1) := by decide +kernel
theorem dX6_walks_0 : decode cX6_walks 0 = .ok (.aload_n 0, 1) := by decide +kernel
theorem dX6_walks_1 : decode cX6_walks 1 = .ok (.invokevirtual 229, 3) := by decide +kernel
theorem dX6_walks_4 : decode cX6_walks 4 = .ok (.istore_n 3, 1) := by decide +kernel
theorem dX6_walks_5 : decode cX6_walks 5 = .ok (.iload_n 3, 1) := by decide +kernel
theorem dX6_walks_6 : decode cX6_walks 6 = .ok (.ifCond .ne 5, 3) := by decide +kernel
theorem dX6_walks_9 : decode cX6_walks 9 = .ok (.iconst 0, 1) := by decide +kernel
theorem dX6_walks_10 : decode cX6_walks 10 = .ok (.ireturn, 1) := by decide +kernel
theorem dX6_walks_11 : decode cX6_walks 11 = .ok (.ldc2_w 232, 3) := by decide +kernel
theorem dX6_walks_14 : decode cX6_walks 14 = .ok (.iload_n 1, 1) := by decide +kernel
theorem dX6_walks_15 : decode cX6_walks 15 = .ok (.i2l, 1) := by decide +kernel
theorem dX6_walks_16 : decode cX6_walks 16 = .ok (.lmul, 1) := by decide +kernel
theorem dX6_walks_17 : decode cX6_walks 17 = .ok (.ldc2_w 234, 3) := by decide +kernel
theorem dX6_walks_20 : decode cX6_walks 20 = .ok (.iload_n 2, 1) := by decide +kernel
theorem dX6_walks_21 : decode cX6_walks 21 = .ok (.i2l, 1) := by decide +kernel
theorem dX6_walks_22 : decode cX6_walks 22 = .ok (.lmul, 1) := by decide +kernel
theorem dX6_walks_23 : decode cX6_walks 23 = .ok (.ladd, 1) := by decide +kernel
theorem dX6_walks_24 : decode cX6_walks 24 = .ok (.lconst 1, 1) := by decide +kernel
theorem dX6_walks_25 : decode cX6_walks 25 = .ok (.ladd, 1) := by decide +kernel
theorem dX6_walks_26 : decode cX6_walks 26 = .ok (.lstore 4, 2) := by decide +kernel
theorem dX6_walks_28 : decode cX6_walks 28 = .ok (.aload_n 0, 1) := by decide +kernel
theorem dX6_walks_29 : decode cX6_walks 29 = .ok (.lload 4, 2) := by decide +kernel
theorem dX6_walks_31 : decode cX6_walks 31 = .ok (.lload 4, 2) := by decide +kernel
theorem dX6_walks_33 : decode cX6_walks 33 = .ok (.lmul, 1) := by decide +kernel
theorem dX6_walks_34 : decode cX6_walks 34 = .ok (.ldc2_w 236, 3) := by decide +kernel
theorem dX6_walks_37 : decode cX6_walks 37 = .ok (.lrem, 1) := by decide +kernel
theorem dX6_walks_38 : decode cX6_walks 38 = .ok (.ldc2_w 238, 3) := by decide +kernel
theorem dX6_walks_41 : decode cX6_walks 41 = .ok (.ldiv, 1) := by decide +kernel
theorem dX6_walks_42 : decode cX6_walks 42 = .ok (.iload_n 3, 1) := by decide +kernel
theorem dX6_walks_43 : decode cX6_walks 43 = .ok (.i2l, 1) := by decide +kernel
theorem dX6_walks_44 : decode cX6_walks 44 = .ok (.lrem, 1) := by decide +kernel
theorem dX6_walks_45 : decode cX6_walks 45 = .ok (.l2i, 1) := by decide +kernel
theorem dX6_walks_46 : decode cX6_walks 46 = .ok (.invokevirtual 240, 3) := by decide +kernel
theorem dX6_walks_49 : decode cX6_walks 49 = .ok (.istore 6, 2) := by decide +kernel
theorem dX6_walks_51 : decode cX6_walks 51 = .ok (.aload_n 0, 1) := by decide +kernel
theorem dX6_walks_52 : decode cX6_walks 52 = .ok (.getfield 26, 3) := by decide +kernel
theorem dX6_walks_55 : decode cX6_walks 55 = .ok (.iconst 1, 1) := by decide +kernel
theorem dX6_walks_56 : decode cX6_walks 56 = .ok (.isub, 1) := by decide +kernel
theorem dX6_walks_57 : decode cX6_walks 57 = .ok (.aload_n 0, 1) := by decide +kernel
theorem dX6_walks_58 : decode cX6_walks 58 = .ok (.getfield 16, 3) := by decide +kernel
theorem dX6_walks_61 : decode cX6_walks 61 = .ok (.bipush 7, 2) := by decide +kernel
theorem dX6_walks_63 : decode cX6_walks 63 = .ok (.iload 6, 2) := by decide +kernel
theorem dX6_walks_65 : decode cX6_walks 65 = .ok (.imul, 1) := by decide +kernel
theorem dX6_walks_66 : decode cX6_walks 66 = .ok (.iconst 3, 1) := by decide +kernel
theorem dX6_walks_67 : decode cX6_walks 67 = .ok (.iadd, 1) := by decide +kernel
theorem dX6_walks_68 : decode cX6_walks 68 = .ok (.iaload, 1) := by decide +kernel
theorem dX6_walks_69 : decode cX6_walks 69 = .ok (.iadd, 1) := by decide +kernel
theorem dX6_walks_70 : decode cX6_walks 70 = .ok (.bipush 12, 2) := by decide +kernel
theorem dX6_walks_72 : decode cX6_walks 72 = .ok (.if_icmp .le 5, 3) := by decide +kernel
theorem dX6_walks_75 : decode cX6_walks 75 = .ok (.iconst 0, 1) := by decide +kernel
theorem dX6_walks_76 : decode cX6_walks 76 = .ok (.ireturn, 1) := by decide +kernel
theorem dX6_walks_77 : decode cX6_walks 77 = .ok (.aload_n 0, 1) := by decide +kernel
theorem dX6_walks_78 : decode cX6_walks 78 = .ok (.iload 6, 2) := by decide +kernel
theorem dX6_walks_80 : decode cX6_walks 80 = .ok (.invokevirtual 116, 3) := by decide +kernel
theorem dX6_walks_83 : decode cX6_walks 83 = .ok (.iconst 1, 1) := by decide +kernel
theorem dX6_walks_84 : decode cX6_walks 84 = .ok (.ireturn, 1) := by decide +kernel
theorem dX6_walk_0 : decode cX6_walk 0 = .ok (.iload_n 1, 1) := by decide +kernel
theorem dX6_walk_1 : decode cX6_walk 1 = .ok (.iconst 0, 1) := by decide +kernel
theorem dX6_walk_2 : decode cX6_walk 2 = .ok (.sipush 9999, 3) := by decide +kernel
theorem dX6_walk_5 : decode cX6_walk 5 = .ok (.invokestatic 99, 3) := by decide +kernel
theorem dX6_walk_8 : decode cX6_walk 8 = .ok (.ifCond .eq 22, 3) := by decide +kernel
theorem dX6_walk_11 : decode cX6_walk 11 = .ok (.iload_n 2, 1) := by decide +kernel
theorem dX6_walk_12 : decode cX6_walk 12 = .ok (.iconst 1, 1) := by decide +kernel
theorem dX6_walk_13 : decode cX6_walk 13 = .ok (.bipush 60, 2) := by decide +kernel
theorem dX6_walk_15 : decode cX6_walk 15 = .ok (.invokestatic 99, 3) := by decide +kernel
theorem dX6_walk_18 : decode cX6_walk 18 = .ok (.ifCond .eq 12, 3) := by decide +kernel
theorem dX6_walk_21 : decode cX6_walk 21 = .ok (.iload_n 3, 1) := by decide +kernel
theorem dX6_walk_22 : decode cX6_walk 22 = .ok (.iconst 0, 1) := by decide +kernel
theorem dX6_walk_23 : decode cX6_walk 23 = .ok (.iconst 2, 1) := by decide +kernel
theorem dX6_walk_24 : decode cX6_walk 24 = .ok (.invokestatic 99, 3) := by decide +kernel
theorem dX6_walk_27 : decode cX6_walk 27 = .ok (.ifCond .ne 5, 3) := by decide +kernel
theorem dX6_walk_30 : decode cX6_walk 30 = .ok (.iconst (-1), 1) := by decide +kernel
theorem dX6_walk_31 : decode cX6_walk 31 = .ok (.ireturn, 1) := by decide +kernel
theorem dX6_walk_32 : decode cX6_walk 32 = .ok (.aload_n 0, 1) := by decide +kernel
theorem dX6_walk_33 : decode cX6_walk 33 = .ok (.aload_n 0, 1) := by decide +kernel
theorem dX6_walk_34 : decode cX6_walk 34 = .ok (.getfield 71, 3) := by decide +kernel
theorem dX6_walk_37 : decode cX6_walk 37 = .ok (.iconst 0, 1) := by decide +kernel
theorem dX6_walk_38 : decode cX6_walk 38 = .ok (.invokevirtual 89, 3) := by decide +kernel
theorem dX6_walk_41 : decode cX6_walk 41 = .ok (.iconst 0, 1) := by decide +kernel
theorem dX6_walk_42 : decode cX6_walk 42 = .ok (.istore 4, 2) := by decide +kernel
theorem dX6_walk_44 : decode cX6_walk 44 = .ok (.iload 4, 2) := by decide +kernel
theorem dX6_walk_46 : decode cX6_walk 46 = .ok (.iload_n 2, 1) := by decide +kernel
theorem dX6_walk_47 : decode cX6_walk 47 = .ok (.if_icmp .ge 19, 3) := by decide +kernel
theorem dX6_walk_50 : decode cX6_walk 50 = .ok (.aload_n 0, 1) := by decide +kernel
theorem dX6_walk_51 : decode cX6_walk 51 = .ok (.iload_n 1, 1) := by decide +kernel
theorem dX6_walk_52 : decode cX6_walk 52 = .ok (.iload 4, 2) := by decide +kernel
theorem dX6_walk_54 : decode cX6_walk 54 = .ok (.invokevirtual 243, 3) := by decide +kernel
theorem dX6_walk_57 : decode cX6_walk 57 = .ok (.ifCond .eq 9, 3) := by decide +kernel
theorem dX6_walk_60 : decode cX6_walk 60 = .ok (.iinc 4 1, 3) := by decide +kernel
theorem dX6_walk_63 : decode cX6_walk 63 = .ok (.goto (-19), 3) := by decide +kernel
theorem dX6_walk_66 : decode cX6_walk 66 = .ok (.iload_n 3, 1) := by decide +kernel
theorem dX6_walk_67 : decode cX6_walk 67 = .ok (.ifCond .ne 8, 3) := by decide +kernel
theorem dX6_walk_70 : decode cX6_walk 70 = .ok (.iload 4, 2) := by decide +kernel
theorem dX6_walk_72 : decode cX6_walk 72 = .ok (.goto 19, 3) := by decide +kernel
theorem dX6_walk_75 : decode cX6_walk 75 = .ok (.iload_n 3, 1) := by decide +kernel
theorem dX6_walk_76 : decode cX6_walk 76 = .ok (.iconst 1, 1) := by decide +kernel
theorem dX6_walk_77 : decode cX6_walk 77 = .ok (.if_icmp .ne 10, 3) := by decide +kernel
theorem dX6_walk_80 : decode cX6_walk 80 = .ok (.aload_n 0, 1) := by decide +kernel
theorem dX6_walk_81 : decode cX6_walk 81 = .ok (.getfield 26, 3) := by decide +kernel
theorem dX6_walk_84 : decode cX6_walk 84 = .ok (.goto 7, 3) := by decide +kernel
theorem dX6_walk_87 : decode cX6_walk 87 = .ok (.aload_n 0, 1) := by decide +kernel
theorem dX6_walk_88 : decode cX6_walk 88 = .ok (.getfield 80, 3) := by decide +kernel
theorem dX6_walk_91 : decode cX6_walk 91 = .ok (.istore 5, 2) := by decide +kernel
theorem dX6_walk_93 : decode cX6_walk 93 = .ok (.aload_n 0, 1) := by decide +kernel
theorem dX6_walk_94 : decode cX6_walk 94 = .ok (.aload_n 0, 1) := by decide +kernel
theorem dX6_walk_95 : decode cX6_walk 95 = .ok (.getfield 71, 3) := by decide +kernel
theorem dX6_walk_98 : decode cX6_walk 98 = .ok (.iconst 0, 1) := by decide +kernel
theorem dX6_walk_99 : decode cX6_walk 99 = .ok (.invokevirtual 93, 3) := by decide +kernel
theorem dX6_walk_102 : decode cX6_walk 102 = .ok (.iload 5, 2) := by decide +kernel
theorem dX6_walk_104 : decode cX6_walk 104 = .ok (.ireturn, 1) := by decide +kernel
theorem dX6_write_0 : decode cX6_write 0 = .ok (.iload_n 1, 1) := by decide +kernel
theorem dX6_write_1 : decode cX6_write 1 = .ok (.bipush 32, 2) := by decide +kernel
theorem dX6_write_3 : decode cX6_write 3 = .ok (.bipush 126, 2) := by decide +kernel
theorem dX6_write_5 : decode cX6_write 5 = .ok (.invokestatic 99, 3) := by decide +kernel
theorem dX6_write_8 : decode cX6_write 8 = .ok (.ifCond .ne 5, 3) := by decide +kernel
theorem dX6_write_11 : decode cX6_write 11 = .ok (.iconst (-1), 1) := by decide +kernel
theorem dX6_write_12 : decode cX6_write 12 = .ok (.ireturn, 1) := by decide +kernel
theorem dX6_write_13 : decode cX6_write 13 = .ok (.aload_n 0, 1) := by decide +kernel
theorem dX6_write_14 : decode cX6_write 14 = .ok (.getfield 246, 3) := by decide +kernel
theorem dX6_write_17 : decode cX6_write 17 = .ok (.sipush 200, 3) := by decide +kernel
theorem dX6_write_20 : decode cX6_write 20 = .ok (.if_icmp .ne 6, 3) := by decide +kernel
theorem dX6_write_23 : decode cX6_write 23 = .ok (.bipush (-3), 2) := by decide +kernel
theorem dX6_write_25 : decode cX6_write 25 = .ok (.ireturn, 1) := by decide +kernel
theorem dX6_write_26 : decode cX6_write 26 = .ok (.aload_n 0, 1) := by decide +kernel
theorem dX6_write_27 : decode cX6_write 27 = .ok (.getfield 74, 3) := by decide +kernel
theorem dX6_write_30 : decode cX6_write 30 = .ok (.aload_n 0, 1) := by decide +kernel
theorem dX6_write_31 : decode cX6_write 31 = .ok (.getfield 246, 3) := by decide +kernel
theorem dX6_write_34 : decode cX6_write 34 = .ok (.iload_n 1, 1) := by decide +kernel
theorem dX6_write_35 : decode cX6_write 35 = .ok (.iastore, 1) := by decide +kernel
theorem dX6_write_36 : decode cX6_write 36 = .ok (.aload_n 0, 1) := by decide +kernel
theorem dX6_write_37 : decode cX6_write 37 = .ok (.dup, 1) := by decide +kernel
theorem dX6_write_38 : decode cX6_write 38 = .ok (.getfield 246, 3) := by decide +kernel
theorem dX6_write_41 : decode cX6_write 41 = .ok (.iconst 1, 1) := by decide +kernel
theorem dX6_write_42 : decode cX6_write 42 = .ok (.iadd, 1) := by decide +kernel
theorem dX6_write_43 : decode cX6_write 43 = .ok (.putfield 246, 3) := by decide +kernel
theorem dX6_write_46 : decode cX6_write 46 = .ok (.aload_n 0, 1) := by decide +kernel
theorem dX6_write_47 : decode cX6_write 47 = .ok (.getfield 246, 3) := by decide +kernel
theorem dX6_write_50 : decode cX6_write 50 = .ok (.ireturn, 1) := by decide +kernel
theorem dX6_wipe_0 : decode cX6_wipe 0 = .ok (.aload_n 0, 1) := by decide +kernel
theorem dX6_wipe_1 : decode cX6_wipe 1 = .ok (.getfield 246, 3) := by decide +kernel
theorem dX6_wipe_4 : decode cX6_wipe 4 = .ok (.istore_n 1, 1) := by decide +kernel
theorem dX6_wipe_5 : decode cX6_wipe 5 = .ok (.aload_n 0, 1) := by decide +kernel
theorem dX6_wipe_6 : decode cX6_wipe 6 = .ok (.iconst 0, 1) := by decide +kernel
theorem dX6_wipe_7 : decode cX6_wipe 7 = .ok (.putfield 246, 3) := by decide +kernel
theorem dX6_wipe_10 : decode cX6_wipe 10 = .ok (.iload_n 1, 1) := by decide +kernel
theorem dX6_wipe_11 : decode cX6_wipe 11 = .ok (.ireturn, 1) := by decide +kernel
theorem dX6_sign_0 : decode cX6_sign 0 = .ok (.aload_n 0, 1) := by decide +kernel
theorem dX6_sign_1 : decode cX6_sign 1 = .ok (.getfield 249, 3) := by decide +kernel
theorem dX6_sign_4 : decode cX6_sign 4 = .ok (.aload_n 0, 1) := by decide +kernel
theorem dX6_sign_5 : decode cX6_sign 5 = .ok (.getfield 246, 3) := by decide +kernel
theorem dX6_sign_8 : decode cX6_sign 8 = .ok (.if_icmp .ge 28, 3) := by decide +kernel
theorem dX6_sign_11 : decode cX6_sign 11 = .ok (.aload_n 0, 1) := by decide +kernel
theorem dX6_sign_12 : decode cX6_sign 12 = .ok (.getfield 74, 3) := by decide +kernel
theorem dX6_sign_15 : decode cX6_sign 15 = .ok (.aload_n 0, 1) := by decide +kernel
theorem dX6_sign_16 : decode cX6_sign 16 = .ok (.getfield 249, 3) := by decide +kernel
theorem dX6_sign_19 : decode cX6_sign 19 = .ok (.iaload, 1) := by decide +kernel
theorem dX6_sign_20 : decode cX6_sign 20 = .ok (.iload_n 1, 1) := by decide +kernel
theorem dX6_sign_21 : decode cX6_sign 21 = .ok (.if_icmp .ne 15, 3) := by decide +kernel
theorem dX6_sign_24 : decode cX6_sign 24 = .ok (.aload_n 0, 1) := by decide +kernel
theorem dX6_sign_25 : decode cX6_sign 25 = .ok (.dup, 1) := by decide +kernel
theorem dX6_sign_26 : decode cX6_sign 26 = .ok (.getfield 249, 3) := by decide +kernel
theorem dX6_sign_29 : decode cX6_sign 29 = .ok (.iconst 1, 1) := by decide +kernel
theorem dX6_sign_30 : decode cX6_sign 30 = .ok (.iadd, 1) := by decide +kernel
theorem dX6_sign_31 : decode cX6_sign 31 = .ok (.putfield 249, 3) := by decide +kernel
theorem dX6_sign_34 : decode cX6_sign 34 = .ok (.iconst 1, 1) := by decide +kernel
theorem dX6_sign_35 : decode cX6_sign 35 = .ok (.ireturn, 1) := by decide +kernel
theorem dX6_sign_36 : decode cX6_sign 36 = .ok (.iconst 0, 1) := by decide +kernel
theorem dX6_sign_37 : decode cX6_sign 37 = .ok (.ireturn, 1) := by decide +kernel
theorem dX6_figure_0 : decode cX6_figure 0 = .ok (.aload_n 0, 1) := by decide +kernel
theorem dX6_figure_1 : decode cX6_figure 1 = .ok (.getfield 249, 3) := by decide +kernel
theorem dX6_figure_4 : decode cX6_figure 4 = .ok (.aload_n 0, 1) := by decide +kernel
theorem dX6_figure_5 : decode cX6_figure 5 = .ok (.getfield 246, 3) := by decide +kernel
theorem dX6_figure_8 : decode cX6_figure 8 = .ok (.if_icmp .ge 53, 3) := by decide +kernel
theorem dX6_figure_11 : decode cX6_figure 11 = .ok (.aload_n 0, 1) := by decide +kernel
theorem dX6_figure_12 : decode cX6_figure 12 = .ok (.getfield 74, 3) := by decide +kernel
theorem dX6_figure_15 : decode cX6_figure 15 = .ok (.aload_n 0, 1) := by decide +kernel
theorem dX6_figure_16 : decode cX6_figure 16 = .ok (.getfield 249, 3) := by decide +kernel
theorem dX6_figure_19 : decode cX6_figure 19 = .ok (.iaload, 1) := by decide +kernel
theorem dX6_figure_20 : decode cX6_figure 20 = .ok (.bipush 48, 2) := by decide +kernel
theorem dX6_figure_22 : decode cX6_figure 22 = .ok (.isub, 1) := by decide +kernel
theorem dX6_figure_23 : decode cX6_figure 23 = .ok (.iload_n 1, 1) := by decide +kernel
theorem dX6_figure_24 : decode cX6_figure 24 = .ok (.iload_n 2, 1) := by decide +kernel
theorem dX6_figure_25 : decode cX6_figure 25 = .ok (.iconst 1, 1) := by decide +kernel
theorem dX6_figure_26 : decode cX6_figure 26 = .ok (.isub, 1) := by decide +kernel
theorem dX6_figure_27 : decode cX6_figure 27 = .ok (.invokestatic 99, 3) := by decide +kernel
theorem dX6_figure_30 : decode cX6_figure 30 = .ok (.ifCond .eq 31, 3) := by decide +kernel
theorem dX6_figure_33 : decode cX6_figure 33 = .ok (.aload_n 0, 1) := by decide +kernel
theorem dX6_figure_34 : decode cX6_figure 34 = .ok (.aload_n 0, 1) := by decide +kernel
theorem dX6_figure_35 : decode cX6_figure 35 = .ok (.getfield 74, 3) := by decide +kernel
theorem dX6_figure_38 : decode cX6_figure 38 = .ok (.aload_n 0, 1) := by decide +kernel
theorem dX6_figure_39 : decode cX6_figure 39 = .ok (.getfield 249, 3) := by decide +kernel
theorem dX6_figure_42 : decode cX6_figure 42 = .ok (.iaload, 1) := by decide +kernel
theorem dX6_figure_43 : decode cX6_figure 43 = .ok (.bipush 48, 2) := by decide +kernel
theorem dX6_figure_45 : decode cX6_figure 45 = .ok (.isub, 1) := by decide +kernel
theorem dX6_figure_46 : decode cX6_figure 46 = .ok (.putfield 252, 3) := by decide +kernel
theorem dX6_figure_49 : decode cX6_figure 49 = .ok (.aload_n 0, 1) := by decide +kernel
theorem dX6_figure_50 : decode cX6_figure 50 = .ok (.dup, 1) := by decide +kernel
theorem dX6_figure_51 : decode cX6_figure 51 = .ok (.getfield 249, 3) := by decide +kernel
theorem dX6_figure_54 : decode cX6_figure 54 = .ok (.iconst 1, 1) := by decide +kernel
theorem dX6_figure_55 : decode cX6_figure 55 = .ok (.iadd, 1) := by decide +kernel
theorem dX6_figure_56 : decode cX6_figure 56 = .ok (.putfield 249, 3) := by decide +kernel
theorem dX6_figure_59 : decode cX6_figure 59 = .ok (.iconst 1, 1) := by decide +kernel
theorem dX6_figure_60 : decode cX6_figure 60 = .ok (.ireturn, 1) := by decide +kernel
theorem dX6_figure_61 : decode cX6_figure 61 = .ok (.iconst 0, 1) := by decide +kernel
theorem dX6_figure_62 : decode cX6_figure 62 = .ok (.ireturn, 1) := by decide +kernel
theorem dX6_isWordAt_0 : decode cX6_isWordAt 0 = .ok (.aload_n 0, 1) := by decide +kernel
theorem dX6_isWordAt_1 : decode cX6_isWordAt 1 = .ok (.getfield 249, 3) := by decide +kernel
theorem dX6_isWordAt_4 : decode cX6_isWordAt 4 = .ok (.aload_n 0, 1) := by decide +kernel
theorem dX6_isWordAt_5 : decode cX6_isWordAt 5 = .ok (.getfield 246, 3) := by decide +kernel
theorem dX6_isWordAt_8 : decode cX6_isWordAt 8 = .ok (.if_icmp .ge 25, 3) := by decide +kernel
theorem dX6_isWordAt_11 : decode cX6_isWordAt 11 = .ok (.aload_n 0, 1) := by decide +kernel
theorem dX6_isWordAt_12 : decode cX6_isWordAt 12 = .ok (.getfield 74, 3) := by decide +kernel
theorem dX6_isWordAt_15 : decode cX6_isWordAt 15 = .ok (.aload_n 0, 1) := by decide +kernel
theorem dX6_isWordAt_16 : decode cX6_isWordAt 16 = .ok (.getfield 249, 3) := by decide +kernel
theorem dX6_isWordAt_19 : decode cX6_isWordAt 19 = .ok (.iaload, 1) := by decide +kernel
theorem dX6_isWordAt_20 : decode cX6_isWordAt 20 = .ok (.bipush 97, 2) := by decide +kernel
theorem dX6_isWordAt_22 : decode cX6_isWordAt 22 = .ok (.isub, 1) := by decide +kernel
theorem dX6_isWordAt_23 : decode cX6_isWordAt 23 = .ok (.invokestatic 107, 3) := by decide +kernel
theorem dX6_isWordAt_26 : decode cX6_isWordAt 26 = .ok (.ifCond .eq 7, 3) := by decide +kernel
theorem dX6_isWordAt_29 : decode cX6_isWordAt 29 = .ok (.iconst 1, 1) := by decide +kernel
theorem dX6_isWordAt_30 : decode cX6_isWordAt 30 = .ok (.goto 4, 3) := by decide +kernel
theorem dX6_isWordAt_33 : decode cX6_isWordAt 33 = .ok (.iconst 0, 1) := by decide +kernel
theorem dX6_isWordAt_34 : decode cX6_isWordAt 34 = .ok (.ireturn, 1) := by decide +kernel
theorem dX6_word_0 : decode cX6_word 0 = .ok (.aload_n 0, 1) := by decide +kernel
theorem dX6_word_1 : decode cX6_word 1 = .ok (.iconst 0, 1) := by decide +kernel
theorem dX6_word_2 : decode cX6_word 2 = .ok (.putfield 255, 3) := by decide +kernel
theorem dX6_word_5 : decode cX6_word 5 = .ok (.aload_n 0, 1) := by decide +kernel
theorem dX6_word_6 : decode cX6_word 6 = .ok (.invokevirtual 258, 3) := by decide +kernel
theorem dX6_word_9 : decode cX6_word 9 = .ok (.ifCond .eq 56, 3) := by decide +kernel
theorem dX6_word_12 : decode cX6_word 12 = .ok (.aload_n 0, 1) := by decide +kernel
theorem dX6_word_13 : decode cX6_word 13 = .ok (.getfield 255, 3) := by decide +kernel
theorem dX6_word_16 : decode cX6_word 16 = .ok (.bipush 6, 2) := by decide +kernel
theorem dX6_word_18 : decode cX6_word 18 = .ok (.if_icmp .ge 24, 3) := by decide +kernel
theorem dX6_word_21 : decode cX6_word 21 = .ok (.aload_n 0, 1) := by decide +kernel
theorem dX6_word_22 : decode cX6_word 22 = .ok (.getfield 77, 3) := by decide +kernel
theorem dX6_word_25 : decode cX6_word 25 = .ok (.aload_n 0, 1) := by decide +kernel
theorem dX6_word_26 : decode cX6_word 26 = .ok (.getfield 255, 3) := by decide +kernel
theorem dX6_word_29 : decode cX6_word 29 = .ok (.aload_n 0, 1) := by decide +kernel
theorem dX6_word_30 : decode cX6_word 30 = .ok (.getfield 74, 3) := by decide +kernel
theorem dX6_word_33 : decode cX6_word 33 = .ok (.aload_n 0, 1) := by decide +kernel
theorem dX6_word_34 : decode cX6_word 34 = .ok (.getfield 249, 3) := by decide +kernel
theorem dX6_word_37 : decode cX6_word 37 = .ok (.iaload, 1) := by decide +kernel
theorem dX6_word_38 : decode cX6_word 38 = .ok (.bipush 97, 2) := by decide +kernel
theorem dX6_word_40 : decode cX6_word 40 = .ok (.isub, 1) := by decide +kernel
theorem dX6_word_41 : decode cX6_word 41 = .ok (.iastore, 1) := by decide +kernel
theorem dX6_word_42 : decode cX6_word 42 = .ok (.aload_n 0, 1) := by decide +kernel
theorem dX6_word_43 : decode cX6_word 43 = .ok (.dup, 1) := by decide +kernel
theorem dX6_word_44 : decode cX6_word 44 = .ok (.getfield 255, 3) := by decide +kernel
theorem dX6_word_47 : decode cX6_word 47 = .ok (.iconst 1, 1) := by decide +kernel
theorem dX6_word_48 : decode cX6_word 48 = .ok (.iadd, 1) := by decide +kernel
theorem dX6_word_49 : decode cX6_word 49 = .ok (.putfield 255, 3) := by decide +kernel
theorem dX6_word_52 : decode cX6_word 52 = .ok (.aload_n 0, 1) := by decide +kernel
theorem dX6_word_53 : decode cX6_word 53 = .ok (.dup, 1) := by decide +kernel
theorem dX6_word_54 : decode cX6_word 54 = .ok (.getfield 249, 3) := by decide +kernel
theorem dX6_word_57 : decode cX6_word 57 = .ok (.iconst 1, 1) := by decide +kernel
theorem dX6_word_58 : decode cX6_word 58 = .ok (.iadd, 1) := by decide +kernel
theorem dX6_word_59 : decode cX6_word 59 = .ok (.putfield 249, 3) := by decide +kernel
theorem dX6_word_62 : decode cX6_word 62 = .ok (.goto (-57), 3) := by decide +kernel
theorem dX6_word_65 : decode cX6_word 65 = .ok (.aload_n 0, 1) := by decide +kernel
theorem dX6_word_66 : decode cX6_word 66 = .ok (.getfield 255, 3) := by decide +kernel
theorem dX6_word_69 : decode cX6_word 69 = .ok (.iload_n 1, 1) := by decide +kernel
theorem dX6_word_70 : decode cX6_word 70 = .ok (.if_icmp .gt 7, 3) := by decide +kernel
theorem dX6_word_73 : decode cX6_word 73 = .ok (.iconst 1, 1) := by decide +kernel
theorem dX6_word_74 : decode cX6_word 74 = .ok (.goto 4, 3) := by decide +kernel
theorem dX6_word_77 : decode cX6_word 77 = .ok (.iconst 0, 1) := by decide +kernel
theorem dX6_word_78 : decode cX6_word 78 = .ok (.ireturn, 1) := by decide +kernel
theorem dX6_readsStates_0 : decode cX6_readsStates 0 = .ok (.iload_n 1, 1) := by decide +kernel
theorem dX6_readsStates_1 : decode cX6_readsStates 1 = .ok (.ifCond .eq 12, 3) := by decide +kernel
theorem dX6_readsStates_4 : decode cX6_readsStates 4 = .ok (.aload_n 0, 1) := by decide +kernel
theorem dX6_readsStates_5 : decode cX6_readsStates 5 = .ok (.iconst 1, 1) := by decide +kernel
theorem dX6_readsStates_6 : decode cX6_readsStates 6 = .ok (.iconst 4, 1) := by decide +kernel
theorem dX6_readsStates_7 : decode cX6_readsStates 7 = .ok (.invokevirtual 262, 3) := by decide +kernel
theorem dX6_readsStates_10 : decode cX6_readsStates 10 = .ok (.ifCond .ne 5, 3) := by decide +kernel
theorem dX6_readsStates_13 : decode cX6_readsStates 13 = .ok (.iconst 0, 1) := by decide +kernel
theorem dX6_readsStates_14 : decode cX6_readsStates 14 = .ok (.ireturn, 1) := by decide +kernel
theorem dX6_readsStates_15 : decode cX6_readsStates 15 = .ok (.aload_n 0, 1) := by decide +kernel
theorem dX6_readsStates_16 : decode cX6_readsStates 16 = .ok (.aload_n 0, 1) := by decide +kernel
theorem dX6_readsStates_17 : decode cX6_readsStates 17 = .ok (.getfield 252, 3) := by decide +kernel
theorem dX6_readsStates_20 : decode cX6_readsStates 20 = .ok (.putfield 265, 3) := by decide +kernel
theorem dX6_readsStates_23 : decode cX6_readsStates 23 = .ok (.aload_n 0, 1) := by decide +kernel
theorem dX6_readsStates_24 : decode cX6_readsStates 24 = .ok (.iload_n 2, 1) := by decide +kernel
theorem dX6_readsStates_25 : decode cX6_readsStates 25 = .ok (.ifCond .eq 10, 3) := by decide +kernel
theorem dX6_readsStates_28 : decode cX6_readsStates 28 = .ok (.aload_n 0, 1) := by decide +kernel
theorem dX6_readsStates_29 : decode cX6_readsStates 29 = .ok (.getfield 252, 3) := by decide +kernel
theorem dX6_readsStates_32 : decode cX6_readsStates 32 = .ok (.goto 7, 3) := by decide +kernel
theorem dX6_readsStates_35 : decode cX6_readsStates 35 = .ok (.aload_n 0, 1) := by decide +kernel
theorem dX6_readsStates_36 : decode cX6_readsStates 36 = .ok (.getfield 7, 3) := by decide +kernel
theorem dX6_readsStates_39 : decode cX6_readsStates 39 = .ok (.putfield 7, 3) := by decide +kernel
theorem dX6_readsStates_42 : decode cX6_readsStates 42 = .ok (.iconst 1, 1) := by decide +kernel
theorem dX6_readsStates_43 : decode cX6_readsStates 43 = .ok (.ireturn, 1) := by decide +kernel
theorem dX6_readsRule_0 : decode cX6_readsRule 0 = .ok (.aload_n 0, 1) := by decide +kernel
theorem dX6_readsRule_1 : decode cX6_readsRule 1 = .ok (.getfield 268, 3) := by decide +kernel
theorem dX6_readsRule_4 : decode cX6_readsRule 4 = .ok (.bipush 10, 2) := by decide +kernel
theorem dX6_readsRule_6 : decode cX6_readsRule 6 = .ok (.if_icmp .eq 24, 3) := by decide +kernel
theorem dX6_readsRule_9 : decode cX6_readsRule 9 = .ok (.aload_n 0, 1) := by decide +kernel
theorem dX6_readsRule_10 : decode cX6_readsRule 10 = .ok (.iconst 0, 1) := by decide +kernel
theorem dX6_readsRule_11 : decode cX6_readsRule 11 = .ok (.aload_n 0, 1) := by decide +kernel
theorem dX6_readsRule_12 : decode cX6_readsRule 12 = .ok (.getfield 265, 3) := by decide +kernel
theorem dX6_readsRule_15 : decode cX6_readsRule 15 = .ok (.invokevirtual 262, 3) := by decide +kernel
theorem dX6_readsRule_18 : decode cX6_readsRule 18 = .ok (.ifCond .eq 12, 3) := by decide +kernel
theorem dX6_readsRule_21 : decode cX6_readsRule 21 = .ok (.aload_n 0, 1) := by decide +kernel
theorem dX6_readsRule_22 : decode cX6_readsRule 22 = .ok (.bipush 44, 2) := by decide +kernel
theorem dX6_readsRule_24 : decode cX6_readsRule 24 = .ok (.invokevirtual 271, 3) := by decide +kernel
theorem dX6_readsRule_27 : decode cX6_readsRule 27 = .ok (.ifCond .ne 5, 3) := by decide +kernel
theorem dX6_readsRule_30 : decode cX6_readsRule 30 = .ok (.iconst 0, 1) := by decide +kernel
theorem dX6_readsRule_31 : decode cX6_readsRule 31 = .ok (.ireturn, 1) := by decide +kernel
theorem dX6_readsRule_32 : decode cX6_readsRule 32 = .ok (.aload_n 0, 1) := by decide +kernel
theorem dX6_readsRule_33 : decode cX6_readsRule 33 = .ok (.getfield 252, 3) := by decide +kernel
theorem dX6_readsRule_36 : decode cX6_readsRule 36 = .ok (.istore_n 2, 1) := by decide +kernel
theorem dX6_readsRule_37 : decode cX6_readsRule 37 = .ok (.aload_n 0, 1) := by decide +kernel
theorem dX6_readsRule_38 : decode cX6_readsRule 38 = .ok (.iconst 1, 1) := by decide +kernel
theorem dX6_readsRule_39 : decode cX6_readsRule 39 = .ok (.invokevirtual 274, 3) := by decide +kernel
theorem dX6_readsRule_42 : decode cX6_readsRule 42 = .ok (.ifCond .eq 19, 3) := by decide +kernel
theorem dX6_readsRule_45 : decode cX6_readsRule 45 = .ok (.aload_n 0, 1) := by decide +kernel
theorem dX6_readsRule_46 : decode cX6_readsRule 46 = .ok (.getfield 255, 3) := by decide +kernel
theorem dX6_readsRule_49 : decode cX6_readsRule 49 = .ok (.ifCond .eq 12, 3) := by decide +kernel
theorem dX6_readsRule_52 : decode cX6_readsRule 52 = .ok (.aload_n 0, 1) := by decide +kernel
theorem dX6_readsRule_53 : decode cX6_readsRule 53 = .ok (.bipush 44, 2) := by decide +kernel
theorem dX6_readsRule_55 : decode cX6_readsRule 55 = .ok (.invokevirtual 271, 3) := by decide +kernel
theorem dX6_readsRule_58 : decode cX6_readsRule 58 = .ok (.ifCond .ne 5, 3) := by decide +kernel
theorem dX6_readsRule_61 : decode cX6_readsRule 61 = .ok (.iconst 0, 1) := by decide +kernel
theorem dX6_readsRule_62 : decode cX6_readsRule 62 = .ok (.ireturn, 1) := by decide +kernel
theorem dX6_readsRule_63 : decode cX6_readsRule 63 = .ok (.aload_n 0, 1) := by decide +kernel
theorem dX6_readsRule_64 : decode cX6_readsRule 64 = .ok (.getfield 77, 3) := by decide +kernel
theorem dX6_readsRule_67 : decode cX6_readsRule 67 = .ok (.iconst 0, 1) := by decide +kernel
theorem dX6_readsRule_68 : decode cX6_readsRule 68 = .ok (.iaload, 1) := by decide +kernel
theorem dX6_readsRule_69 : decode cX6_readsRule 69 = .ok (.istore_n 3, 1) := by decide +kernel
theorem dX6_readsRule_70 : decode cX6_readsRule 70 = .ok (.aload_n 0, 1) := by decide +kernel
theorem dX6_readsRule_71 : decode cX6_readsRule 71 = .ok (.iconst 0, 1) := by decide +kernel
theorem dX6_readsRule_72 : decode cX6_readsRule 72 = .ok (.aload_n 0, 1) := by decide +kernel
theorem dX6_readsRule_73 : decode cX6_readsRule 73 = .ok (.getfield 265, 3) := by decide +kernel
theorem dX6_readsRule_76 : decode cX6_readsRule 76 = .ok (.invokevirtual 262, 3) := by decide +kernel
theorem dX6_readsRule_79 : decode cX6_readsRule 79 = .ok (.ifCond .eq 12, 3) := by decide +kernel
theorem dX6_readsRule_82 : decode cX6_readsRule 82 = .ok (.aload_n 0, 1) := by decide +kernel
theorem dX6_readsRule_83 : decode cX6_readsRule 83 = .ok (.bipush 44, 2) := by decide +kernel
theorem dX6_readsRule_85 : decode cX6_readsRule 85 = .ok (.invokevirtual 271, 3) := by decide +kernel
theorem dX6_readsRule_88 : decode cX6_readsRule 88 = .ok (.ifCond .ne 5, 3) := by decide +kernel
theorem dX6_readsRule_91 : decode cX6_readsRule 91 = .ok (.iconst 0, 1) := by decide +kernel
theorem dX6_readsRule_92 : decode cX6_readsRule 92 = .ok (.ireturn, 1) := by decide +kernel
theorem dX6_readsRule_93 : decode cX6_readsRule 93 = .ok (.aload_n 0, 1) := by decide +kernel
theorem dX6_readsRule_94 : decode cX6_readsRule 94 = .ok (.getfield 252, 3) := by decide +kernel
theorem dX6_readsRule_97 : decode cX6_readsRule 97 = .ok (.istore 4, 2) := by decide +kernel
theorem dX6_readsRule_99 : decode cX6_readsRule 99 = .ok (.aload_n 0, 1) := by decide +kernel
theorem dX6_readsRule_100 : decode cX6_readsRule 100 = .ok (.iconst 2, 1) := by decide +kernel
theorem dX6_readsRule_101 : decode cX6_readsRule 101 = .ok (.invokevirtual 274, 3) := by decide +kernel
theorem dX6_readsRule_104 : decode cX6_readsRule 104 = .ok (.ifCond .eq 12, 3) := by decide +kernel
theorem dX6_readsRule_107 : decode cX6_readsRule 107 = .ok (.aload_n 0, 1) := by decide +kernel
theorem dX6_readsRule_108 : decode cX6_readsRule 108 = .ok (.bipush 44, 2) := by decide +kernel
theorem dX6_readsRule_110 : decode cX6_readsRule 110 = .ok (.invokevirtual 271, 3) := by decide +kernel
theorem dX6_readsRule_113 : decode cX6_readsRule 113 = .ok (.ifCond .ne 5, 3) := by decide +kernel
theorem dX6_readsRule_116 : decode cX6_readsRule 116 = .ok (.iconst 0, 1) := by decide +kernel
theorem dX6_readsRule_117 : decode cX6_readsRule 117 = .ok (.ireturn, 1) := by decide +kernel
theorem dX6_readsRule_118 : decode cX6_readsRule 118 = .ok (.aload_n 0, 1) := by decide +kernel
theorem dX6_readsRule_119 : decode cX6_readsRule 119 = .ok (.getfield 255, 3) := by decide +kernel
theorem dX6_readsRule_122 : decode cX6_readsRule 122 = .ok (.ifCond .ne 7, 3) := by decide +kernel
theorem dX6_readsRule_125 : decode cX6_readsRule 125 = .ok (.iconst 0, 1) := by decide +kernel
theorem dX6_readsRule_126 : decode cX6_readsRule 126 = .ok (.goto 39, 3) := by decide +kernel
theorem dX6_readsRule_129 : decode cX6_readsRule 129 = .ok (.aload_n 0, 1) := by decide +kernel
theorem dX6_readsRule_130 : decode cX6_readsRule 130 = .ok (.getfield 255, 3) := by decide +kernel
theorem dX6_readsRule_133 : decode cX6_readsRule 133 = .ok (.iconst 1, 1) := by decide +kernel
theorem dX6_readsRule_134 : decode cX6_readsRule 134 = .ok (.if_icmp .ne 14, 3) := by decide +kernel
theorem dX6_readsRule_137 : decode cX6_readsRule 137 = .ok (.iconst 1, 1) := by decide +kernel
theorem dX6_readsRule_138 : decode cX6_readsRule 138 = .ok (.aload_n 0, 1) := by decide +kernel
theorem dX6_readsRule_139 : decode cX6_readsRule 139 = .ok (.getfield 77, 3) := by decide +kernel
theorem dX6_readsRule_142 : decode cX6_readsRule 142 = .ok (.iconst 0, 1) := by decide +kernel
theorem dX6_readsRule_143 : decode cX6_readsRule 143 = .ok (.iaload, 1) := by decide +kernel
theorem dX6_readsRule_144 : decode cX6_readsRule 144 = .ok (.iadd, 1) := by decide +kernel
theorem dX6_readsRule_145 : decode cX6_readsRule 145 = .ok (.goto 20, 3) := by decide +kernel
theorem dX6_readsRule_148 : decode cX6_readsRule 148 = .ok (.iconst 5, 1) := by decide +kernel
theorem dX6_readsRule_149 : decode cX6_readsRule 149 = .ok (.iconst 4, 1) := by decide +kernel
theorem dX6_readsRule_150 : decode cX6_readsRule 150 = .ok (.aload_n 0, 1) := by decide +kernel
theorem dX6_readsRule_151 : decode cX6_readsRule 151 = .ok (.getfield 77, 3) := by decide +kernel
theorem dX6_readsRule_154 : decode cX6_readsRule 154 = .ok (.iconst 0, 1) := by decide +kernel
theorem dX6_readsRule_155 : decode cX6_readsRule 155 = .ok (.iaload, 1) := by decide +kernel
theorem dX6_readsRule_156 : decode cX6_readsRule 156 = .ok (.imul, 1) := by decide +kernel
theorem dX6_readsRule_157 : decode cX6_readsRule 157 = .ok (.iadd, 1) := by decide +kernel
theorem dX6_readsRule_158 : decode cX6_readsRule 158 = .ok (.aload_n 0, 1) := by decide +kernel
theorem dX6_readsRule_159 : decode cX6_readsRule 159 = .ok (.getfield 77, 3) := by decide +kernel
theorem dX6_readsRule_162 : decode cX6_readsRule 162 = .ok (.iconst 1, 1) := by decide +kernel
theorem dX6_readsRule_163 : decode cX6_readsRule 163 = .ok (.iaload, 1) := by decide +kernel
theorem dX6_readsRule_164 : decode cX6_readsRule 164 = .ok (.iadd, 1) := by decide +kernel
theorem dX6_readsRule_165 : decode cX6_readsRule 165 = .ok (.istore 5, 2) := by decide +kernel
theorem dX6_readsRule_167 : decode cX6_readsRule 167 = .ok (.aload_n 0, 1) := by decide +kernel
theorem dX6_readsRule_168 : decode cX6_readsRule 168 = .ok (.iconst 0, 1) := by decide +kernel
theorem dX6_readsRule_169 : decode cX6_readsRule 169 = .ok (.bipush 10, 2) := by decide +kernel
theorem dX6_readsRule_171 : decode cX6_readsRule 171 = .ok (.invokevirtual 262, 3) := by decide +kernel
theorem dX6_readsRule_174 : decode cX6_readsRule 174 = .ok (.ifCond .ne 5, 3) := by decide +kernel
theorem dX6_readsRule_177 : decode cX6_readsRule 177 = .ok (.iconst 0, 1) := by decide +kernel
theorem dX6_readsRule_178 : decode cX6_readsRule 178 = .ok (.ireturn, 1) := by decide +kernel
theorem dX6_readsRule_179 : decode cX6_readsRule 179 = .ok (.aload_n 0, 1) := by decide +kernel
theorem dX6_readsRule_180 : decode cX6_readsRule 180 = .ok (.dup, 1) := by decide +kernel
theorem dX6_readsRule_181 : decode cX6_readsRule 181 = .ok (.getfield 268, 3) := by decide +kernel
theorem dX6_readsRule_184 : decode cX6_readsRule 184 = .ok (.iconst 1, 1) := by decide +kernel
theorem dX6_readsRule_185 : decode cX6_readsRule 185 = .ok (.iadd, 1) := by decide +kernel
theorem dX6_readsRule_186 : decode cX6_readsRule 186 = .ok (.putfield 268, 3) := by decide +kernel
theorem dX6_readsRule_189 : decode cX6_readsRule 189 = .ok (.iload_n 1, 1) := by decide +kernel
theorem dX6_readsRule_190 : decode cX6_readsRule 190 = .ok (.ifCond .eq 17, 3) := by decide +kernel
theorem dX6_readsRule_193 : decode cX6_readsRule 193 = .ok (.aload_n 0, 1) := by decide +kernel
theorem dX6_readsRule_194 : decode cX6_readsRule 194 = .ok (.iload_n 2, 1) := by decide +kernel
theorem dX6_readsRule_195 : decode cX6_readsRule 195 = .ok (.iload_n 3, 1) := by decide +kernel
theorem dX6_readsRule_196 : decode cX6_readsRule 196 = .ok (.iload 4, 2) := by decide +kernel
theorem dX6_readsRule_198 : decode cX6_readsRule 198 = .ok (.iload 5, 2) := by decide +kernel
theorem dX6_readsRule_200 : decode cX6_readsRule 200 = .ok (.aload_n 0, 1) := by decide +kernel
theorem dX6_readsRule_201 : decode cX6_readsRule 201 = .ok (.getfield 252, 3) := by decide +kernel
theorem dX6_readsRule_204 : decode cX6_readsRule 204 = .ok (.invokevirtual 123, 3) := by decide +kernel
theorem dX6_readsRule_207 : decode cX6_readsRule 207 = .ok (.iconst 1, 1) := by decide +kernel
theorem dX6_readsRule_208 : decode cX6_readsRule 208 = .ok (.ireturn, 1) := by decide +kernel
theorem dX6_readsTarget_0 : decode cX6_readsTarget 0 = .ok (.aload_n 0, 1) := by decide +kernel
theorem dX6_readsTarget_1 : decode cX6_readsTarget 1 = .ok (.getfield 277, 3) := by decide +kernel
theorem dX6_readsTarget_4 : decode cX6_readsTarget 4 = .ok (.iconst 4, 1) := by decide +kernel
theorem dX6_readsTarget_5 : decode cX6_readsTarget 5 = .ok (.if_icmp .eq 32, 3) := by decide +kernel
theorem dX6_readsTarget_8 : decode cX6_readsTarget 8 = .ok (.aload_n 0, 1) := by decide +kernel
theorem dX6_readsTarget_9 : decode cX6_readsTarget 9 = .ok (.iconst 0, 1) := by decide +kernel
theorem dX6_readsTarget_10 : decode cX6_readsTarget 10 = .ok (.aload_n 0, 1) := by decide +kernel
theorem dX6_readsTarget_11 : decode cX6_readsTarget 11 = .ok (.getfield 265, 3) := by decide +kernel
theorem dX6_readsTarget_14 : decode cX6_readsTarget 14 = .ok (.invokevirtual 262, 3) := by decide +kernel
theorem dX6_readsTarget_17 : decode cX6_readsTarget 17 = .ok (.ifCond .eq 20, 3) := by decide +kernel
theorem dX6_readsTarget_20 : decode cX6_readsTarget 20 = .ok (.aload_n 0, 1) := by decide +kernel
theorem dX6_readsTarget_21 : decode cX6_readsTarget 21 = .ok (.bipush 44, 2) := by decide +kernel
theorem dX6_readsTarget_23 : decode cX6_readsTarget 23 = .ok (.invokevirtual 271, 3) := by decide +kernel
theorem dX6_readsTarget_26 : decode cX6_readsTarget 26 = .ok (.ifCond .eq 11, 3) := by decide +kernel
theorem dX6_readsTarget_29 : decode cX6_readsTarget 29 = .ok (.aload_n 0, 1) := by decide +kernel
theorem dX6_readsTarget_30 : decode cX6_readsTarget 30 = .ok (.iconst 3, 1) := by decide +kernel
theorem dX6_readsTarget_31 : decode cX6_readsTarget 31 = .ok (.invokevirtual 274, 3) := by decide +kernel
theorem dX6_readsTarget_34 : decode cX6_readsTarget 34 = .ok (.ifCond .ne 5, 3) := by decide +kernel
theorem dX6_readsTarget_37 : decode cX6_readsTarget 37 = .ok (.iconst 0, 1) := by decide +kernel
theorem dX6_readsTarget_38 : decode cX6_readsTarget 38 = .ok (.ireturn, 1) := by decide +kernel
theorem dX6_readsTarget_39 : decode cX6_readsTarget 39 = .ok (.aload_n 0, 1) := by decide +kernel
theorem dX6_readsTarget_40 : decode cX6_readsTarget 40 = .ok (.getfield 252, 3) := by decide +kernel
theorem dX6_readsTarget_43 : decode cX6_readsTarget 43 = .ok (.istore_n 2, 1) := by decide +kernel
theorem dX6_readsTarget_44 : decode cX6_readsTarget 44 = .ok (.aload_n 0, 1) := by decide +kernel
theorem dX6_readsTarget_45 : decode cX6_readsTarget 45 = .ok (.bipush 46, 2) := by decide +kernel
theorem dX6_readsTarget_47 : decode cX6_readsTarget 47 = .ok (.invokevirtual 271, 3) := by decide +kernel
theorem dX6_readsTarget_50 : decode cX6_readsTarget 50 = .ok (.istore_n 3, 1) := by decide +kernel
theorem dX6_readsTarget_51 : decode cX6_readsTarget 51 = .ok (.aload_n 0, 1) := by decide +kernel
theorem dX6_readsTarget_52 : decode cX6_readsTarget 52 = .ok (.dup, 1) := by decide +kernel
theorem dX6_readsTarget_53 : decode cX6_readsTarget 53 = .ok (.getfield 277, 3) := by decide +kernel
theorem dX6_readsTarget_56 : decode cX6_readsTarget 56 = .ok (.iconst 1, 1) := by decide +kernel
theorem dX6_readsTarget_57 : decode cX6_readsTarget 57 = .ok (.iadd, 1) := by decide +kernel
theorem dX6_readsTarget_58 : decode cX6_readsTarget 58 = .ok (.putfield 277, 3) := by decide +kernel
theorem dX6_readsTarget_61 : decode cX6_readsTarget 61 = .ok (.iload_n 1, 1) := by decide +kernel
theorem dX6_readsTarget_62 : decode cX6_readsTarget 62 = .ok (.ifCond .eq 109, 3) := by decide +kernel
theorem dX6_readsTarget_65 : decode cX6_readsTarget 65 = .ok (.bipush 6, 2) := by decide +kernel
theorem dX6_readsTarget_67 : decode cX6_readsTarget 67 = .ok (.aload_n 0, 1) := by decide +kernel
theorem dX6_readsTarget_68 : decode cX6_readsTarget 68 = .ok (.getfield 20, 3) := by decide +kernel
theorem dX6_readsTarget_71 : decode cX6_readsTarget 71 = .ok (.imul, 1) := by decide +kernel
theorem dX6_readsTarget_72 : decode cX6_readsTarget 72 = .ok (.istore 4, 2) := by decide +kernel
theorem dX6_readsTarget_74 : decode cX6_readsTarget 74 = .ok (.aload_n 0, 1) := by decide +kernel
theorem dX6_readsTarget_75 : decode cX6_readsTarget 75 = .ok (.getfield 23, 3) := by decide +kernel
theorem dX6_readsTarget_78 : decode cX6_readsTarget 78 = .ok (.iload 4, 2) := by decide +kernel
theorem dX6_readsTarget_80 : decode cX6_readsTarget 80 = .ok (.iload_n 2, 1) := by decide +kernel
theorem dX6_readsTarget_81 : decode cX6_readsTarget 81 = .ok (.iastore, 1) := by decide +kernel
theorem dX6_readsTarget_82 : decode cX6_readsTarget 82 = .ok (.aload_n 0, 1) := by decide +kernel
theorem dX6_readsTarget_83 : decode cX6_readsTarget 83 = .ok (.getfield 23, 3) := by decide +kernel
theorem dX6_readsTarget_86 : decode cX6_readsTarget 86 = .ok (.iload 4, 2) := by decide +kernel
theorem dX6_readsTarget_88 : decode cX6_readsTarget 88 = .ok (.iconst 1, 1) := by decide +kernel
theorem dX6_readsTarget_89 : decode cX6_readsTarget 89 = .ok (.iadd, 1) := by decide +kernel
theorem dX6_readsTarget_90 : decode cX6_readsTarget 90 = .ok (.aload_n 0, 1) := by decide +kernel
theorem dX6_readsTarget_91 : decode cX6_readsTarget 91 = .ok (.getfield 255, 3) := by decide +kernel
theorem dX6_readsTarget_94 : decode cX6_readsTarget 94 = .ok (.iastore, 1) := by decide +kernel
theorem dX6_readsTarget_95 : decode cX6_readsTarget 95 = .ok (.aload_n 0, 1) := by decide +kernel
theorem dX6_readsTarget_96 : decode cX6_readsTarget 96 = .ok (.getfield 23, 3) := by decide +kernel
theorem dX6_readsTarget_99 : decode cX6_readsTarget 99 = .ok (.iload 4, 2) := by decide +kernel
theorem dX6_readsTarget_101 : decode cX6_readsTarget 101 = .ok (.iconst 2, 1) := by decide +kernel
theorem dX6_readsTarget_102 : decode cX6_readsTarget 102 = .ok (.iadd, 1) := by decide +kernel
theorem dX6_readsTarget_103 : decode cX6_readsTarget 103 = .ok (.iload_n 3, 1) := by decide +kernel
theorem dX6_readsTarget_104 : decode cX6_readsTarget 104 = .ok (.ifCond .eq 7, 3) := by decide +kernel
theorem dX6_readsTarget_107 : decode cX6_readsTarget 107 = .ok (.iconst 1, 1) := by decide +kernel
theorem dX6_readsTarget_108 : decode cX6_readsTarget 108 = .ok (.goto 4, 3) := by decide +kernel
theorem dX6_readsTarget_111 : decode cX6_readsTarget 111 = .ok (.iconst 0, 1) := by decide +kernel
theorem dX6_readsTarget_112 : decode cX6_readsTarget 112 = .ok (.iastore, 1) := by decide +kernel
theorem dX6_readsTarget_113 : decode cX6_readsTarget 113 = .ok (.iconst 0, 1) := by decide +kernel
theorem dX6_readsTarget_114 : decode cX6_readsTarget 114 = .ok (.istore 5, 2) := by decide +kernel
theorem dX6_readsTarget_116 : decode cX6_readsTarget 116 = .ok (.iload 5, 2) := by decide +kernel
theorem dX6_readsTarget_118 : decode cX6_readsTarget 118 = .ok (.iconst 3, 1) := by decide +kernel
theorem dX6_readsTarget_119 : decode cX6_readsTarget 119 = .ok (.if_icmp .ge 42, 3) := by decide +kernel
theorem dX6_readsTarget_122 : decode cX6_readsTarget 122 = .ok (.aload_n 0, 1) := by decide +kernel
theorem dX6_readsTarget_123 : decode cX6_readsTarget 123 = .ok (.getfield 23, 3) := by decide +kernel
theorem dX6_readsTarget_126 : decode cX6_readsTarget 126 = .ok (.iload 4, 2) := by decide +kernel
theorem dX6_readsTarget_128 : decode cX6_readsTarget 128 = .ok (.iconst 3, 1) := by decide +kernel
theorem dX6_readsTarget_129 : decode cX6_readsTarget 129 = .ok (.iadd, 1) := by decide +kernel
theorem dX6_readsTarget_130 : decode cX6_readsTarget 130 = .ok (.iload 5, 2) := by decide +kernel
theorem dX6_readsTarget_132 : decode cX6_readsTarget 132 = .ok (.iadd, 1) := by decide +kernel
theorem dX6_readsTarget_133 : decode cX6_readsTarget 133 = .ok (.iload 5, 2) := by decide +kernel
theorem dX6_readsTarget_135 : decode cX6_readsTarget 135 = .ok (.aload_n 0, 1) := by decide +kernel
theorem dX6_readsTarget_136 : decode cX6_readsTarget 136 = .ok (.getfield 255, 3) := by decide +kernel
theorem dX6_readsTarget_139 : decode cX6_readsTarget 139 = .ok (.if_icmp .ge 13, 3) := by decide +kernel
theorem dX6_readsTarget_142 : decode cX6_readsTarget 142 = .ok (.aload_n 0, 1) := by decide +kernel
theorem dX6_readsTarget_143 : decode cX6_readsTarget 143 = .ok (.getfield 77, 3) := by decide +kernel
theorem dX6_readsTarget_146 : decode cX6_readsTarget 146 = .ok (.iload 5, 2) := by decide +kernel
theorem dX6_readsTarget_148 : decode cX6_readsTarget 148 = .ok (.iaload, 1) := by decide +kernel
theorem dX6_readsTarget_149 : decode cX6_readsTarget 149 = .ok (.goto 5, 3) := by decide +kernel
theorem dX6_readsTarget_152 : decode cX6_readsTarget 152 = .ok (.bipush (-4), 2) := by decide +kernel
theorem dX6_readsTarget_154 : decode cX6_readsTarget 154 = .ok (.iastore, 1) := by decide +kernel
theorem dX6_readsTarget_155 : decode cX6_readsTarget 155 = .ok (.iinc 5 1, 3) := by decide +kernel
theorem dX6_readsTarget_158 : decode cX6_readsTarget 158 = .ok (.goto (-42), 3) := by decide +kernel
theorem dX6_readsTarget_161 : decode cX6_readsTarget 161 = .ok (.aload_n 0, 1) := by decide +kernel
theorem dX6_readsTarget_162 : decode cX6_readsTarget 162 = .ok (.dup, 1) := by decide +kernel
theorem dX6_readsTarget_163 : decode cX6_readsTarget 163 = .ok (.getfield 20, 3) := by decide +kernel
theorem dX6_readsTarget_166 : decode cX6_readsTarget 166 = .ok (.iconst 1, 1) := by decide +kernel
theorem dX6_readsTarget_167 : decode cX6_readsTarget 167 = .ok (.iadd, 1) := by decide +kernel
theorem dX6_readsTarget_168 : decode cX6_readsTarget 168 = .ok (.putfield 20, 3) := by decide +kernel
theorem dX6_readsTarget_171 : decode cX6_readsTarget 171 = .ok (.iconst 1, 1) := by decide +kernel
theorem dX6_readsTarget_172 : decode cX6_readsTarget 172 = .ok (.ireturn, 1) := by decide +kernel
theorem dX6_readsConfiguration_0 : decode cX6_readsConfiguration 0 = .ok (.aload_n 0, 1) := by decide +kernel
theorem dX6_readsConfiguration_1 : decode cX6_readsConfiguration 1 = .ok (.iconst 0, 1) := by decide +kernel
theorem dX6_readsConfiguration_2 : decode cX6_readsConfiguration 2 = .ok (.aload_n 0, 1) := by decide +kernel
theorem dX6_readsConfiguration_3 : decode cX6_readsConfiguration 3 = .ok (.getfield 265, 3) := by decide +kernel
theorem dX6_readsConfiguration_6 : decode cX6_readsConfiguration 6 = .ok (.invokevirtual 262, 3) := by decide +kernel
theorem dX6_readsConfiguration_9 : decode cX6_readsConfiguration 9 = .ok (.ifCond .eq 21, 3) := by decide +kernel
theorem dX6_readsConfiguration_12 : decode cX6_readsConfiguration 12 = .ok (.aload_n 0, 1) := by decide +kernel
theorem dX6_readsConfiguration_13 : decode cX6_readsConfiguration 13 = .ok (.bipush 44, 2) := by decide +kernel
theorem dX6_readsConfiguration_15 : decode cX6_readsConfiguration 15 = .ok (.invokevirtual 271, 3) := by decide +kernel
theorem dX6_readsConfiguration_18 : decode cX6_readsConfiguration 18 = .ok (.ifCond .eq 12, 3) := by decide +kernel
theorem dX6_readsConfiguration_21 : decode cX6_readsConfiguration 21 = .ok (.aload_n 0, 1) := by decide +kernel
theorem dX6_readsConfiguration_22 : decode cX6_readsConfiguration 22 = .ok (.bipush 6, 2) := by decide +kernel
theorem dX6_readsConfiguration_24 : decode cX6_readsConfiguration 24 = .ok (.invokevirtual 274, 3) := by decide +kernel
theorem dX6_readsConfiguration_27 : decode cX6_readsConfiguration 27 = .ok (.ifCond .ne 5, 3) := by decide +kernel
theorem dX6_readsConfiguration_30 : decode cX6_readsConfiguration 30 = .ok (.iconst 0, 1) := by decide +kernel
theorem dX6_readsConfiguration_31 : decode cX6_readsConfiguration 31 = .ok (.ireturn, 1) := by decide +kernel
theorem dX6_readsConfiguration_32 : decode cX6_readsConfiguration 32 = .ok (.iload_n 1, 1) := by decide +kernel
theorem dX6_readsConfiguration_33 : decode cX6_readsConfiguration 33 = .ok (.ifCond .eq 54, 3) := by decide +kernel
theorem dX6_readsConfiguration_36 : decode cX6_readsConfiguration 36 = .ok (.aload_n 0, 1) := by decide +kernel
theorem dX6_readsConfiguration_37 : decode cX6_readsConfiguration 37 = .ok (.aload_n 0, 1) := by decide +kernel
theorem dX6_readsConfiguration_38 : decode cX6_readsConfiguration 38 = .ok (.getfield 252, 3) := by decide +kernel
theorem dX6_readsConfiguration_41 : decode cX6_readsConfiguration 41 = .ok (.putfield 80, 3) := by decide +kernel
theorem dX6_readsConfiguration_44 : decode cX6_readsConfiguration 44 = .ok (.aload_n 0, 1) := by decide +kernel
theorem dX6_readsConfiguration_45 : decode cX6_readsConfiguration 45 = .ok (.aload_n 0, 1) := by decide +kernel
theorem dX6_readsConfiguration_46 : decode cX6_readsConfiguration 46 = .ok (.getfield 255, 3) := by decide +kernel
theorem dX6_readsConfiguration_49 : decode cX6_readsConfiguration 49 = .ok (.putfield 26, 3) := by decide +kernel
theorem dX6_readsConfiguration_52 : decode cX6_readsConfiguration 52 = .ok (.iconst 0, 1) := by decide +kernel
theorem dX6_readsConfiguration_53 : decode cX6_readsConfiguration 53 = .ok (.istore_n 2, 1) := by decide +kernel
theorem dX6_readsConfiguration_54 : decode cX6_readsConfiguration 54 = .ok (.iload_n 2, 1) := by decide +kernel
theorem dX6_readsConfiguration_55 : decode cX6_readsConfiguration 55 = .ok (.aload_n 0, 1) := by decide +kernel
theorem dX6_readsConfiguration_56 : decode cX6_readsConfiguration 56 = .ok (.getfield 255, 3) := by decide +kernel
theorem dX6_readsConfiguration_59 : decode cX6_readsConfiguration 59 = .ok (.if_icmp .ge 28, 3) := by decide +kernel
theorem dX6_readsConfiguration_62 : decode cX6_readsConfiguration 62 = .ok (.aload_n 0, 1) := by decide +kernel
theorem dX6_readsConfiguration_63 : decode cX6_readsConfiguration 63 = .ok (.getfield 29, 3) := by decide +kernel
theorem dX6_readsConfiguration_66 : decode cX6_readsConfiguration 66 = .ok (.iload_n 2, 1) := by decide +kernel
theorem dX6_readsConfiguration_67 : decode cX6_readsConfiguration 67 = .ok (.aload_n 0, 1) := by decide +kernel
theorem dX6_readsConfiguration_68 : decode cX6_readsConfiguration 68 = .ok (.getfield 77, 3) := by decide +kernel
theorem dX6_readsConfiguration_71 : decode cX6_readsConfiguration 71 = .ok (.aload_n 0, 1) := by decide +kernel
theorem dX6_readsConfiguration_72 : decode cX6_readsConfiguration 72 = .ok (.getfield 255, 3) := by decide +kernel
theorem dX6_readsConfiguration_75 : decode cX6_readsConfiguration 75 = .ok (.iconst 1, 1) := by decide +kernel
theorem dX6_readsConfiguration_76 : decode cX6_readsConfiguration 76 = .ok (.isub, 1) := by decide +kernel
theorem dX6_readsConfiguration_77 : decode cX6_readsConfiguration 77 = .ok (.iload_n 2, 1) := by decide +kernel
theorem dX6_readsConfiguration_78 : decode cX6_readsConfiguration 78 = .ok (.isub, 1) := by decide +kernel
theorem dX6_readsConfiguration_79 : decode cX6_readsConfiguration 79 = .ok (.iaload, 1) := by decide +kernel
theorem dX6_readsConfiguration_80 : decode cX6_readsConfiguration 80 = .ok (.iastore, 1) := by decide +kernel
theorem dX6_readsConfiguration_81 : decode cX6_readsConfiguration 81 = .ok (.iinc 2 1, 3) := by decide +kernel
theorem dX6_readsConfiguration_84 : decode cX6_readsConfiguration 84 = .ok (.goto (-30), 3) := by decide +kernel
theorem dX6_readsConfiguration_87 : decode cX6_readsConfiguration 87 = .ok (.iconst 1, 1) := by decide +kernel
theorem dX6_readsConfiguration_88 : decode cX6_readsConfiguration 88 = .ok (.ireturn, 1) := by decide +kernel
theorem dX6_readsItem_0 : decode cX6_readsItem 0 = .ok (.aload_n 0, 1) := by decide +kernel
theorem dX6_readsItem_1 : decode cX6_readsItem 1 = .ok (.getfield 74, 3) := by decide +kernel
theorem dX6_readsItem_4 : decode cX6_readsItem 4 = .ok (.aload_n 0, 1) := by decide +kernel
theorem dX6_readsItem_5 : decode cX6_readsItem 5 = .ok (.getfield 249, 3) := by decide +kernel
theorem dX6_readsItem_8 : decode cX6_readsItem 8 = .ok (.iaload, 1) := by decide +kernel
theorem dX6_readsItem_9 : decode cX6_readsItem 9 = .ok (.istore_n 3, 1) := by decide +kernel
theorem dX6_readsItem_10 : decode cX6_readsItem 10 = .ok (.aload_n 0, 1) := by decide +kernel
theorem dX6_readsItem_11 : decode cX6_readsItem 11 = .ok (.dup, 1) := by decide +kernel
theorem dX6_readsItem_12 : decode cX6_readsItem 12 = .ok (.getfield 249, 3) := by decide +kernel
theorem dX6_readsItem_15 : decode cX6_readsItem 15 = .ok (.iconst 1, 1) := by decide +kernel
theorem dX6_readsItem_16 : decode cX6_readsItem 16 = .ok (.iadd, 1) := by decide +kernel
theorem dX6_readsItem_17 : decode cX6_readsItem 17 = .ok (.putfield 249, 3) := by decide +kernel
theorem dX6_readsItem_20 : decode cX6_readsItem 20 = .ok (.iconst 0, 1) := by decide +kernel
theorem dX6_readsItem_21 : decode cX6_readsItem 21 = .ok (.istore 4, 2) := by decide +kernel
theorem dX6_readsItem_23 : decode cX6_readsItem 23 = .ok (.iload_n 3, 1) := by decide +kernel
theorem dX6_readsItem_24 : decode cX6_readsItem 24 = .ok (.bipush 110, 2) := by decide +kernel
theorem dX6_readsItem_26 : decode cX6_readsItem 26 = .ok (.if_icmp .ne 14, 3) := by decide +kernel
theorem dX6_readsItem_29 : decode cX6_readsItem 29 = .ok (.aload_n 0, 1) := by decide +kernel
theorem dX6_readsItem_30 : decode cX6_readsItem 30 = .ok (.iload_n 1, 1) := by decide +kernel
theorem dX6_readsItem_31 : decode cX6_readsItem 31 = .ok (.iload_n 2, 1) := by decide +kernel
theorem dX6_readsItem_32 : decode cX6_readsItem 32 = .ok (.invokevirtual 280, 3) := by decide +kernel
theorem dX6_readsItem_35 : decode cX6_readsItem 35 = .ok (.istore 4, 2) := by decide +kernel
theorem dX6_readsItem_37 : decode cX6_readsItem 37 = .ok (.goto 88, 3) := by decide +kernel
theorem dX6_readsItem_40 : decode cX6_readsItem 40 = .ok (.iload_n 3, 1) := by decide +kernel
theorem dX6_readsItem_41 : decode cX6_readsItem 41 = .ok (.bipush 114, 2) := by decide +kernel
theorem dX6_readsItem_43 : decode cX6_readsItem 43 = .ok (.if_icmp .ne 13, 3) := by decide +kernel
theorem dX6_readsItem_46 : decode cX6_readsItem 46 = .ok (.aload_n 0, 1) := by decide +kernel
theorem dX6_readsItem_47 : decode cX6_readsItem 47 = .ok (.iload_n 2, 1) := by decide +kernel
theorem dX6_readsItem_48 : decode cX6_readsItem 48 = .ok (.invokevirtual 284, 3) := by decide +kernel
theorem dX6_readsItem_51 : decode cX6_readsItem 51 = .ok (.istore 4, 2) := by decide +kernel
theorem dX6_readsItem_53 : decode cX6_readsItem 53 = .ok (.goto 72, 3) := by decide +kernel
theorem dX6_readsItem_56 : decode cX6_readsItem 56 = .ok (.iload_n 3, 1) := by decide +kernel
theorem dX6_readsItem_57 : decode cX6_readsItem 57 = .ok (.bipush 116, 2) := by decide +kernel
theorem dX6_readsItem_59 : decode cX6_readsItem 59 = .ok (.if_icmp .ne 13, 3) := by decide +kernel
theorem dX6_readsItem_62 : decode cX6_readsItem 62 = .ok (.aload_n 0, 1) := by decide +kernel
theorem dX6_readsItem_63 : decode cX6_readsItem 63 = .ok (.iload_n 2, 1) := by decide +kernel
theorem dX6_readsItem_64 : decode cX6_readsItem 64 = .ok (.invokevirtual 288, 3) := by decide +kernel
theorem dX6_readsItem_67 : decode cX6_readsItem 67 = .ok (.istore 4, 2) := by decide +kernel
theorem dX6_readsItem_69 : decode cX6_readsItem 69 = .ok (.goto 56, 3) := by decide +kernel
theorem dX6_readsItem_72 : decode cX6_readsItem 72 = .ok (.iload_n 3, 1) := by decide +kernel
theorem dX6_readsItem_73 : decode cX6_readsItem 73 = .ok (.bipush 99, 2) := by decide +kernel
theorem dX6_readsItem_75 : decode cX6_readsItem 75 = .ok (.if_icmp .ne 13, 3) := by decide +kernel
theorem dX6_readsItem_78 : decode cX6_readsItem 78 = .ok (.aload_n 0, 1) := by decide +kernel
theorem dX6_readsItem_79 : decode cX6_readsItem 79 = .ok (.iload_n 2, 1) := by decide +kernel
theorem dX6_readsItem_80 : decode cX6_readsItem 80 = .ok (.invokevirtual 291, 3) := by decide +kernel
theorem dX6_readsItem_83 : decode cX6_readsItem 83 = .ok (.istore 4, 2) := by decide +kernel
theorem dX6_readsItem_85 : decode cX6_readsItem 85 = .ok (.goto 40, 3) := by decide +kernel
theorem dX6_readsItem_88 : decode cX6_readsItem 88 = .ok (.iload_n 3, 1) := by decide +kernel
theorem dX6_readsItem_89 : decode cX6_readsItem 89 = .ok (.bipush 109, 2) := by decide +kernel
theorem dX6_readsItem_91 : decode cX6_readsItem 91 = .ok (.if_icmp .ne 34, 3) := by decide +kernel
theorem dX6_readsItem_94 : decode cX6_readsItem 94 = .ok (.aload_n 0, 1) := by decide +kernel
theorem dX6_readsItem_95 : decode cX6_readsItem 95 = .ok (.iconst 0, 1) := by decide +kernel
theorem dX6_readsItem_96 : decode cX6_readsItem 96 = .ok (.iconst 3, 1) := by decide +kernel
theorem dX6_readsItem_97 : decode cX6_readsItem 97 = .ok (.invokevirtual 262, 3) := by decide +kernel
theorem dX6_readsItem_100 : decode cX6_readsItem 100 = .ok (.ifCond .eq 25, 3) := by decide +kernel
theorem dX6_readsItem_103 : decode cX6_readsItem 103 = .ok (.iconst 1, 1) := by decide +kernel
theorem dX6_readsItem_104 : decode cX6_readsItem 104 = .ok (.istore 4, 2) := by decide +kernel
theorem dX6_readsItem_106 : decode cX6_readsItem 106 = .ok (.aload_n 0, 1) := by decide +kernel
theorem dX6_readsItem_107 : decode cX6_readsItem 107 = .ok (.iload_n 2, 1) := by decide +kernel
theorem dX6_readsItem_108 : decode cX6_readsItem 108 = .ok (.ifCond .eq 10, 3) := by decide +kernel
theorem dX6_readsItem_111 : decode cX6_readsItem 111 = .ok (.aload_n 0, 1) := by decide +kernel
theorem dX6_readsItem_112 : decode cX6_readsItem 112 = .ok (.getfield 252, 3) := by decide +kernel
theorem dX6_readsItem_115 : decode cX6_readsItem 115 = .ok (.goto 7, 3) := by decide +kernel
theorem dX6_readsItem_118 : decode cX6_readsItem 118 = .ok (.aload_n 0, 1) := by decide +kernel
theorem dX6_readsItem_119 : decode cX6_readsItem 119 = .ok (.getfield 83, 3) := by decide +kernel
theorem dX6_readsItem_122 : decode cX6_readsItem 122 = .ok (.putfield 83, 3) := by decide +kernel
theorem dX6_readsItem_125 : decode cX6_readsItem 125 = .ok (.iload 4, 2) := by decide +kernel
theorem dX6_readsItem_127 : decode cX6_readsItem 127 = .ok (.ifCond .eq 16, 3) := by decide +kernel
theorem dX6_readsItem_130 : decode cX6_readsItem 130 = .ok (.aload_n 0, 1) := by decide +kernel
theorem dX6_readsItem_131 : decode cX6_readsItem 131 = .ok (.bipush 59, 2) := by decide +kernel
theorem dX6_readsItem_133 : decode cX6_readsItem 133 = .ok (.invokevirtual 271, 3) := by decide +kernel
theorem dX6_readsItem_136 : decode cX6_readsItem 136 = .ok (.ifCond .eq 7, 3) := by decide +kernel
theorem dX6_readsItem_139 : decode cX6_readsItem 139 = .ok (.iconst 1, 1) := by decide +kernel
theorem dX6_readsItem_140 : decode cX6_readsItem 140 = .ok (.goto 4, 3) := by decide +kernel
theorem dX6_readsItem_143 : decode cX6_readsItem 143 = .ok (.iconst 0, 1) := by decide +kernel
theorem dX6_readsItem_144 : decode cX6_readsItem 144 = .ok (.ireturn, 1) := by decide +kernel
theorem dX6_goesThrough_0 : decode cX6_goesThrough 0 = .ok (.aload_n 0, 1) := by decide +kernel
theorem dX6_goesThrough_1 : decode cX6_goesThrough 1 = .ok (.iconst 0, 1) := by decide +kernel
theorem dX6_goesThrough_2 : decode cX6_goesThrough 2 = .ok (.putfield 249, 3) := by decide +kernel
theorem dX6_goesThrough_5 : decode cX6_goesThrough 5 = .ok (.aload_n 0, 1) := by decide +kernel
theorem dX6_goesThrough_6 : decode cX6_goesThrough 6 = .ok (.iconst 2, 1) := by decide +kernel
theorem dX6_goesThrough_7 : decode cX6_goesThrough 7 = .ok (.putfield 265, 3) := by decide +kernel
theorem dX6_goesThrough_10 : decode cX6_goesThrough 10 = .ok (.aload_n 0, 1) := by decide +kernel
theorem dX6_goesThrough_11 : decode cX6_goesThrough 11 = .ok (.iconst 0, 1) := by decide +kernel
theorem dX6_goesThrough_12 : decode cX6_goesThrough 12 = .ok (.putfield 268, 3) := by decide +kernel
theorem dX6_goesThrough_15 : decode cX6_goesThrough 15 = .ok (.aload_n 0, 1) := by decide +kernel
theorem dX6_goesThrough_16 : decode cX6_goesThrough 16 = .ok (.iconst 0, 1) := by decide +kernel
theorem dX6_goesThrough_17 : decode cX6_goesThrough 17 = .ok (.putfield 277, 3) := by decide +kernel
theorem dX6_goesThrough_20 : decode cX6_goesThrough 20 = .ok (.aload_n 0, 1) := by decide +kernel
theorem dX6_goesThrough_21 : decode cX6_goesThrough 21 = .ok (.getfield 249, 3) := by decide +kernel
theorem dX6_goesThrough_24 : decode cX6_goesThrough 24 = .ok (.aload_n 0, 1) := by decide +kernel
theorem dX6_goesThrough_25 : decode cX6_goesThrough 25 = .ok (.getfield 246, 3) := by decide +kernel
theorem dX6_goesThrough_28 : decode cX6_goesThrough 28 = .ok (.if_icmp .ge 30, 3) := by decide +kernel
theorem dX6_goesThrough_31 : decode cX6_goesThrough 31 = .ok (.aload_n 0, 1) := by decide +kernel
theorem dX6_goesThrough_32 : decode cX6_goesThrough 32 = .ok (.getfield 249, 3) := by decide +kernel
theorem dX6_goesThrough_35 : decode cX6_goesThrough 35 = .ok (.istore_n 2, 1) := by decide +kernel
theorem dX6_goesThrough_36 : decode cX6_goesThrough 36 = .ok (.aload_n 0, 1) := by decide +kernel
theorem dX6_goesThrough_37 : decode cX6_goesThrough 37 = .ok (.iload_n 2, 1) := by decide +kernel
theorem dX6_goesThrough_38 : decode cX6_goesThrough 38 = .ok (.ifCond .ne 7, 3) := by decide +kernel
theorem dX6_goesThrough_41 : decode cX6_goesThrough 41 = .ok (.iconst 1, 1) := by decide +kernel
theorem dX6_goesThrough_42 : decode cX6_goesThrough 42 = .ok (.goto 4, 3) := by decide +kernel
theorem dX6_goesThrough_45 : decode cX6_goesThrough 45 = .ok (.iconst 0, 1) := by decide +kernel
theorem dX6_goesThrough_46 : decode cX6_goesThrough 46 = .ok (.iload_n 1, 1) := by decide +kernel
theorem dX6_goesThrough_47 : decode cX6_goesThrough 47 = .ok (.invokevirtual 294, 3) := by decide +kernel
theorem dX6_goesThrough_50 : decode cX6_goesThrough 50 = .ok (.ifCond .ne 5, 3) := by decide +kernel
theorem dX6_goesThrough_53 : decode cX6_goesThrough 53 = .ok (.iload_n 2, 1) := by decide +kernel
theorem dX6_goesThrough_54 : decode cX6_goesThrough 54 = .ok (.ireturn, 1) := by decide +kernel
theorem dX6_goesThrough_55 : decode cX6_goesThrough 55 = .ok (.goto (-35), 3) := by decide +kernel
theorem dX6_goesThrough_58 : decode cX6_goesThrough 58 = .ok (.bipush (-4), 2) := by decide +kernel
theorem dX6_goesThrough_60 : decode cX6_goesThrough 60 = .ok (.ireturn, 1) := by decide +kernel
theorem dX6_fault_0 : decode cX6_fault 0 = .ok (.aload_n 0, 1) := by decide +kernel
theorem dX6_fault_1 : decode cX6_fault 1 = .ok (.iconst 0, 1) := by decide +kernel
theorem dX6_fault_2 : decode cX6_fault 2 = .ok (.invokevirtual 297, 3) := by decide +kernel
theorem dX6_fault_5 : decode cX6_fault 5 = .ok (.ireturn, 1) := by decide +kernel
theorem dX6_lay_0 : decode cX6_lay 0 = .ok (.aload_n 0, 1) := by decide +kernel
theorem dX6_lay_1 : decode cX6_lay 1 = .ok (.iconst 0, 1) := by decide +kernel
theorem dX6_lay_2 : decode cX6_lay 2 = .ok (.invokevirtual 297, 3) := by decide +kernel
theorem dX6_lay_5 : decode cX6_lay 5 = .ok (.bipush (-4), 2) := by decide +kernel
theorem dX6_lay_7 : decode cX6_lay 7 = .ok (.if_icmp .ne 10, 3) := by decide +kernel
theorem dX6_lay_10 : decode cX6_lay 10 = .ok (.aload_n 0, 1) := by decide +kernel
theorem dX6_lay_11 : decode cX6_lay 11 = .ok (.getfield 268, 3) := by decide +kernel
theorem dX6_lay_14 : decode cX6_lay 14 = .ok (.ifCond .ne 6, 3) := by decide +kernel
theorem dX6_lay_17 : decode cX6_lay 17 = .ok (.bipush (-2), 2) := by decide +kernel
theorem dX6_lay_19 : decode cX6_lay 19 = .ok (.ireturn, 1) := by decide +kernel
theorem dX6_lay_20 : decode cX6_lay 20 = .ok (.aload_n 0, 1) := by decide +kernel
theorem dX6_lay_21 : decode cX6_lay 21 = .ok (.iconst 2, 1) := by decide +kernel
theorem dX6_lay_22 : decode cX6_lay 22 = .ok (.putfield 7, 3) := by decide +kernel
theorem dX6_lay_25 : decode cX6_lay 25 = .ok (.aload_n 0, 1) := by decide +kernel
theorem dX6_lay_26 : decode cX6_lay 26 = .ok (.iconst 0, 1) := by decide +kernel
theorem dX6_lay_27 : decode cX6_lay 27 = .ok (.putfield 13, 3) := by decide +kernel
theorem dX6_lay_30 : decode cX6_lay 30 = .ok (.aload_n 0, 1) := by decide +kernel
theorem dX6_lay_31 : decode cX6_lay 31 = .ok (.iconst 0, 1) := by decide +kernel
theorem dX6_lay_32 : decode cX6_lay 32 = .ok (.putfield 20, 3) := by decide +kernel
theorem dX6_lay_35 : decode cX6_lay 35 = .ok (.aload_n 0, 1) := by decide +kernel
theorem dX6_lay_36 : decode cX6_lay 36 = .ok (.iconst 0, 1) := by decide +kernel
theorem dX6_lay_37 : decode cX6_lay 37 = .ok (.putfield 80, 3) := by decide +kernel
theorem dX6_lay_40 : decode cX6_lay 40 = .ok (.aload_n 0, 1) := by decide +kernel
theorem dX6_lay_41 : decode cX6_lay 41 = .ok (.iconst 0, 1) := by decide +kernel
theorem dX6_lay_42 : decode cX6_lay 42 = .ok (.putfield 26, 3) := by decide +kernel
theorem dX6_lay_45 : decode cX6_lay 45 = .ok (.aload_n 0, 1) := by decide +kernel
theorem dX6_lay_46 : decode cX6_lay 46 = .ok (.iconst 0, 1) := by decide +kernel
theorem dX6_lay_47 : decode cX6_lay 47 = .ok (.putfield 83, 3) := by decide +kernel
theorem dX6_lay_50 : decode cX6_lay 50 = .ok (.aload_n 0, 1) := by decide +kernel
theorem dX6_lay_51 : decode cX6_lay 51 = .ok (.iconst 0, 1) := by decide +kernel
theorem dX6_lay_52 : decode cX6_lay 52 = .ok (.putfield 86, 3) := by decide +kernel
theorem dX6_lay_55 : decode cX6_lay 55 = .ok (.aload_n 0, 1) := by decide +kernel
theorem dX6_lay_56 : decode cX6_lay 56 = .ok (.iconst 0, 1) := by decide +kernel
theorem dX6_lay_57 : decode cX6_lay 57 = .ok (.putfield 96, 3) := by decide +kernel
theorem dX6_lay_60 : decode cX6_lay 60 = .ok (.aload_n 0, 1) := by decide +kernel
theorem dX6_lay_61 : decode cX6_lay 61 = .ok (.iconst 1, 1) := by decide +kernel
theorem dX6_lay_62 : decode cX6_lay 62 = .ok (.invokevirtual 297, 3) := by decide +kernel
theorem dX6_lay_65 : decode cX6_lay 65 = .ok (.pop, 1) := by decide +kernel
theorem dX6_lay_66 : decode cX6_lay 66 = .ok (.aload_n 0, 1) := by decide +kernel
theorem dX6_lay_67 : decode cX6_lay 67 = .ok (.getfield 13, 3) := by decide +kernel
theorem dX6_lay_70 : decode cX6_lay 70 = .ok (.ireturn, 1) := by decide +kernel
theorem dX6_count_0 : decode cX6_count 0 = .ok (.iload_n 1, 1) := by decide +kernel
theorem dX6_count_1 : decode cX6_count 1 = .ok (.tableswitch 78 0 6 #[43, 48, 53, 58, 63, 68, 73], 43) := by decide +kernel
theorem dX6_count_44 : decode cX6_count 44 = .ok (.aload_n 0, 1) := by decide +kernel
theorem dX6_count_45 : decode cX6_count 45 = .ok (.getfield 7, 3) := by decide +kernel
theorem dX6_count_48 : decode cX6_count 48 = .ok (.ireturn, 1) := by decide +kernel
theorem dX6_count_49 : decode cX6_count 49 = .ok (.aload_n 0, 1) := by decide +kernel
theorem dX6_count_50 : decode cX6_count 50 = .ok (.getfield 13, 3) := by decide +kernel
theorem dX6_count_53 : decode cX6_count 53 = .ok (.ireturn, 1) := by decide +kernel
theorem dX6_count_54 : decode cX6_count 54 = .ok (.aload_n 0, 1) := by decide +kernel
theorem dX6_count_55 : decode cX6_count 55 = .ok (.getfield 20, 3) := by decide +kernel
theorem dX6_count_58 : decode cX6_count 58 = .ok (.ireturn, 1) := by decide +kernel
theorem dX6_count_59 : decode cX6_count 59 = .ok (.aload_n 0, 1) := by decide +kernel
theorem dX6_count_60 : decode cX6_count 60 = .ok (.getfield 83, 3) := by decide +kernel
theorem dX6_count_63 : decode cX6_count 63 = .ok (.ireturn, 1) := by decide +kernel
theorem dX6_count_64 : decode cX6_count 64 = .ok (.aload_n 0, 1) := by decide +kernel
theorem dX6_count_65 : decode cX6_count 65 = .ok (.getfield 86, 3) := by decide +kernel
theorem dX6_count_68 : decode cX6_count 68 = .ok (.ireturn, 1) := by decide +kernel
theorem dX6_count_69 : decode cX6_count 69 = .ok (.aload_n 0, 1) := by decide +kernel
theorem dX6_count_70 : decode cX6_count 70 = .ok (.getfield 96, 3) := by decide +kernel
theorem dX6_count_73 : decode cX6_count 73 = .ok (.ireturn, 1) := by decide +kernel
theorem dX6_count_74 : decode cX6_count 74 = .ok (.aload_n 0, 1) := by decide +kernel
theorem dX6_count_75 : decode cX6_count 75 = .ok (.getfield 246, 3) := by decide +kernel
theorem dX6_count_78 : decode cX6_count 78 = .ok (.ireturn, 1) := by decide +kernel
theorem dX6_count_79 : decode cX6_count 79 = .ok (.iconst (-1), 1) := by decide +kernel
theorem dX6_count_80 : decode cX6_count 80 = .ok (.ireturn, 1) := by decide +kernel
theorem dL_law_0 : decode cL_law 0 = .ok (.new 7, 3) := by decide +kernel
theorem dL_law_3 : decode cL_law 3 = .ok (.dup, 1) := by decide +kernel
theorem dL_law_4 : decode cL_law 4 = .ok (.invokespecial 9, 3) := by decide +kernel
theorem dL_law_7 : decode cL_law 7 = .ok (.astore_n 1, 1) := by decide +kernel
theorem dL_law_8 : decode cL_law 8 = .ok (.new 10, 3) := by decide +kernel
theorem dL_law_11 : decode cL_law 11 = .ok (.dup, 1) := by decide +kernel
theorem dL_law_12 : decode cL_law 12 = .ok (.invokespecial 12, 3) := by decide +kernel
theorem dL_law_15 : decode cL_law 15 = .ok (.astore_n 2, 1) := by decide +kernel
theorem dL_law_16 : decode cL_law 16 = .ok (.iconst 0, 1) := by decide +kernel
theorem dL_law_17 : decode cL_law 17 = .ok (.istore_n 3, 1) := by decide +kernel
theorem dL_law_18 : decode cL_law 18 = .ok (.iload_n 3, 1) := by decide +kernel
theorem dL_law_19 : decode cL_law 19 = .ok (.aload_n 0, 1) := by decide +kernel
theorem dL_law_20 : decode cL_law 20 = .ok (.arraylength, 1) := by decide +kernel
theorem dL_law_21 : decode cL_law 21 = .ok (.bipush 6, 2) := by decide +kernel
theorem dL_law_23 : decode cL_law 23 = .ok (.isub, 1) := by decide +kernel
theorem dL_law_24 : decode cL_law 24 = .ok (.if_icmp .gt 833, 3) := by decide +kernel
theorem dL_law_27 : decode cL_law 27 = .ok (.aload_n 0, 1) := by decide +kernel
theorem dL_law_28 : decode cL_law 28 = .ok (.iload_n 3, 1) := by decide +kernel
theorem dL_law_29 : decode cL_law 29 = .ok (.iaload, 1) := by decide +kernel
theorem dL_law_30 : decode cL_law 30 = .ok (.bipush 31, 2) := by decide +kernel
theorem dL_law_32 : decode cL_law 32 = .ok (.iand, 1) := by decide +kernel
theorem dL_law_33 : decode cL_law 33 = .ok (.tableswitch 818 0 28 #[131, 154, 167, 180, 193, 226, 259, 282, 305, 318, 341, 364, 427, 450, 483, 506, 519, 532, 555, 588, 611, 624, 667, 690, 703, 726, 769, 782, 795], 131) := by decide +kernel
theorem dL_law_164 : decode cL_law 164 = .ok (.aload_n 1, 1) := by decide +kernel
theorem dL_law_165 : decode cL_law 165 = .ok (.aload_n 0, 1) := by decide +kernel
theorem dL_law_166 : decode cL_law 166 = .ok (.iload_n 3, 1) := by decide +kernel
theorem dL_law_167 : decode cL_law 167 = .ok (.iconst 1, 1) := by decide +kernel
theorem dL_law_168 : decode cL_law 168 = .ok (.iadd, 1) := by decide +kernel
theorem dL_law_169 : decode cL_law 169 = .ok (.iaload, 1) := by decide +kernel
theorem dL_law_170 : decode cL_law 170 = .ok (.invokevirtual 13, 3) := by decide +kernel
theorem dL_law_173 : decode cL_law 173 = .ok (.aload_n 2, 1) := by decide +kernel
theorem dL_law_174 : decode cL_law 174 = .ok (.aload_n 0, 1) := by decide +kernel
theorem dL_law_175 : decode cL_law 175 = .ok (.iload_n 3, 1) := by decide +kernel
theorem dL_law_176 : decode cL_law 176 = .ok (.iconst 1, 1) := by decide +kernel
theorem dL_law_177 : decode cL_law 177 = .ok (.iadd, 1) := by decide +kernel
theorem dL_law_178 : decode cL_law 178 = .ok (.iaload, 1) := by decide +kernel
theorem dL_law_179 : decode cL_law 179 = .ok (.invokevirtual 17, 3) := by decide +kernel
theorem dL_law_182 : decode cL_law 182 = .ok (.if_icmp .eq 669, 3) := by decide +kernel
theorem dL_law_185 : decode cL_law 185 = .ok (.iconst 0, 1) := by decide +kernel
theorem dL_law_186 : decode cL_law 186 = .ok (.ireturn, 1) := by decide +kernel
theorem dL_law_187 : decode cL_law 187 = .ok (.aload_n 1, 1) := by decide +kernel
theorem dL_law_188 : decode cL_law 188 = .ok (.invokevirtual 18, 3) := by decide +kernel
theorem dL_law_191 : decode cL_law 191 = .ok (.aload_n 2, 1) := by decide +kernel
theorem dL_law_192 : decode cL_law 192 = .ok (.invokevirtual 22, 3) := by decide +kernel
theorem dL_law_195 : decode cL_law 195 = .ok (.if_icmp .eq 656, 3) := by decide +kernel
theorem dL_law_198 : decode cL_law 198 = .ok (.iconst 0, 1) := by decide +kernel
theorem dL_law_199 : decode cL_law 199 = .ok (.ireturn, 1) := by decide +kernel
theorem dL_law_200 : decode cL_law 200 = .ok (.aload_n 1, 1) := by decide +kernel
theorem dL_law_201 : decode cL_law 201 = .ok (.invokevirtual 23, 3) := by decide +kernel
theorem dL_law_204 : decode cL_law 204 = .ok (.aload_n 2, 1) := by decide +kernel
theorem dL_law_205 : decode cL_law 205 = .ok (.invokevirtual 26, 3) := by decide +kernel
theorem dL_law_208 : decode cL_law 208 = .ok (.if_icmp .eq 643, 3) := by decide +kernel
theorem dL_law_211 : decode cL_law 211 = .ok (.iconst 0, 1) := by decide +kernel
theorem dL_law_212 : decode cL_law 212 = .ok (.ireturn, 1) := by decide +kernel
theorem dL_law_213 : decode cL_law 213 = .ok (.aload_n 1, 1) := by decide +kernel
theorem dL_law_214 : decode cL_law 214 = .ok (.invokevirtual 27, 3) := by decide +kernel
theorem dL_law_217 : decode cL_law 217 = .ok (.aload_n 2, 1) := by decide +kernel
theorem dL_law_218 : decode cL_law 218 = .ok (.invokevirtual 30, 3) := by decide +kernel
theorem dL_law_221 : decode cL_law 221 = .ok (.if_icmp .eq 630, 3) := by decide +kernel
theorem dL_law_224 : decode cL_law 224 = .ok (.iconst 0, 1) := by decide +kernel
theorem dL_law_225 : decode cL_law 225 = .ok (.ireturn, 1) := by decide +kernel
theorem dL_law_226 : decode cL_law 226 = .ok (.aload_n 1, 1) := by decide +kernel
theorem dL_law_227 : decode cL_law 227 = .ok (.aload_n 0, 1) := by decide +kernel
theorem dL_law_228 : decode cL_law 228 = .ok (.iload_n 3, 1) := by decide +kernel
theorem dL_law_229 : decode cL_law 229 = .ok (.iconst 1, 1) := by decide +kernel
theorem dL_law_230 : decode cL_law 230 = .ok (.iadd, 1) := by decide +kernel
theorem dL_law_231 : decode cL_law 231 = .ok (.iaload, 1) := by decide +kernel
theorem dL_law_232 : decode cL_law 232 = .ok (.aload_n 0, 1) := by decide +kernel
theorem dL_law_233 : decode cL_law 233 = .ok (.iload_n 3, 1) := by decide +kernel
theorem dL_law_234 : decode cL_law 234 = .ok (.iconst 2, 1) := by decide +kernel
theorem dL_law_235 : decode cL_law 235 = .ok (.iadd, 1) := by decide +kernel
theorem dL_law_236 : decode cL_law 236 = .ok (.iaload, 1) := by decide +kernel
theorem dL_law_237 : decode cL_law 237 = .ok (.invokevirtual 31, 3) := by decide +kernel
theorem dL_law_240 : decode cL_law 240 = .ok (.aload_n 2, 1) := by decide +kernel
theorem dL_law_241 : decode cL_law 241 = .ok (.aload_n 0, 1) := by decide +kernel
theorem dL_law_242 : decode cL_law 242 = .ok (.iload_n 3, 1) := by decide +kernel
theorem dL_law_243 : decode cL_law 243 = .ok (.iconst 1, 1) := by decide +kernel
theorem dL_law_244 : decode cL_law 244 = .ok (.iadd, 1) := by decide +kernel
theorem dL_law_245 : decode cL_law 245 = .ok (.iaload, 1) := by decide +kernel
theorem dL_law_246 : decode cL_law 246 = .ok (.aload_n 0, 1) := by decide +kernel
theorem dL_law_247 : decode cL_law 247 = .ok (.iload_n 3, 1) := by decide +kernel
theorem dL_law_248 : decode cL_law 248 = .ok (.iconst 2, 1) := by decide +kernel
theorem dL_law_249 : decode cL_law 249 = .ok (.iadd, 1) := by decide +kernel
theorem dL_law_250 : decode cL_law 250 = .ok (.iaload, 1) := by decide +kernel
theorem dL_law_251 : decode cL_law 251 = .ok (.invokevirtual 35, 3) := by decide +kernel
theorem dL_law_254 : decode cL_law 254 = .ok (.if_icmp .eq 597, 3) := by decide +kernel
theorem dL_law_257 : decode cL_law 257 = .ok (.iconst 0, 1) := by decide +kernel
theorem dL_law_258 : decode cL_law 258 = .ok (.ireturn, 1) := by decide +kernel
theorem dL_law_259 : decode cL_law 259 = .ok (.aload_n 1, 1) := by decide +kernel
theorem dL_law_260 : decode cL_law 260 = .ok (.aload_n 0, 1) := by decide +kernel
theorem dL_law_261 : decode cL_law 261 = .ok (.iload_n 3, 1) := by decide +kernel
theorem dL_law_262 : decode cL_law 262 = .ok (.iconst 1, 1) := by decide +kernel
theorem dL_law_263 : decode cL_law 263 = .ok (.iadd, 1) := by decide +kernel
theorem dL_law_264 : decode cL_law 264 = .ok (.iaload, 1) := by decide +kernel
theorem dL_law_265 : decode cL_law 265 = .ok (.aload_n 0, 1) := by decide +kernel
theorem dL_law_266 : decode cL_law 266 = .ok (.iload_n 3, 1) := by decide +kernel
theorem dL_law_267 : decode cL_law 267 = .ok (.iconst 2, 1) := by decide +kernel
theorem dL_law_268 : decode cL_law 268 = .ok (.iadd, 1) := by decide +kernel
theorem dL_law_269 : decode cL_law 269 = .ok (.iaload, 1) := by decide +kernel
theorem dL_law_270 : decode cL_law 270 = .ok (.invokevirtual 36, 3) := by decide +kernel
theorem dL_law_273 : decode cL_law 273 = .ok (.aload_n 2, 1) := by decide +kernel
theorem dL_law_274 : decode cL_law 274 = .ok (.aload_n 0, 1) := by decide +kernel
theorem dL_law_275 : decode cL_law 275 = .ok (.iload_n 3, 1) := by decide +kernel
theorem dL_law_276 : decode cL_law 276 = .ok (.iconst 1, 1) := by decide +kernel
theorem dL_law_277 : decode cL_law 277 = .ok (.iadd, 1) := by decide +kernel
theorem dL_law_278 : decode cL_law 278 = .ok (.iaload, 1) := by decide +kernel
theorem dL_law_279 : decode cL_law 279 = .ok (.aload_n 0, 1) := by decide +kernel
theorem dL_law_280 : decode cL_law 280 = .ok (.iload_n 3, 1) := by decide +kernel
theorem dL_law_281 : decode cL_law 281 = .ok (.iconst 2, 1) := by decide +kernel
theorem dL_law_282 : decode cL_law 282 = .ok (.iadd, 1) := by decide +kernel
theorem dL_law_283 : decode cL_law 283 = .ok (.iaload, 1) := by decide +kernel
theorem dL_law_284 : decode cL_law 284 = .ok (.invokevirtual 39, 3) := by decide +kernel
theorem dL_law_287 : decode cL_law 287 = .ok (.if_icmp .eq 564, 3) := by decide +kernel
theorem dL_law_290 : decode cL_law 290 = .ok (.iconst 0, 1) := by decide +kernel
theorem dL_law_291 : decode cL_law 291 = .ok (.ireturn, 1) := by decide +kernel
theorem dL_law_292 : decode cL_law 292 = .ok (.aload_n 1, 1) := by decide +kernel
theorem dL_law_293 : decode cL_law 293 = .ok (.aload_n 0, 1) := by decide +kernel
theorem dL_law_294 : decode cL_law 294 = .ok (.iload_n 3, 1) := by decide +kernel
theorem dL_law_295 : decode cL_law 295 = .ok (.iconst 1, 1) := by decide +kernel
theorem dL_law_296 : decode cL_law 296 = .ok (.iadd, 1) := by decide +kernel
theorem dL_law_297 : decode cL_law 297 = .ok (.iaload, 1) := by decide +kernel
theorem dL_law_298 : decode cL_law 298 = .ok (.invokevirtual 40, 3) := by decide +kernel
theorem dL_law_301 : decode cL_law 301 = .ok (.aload_n 2, 1) := by decide +kernel
theorem dL_law_302 : decode cL_law 302 = .ok (.aload_n 0, 1) := by decide +kernel
theorem dL_law_303 : decode cL_law 303 = .ok (.iload_n 3, 1) := by decide +kernel
theorem dL_law_304 : decode cL_law 304 = .ok (.iconst 1, 1) := by decide +kernel
theorem dL_law_305 : decode cL_law 305 = .ok (.iadd, 1) := by decide +kernel
theorem dL_law_306 : decode cL_law 306 = .ok (.iaload, 1) := by decide +kernel
theorem dL_law_307 : decode cL_law 307 = .ok (.invokevirtual 43, 3) := by decide +kernel
theorem dL_law_310 : decode cL_law 310 = .ok (.if_icmp .eq 541, 3) := by decide +kernel
theorem dL_law_313 : decode cL_law 313 = .ok (.iconst 0, 1) := by decide +kernel
theorem dL_law_314 : decode cL_law 314 = .ok (.ireturn, 1) := by decide +kernel
theorem dL_law_315 : decode cL_law 315 = .ok (.aload_n 1, 1) := by decide +kernel
theorem dL_law_316 : decode cL_law 316 = .ok (.aload_n 0, 1) := by decide +kernel
theorem dL_law_317 : decode cL_law 317 = .ok (.iload_n 3, 1) := by decide +kernel
theorem dL_law_318 : decode cL_law 318 = .ok (.iconst 1, 1) := by decide +kernel
theorem dL_law_319 : decode cL_law 319 = .ok (.iadd, 1) := by decide +kernel
theorem dL_law_320 : decode cL_law 320 = .ok (.iaload, 1) := by decide +kernel
theorem dL_law_321 : decode cL_law 321 = .ok (.invokevirtual 44, 3) := by decide +kernel
theorem dL_law_324 : decode cL_law 324 = .ok (.aload_n 2, 1) := by decide +kernel
theorem dL_law_325 : decode cL_law 325 = .ok (.aload_n 0, 1) := by decide +kernel
theorem dL_law_326 : decode cL_law 326 = .ok (.iload_n 3, 1) := by decide +kernel
theorem dL_law_327 : decode cL_law 327 = .ok (.iconst 1, 1) := by decide +kernel
theorem dL_law_328 : decode cL_law 328 = .ok (.iadd, 1) := by decide +kernel
theorem dL_law_329 : decode cL_law 329 = .ok (.iaload, 1) := by decide +kernel
theorem dL_law_330 : decode cL_law 330 = .ok (.invokevirtual 47, 3) := by decide +kernel
theorem dL_law_333 : decode cL_law 333 = .ok (.if_icmp .eq 518, 3) := by decide +kernel
theorem dL_law_336 : decode cL_law 336 = .ok (.iconst 0, 1) := by decide +kernel
theorem dL_law_337 : decode cL_law 337 = .ok (.ireturn, 1) := by decide +kernel
theorem dL_law_338 : decode cL_law 338 = .ok (.aload_n 1, 1) := by decide +kernel
theorem dL_law_339 : decode cL_law 339 = .ok (.invokevirtual 48, 3) := by decide +kernel
theorem dL_law_342 : decode cL_law 342 = .ok (.aload_n 2, 1) := by decide +kernel
theorem dL_law_343 : decode cL_law 343 = .ok (.invokevirtual 51, 3) := by decide +kernel
theorem dL_law_346 : decode cL_law 346 = .ok (.if_icmp .eq 505, 3) := by decide +kernel
theorem dL_law_349 : decode cL_law 349 = .ok (.iconst 0, 1) := by decide +kernel
theorem dL_law_350 : decode cL_law 350 = .ok (.ireturn, 1) := by decide +kernel
theorem dL_law_351 : decode cL_law 351 = .ok (.aload_n 1, 1) := by decide +kernel
theorem dL_law_352 : decode cL_law 352 = .ok (.aload_n 0, 1) := by decide +kernel
theorem dL_law_353 : decode cL_law 353 = .ok (.iload_n 3, 1) := by decide +kernel
theorem dL_law_354 : decode cL_law 354 = .ok (.iconst 1, 1) := by decide +kernel
theorem dL_law_355 : decode cL_law 355 = .ok (.iadd, 1) := by decide +kernel
theorem dL_law_356 : decode cL_law 356 = .ok (.iaload, 1) := by decide +kernel
theorem dL_law_357 : decode cL_law 357 = .ok (.invokevirtual 52, 3) := by decide +kernel
theorem dL_law_360 : decode cL_law 360 = .ok (.aload_n 2, 1) := by decide +kernel
theorem dL_law_361 : decode cL_law 361 = .ok (.aload_n 0, 1) := by decide +kernel
theorem dL_law_362 : decode cL_law 362 = .ok (.iload_n 3, 1) := by decide +kernel
theorem dL_law_363 : decode cL_law 363 = .ok (.iconst 1, 1) := by decide +kernel
theorem dL_law_364 : decode cL_law 364 = .ok (.iadd, 1) := by decide +kernel
theorem dL_law_365 : decode cL_law 365 = .ok (.iaload, 1) := by decide +kernel
theorem dL_law_366 : decode cL_law 366 = .ok (.invokevirtual 55, 3) := by decide +kernel
theorem dL_law_369 : decode cL_law 369 = .ok (.if_icmp .eq 482, 3) := by decide +kernel
theorem dL_law_372 : decode cL_law 372 = .ok (.iconst 0, 1) := by decide +kernel
theorem dL_law_373 : decode cL_law 373 = .ok (.ireturn, 1) := by decide +kernel
theorem dL_law_374 : decode cL_law 374 = .ok (.aload_n 1, 1) := by decide +kernel
theorem dL_law_375 : decode cL_law 375 = .ok (.aload_n 0, 1) := by decide +kernel
theorem dL_law_376 : decode cL_law 376 = .ok (.iload_n 3, 1) := by decide +kernel
theorem dL_law_377 : decode cL_law 377 = .ok (.iconst 1, 1) := by decide +kernel
theorem dL_law_378 : decode cL_law 378 = .ok (.iadd, 1) := by decide +kernel
theorem dL_law_379 : decode cL_law 379 = .ok (.iaload, 1) := by decide +kernel
theorem dL_law_380 : decode cL_law 380 = .ok (.invokevirtual 56, 3) := by decide +kernel
theorem dL_law_383 : decode cL_law 383 = .ok (.aload_n 2, 1) := by decide +kernel
theorem dL_law_384 : decode cL_law 384 = .ok (.aload_n 0, 1) := by decide +kernel
theorem dL_law_385 : decode cL_law 385 = .ok (.iload_n 3, 1) := by decide +kernel
theorem dL_law_386 : decode cL_law 386 = .ok (.iconst 1, 1) := by decide +kernel
theorem dL_law_387 : decode cL_law 387 = .ok (.iadd, 1) := by decide +kernel
theorem dL_law_388 : decode cL_law 388 = .ok (.iaload, 1) := by decide +kernel
theorem dL_law_389 : decode cL_law 389 = .ok (.invokevirtual 59, 3) := by decide +kernel
theorem dL_law_392 : decode cL_law 392 = .ok (.if_icmp .eq 459, 3) := by decide +kernel
theorem dL_law_395 : decode cL_law 395 = .ok (.iconst 0, 1) := by decide +kernel
theorem dL_law_396 : decode cL_law 396 = .ok (.ireturn, 1) := by decide +kernel
theorem dL_law_397 : decode cL_law 397 = .ok (.aload_n 1, 1) := by decide +kernel
theorem dL_law_398 : decode cL_law 398 = .ok (.aload_n 0, 1) := by decide +kernel
theorem dL_law_399 : decode cL_law 399 = .ok (.iload_n 3, 1) := by decide +kernel
theorem dL_law_400 : decode cL_law 400 = .ok (.iconst 1, 1) := by decide +kernel
theorem dL_law_401 : decode cL_law 401 = .ok (.iadd, 1) := by decide +kernel
theorem dL_law_402 : decode cL_law 402 = .ok (.iaload, 1) := by decide +kernel
theorem dL_law_403 : decode cL_law 403 = .ok (.aload_n 0, 1) := by decide +kernel
theorem dL_law_404 : decode cL_law 404 = .ok (.iload_n 3, 1) := by decide +kernel
theorem dL_law_405 : decode cL_law 405 = .ok (.iconst 2, 1) := by decide +kernel
theorem dL_law_406 : decode cL_law 406 = .ok (.iadd, 1) := by decide +kernel
theorem dL_law_407 : decode cL_law 407 = .ok (.iaload, 1) := by decide +kernel
theorem dL_law_408 : decode cL_law 408 = .ok (.aload_n 0, 1) := by decide +kernel
theorem dL_law_409 : decode cL_law 409 = .ok (.iload_n 3, 1) := by decide +kernel
theorem dL_law_410 : decode cL_law 410 = .ok (.iconst 3, 1) := by decide +kernel
theorem dL_law_411 : decode cL_law 411 = .ok (.iadd, 1) := by decide +kernel
theorem dL_law_412 : decode cL_law 412 = .ok (.iaload, 1) := by decide +kernel
theorem dL_law_413 : decode cL_law 413 = .ok (.aload_n 0, 1) := by decide +kernel
theorem dL_law_414 : decode cL_law 414 = .ok (.iload_n 3, 1) := by decide +kernel
theorem dL_law_415 : decode cL_law 415 = .ok (.iconst 4, 1) := by decide +kernel
theorem dL_law_416 : decode cL_law 416 = .ok (.iadd, 1) := by decide +kernel
theorem dL_law_417 : decode cL_law 417 = .ok (.iaload, 1) := by decide +kernel
theorem dL_law_418 : decode cL_law 418 = .ok (.aload_n 0, 1) := by decide +kernel
theorem dL_law_419 : decode cL_law 419 = .ok (.iload_n 3, 1) := by decide +kernel
theorem dL_law_420 : decode cL_law 420 = .ok (.iconst 5, 1) := by decide +kernel
theorem dL_law_421 : decode cL_law 421 = .ok (.iadd, 1) := by decide +kernel
theorem dL_law_422 : decode cL_law 422 = .ok (.iaload, 1) := by decide +kernel
theorem dL_law_423 : decode cL_law 423 = .ok (.invokevirtual 60, 3) := by decide +kernel
theorem dL_law_426 : decode cL_law 426 = .ok (.aload_n 2, 1) := by decide +kernel
theorem dL_law_427 : decode cL_law 427 = .ok (.aload_n 0, 1) := by decide +kernel
theorem dL_law_428 : decode cL_law 428 = .ok (.iload_n 3, 1) := by decide +kernel
theorem dL_law_429 : decode cL_law 429 = .ok (.iconst 1, 1) := by decide +kernel
theorem dL_law_430 : decode cL_law 430 = .ok (.iadd, 1) := by decide +kernel
theorem dL_law_431 : decode cL_law 431 = .ok (.iaload, 1) := by decide +kernel
theorem dL_law_432 : decode cL_law 432 = .ok (.aload_n 0, 1) := by decide +kernel
theorem dL_law_433 : decode cL_law 433 = .ok (.iload_n 3, 1) := by decide +kernel
theorem dL_law_434 : decode cL_law 434 = .ok (.iconst 2, 1) := by decide +kernel
theorem dL_law_435 : decode cL_law 435 = .ok (.iadd, 1) := by decide +kernel
theorem dL_law_436 : decode cL_law 436 = .ok (.iaload, 1) := by decide +kernel
theorem dL_law_437 : decode cL_law 437 = .ok (.aload_n 0, 1) := by decide +kernel
theorem dL_law_438 : decode cL_law 438 = .ok (.iload_n 3, 1) := by decide +kernel
theorem dL_law_439 : decode cL_law 439 = .ok (.iconst 3, 1) := by decide +kernel
theorem dL_law_440 : decode cL_law 440 = .ok (.iadd, 1) := by decide +kernel
theorem dL_law_441 : decode cL_law 441 = .ok (.iaload, 1) := by decide +kernel
theorem dL_law_442 : decode cL_law 442 = .ok (.aload_n 0, 1) := by decide +kernel
theorem dL_law_443 : decode cL_law 443 = .ok (.iload_n 3, 1) := by decide +kernel
theorem dL_law_444 : decode cL_law 444 = .ok (.iconst 4, 1) := by decide +kernel
theorem dL_law_445 : decode cL_law 445 = .ok (.iadd, 1) := by decide +kernel
theorem dL_law_446 : decode cL_law 446 = .ok (.iaload, 1) := by decide +kernel
theorem dL_law_447 : decode cL_law 447 = .ok (.aload_n 0, 1) := by decide +kernel
theorem dL_law_448 : decode cL_law 448 = .ok (.iload_n 3, 1) := by decide +kernel
theorem dL_law_449 : decode cL_law 449 = .ok (.iconst 5, 1) := by decide +kernel
theorem dL_law_450 : decode cL_law 450 = .ok (.iadd, 1) := by decide +kernel
theorem dL_law_451 : decode cL_law 451 = .ok (.iaload, 1) := by decide +kernel
theorem dL_law_452 : decode cL_law 452 = .ok (.invokevirtual 64, 3) := by decide +kernel
theorem dL_law_455 : decode cL_law 455 = .ok (.if_icmp .eq 396, 3) := by decide +kernel
theorem dL_law_458 : decode cL_law 458 = .ok (.iconst 0, 1) := by decide +kernel
theorem dL_law_459 : decode cL_law 459 = .ok (.ireturn, 1) := by decide +kernel
theorem dL_law_460 : decode cL_law 460 = .ok (.aload_n 1, 1) := by decide +kernel
theorem dL_law_461 : decode cL_law 461 = .ok (.aload_n 0, 1) := by decide +kernel
theorem dL_law_462 : decode cL_law 462 = .ok (.iload_n 3, 1) := by decide +kernel
theorem dL_law_463 : decode cL_law 463 = .ok (.iconst 1, 1) := by decide +kernel
theorem dL_law_464 : decode cL_law 464 = .ok (.iadd, 1) := by decide +kernel
theorem dL_law_465 : decode cL_law 465 = .ok (.iaload, 1) := by decide +kernel
theorem dL_law_466 : decode cL_law 466 = .ok (.invokevirtual 65, 3) := by decide +kernel
theorem dL_law_469 : decode cL_law 469 = .ok (.aload_n 2, 1) := by decide +kernel
theorem dL_law_470 : decode cL_law 470 = .ok (.aload_n 0, 1) := by decide +kernel
theorem dL_law_471 : decode cL_law 471 = .ok (.iload_n 3, 1) := by decide +kernel
theorem dL_law_472 : decode cL_law 472 = .ok (.iconst 1, 1) := by decide +kernel
theorem dL_law_473 : decode cL_law 473 = .ok (.iadd, 1) := by decide +kernel
theorem dL_law_474 : decode cL_law 474 = .ok (.iaload, 1) := by decide +kernel
theorem dL_law_475 : decode cL_law 475 = .ok (.invokevirtual 68, 3) := by decide +kernel
theorem dL_law_478 : decode cL_law 478 = .ok (.if_icmp .eq 373, 3) := by decide +kernel
theorem dL_law_481 : decode cL_law 481 = .ok (.iconst 0, 1) := by decide +kernel
theorem dL_law_482 : decode cL_law 482 = .ok (.ireturn, 1) := by decide +kernel
theorem dL_law_483 : decode cL_law 483 = .ok (.aload_n 1, 1) := by decide +kernel
theorem dL_law_484 : decode cL_law 484 = .ok (.aload_n 0, 1) := by decide +kernel
theorem dL_law_485 : decode cL_law 485 = .ok (.iload_n 3, 1) := by decide +kernel
theorem dL_law_486 : decode cL_law 486 = .ok (.iconst 1, 1) := by decide +kernel
theorem dL_law_487 : decode cL_law 487 = .ok (.iadd, 1) := by decide +kernel
theorem dL_law_488 : decode cL_law 488 = .ok (.iaload, 1) := by decide +kernel
theorem dL_law_489 : decode cL_law 489 = .ok (.aload_n 0, 1) := by decide +kernel
theorem dL_law_490 : decode cL_law 490 = .ok (.iload_n 3, 1) := by decide +kernel
theorem dL_law_491 : decode cL_law 491 = .ok (.iconst 2, 1) := by decide +kernel
theorem dL_law_492 : decode cL_law 492 = .ok (.iadd, 1) := by decide +kernel
theorem dL_law_493 : decode cL_law 493 = .ok (.iaload, 1) := by decide +kernel
theorem dL_law_494 : decode cL_law 494 = .ok (.invokevirtual 69, 3) := by decide +kernel
theorem dL_law_497 : decode cL_law 497 = .ok (.aload_n 2, 1) := by decide +kernel
theorem dL_law_498 : decode cL_law 498 = .ok (.aload_n 0, 1) := by decide +kernel
theorem dL_law_499 : decode cL_law 499 = .ok (.iload_n 3, 1) := by decide +kernel
theorem dL_law_500 : decode cL_law 500 = .ok (.iconst 1, 1) := by decide +kernel
theorem dL_law_501 : decode cL_law 501 = .ok (.iadd, 1) := by decide +kernel
theorem dL_law_502 : decode cL_law 502 = .ok (.iaload, 1) := by decide +kernel
theorem dL_law_503 : decode cL_law 503 = .ok (.aload_n 0, 1) := by decide +kernel
theorem dL_law_504 : decode cL_law 504 = .ok (.iload_n 3, 1) := by decide +kernel
theorem dL_law_505 : decode cL_law 505 = .ok (.iconst 2, 1) := by decide +kernel
theorem dL_law_506 : decode cL_law 506 = .ok (.iadd, 1) := by decide +kernel
theorem dL_law_507 : decode cL_law 507 = .ok (.iaload, 1) := by decide +kernel
theorem dL_law_508 : decode cL_law 508 = .ok (.invokevirtual 72, 3) := by decide +kernel
theorem dL_law_511 : decode cL_law 511 = .ok (.if_icmp .eq 340, 3) := by decide +kernel
theorem dL_law_514 : decode cL_law 514 = .ok (.iconst 0, 1) := by decide +kernel
theorem dL_law_515 : decode cL_law 515 = .ok (.ireturn, 1) := by decide +kernel
theorem dL_law_516 : decode cL_law 516 = .ok (.aload_n 1, 1) := by decide +kernel
theorem dL_law_517 : decode cL_law 517 = .ok (.aload_n 0, 1) := by decide +kernel
theorem dL_law_518 : decode cL_law 518 = .ok (.iload_n 3, 1) := by decide +kernel
theorem dL_law_519 : decode cL_law 519 = .ok (.iconst 1, 1) := by decide +kernel
theorem dL_law_520 : decode cL_law 520 = .ok (.iadd, 1) := by decide +kernel
theorem dL_law_521 : decode cL_law 521 = .ok (.iaload, 1) := by decide +kernel
theorem dL_law_522 : decode cL_law 522 = .ok (.invokevirtual 73, 3) := by decide +kernel
theorem dL_law_525 : decode cL_law 525 = .ok (.aload_n 2, 1) := by decide +kernel
theorem dL_law_526 : decode cL_law 526 = .ok (.aload_n 0, 1) := by decide +kernel
theorem dL_law_527 : decode cL_law 527 = .ok (.iload_n 3, 1) := by decide +kernel
theorem dL_law_528 : decode cL_law 528 = .ok (.iconst 1, 1) := by decide +kernel
theorem dL_law_529 : decode cL_law 529 = .ok (.iadd, 1) := by decide +kernel
theorem dL_law_530 : decode cL_law 530 = .ok (.iaload, 1) := by decide +kernel
theorem dL_law_531 : decode cL_law 531 = .ok (.invokevirtual 76, 3) := by decide +kernel
theorem dL_law_534 : decode cL_law 534 = .ok (.if_icmp .eq 317, 3) := by decide +kernel
theorem dL_law_537 : decode cL_law 537 = .ok (.iconst 0, 1) := by decide +kernel
theorem dL_law_538 : decode cL_law 538 = .ok (.ireturn, 1) := by decide +kernel
theorem dL_law_539 : decode cL_law 539 = .ok (.aload_n 1, 1) := by decide +kernel
theorem dL_law_540 : decode cL_law 540 = .ok (.invokevirtual 77, 3) := by decide +kernel
theorem dL_law_543 : decode cL_law 543 = .ok (.aload_n 2, 1) := by decide +kernel
theorem dL_law_544 : decode cL_law 544 = .ok (.invokevirtual 80, 3) := by decide +kernel
theorem dL_law_547 : decode cL_law 547 = .ok (.if_icmp .eq 304, 3) := by decide +kernel
theorem dL_law_550 : decode cL_law 550 = .ok (.iconst 0, 1) := by decide +kernel
theorem dL_law_551 : decode cL_law 551 = .ok (.ireturn, 1) := by decide +kernel
theorem dL_law_552 : decode cL_law 552 = .ok (.aload_n 1, 1) := by decide +kernel
theorem dL_law_553 : decode cL_law 553 = .ok (.invokevirtual 81, 3) := by decide +kernel
theorem dL_law_556 : decode cL_law 556 = .ok (.aload_n 2, 1) := by decide +kernel
theorem dL_law_557 : decode cL_law 557 = .ok (.invokevirtual 84, 3) := by decide +kernel
theorem dL_law_560 : decode cL_law 560 = .ok (.if_icmp .eq 291, 3) := by decide +kernel
theorem dL_law_563 : decode cL_law 563 = .ok (.iconst 0, 1) := by decide +kernel
theorem dL_law_564 : decode cL_law 564 = .ok (.ireturn, 1) := by decide +kernel
theorem dL_law_565 : decode cL_law 565 = .ok (.aload_n 1, 1) := by decide +kernel
theorem dL_law_566 : decode cL_law 566 = .ok (.aload_n 0, 1) := by decide +kernel
theorem dL_law_567 : decode cL_law 567 = .ok (.iload_n 3, 1) := by decide +kernel
theorem dL_law_568 : decode cL_law 568 = .ok (.iconst 1, 1) := by decide +kernel
theorem dL_law_569 : decode cL_law 569 = .ok (.iadd, 1) := by decide +kernel
theorem dL_law_570 : decode cL_law 570 = .ok (.iaload, 1) := by decide +kernel
theorem dL_law_571 : decode cL_law 571 = .ok (.invokevirtual 85, 3) := by decide +kernel
theorem dL_law_574 : decode cL_law 574 = .ok (.aload_n 2, 1) := by decide +kernel
theorem dL_law_575 : decode cL_law 575 = .ok (.aload_n 0, 1) := by decide +kernel
theorem dL_law_576 : decode cL_law 576 = .ok (.iload_n 3, 1) := by decide +kernel
theorem dL_law_577 : decode cL_law 577 = .ok (.iconst 1, 1) := by decide +kernel
theorem dL_law_578 : decode cL_law 578 = .ok (.iadd, 1) := by decide +kernel
theorem dL_law_579 : decode cL_law 579 = .ok (.iaload, 1) := by decide +kernel
theorem dL_law_580 : decode cL_law 580 = .ok (.invokevirtual 88, 3) := by decide +kernel
theorem dL_law_583 : decode cL_law 583 = .ok (.if_icmp .eq 268, 3) := by decide +kernel
theorem dL_law_586 : decode cL_law 586 = .ok (.iconst 0, 1) := by decide +kernel
theorem dL_law_587 : decode cL_law 587 = .ok (.ireturn, 1) := by decide +kernel
theorem dL_law_588 : decode cL_law 588 = .ok (.aload_n 1, 1) := by decide +kernel
theorem dL_law_589 : decode cL_law 589 = .ok (.aload_n 0, 1) := by decide +kernel
theorem dL_law_590 : decode cL_law 590 = .ok (.iload_n 3, 1) := by decide +kernel
theorem dL_law_591 : decode cL_law 591 = .ok (.iconst 1, 1) := by decide +kernel
theorem dL_law_592 : decode cL_law 592 = .ok (.iadd, 1) := by decide +kernel
theorem dL_law_593 : decode cL_law 593 = .ok (.iaload, 1) := by decide +kernel
theorem dL_law_594 : decode cL_law 594 = .ok (.aload_n 0, 1) := by decide +kernel
theorem dL_law_595 : decode cL_law 595 = .ok (.iload_n 3, 1) := by decide +kernel
theorem dL_law_596 : decode cL_law 596 = .ok (.iconst 2, 1) := by decide +kernel
theorem dL_law_597 : decode cL_law 597 = .ok (.iadd, 1) := by decide +kernel
theorem dL_law_598 : decode cL_law 598 = .ok (.iaload, 1) := by decide +kernel
theorem dL_law_599 : decode cL_law 599 = .ok (.invokevirtual 89, 3) := by decide +kernel
theorem dL_law_602 : decode cL_law 602 = .ok (.aload_n 2, 1) := by decide +kernel
theorem dL_law_603 : decode cL_law 603 = .ok (.aload_n 0, 1) := by decide +kernel
theorem dL_law_604 : decode cL_law 604 = .ok (.iload_n 3, 1) := by decide +kernel
theorem dL_law_605 : decode cL_law 605 = .ok (.iconst 1, 1) := by decide +kernel
theorem dL_law_606 : decode cL_law 606 = .ok (.iadd, 1) := by decide +kernel
theorem dL_law_607 : decode cL_law 607 = .ok (.iaload, 1) := by decide +kernel
theorem dL_law_608 : decode cL_law 608 = .ok (.aload_n 0, 1) := by decide +kernel
theorem dL_law_609 : decode cL_law 609 = .ok (.iload_n 3, 1) := by decide +kernel
theorem dL_law_610 : decode cL_law 610 = .ok (.iconst 2, 1) := by decide +kernel
theorem dL_law_611 : decode cL_law 611 = .ok (.iadd, 1) := by decide +kernel
theorem dL_law_612 : decode cL_law 612 = .ok (.iaload, 1) := by decide +kernel
theorem dL_law_613 : decode cL_law 613 = .ok (.invokevirtual 92, 3) := by decide +kernel
theorem dL_law_616 : decode cL_law 616 = .ok (.if_icmp .eq 235, 3) := by decide +kernel
theorem dL_law_619 : decode cL_law 619 = .ok (.iconst 0, 1) := by decide +kernel
theorem dL_law_620 : decode cL_law 620 = .ok (.ireturn, 1) := by decide +kernel
theorem dL_law_621 : decode cL_law 621 = .ok (.aload_n 1, 1) := by decide +kernel
theorem dL_law_622 : decode cL_law 622 = .ok (.aload_n 0, 1) := by decide +kernel
theorem dL_law_623 : decode cL_law 623 = .ok (.iload_n 3, 1) := by decide +kernel
theorem dL_law_624 : decode cL_law 624 = .ok (.iconst 1, 1) := by decide +kernel
theorem dL_law_625 : decode cL_law 625 = .ok (.iadd, 1) := by decide +kernel
theorem dL_law_626 : decode cL_law 626 = .ok (.iaload, 1) := by decide +kernel
theorem dL_law_627 : decode cL_law 627 = .ok (.invokevirtual 93, 3) := by decide +kernel
theorem dL_law_630 : decode cL_law 630 = .ok (.aload_n 2, 1) := by decide +kernel
theorem dL_law_631 : decode cL_law 631 = .ok (.aload_n 0, 1) := by decide +kernel
theorem dL_law_632 : decode cL_law 632 = .ok (.iload_n 3, 1) := by decide +kernel
theorem dL_law_633 : decode cL_law 633 = .ok (.iconst 1, 1) := by decide +kernel
theorem dL_law_634 : decode cL_law 634 = .ok (.iadd, 1) := by decide +kernel
theorem dL_law_635 : decode cL_law 635 = .ok (.iaload, 1) := by decide +kernel
theorem dL_law_636 : decode cL_law 636 = .ok (.invokevirtual 96, 3) := by decide +kernel
theorem dL_law_639 : decode cL_law 639 = .ok (.if_icmp .eq 212, 3) := by decide +kernel
theorem dL_law_642 : decode cL_law 642 = .ok (.iconst 0, 1) := by decide +kernel
theorem dL_law_643 : decode cL_law 643 = .ok (.ireturn, 1) := by decide +kernel
theorem dL_law_644 : decode cL_law 644 = .ok (.aload_n 1, 1) := by decide +kernel
theorem dL_law_645 : decode cL_law 645 = .ok (.invokevirtual 97, 3) := by decide +kernel
theorem dL_law_648 : decode cL_law 648 = .ok (.aload_n 2, 1) := by decide +kernel
theorem dL_law_649 : decode cL_law 649 = .ok (.invokevirtual 100, 3) := by decide +kernel
theorem dL_law_652 : decode cL_law 652 = .ok (.if_icmp .eq 199, 3) := by decide +kernel
theorem dL_law_655 : decode cL_law 655 = .ok (.iconst 0, 1) := by decide +kernel
theorem dL_law_656 : decode cL_law 656 = .ok (.ireturn, 1) := by decide +kernel
theorem dL_law_657 : decode cL_law 657 = .ok (.aload_n 1, 1) := by decide +kernel
theorem dL_law_658 : decode cL_law 658 = .ok (.aload_n 0, 1) := by decide +kernel
theorem dL_law_659 : decode cL_law 659 = .ok (.iload_n 3, 1) := by decide +kernel
theorem dL_law_660 : decode cL_law 660 = .ok (.iconst 1, 1) := by decide +kernel
theorem dL_law_661 : decode cL_law 661 = .ok (.iadd, 1) := by decide +kernel
theorem dL_law_662 : decode cL_law 662 = .ok (.iaload, 1) := by decide +kernel
theorem dL_law_663 : decode cL_law 663 = .ok (.aload_n 0, 1) := by decide +kernel
theorem dL_law_664 : decode cL_law 664 = .ok (.iload_n 3, 1) := by decide +kernel
theorem dL_law_665 : decode cL_law 665 = .ok (.iconst 2, 1) := by decide +kernel
theorem dL_law_666 : decode cL_law 666 = .ok (.iadd, 1) := by decide +kernel
theorem dL_law_667 : decode cL_law 667 = .ok (.iaload, 1) := by decide +kernel
theorem dL_law_668 : decode cL_law 668 = .ok (.aload_n 0, 1) := by decide +kernel
theorem dL_law_669 : decode cL_law 669 = .ok (.iload_n 3, 1) := by decide +kernel
theorem dL_law_670 : decode cL_law 670 = .ok (.iconst 3, 1) := by decide +kernel
theorem dL_law_671 : decode cL_law 671 = .ok (.iadd, 1) := by decide +kernel
theorem dL_law_672 : decode cL_law 672 = .ok (.iaload, 1) := by decide +kernel
theorem dL_law_673 : decode cL_law 673 = .ok (.invokevirtual 101, 3) := by decide +kernel
theorem dL_law_676 : decode cL_law 676 = .ok (.aload_n 2, 1) := by decide +kernel
theorem dL_law_677 : decode cL_law 677 = .ok (.aload_n 0, 1) := by decide +kernel
theorem dL_law_678 : decode cL_law 678 = .ok (.iload_n 3, 1) := by decide +kernel
theorem dL_law_679 : decode cL_law 679 = .ok (.iconst 1, 1) := by decide +kernel
theorem dL_law_680 : decode cL_law 680 = .ok (.iadd, 1) := by decide +kernel
theorem dL_law_681 : decode cL_law 681 = .ok (.iaload, 1) := by decide +kernel
theorem dL_law_682 : decode cL_law 682 = .ok (.aload_n 0, 1) := by decide +kernel
theorem dL_law_683 : decode cL_law 683 = .ok (.iload_n 3, 1) := by decide +kernel
theorem dL_law_684 : decode cL_law 684 = .ok (.iconst 2, 1) := by decide +kernel
theorem dL_law_685 : decode cL_law 685 = .ok (.iadd, 1) := by decide +kernel
theorem dL_law_686 : decode cL_law 686 = .ok (.iaload, 1) := by decide +kernel
theorem dL_law_687 : decode cL_law 687 = .ok (.aload_n 0, 1) := by decide +kernel
theorem dL_law_688 : decode cL_law 688 = .ok (.iload_n 3, 1) := by decide +kernel
theorem dL_law_689 : decode cL_law 689 = .ok (.iconst 3, 1) := by decide +kernel
theorem dL_law_690 : decode cL_law 690 = .ok (.iadd, 1) := by decide +kernel
theorem dL_law_691 : decode cL_law 691 = .ok (.iaload, 1) := by decide +kernel
theorem dL_law_692 : decode cL_law 692 = .ok (.invokevirtual 105, 3) := by decide +kernel
theorem dL_law_695 : decode cL_law 695 = .ok (.if_icmp .eq 156, 3) := by decide +kernel
theorem dL_law_698 : decode cL_law 698 = .ok (.iconst 0, 1) := by decide +kernel
theorem dL_law_699 : decode cL_law 699 = .ok (.ireturn, 1) := by decide +kernel
theorem dL_law_700 : decode cL_law 700 = .ok (.aload_n 1, 1) := by decide +kernel
theorem dL_law_701 : decode cL_law 701 = .ok (.aload_n 0, 1) := by decide +kernel
theorem dL_law_702 : decode cL_law 702 = .ok (.iload_n 3, 1) := by decide +kernel
theorem dL_law_703 : decode cL_law 703 = .ok (.iconst 1, 1) := by decide +kernel
theorem dL_law_704 : decode cL_law 704 = .ok (.iadd, 1) := by decide +kernel
theorem dL_law_705 : decode cL_law 705 = .ok (.iaload, 1) := by decide +kernel
theorem dL_law_706 : decode cL_law 706 = .ok (.invokevirtual 106, 3) := by decide +kernel
theorem dL_law_709 : decode cL_law 709 = .ok (.aload_n 2, 1) := by decide +kernel
theorem dL_law_710 : decode cL_law 710 = .ok (.aload_n 0, 1) := by decide +kernel
theorem dL_law_711 : decode cL_law 711 = .ok (.iload_n 3, 1) := by decide +kernel
theorem dL_law_712 : decode cL_law 712 = .ok (.iconst 1, 1) := by decide +kernel
theorem dL_law_713 : decode cL_law 713 = .ok (.iadd, 1) := by decide +kernel
theorem dL_law_714 : decode cL_law 714 = .ok (.iaload, 1) := by decide +kernel
theorem dL_law_715 : decode cL_law 715 = .ok (.invokevirtual 109, 3) := by decide +kernel
theorem dL_law_718 : decode cL_law 718 = .ok (.if_icmp .eq 133, 3) := by decide +kernel
theorem dL_law_721 : decode cL_law 721 = .ok (.iconst 0, 1) := by decide +kernel
theorem dL_law_722 : decode cL_law 722 = .ok (.ireturn, 1) := by decide +kernel
theorem dL_law_723 : decode cL_law 723 = .ok (.aload_n 1, 1) := by decide +kernel
theorem dL_law_724 : decode cL_law 724 = .ok (.invokevirtual 110, 3) := by decide +kernel
theorem dL_law_727 : decode cL_law 727 = .ok (.aload_n 2, 1) := by decide +kernel
theorem dL_law_728 : decode cL_law 728 = .ok (.invokevirtual 113, 3) := by decide +kernel
theorem dL_law_731 : decode cL_law 731 = .ok (.if_icmp .eq 120, 3) := by decide +kernel
theorem dL_law_734 : decode cL_law 734 = .ok (.iconst 0, 1) := by decide +kernel
theorem dL_law_735 : decode cL_law 735 = .ok (.ireturn, 1) := by decide +kernel
theorem dL_law_736 : decode cL_law 736 = .ok (.aload_n 1, 1) := by decide +kernel
theorem dL_law_737 : decode cL_law 737 = .ok (.aload_n 0, 1) := by decide +kernel
theorem dL_law_738 : decode cL_law 738 = .ok (.iload_n 3, 1) := by decide +kernel
theorem dL_law_739 : decode cL_law 739 = .ok (.iconst 1, 1) := by decide +kernel
theorem dL_law_740 : decode cL_law 740 = .ok (.iadd, 1) := by decide +kernel
theorem dL_law_741 : decode cL_law 741 = .ok (.iaload, 1) := by decide +kernel
theorem dL_law_742 : decode cL_law 742 = .ok (.invokevirtual 114, 3) := by decide +kernel
theorem dL_law_745 : decode cL_law 745 = .ok (.aload_n 2, 1) := by decide +kernel
theorem dL_law_746 : decode cL_law 746 = .ok (.aload_n 0, 1) := by decide +kernel
theorem dL_law_747 : decode cL_law 747 = .ok (.iload_n 3, 1) := by decide +kernel
theorem dL_law_748 : decode cL_law 748 = .ok (.iconst 1, 1) := by decide +kernel
theorem dL_law_749 : decode cL_law 749 = .ok (.iadd, 1) := by decide +kernel
theorem dL_law_750 : decode cL_law 750 = .ok (.iaload, 1) := by decide +kernel
theorem dL_law_751 : decode cL_law 751 = .ok (.invokevirtual 117, 3) := by decide +kernel
theorem dL_law_754 : decode cL_law 754 = .ok (.if_icmp .eq 97, 3) := by decide +kernel
theorem dL_law_757 : decode cL_law 757 = .ok (.iconst 0, 1) := by decide +kernel
theorem dL_law_758 : decode cL_law 758 = .ok (.ireturn, 1) := by decide +kernel
theorem dL_law_759 : decode cL_law 759 = .ok (.aload_n 1, 1) := by decide +kernel
theorem dL_law_760 : decode cL_law 760 = .ok (.aload_n 0, 1) := by decide +kernel
theorem dL_law_761 : decode cL_law 761 = .ok (.iload_n 3, 1) := by decide +kernel
theorem dL_law_762 : decode cL_law 762 = .ok (.iconst 1, 1) := by decide +kernel
theorem dL_law_763 : decode cL_law 763 = .ok (.iadd, 1) := by decide +kernel
theorem dL_law_764 : decode cL_law 764 = .ok (.iaload, 1) := by decide +kernel
theorem dL_law_765 : decode cL_law 765 = .ok (.aload_n 0, 1) := by decide +kernel
theorem dL_law_766 : decode cL_law 766 = .ok (.iload_n 3, 1) := by decide +kernel
theorem dL_law_767 : decode cL_law 767 = .ok (.iconst 2, 1) := by decide +kernel
theorem dL_law_768 : decode cL_law 768 = .ok (.iadd, 1) := by decide +kernel
theorem dL_law_769 : decode cL_law 769 = .ok (.iaload, 1) := by decide +kernel
theorem dL_law_770 : decode cL_law 770 = .ok (.aload_n 0, 1) := by decide +kernel
theorem dL_law_771 : decode cL_law 771 = .ok (.iload_n 3, 1) := by decide +kernel
theorem dL_law_772 : decode cL_law 772 = .ok (.iconst 3, 1) := by decide +kernel
theorem dL_law_773 : decode cL_law 773 = .ok (.iadd, 1) := by decide +kernel
theorem dL_law_774 : decode cL_law 774 = .ok (.iaload, 1) := by decide +kernel
theorem dL_law_775 : decode cL_law 775 = .ok (.invokevirtual 118, 3) := by decide +kernel
theorem dL_law_778 : decode cL_law 778 = .ok (.aload_n 2, 1) := by decide +kernel
theorem dL_law_779 : decode cL_law 779 = .ok (.aload_n 0, 1) := by decide +kernel
theorem dL_law_780 : decode cL_law 780 = .ok (.iload_n 3, 1) := by decide +kernel
theorem dL_law_781 : decode cL_law 781 = .ok (.iconst 1, 1) := by decide +kernel
theorem dL_law_782 : decode cL_law 782 = .ok (.iadd, 1) := by decide +kernel
theorem dL_law_783 : decode cL_law 783 = .ok (.iaload, 1) := by decide +kernel
theorem dL_law_784 : decode cL_law 784 = .ok (.aload_n 0, 1) := by decide +kernel
theorem dL_law_785 : decode cL_law 785 = .ok (.iload_n 3, 1) := by decide +kernel
theorem dL_law_786 : decode cL_law 786 = .ok (.iconst 2, 1) := by decide +kernel
theorem dL_law_787 : decode cL_law 787 = .ok (.iadd, 1) := by decide +kernel
theorem dL_law_788 : decode cL_law 788 = .ok (.iaload, 1) := by decide +kernel
theorem dL_law_789 : decode cL_law 789 = .ok (.aload_n 0, 1) := by decide +kernel
theorem dL_law_790 : decode cL_law 790 = .ok (.iload_n 3, 1) := by decide +kernel
theorem dL_law_791 : decode cL_law 791 = .ok (.iconst 3, 1) := by decide +kernel
theorem dL_law_792 : decode cL_law 792 = .ok (.iadd, 1) := by decide +kernel
theorem dL_law_793 : decode cL_law 793 = .ok (.iaload, 1) := by decide +kernel
theorem dL_law_794 : decode cL_law 794 = .ok (.invokevirtual 121, 3) := by decide +kernel
theorem dL_law_797 : decode cL_law 797 = .ok (.if_icmp .eq 54, 3) := by decide +kernel
theorem dL_law_800 : decode cL_law 800 = .ok (.iconst 0, 1) := by decide +kernel
theorem dL_law_801 : decode cL_law 801 = .ok (.ireturn, 1) := by decide +kernel
theorem dL_law_802 : decode cL_law 802 = .ok (.aload_n 1, 1) := by decide +kernel
theorem dL_law_803 : decode cL_law 803 = .ok (.invokevirtual 122, 3) := by decide +kernel
theorem dL_law_806 : decode cL_law 806 = .ok (.aload_n 2, 1) := by decide +kernel
theorem dL_law_807 : decode cL_law 807 = .ok (.invokevirtual 125, 3) := by decide +kernel
theorem dL_law_810 : decode cL_law 810 = .ok (.if_icmp .eq 41, 3) := by decide +kernel
theorem dL_law_813 : decode cL_law 813 = .ok (.iconst 0, 1) := by decide +kernel
theorem dL_law_814 : decode cL_law 814 = .ok (.ireturn, 1) := by decide +kernel
theorem dL_law_815 : decode cL_law 815 = .ok (.aload_n 1, 1) := by decide +kernel
theorem dL_law_816 : decode cL_law 816 = .ok (.invokevirtual 126, 3) := by decide +kernel
theorem dL_law_819 : decode cL_law 819 = .ok (.aload_n 2, 1) := by decide +kernel
theorem dL_law_820 : decode cL_law 820 = .ok (.invokevirtual 129, 3) := by decide +kernel
theorem dL_law_823 : decode cL_law 823 = .ok (.if_icmp .eq 28, 3) := by decide +kernel
theorem dL_law_826 : decode cL_law 826 = .ok (.iconst 0, 1) := by decide +kernel
theorem dL_law_827 : decode cL_law 827 = .ok (.ireturn, 1) := by decide +kernel
theorem dL_law_828 : decode cL_law 828 = .ok (.aload_n 1, 1) := by decide +kernel
theorem dL_law_829 : decode cL_law 829 = .ok (.aload_n 0, 1) := by decide +kernel
theorem dL_law_830 : decode cL_law 830 = .ok (.iload_n 3, 1) := by decide +kernel
theorem dL_law_831 : decode cL_law 831 = .ok (.iconst 1, 1) := by decide +kernel
theorem dL_law_832 : decode cL_law 832 = .ok (.iadd, 1) := by decide +kernel
theorem dL_law_833 : decode cL_law 833 = .ok (.iaload, 1) := by decide +kernel
theorem dL_law_834 : decode cL_law 834 = .ok (.invokevirtual 130, 3) := by decide +kernel
theorem dL_law_837 : decode cL_law 837 = .ok (.aload_n 2, 1) := by decide +kernel
theorem dL_law_838 : decode cL_law 838 = .ok (.aload_n 0, 1) := by decide +kernel
theorem dL_law_839 : decode cL_law 839 = .ok (.iload_n 3, 1) := by decide +kernel
theorem dL_law_840 : decode cL_law 840 = .ok (.iconst 1, 1) := by decide +kernel
theorem dL_law_841 : decode cL_law 841 = .ok (.iadd, 1) := by decide +kernel
theorem dL_law_842 : decode cL_law 842 = .ok (.iaload, 1) := by decide +kernel
theorem dL_law_843 : decode cL_law 843 = .ok (.invokevirtual 133, 3) := by decide +kernel
theorem dL_law_846 : decode cL_law 846 = .ok (.if_icmp .eq 5, 3) := by decide +kernel
theorem dL_law_849 : decode cL_law 849 = .ok (.iconst 0, 1) := by decide +kernel
theorem dL_law_850 : decode cL_law 850 = .ok (.ireturn, 1) := by decide +kernel
theorem dL_law_851 : decode cL_law 851 = .ok (.iinc 3 6, 3) := by decide +kernel
theorem dL_law_854 : decode cL_law 854 = .ok (.goto (-836), 3) := by decide +kernel
theorem dL_law_857 : decode cL_law 857 = .ok (.iconst 1, 1) := by decide +kernel
theorem dL_law_858 : decode cL_law 858 = .ok (.ireturn, 1) := by decide +kernel
end
section
/-! My own layer: records of an object's ints and rows, worlds as lists of objects, one contract shape, one row a kind of instruction. -/
def TBL : List Cond := lw_tbl.filter goodWord
theorem tbl_in {w : Cond} (h : w ∈ lw_tbl) (hg : goodWord w = true) : w ∈ TBL := List.mem_filter.mpr ⟨h, hg⟩
theorem tbl_lw {w : Cond} (h : w ∈ TBL) : w ∈ lw_tbl := (List.mem_filter.mp h).1
theorem tbl_good : GoodIn TBL TBL := fun _ h => ⟨h, good_of_word (List.mem_filter.mp h).2⟩
theorem tab_in {w : Cond} (h : w ∈ tables_1) : w ∈ lw_tbl := List.mem_append_right _ h
theorem tk_0 {w : Cond} (i : Nat) (h : (k2_sels lw_privs)[i]? = some w) (hg : goodWord w = true) : w ∈ TBL := tbl_in (List.mem_append_left _ (List.mem_of_getElem? h)) hg
theorem tk_1 {w : Cond} (i : Nat) (h : tables_1_1[i]? = some w) (hg : goodWord w = true) : w ∈ TBL := tbl_in (tab_in (List.mem_append_left _ (List.mem_of_getElem? h))) hg
theorem tk_2 {w : Cond} (i : Nat) (h : tables_1_2[i]? = some w) (hg : goodWord w = true) : w ∈ TBL := tbl_in (tab_in (List.mem_append_right _ (List.mem_append_left _ (List.mem_of_getElem? h)))) hg
theorem tk_3 {w : Cond} (i : Nat) (h : tables_1_3[i]? = some w) (hg : goodWord w = true) : w ∈ TBL := tbl_in (tab_in (List.mem_append_right _ (List.mem_append_right _ (List.mem_append_left _ (List.mem_of_getElem? h))))) hg
theorem tk_4 {w : Cond} (i : Nat) (h : tables_1_4[i]? = some w) (hg : goodWord w = true) : w ∈ TBL := tbl_in (tab_in (List.mem_append_right _ (List.mem_append_right _ (List.mem_append_right _ (List.mem_append_left _ (List.mem_of_getElem? h)))))) hg
theorem tk_5 {w : Cond} (i : Nat) (h : tables_1_5[i]? = some w) (hg : goodWord w = true) : w ∈ TBL := tbl_in (tab_in (List.mem_append_right _ (List.mem_append_right _ (List.mem_append_right _ (List.mem_append_right _ (List.mem_append_left _ (List.mem_of_getElem? h))))))) hg
theorem tk_6 {w : Cond} (i : Nat) (h : tables_1_6[i]? = some w) (hg : goodWord w = true) : w ∈ TBL := tbl_in (tab_in (List.mem_append_right _ (List.mem_append_right _ (List.mem_append_right _ (List.mem_append_right _ (List.mem_append_right _ (List.mem_of_getElem? h))))))) hg
/-- an object: its ints by slot, its rows by slot -/
abbrev ob : Type := (Nat → Int32) × (Nat → Nat → Int32)
def sI (o : ob) (k : Nat) (v : Int32) : ob := (va_up o.1 k v, o.2)
def sA (o : ob) (k i : Nat) (v : Int32) : ob := (o.1, va_up o.2 k (upd (o.2 k) i v))
def sR (o : ob) (k : Nat) (r : Nat → Int32) : ob := (o.1, va_up o.2 k r)
def lt {α β : Type} (x : α) (f : α → β) : β := f x
def gd {α : Type} (b : Bool) (x : Option α) : Option α := if b = true then x else none
def vin (i : Int32) (n : Nat) : Bool := !(decide (i < 0) || decide (n ≤ i.toNatClampNeg))
def bz (x : Int32) : Bool := x == 0 || x == 1
theorem vin_ok {i : Int32} {n : Nat} (h : vin i n = true) : vp_in i n := by
  intro q
  simp only [vin, Bool.not_eq_true', Bool.or_eq_false_iff, decide_eq_false_iff_not] at h
  rcases q with q | q
  · exact h.1 q
  · exact h.2 q
theorem bz_or {x : Int32} (h : bz x = true) : x = 0 ∨ x = 1 := by simpa [bz] using h
theorem bz_n {x : Int32} (h : bz x = true) : narrow .boolean (.int x) = .int x := by
  rcases bz_or h with rfl | rfl <;> rfl
theorem bz_f {x : Int32} (h : bz x = true) : fits .boolean (.int x) = true := by
  rcases bz_or h with rfl | rfl <;> rfl
theorem bz_v {x : Int32} (h : bz x = true) : vp_nar .boolean x = x := by
  rcases bz_or h with rfl | rfl <;> rfl
section PURE
variable {α β γ : Type}
theorem tob {x : Option α} {r : α} (h : x = some r) : x.bind some = some r := by rw [h]; rfl
theorem ltb {x y : β} {f : β → Option α} {F : α → Option γ} {r : γ} (h : (lt x f).bind F = some r) (e : y = x) : (f y).bind F = some r := by subst e; exact h
theorem gdb {b : Bool} {x : Option α} {F : α → Option γ} {r : γ} (h : (gd b x).bind F = some r) : b = true ∧ x.bind F = some r := by
  cases b with
  | true => exact ⟨rfl, h⟩
  | false => cases h
theorem ifp {c : Prop} [Decidable c] {x y : Option α} {F : α → Option γ} {r : γ} (h : (if c then x else y).bind F = some r) (hc : c) : x.bind F = some r := by rw [if_pos hc] at h; exact h
theorem ifn {c : Prop} [Decidable c] {x y : Option α} {F : α → Option γ} {r : γ} (h : (if c then x else y).bind F = some r) (hc : ¬ c) : y.bind F = some r := by rw [if_neg hc] at h; exact h
theorem asb {x : Option β} {f : β → Option α} {F : α → Option γ} {r : γ} (h : (x.bind f).bind F = some r) : ∃ q, x = some q ∧ (f q).bind F = some r := by
  cases x with
  | none => cases h
  | some q => exact ⟨q, rfl, h⟩
theorem rgn {x : Option β} {f : β → Option α} {F : α → Option γ} {r : γ} (h : (x.bind f).bind F = some r) : ∃ J : β → Option γ, (J = fun q => (f q).bind F) ∧ x.bind J = some r := by
  refine ⟨_, rfl, ?_⟩
  cases x with
  | none => cases h
  | some q => exact h
theorem jof {J K : β → Option γ} {q : β} {r : γ} (e : J = K) (h : J q = some r) : K q = some r := by rw [← e]; exact h
theorem sob {x : α} {F : α → Option γ} {r : γ} (h : (some x).bind F = some r) : F x = some r := h
theorem sor {x r : α} (h : (some x).bind some = some r) : r = x := (Option.some.inj h).symm
/-- a loop: from state to state by steps; 0 goes on, another number is a way out -/
def iter (step : α → Option (Nat × α)) : Nat → α → Option (Nat × α)
  | 0, _ => none
  | n + 1, s => match step s with
    | none => none
    | some (0, t) => iter step n t
    | some (k + 1, t) => some (k + 1, t)
noncomputable def wh (step : α → Option (Nat × α)) (s : α) : Option (Nat × α) :=
  @dite (Option (Nat × α)) (∃ q, ∃ n, iter step n s = some q) (Classical.propDecidable _) (fun h => some (Classical.choose h)) (fun _ => none)
theorem iter_det {step : α → Option (Nat × α)} : ∀ {n m : Nat} {s : α} {q r : Nat × α}, iter step n s = some q → iter step m s = some r → q = r
  | 0, _, _, _, _, h, _ => by simp [iter] at h
  | n + 1, 0, _, _, _, _, h => by simp [iter] at h
  | n + 1, m + 1, s, q, r, h1, h2 => by
    simp only [iter] at h1 h2
    cases hs : step s with
    | none => rw [hs] at h1; cases h1
    | some u =>
      rw [hs] at h1 h2
      obtain ⟨k, t⟩ := u
      cases k with
      | zero => exact iter_det h1 h2
      | succ k => simp only [Option.some.injEq] at h1 h2; rw [← h1, ← h2]
theorem wh_out {step : α → Option (Nat × α)} {s : α} {q : Nat × α} (h : wh step s = some q) : ∃ n, iter step n s = some q := by
  unfold wh at h
  by_cases hx : ∃ q, ∃ n, iter step n s = some q
  · rw [dif_pos hx] at h
    have e := Option.some.inj h
    obtain ⟨n, hn⟩ := Classical.choose_spec hx
    exact ⟨n, by rw [← e]; exact hn⟩
  · rw [dif_neg hx] at h; cases h
theorem wh_in {step : α → Option (Nat × α)} {s : α} {q : Nat × α} {n : Nat} (h : iter step n s = some q) : wh step s = some q := by
  unfold wh
  have hx : ∃ q, ∃ n, iter step n s = some q := ⟨q, n, h⟩
  rw [dif_pos hx]
  obtain ⟨m, hm⟩ := Classical.choose_spec hx
  rw [iter_det hm h]
/-- what one step gives: on, or out -/
def itr (step : α → Option (Nat × α)) (n : Nat) (u q : Nat × α) : Prop := (u.1 = 0 → iter step n u.2 = some q) ∧ (u.1 ≠ 0 → q = u)
theorem iter_0 {step : α → Option (Nat × α)} {s : α} {q : Nat × α} (h : iter step 0 s = some q) : False := by simp [iter] at h
theorem iter_s {step : α → Option (Nat × α)} {n : Nat} {s : α} {q : Nat × α} (h : iter step (n + 1) s = some q) : ∃ u, step s = some u ∧ itr step n u q := by
  simp only [iter] at h
  cases hs : step s with
  | none => rw [hs] at h; cases h
  | some u =>
    rw [hs] at h
    refine ⟨u, rfl, ?_⟩
    obtain ⟨k, t⟩ := u
    cases k with
    | zero => exact ⟨fun _ => h, fun h2 => absurd rfl h2⟩
    | succ k => exact ⟨fun h2 => (Nat.succ_ne_zero k h2).elim, fun _ => (Option.some.inj h).symm⟩
theorem itr_c {step : α → Option (Nat × α)} {n : Nat} {t : α} {u q : Nat × α} (h : itr step n u q) (e : u = (0, t)) : iter step n t = some q := by subst e; exact h.1 rfl
theorem itr_x {step : α → Option (Nat × α)} {n k : Nat} {t : α} {u q : Nat × α} (h : itr step n u q) (e : u = (k + 1, t)) : q = (k + 1, t) := by subst e; exact h.2 (Nat.succ_ne_zero k)
theorem iter_on {step : α → Option (Nat × α)} {n : Nat} {s t : α} {q : Nat × α} (hs : step s = some (0, t)) (h : iter step n t = some q) : iter step (n + 1) s = some q := by simp only [iter, hs]; exact h
theorem iter_off {step : α → Option (Nat × α)} {n k : Nat} {s t : α} (hs : step s = some (k + 1, t)) : iter step (n + 1) s = some (k + 1, t) := by simp only [iter, hs]
theorem wh_on {step : α → Option (Nat × α)} {s t : α} (hs : step s = some (0, t)) : wh step s = wh step t := by
  cases ht : wh step t with
  | some q => obtain ⟨n, hn⟩ := wh_out ht; exact wh_in (iter_on hs hn)
  | none =>
    cases hq : wh step s with
    | none => rfl
    | some q =>
      obtain ⟨n, hn⟩ := wh_out hq
      cases n with
      | zero => exact (iter_0 hn).elim
      | succ n =>
        obtain ⟨u, hu, hi⟩ := iter_s hn
        rw [hs] at hu
        have := wh_in (itr_c hi (Option.some.inj hu).symm)
        rw [ht] at this; cases this
theorem wh_off {step : α → Option (Nat × α)} {k : Nat} {s t : α} (hs : step s = some (k + 1, t)) : wh step s = some (k + 1, t) := wh_in (n := 1) (iter_off hs)
end PURE
/-! worlds: a list of objects, each a list of cells -/
def WL (S : List va_W) : va_W := S.flatten
def pick (S : List va_W) (is : List Nat) : List va_W := is.map (fun i => S.getD i [])
theorem pick_range (S : List va_W) : pick S (List.range S.length) = S := by
  unfold pick
  apply List.ext_getElem
  · simp
  · intro i h1 h2
    simp [List.getD_eq_getElem?_getD, h2]
theorem pick_perm {S : List va_W} {is : List Nat} (h : is.isPerm (List.range S.length) = true) : (WL (pick S is)).Perm (WL S) := by
  have h1 : is.Perm (List.range S.length) := List.isPerm_iff.mp h
  have h2 : (pick S is).Perm (pick S (List.range S.length)) := h1.map _
  rw [pick_range] at h2
  exact h2.flatten
theorem P_of_mem {D : va_G} {cl : List vw_C} {w1 w2 : va_W} {H : Heap} (h : ∀ q ∈ w2, q ∈ w1) (hP : va_P D cl w1 H) : va_P D cl w2 H := by
  intro k q hk
  obtain ⟨i, hi⟩ := List.getElem?_of_mem (h q (List.mem_of_getElem? hk))
  exact hP i q hi
theorem P_perm {D : va_G} {cl : List vw_C} {w1 w2 : va_W} {H : Heap} (h : w1.Perm w2) (hP : va_P D cl w1 H) : va_P D cl w2 H := P_of_mem (fun _ hq => h.mem_iff.mpr hq) hP
theorem D_iff {A : Nat → Prop} {w : va_W} : va_D A w ↔ (w.map Prod.fst).Nodup ∧ ∀ q ∈ w, A q.1 := by
  constructor
  · intro h
    refine ⟨?_, fun q hq => ?_⟩
    · rw [List.nodup_iff_pairwise_ne, List.pairwise_iff_getElem]
      intro i j hi hj hij he
      have hi' : i < w.length := by simpa using hi
      have hj' : j < w.length := by simpa using hj
      have := h.1 i j w[i] w[j] (List.getElem?_eq_getElem hi') (List.getElem?_eq_getElem hj') (by simpa using he)
      omega
    · obtain ⟨k, hk⟩ := List.getElem?_of_mem hq
      exact h.2 k q hk
  · intro h
    refine ⟨fun i j p q hi hj hpq => ?_, fun k q hk => h.2 q (List.mem_of_getElem? hk)⟩
    obtain ⟨hi', ei⟩ := List.getElem?_eq_some_iff.mp hi
    obtain ⟨hj', ej⟩ := List.getElem?_eq_some_iff.mp hj
    have hn := h.1
    rw [List.nodup_iff_pairwise_ne, List.pairwise_iff_getElem] at hn
    rcases Nat.lt_trichotomy i j with h1 | h1 | h1
    · exact absurd (by rw [List.getElem_map, List.getElem_map, ei, ej]; exact hpq) (hn i j (by simpa using hi') (by simpa using hj') h1)
    · exact h1
    · exact absurd (by rw [List.getElem_map, List.getElem_map, ei, ej]; exact hpq.symm) (hn j i (by simpa using hj') (by simpa using hi') h1)
theorem D_perm {A : Nat → Prop} {w1 w2 : va_W} (h : w1.Perm w2) (hD : va_D A w1) : va_D A w2 := by
  rw [D_iff] at hD ⊢
  exact ⟨(h.map _).nodup_iff.mp hD.1, fun q hq => hD.2 q (h.mem_iff.mpr hq)⟩
theorem join2 {A0 : Nat → Prop} {D : va_G} {cl : List vw_C} {wc wr w1 : va_W} {H H1 : Heap} (hP : va_P D cl (wc ++ wr) H) (hD : va_D A0 (wc ++ wr))
    (hk : ∀ q : Nat, q < H.size → ¬ va_A wc H.size q → H1[q]? = H[q]?) (hF : ∀ q, va_A wc H.size q → A0 q) (hP1 : va_P D cl w1 H1) (hD1 : va_D (va_A wc H.size) w1) : va_P D cl (w1 ++ wr) H1 ∧ va_D A0 (w1 ++ wr) := by
  have hC : (List.range wc.length).map (fun i => (wc ++ wr)[i]?) = wc.map some := by
    apply List.ext_getElem
    · simp
    · intro i h1 h2
      have : i < wc.length := by simpa using h2
      simp [List.getElem?_append_left this, this]
  have hR : (List.range' wc.length wr.length).map (fun i => (wc ++ wr)[i]?) = wr.map some := by
    apply List.ext_getElem
    · simp
    · intro i h1 h2
      have : i < wr.length := by simpa using h2
      simp [List.getElem?_append_right, this]
  have hn : va_nd (List.range' wc.length wr.length) = true := by
    have key : ∀ (n k : Nat), va_nd (List.range' k n) = true := by
      intro n
      induction n with
      | zero => intro k; rfl
      | succ n ih =>
        intro k
        rw [List.range'_succ]
        simp only [va_nd, ih, Bool.and_true, decide_eq_true_eq]
        intro h
        have := List.mem_range'_1.mp h
        omega
    exact key _ _
  have hdis : ∀ i ∈ List.range' wc.length wr.length, i ∉ List.range wc.length := by
    intro i hi hi2
    have h1 := List.mem_range'_1.mp hi
    have h2 := List.mem_range.mp hi2
    omega
  obtain ⟨g1, g2⟩ := va_join (wr := wr) (w1 := w1) hP hD _ _ hC hR hn hdis hk hF hP1 hD1
  have hp : (wr ++ w1).Perm (w1 ++ wr) := List.perm_append_comm
  exact ⟨P_perm hp g1, D_perm hp g2⟩
/-! what a method's body stands on -/
abbrev tys (K : Nat → ClassId) : List (ClassId × FieldType) := [(K 0, .int), (K 1, .boolean), (K 2, .char), (K 3, .object RX4)]
def nests : List (String × Nat × MethodName) := [(RX5, 11, yX3_init), (RX5, 18, yX4_init), (RX5, 35, yX0_init), (RX5, 48, yX2_init), (RX5, 55, yX1_init), (RX0, 111, yX5_lettersIn), (RX0, 115, yX5_firstLetter), (RX0, 121, yX5_secondLetter), (RX0, 97, yX5_edgeAt), (RX1, 51, yX5_lettersIn), (RX1, 55, yX5_firstLetter), (RX1, 61, yX5_secondLetter), (RX2, 85, yX5_lettersIn), (RX2, 89, yX5_firstLetter), (RX2, 92, yX5_secondLetter), (RX3, 93, yX5_wordOf), (RX4, 68, yX5_lettersIn), (RX4, 76, yX5_secondLetter), (RX4, 83, yX5_firstLetter)]
def NW (U : State) : Prop := ∀ q ∈ nests, va_Nw (.methodLinkNest q.1 q.2.1 q.2.2 RX5) U
theorem NW.warm {s U : State} (hW : s.WarmedH U.vm) (h : NW s) : NW U := fun q hq => va_Nw.warmM hW (h q hq)
theorem NW.same {s U : State} (hW : s.vm = U.vm) (h : NW s) : NW U := fun q hq => va_Nw.same rfl hW (h q hq)
def FX (p : Program) (s : State) (m : MethodId) (args : Array Value) (meth : Method) (c : Code) (cc : ByteArray) (own : String) (nL : Nat) (ret : Option FieldType) (D : va_G) (K : Nat → ClassId) : Prop :=
  p.tables.exec = Jvm.exec ∧ c.code = cc ∧ c.maxLocals = nL ∧ s.vm.findClass own = some m.cls ∧ (∀ w ∈ TBL, w.before args s = true) ∧ va_K D vwCl (tys K) s ∧ NW s ∧ meth.sig.returnType = ret ∧ meth.locks = false
def WD (D : va_G) (A : Nat → Prop) (H0 H : Heap) (locs : List Loc) (S : List va_W) : Prop := va_P D vwCl (WL S) H ∧ va_D A (WL S) ∧ va_S A H0 H locs ∧ ∀ q, H0.size ≤ q → A q
/-- contracts: from the objects S0 to the objects S1 -/
def PcS (D : va_G) (K : Nat → ClassId) (av : List Value) (S0 : List va_W) (sz : Nat) : Array Value → State → Prop := va_Pc av (fun U => U.heap.size = sz ∧ va_P D vwCl (WL S0) U.heap ∧ va_K D vwCl (tys K) U ∧ va_D (fun _ => True) (WL S0) ∧ NW U)
def QiS (D : va_G) (A : Nat → Prop) (S1 : List va_W) (r : Int32) : Array Value → State → Outcome → State → Prop := va_Qi (fun (r' : Int32) (_ : Unit) => r' = r) (fun _ t => va_P D vwCl (WL S1) t.heap ∧ va_D A (WL S1)) A
def QvS (D : va_G) (A : Nat → Prop) (S1 : List va_W) : Array Value → State → Outcome → State → Prop := va_Qv (fun (_ : Unit) => True) (fun _ t => va_P D vwCl (WL S1) t.heap ∧ va_D A (WL S1)) A
abbrev rmS (fr lo : Nat) : Room := { frames := fr, cells := 0, slots := 0, locals := lo }
def CTi (l : Launch) (y : MethodName) (b : ByteArray) (nL : Nat) (ret : Option FieldType) (fr lo : Nat) (D : va_G) (K : Nat → ClassId) (av : List Value) (S0 S1 : List va_W) (r : Int32) : Prop :=
  ∀ sz, Met l y (.code y b nL ret :: TBL) (rmS fr lo) (PcS D K av S0 sz) (QiS D (va_A (WL S0) sz) S1 r) 0 0 (va_A (WL S0) sz)
def CTv (l : Launch) (y : MethodName) (b : ByteArray) (nL : Nat) (fr lo : Nat) (D : va_G) (K : Nat → ClassId) (av : List Value) (S0 S1 : List va_W) : Prop :=
  ∀ sz, Met l y (.code y b nL none :: TBL) (rmS fr lo) (PcS D K av S0 sz) (QvS D (va_A (WL S0) sz) S1) 0 0 (va_A (WL S0) sz)
theorem ent0 {l : Launch} {y : MethodName} {b : ByteArray} {nL : Nat} {ret : Option FieldType} {fr lo : Nat} {D : va_G} {K : Nat → ClassId} {av : List Value} {S0 : List va_W} {sz : Nat} {Q : (Nat → Prop) → Array Value → State → Outcome → State → Prop} (hy : plainName y.cls = true) (hn : (lg_sl av).length ≤ nL)
    (body : ∀ (p : Program) (e : Env) (s : State) (m : MethodId) (args : Array Value) (below : List Frame) (meth : Method) (c : Code) (A : Nat → Prop) (ls : Array Slot), FX p s m args meth c b y.cls nL ret D K → WD D A s.heap s.heap [] S0 → lv_has ls nL (lv_args 0 av) → (y.name = "<init>" → meth.name = "<init>") →
      W p l e (rmS fr lo) s m args below meth c s.heap [] 0 0 (MQ below (Q A) args s 0 0 A) (F0 m 0 ls [])) : Met l y (.code y b nL ret :: TBL) (rmS fr lo) (PcS D K av S0 sz) (Q (va_A (WL S0) sz)) 0 0 (va_A (WL S0) sz) := by
  refine Met.ofW (cc := b) (maxL := nL) (ret := ret) hy rfl ?_
  intro p e s m args below meth c s₁ B hml hv
  obtain ⟨rfl, hsz, hP, hK, hD0, hN⟩ := hv
  have hts := atoms_spec (ws := .code y b nL ret :: TBL) B.pre
  have hown : s.vm.findClass y.cls = some m.cls := findClass_of_methodNamed B.named
  have hlocks := B.notSynchronized
  subst hsz
  have hD := hD0.self (sz := s.heap.size)
  have hA : ∀ q : Nat, s.heap.size ≤ q → va_A (WL S0) s.heap.size q := fun q h => Or.inr h
  have hl := lv_entry av hn
  have F : FX p s m av.toArray meth c b y.cls nL ret D K := ⟨B.exec, B.bytes, hml, hown, fun w hw => hts w (List.mem_cons_of_mem _ hw), hK, hN, B.returns, hlocks⟩
  rw [lg_entry_eq]
  exact body p e s m av.toArray below meth c _ _ F ⟨hP, hD, va_S.rf, hA⟩ hl (fun hn => by rw [← hn]; exact (name_of_methodNamed B.named B.method).1)
theorem entI {l : Launch} {y : MethodName} {b : ByteArray} {nL : Nat} {ret : Option FieldType} {fr lo : Nat} {D : va_G} {K : Nat → ClassId} {av : List Value} {S0 S1 : List va_W} {r : Int32} (hy : plainName y.cls = true) (hn : (lg_sl av).length ≤ nL)
    (body : ∀ (p : Program) (e : Env) (s : State) (m : MethodId) (args : Array Value) (below : List Frame) (meth : Method) (c : Code) (A : Nat → Prop) (ls : Array Slot), FX p s m args meth c b y.cls nL ret D K → WD D A s.heap s.heap [] S0 → lv_has ls nL (lv_args 0 av) → (y.name = "<init>" → meth.name = "<init>") →
      W p l e (rmS fr lo) s m args below meth c s.heap [] 0 0 (MQ below (QiS D A S1 r) args s 0 0 A) (F0 m 0 ls [])) : CTi l y b nL ret fr lo D K av S0 S1 r := fun _ => ent0 (Q := fun A => QiS D A S1 r) hy hn body
theorem entV {l : Launch} {y : MethodName} {b : ByteArray} {nL : Nat} {fr lo : Nat} {D : va_G} {K : Nat → ClassId} {av : List Value} {S0 S1 : List va_W} (hy : plainName y.cls = true) (hn : (lg_sl av).length ≤ nL)
    (body : ∀ (p : Program) (e : Env) (s : State) (m : MethodId) (args : Array Value) (below : List Frame) (meth : Method) (c : Code) (A : Nat → Prop) (ls : Array Slot), FX p s m args meth c b y.cls nL none D K → WD D A s.heap s.heap [] S0 → lv_has ls nL (lv_args 0 av) → (y.name = "<init>" → meth.name = "<init>") →
      W p l e (rmS fr lo) s m args below meth c s.heap [] 0 0 (MQ below (QvS D A S1) args s 0 0 A) (F0 m 0 ls [])) : CTv l y b nL fr lo D K av S0 S1 := fun _ => ent0 (Q := fun A => QvS D A S1) hy hn body
theorem WD.perm {D : va_G} {A : Nat → Prop} {H0 H : Heap} {locs : List Loc} {S S2 : List va_W} (h : WD D A H0 H locs S) (hp : (WL S).Perm (WL S2)) : WD D A H0 H locs S2 := ⟨P_perm hp h.1, D_perm hp h.2.1, h.2.2⟩
section ROWS
variable {p : Program} {l : Launch} {e : Env} {R : Room} {s : State} {m : MethodId} {args : Array Value} {below : List Frame} {meth : Method} {c : Code} {H : Heap} {locs : List Loc} {cells slots : Nat} {Q : State → Prop}
variable {pc : Nat} {ls : Array Slot} {rest : List Value} {cc : ByteArray} {own : String} {nL : Nat} {ret : Option FieldType} {D : va_G} {K : Nat → ClassId} {A : Nat → Prop} {H0 : Heap} {S : List va_W}
theorem seg_at {S : List va_W} {seg : va_W} {i j : Nat} {x : Nat × va_E} (hs : S[i]? = some seg) (hj : seg[j]? = some x) : ∃ q0, (WL S)[q0]? = some x ∧ ∀ y, (WL S).set q0 y = WL (S.set i (seg.set j y)) := by
  induction S generalizing i with
  | nil => simp at hs
  | cons w S ih =>
    cases i with
    | zero =>
      simp only [List.getElem?_cons_zero, Option.some.injEq] at hs
      subst hs
      have hl := (List.getElem?_eq_some_iff.mp hj).1
      refine ⟨j, ?_, fun y => ?_⟩
      · show (w ++ S.flatten)[j]? = _
        rw [List.getElem?_append_left hl]; exact hj
      · show (w ++ S.flatten).set j y = (w.set j y) ++ S.flatten
        rw [List.set_append_left _ _ hl]
    | succ i =>
      rw [List.getElem?_cons_succ] at hs
      obtain ⟨q0, h1, h2⟩ := ih hs
      refine ⟨w.length + q0, ?_, fun y => ?_⟩
      · show (w ++ WL S)[_]? = _
        rw [List.getElem?_append_right (by omega), Nat.add_sub_cancel_left]; exact h1
      · show (w ++ WL S).set _ y = w ++ WL (S.set i (seg.set j y))
        rw [List.set_append_right _ _ (by omega), Nat.add_sub_cancel_left, h2]
theorem r_iald (F : FX p s m args meth c cc own nL ret D K) (h : WD D A H0 H locs S) {i j n a : Nat} {seg : va_W} {f : Nat → Int32} {ix : Int32} (hs : S[i]? = some seg) (hj : seg[j]? = some (a, .inl (K 0, n, .inl f))) (hin : vp_in ix n) (hdg : decode cc pc = .ok (.iaload, 1))
    (kk : W p l e R s m args below meth c H locs cells slots Q (F0 m (pc + 1) ls (.int (f ix.toNatClampNeg) :: rest))) : W p l e R s m args below meth c H locs cells slots Q (F0 m pc ls (.int ix :: .ref a :: rest)) := by
  obtain ⟨q0, h1, -⟩ := seg_at hs hj
  exact va_iald F.1 F.2.1 F.2.2.2.2.2.1 h.1 q0 0 h1 rfl hin hdg kk
theorem r_zald (F : FX p s m args meth c cc own nL ret D K) (h : WD D A H0 H locs S) {i j n a : Nat} {seg : va_W} {f : Nat → Int32} {ix : Int32} (hs : S[i]? = some seg) (hj : seg[j]? = some (a, .inl (K 1, n, .inl f))) (hin : vp_in ix n) (hdg : decode cc pc = .ok (.baload, 1))
    (kk : W p l e R s m args below meth c H locs cells slots Q (F0 m (pc + 1) ls (.int (f ix.toNatClampNeg) :: rest))) : W p l e R s m args below meth c H locs cells slots Q (F0 m pc ls (.int ix :: .ref a :: rest)) := by
  obtain ⟨q0, h1, -⟩ := seg_at hs hj
  exact va_zald F.1 F.2.1 F.2.2.2.2.2.1 h.1 q0 1 h1 rfl hin hdg kk
theorem r_cald (F : FX p s m args meth c cc own nL ret D K) (h : WD D A H0 H locs S) {i j n a : Nat} {seg : va_W} {f : Nat → Int32} {ix : Int32} (hs : S[i]? = some seg) (hj : seg[j]? = some (a, .inl (K 2, n, .inl f))) (hin : vp_in ix n) (hdg : decode cc pc = .ok (.caload, 1))
    (kk : W p l e R s m args below meth c H locs cells slots Q (F0 m (pc + 1) ls (.int (f ix.toNatClampNeg) :: rest))) : W p l e R s m args below meth c H locs cells slots Q (F0 m pc ls (.int ix :: .ref a :: rest)) := by
  obtain ⟨q0, h1, -⟩ := seg_at hs hj
  exact va_cald F.1 F.2.1 F.2.2.2.2.2.1 h.1 q0 2 h1 rfl hin hdg kk
theorem r_alen (F : FX p s m args meth c cc own nL ret D K) (h : WD D A H0 H locs S) {i j t0 a : Nat} {seg : va_W} {cA : ClassId} {x : vp_A} {ty : FieldType} {v : Int32} (hs : S[i]? = some seg) (hj : seg[j]? = some (a, .inl (cA, x))) (ht : (tys K)[t0]? = some (cA, ty)) (hv : Int32.ofNat x.1 = v) (hdg : decode cc pc = .ok (.arraylength, 1))
    (kk : W p l e R s m args below meth c H locs cells slots Q (F0 m (pc + 1) ls (.int v :: rest))) : W p l e R s m args below meth c H locs cells slots Q (F0 m pc ls (.ref a :: rest)) := by
  obtain ⟨q0, h1, -⟩ := seg_at hs hj
  exact va_alen F.1 F.2.1 F.2.2.2.2.2.1 h.1 q0 t0 h1 ht hv hdg kk
theorem WD.set {i j q0 : Nat} {seg : va_W} {x y : Nat × va_E} {o1 : ob} {w : ob → va_W} {S' : ob → List va_W} {H1 : Heap} {locs1 : List Loc} (h2 : ∀ y, (WL S).set q0 y = WL (S.set i (seg.set j y))) (hset : seg.set j y = w o1) (hS : ∀ t, S.set i (w t) = S' t) (hA : ∀ q, H0.size ≤ q → A q) (a1 : va_P D vwCl ((WL S).set q0 y) H1) (a2 : va_D A ((WL S).set q0 y)) (a3 : va_S A H0 H1 locs1) : WD D A H0 H1 locs1 (S' o1) := by
  rw [h2, hset, hS] at a1 a2
  exact ⟨a1, a2, a3, hA⟩
theorem r_iast (F : FX p s m args meth c cc own nL ret D K) (h : WD D A H0 H locs S) {i j n a : Nat} {seg : va_W} {f : Nat → Int32} {ix x : Int32} {o1 : ob} {w : ob → va_W} {S' : ob → List va_W} (hs : S[i]? = some seg) (hj : seg[j]? = some (a, .inl (K 0, n, .inl f))) (hin : vp_in ix n) (hset : seg.set j (a, .inl (K 0, n, .inl (upd f ix.toNatClampNeg x))) = w o1) (hS : ∀ t, S.set i (w t) = S' t) (hdg : decode cc pc = .ok (.iastore, 1))
    (kk : ∀ t, t = o1 → ∀ (H1 : Heap) (locs1 : List Loc), WD D A H0 H1 locs1 (S' t) → W p l e R s m args below meth c H1 locs1 cells slots Q (F0 m (pc + 1) ls rest)) : W p l e R s m args below meth c H locs cells slots Q (F0 m pc ls (.int x :: .int ix :: .ref a :: rest)) := by
  obtain ⟨q0, h1, h2⟩ := seg_at hs hj
  refine va_iast F.1 F.2.1 F.2.2.2.2.2.1 h.1 h.2.1 h.2.2.1 q0 0 h1 rfl hin hdg fun H1 locs1 a1 a2 a3 => kk o1 rfl H1 locs1 (WD.set (x := (a, .inl (K 0, n, .inl f))) h2 hset hS h.2.2.2 a1 a2 a3)
theorem r_zast (F : FX p s m args meth c cc own nL ret D K) (h : WD D A H0 H locs S) {i j n a : Nat} {seg : va_W} {f : Nat → Int32} {ix x : Int32} {o1 : ob} {w : ob → va_W} {S' : ob → List va_W} (hs : S[i]? = some seg) (hj : seg[j]? = some (a, .inl (K 1, n, .inl f))) (hin : vp_in ix n) (hx : bz x = true) (hset : seg.set j (a, .inl (K 1, n, .inl (upd f ix.toNatClampNeg x))) = w o1) (hS : ∀ t, S.set i (w t) = S' t) (hdg : decode cc pc = .ok (.bastore, 1))
    (kk : ∀ t, t = o1 → ∀ (H1 : Heap) (locs1 : List Loc), WD D A H0 H1 locs1 (S' t) → W p l e R s m args below meth c H1 locs1 cells slots Q (F0 m (pc + 1) ls rest)) : W p l e R s m args below meth c H locs cells slots Q (F0 m pc ls (.int x :: .int ix :: .ref a :: rest)) := by
  obtain ⟨q0, h1, h2⟩ := seg_at hs hj
  refine va_zast F.1 F.2.1 F.2.2.2.2.2.1 h.1 h.2.1 h.2.2.1 q0 1 h1 rfl hin hdg fun H1 locs1 a1 a2 a3 => ?_
  rw [bz_v hx] at a1 a2
  exact kk o1 rfl H1 locs1 (WD.set (x := (a, .inl (K 1, n, .inl f))) h2 hset hS h.2.2.2 a1 a2 a3)
theorem r_cast (F : FX p s m args meth c cc own nL ret D K) (h : WD D A H0 H locs S) {i j n a : Nat} {seg : va_W} {f : Nat → Int32} {ix x : Int32} {o1 : ob} {w : ob → va_W} {S' : ob → List va_W} (hs : S[i]? = some seg) (hj : seg[j]? = some (a, .inl (K 2, n, .inl f))) (hin : vp_in ix n) (hset : seg.set j (a, .inl (K 2, n, .inl (upd f ix.toNatClampNeg (vp_nar .char x)))) = w o1) (hS : ∀ t, S.set i (w t) = S' t) (hdg : decode cc pc = .ok (.castore, 1))
    (kk : ∀ t, t = o1 → ∀ (H1 : Heap) (locs1 : List Loc), WD D A H0 H1 locs1 (S' t) → W p l e R s m args below meth c H1 locs1 cells slots Q (F0 m (pc + 1) ls rest)) : W p l e R s m args below meth c H locs cells slots Q (F0 m pc ls (.int x :: .int ix :: .ref a :: rest)) := by
  obtain ⟨q0, h1, h2⟩ := seg_at hs hj
  refine va_cast F.1 F.2.1 F.2.2.2.2.2.1 h.1 h.2.1 h.2.2.1 q0 2 h1 rfl hin hdg fun H1 locs1 a1 a2 a3 => kk o1 rfl H1 locs1 (WD.set (x := (a, .inl (K 2, n, .inl f))) h2 hset hS h.2.2.2 a1 a2 a3)
theorem r_get (F : FX p s m args meth c cc own nL ret D K) (h : WD D A H0 H locs S) {i a ci N index : Nat} {seg : va_W} {C : String} {T : u_T} {fs : List Value} {k : Nat} (v : Value) (hin : ∀ w ∈ u_ws C T N, w ∈ TBL) (hc : vwCl[ci]? = some (C, T, N)) (hk : k < N) (hl : Cond.fieldLink own index (T k).1 (T k).2.1 (T k).2.2.1 ∈ TBL) (hs : S[i]? = some seg) (hj : seg[0]? = some (a, .inr (ci, fs))) (hv : fs[k]? = some v) (hdg : decode cc pc = .ok (.getfield index, 3))
    (kk : W p l e R s m args below meth c H locs cells slots Q (F0 m (pc + 3) ls (v :: rest))) : W p l e R s m args below meth c H locs cells slots Q (F0 m pc ls (.ref a :: rest)) := by
  obtain ⟨q0, h1, -⟩ := seg_at hs hj
  exact va_get F.1 F.2.1 F.2.2.2.2.1 hin F.2.2.2.1 F.2.2.2.2.2.1 h.1 q0 h1 hc k hk (F.2.2.2.2.1 _ hl) (fun _ h9 => h9) hv hdg kk
theorem r_put (F : FX p s m args meth c cc own nL ret D K) (h : WD D A H0 H locs S) {i a ci N index : Nat} {seg : va_W} {C : String} {T : u_T} {fs : List Value} {k : Nat} {v : Value} {o1 : ob} {w : ob → va_W} {S' : ob → List va_W} {ty : Nat → FieldType} (hin : ∀ w ∈ u_ws C T N, w ∈ TBL) (hty : ∀ k, k < N → parseFieldDescriptor (T k).2.2.1 = some (ty k)) (hnm : ∀ a, a < N → ∀ b, b < N → a ≠ b → (T a).2.1 ≠ (T b).2.1) (hc : vwCl[ci]? = some (C, T, N)) (hk : k < N) (hl : Cond.fieldLink own index (T k).1 (T k).2.1 (T k).2.2.1 ∈ TBL) (hfin : (T k).2.2.2 = false) (hn : narrow (ty k) v = v) (hfit : fits (ty k) v = true) (hs : S[i]? = some seg) (hj : seg[0]? = some (a, .inr (ci, fs))) (hlen : k < fs.length) (hset : seg.set 0 (a, .inr (ci, fs.set k v)) = w o1) (hS : ∀ t, S.set i (w t) = S' t) (hdg : decode cc pc = .ok (.putfield index, 3))
    (kk : ∀ t, t = o1 → ∀ (H1 : Heap) (locs1 : List Loc), WD D A H0 H1 locs1 (S' t) → W p l e R s m args below meth c H1 locs1 cells slots Q (F0 m (pc + 3) ls rest)) : W p l e R s m args below meth c H locs cells slots Q (F0 m pc ls (v :: .ref a :: rest)) := by
  obtain ⟨q0, h1, h2⟩ := seg_at hs hj
  exact va_put F.1 F.2.1 F.2.2.2.2.1 hin ty hty hnm F.2.2.2.1 F.2.2.2.2.2.1 h.1 h.2.1 h.2.2.1 q0 h1 hc k hk (F.2.2.2.2.1 _ hl) (fun _ h9 => h9) hfin (hty k hk) hn hfit hlen hdg fun H1 locs1 a1 a2 a3 => kk o1 rfl H1 locs1 (WD.set (x := (a, .inr (ci, fs))) h2 hset hS h.2.2.2 a1 a2 a3)
theorem r_ldc (F : FX p s m args meth c cc own nL ret D K) {index : Nat} (v : Int32) (hl : Cond.constant own index v ∈ TBL) (hdg : decode cc pc = .ok (.ldc index, 2)) (kk : W p l e R s m args below meth c H locs cells slots Q (F0 m (pc + 2) ls (.int v :: rest))) : W p l e R s m args below meth c H locs cells slots Q (F0 m pc ls rest) :=
  lv_ldc F.1 F.2.1 F.2.2.2.1 (F.2.2.2.2.1 _ hl) hdg kk
theorem r_ldc2 (F : FX p s m args meth c cc own nL ret D K) {index : Nat} (v : Int64) (hl : Cond.constantLong own index v ∈ TBL) (hdg : decode cc pc = .ok (.ldc2_w index, 3)) (kk : W p l e R s m args below meth c H locs cells slots Q (F0 m (pc + 3) ls (.long v :: rest))) : W p l e R s m args below meth c H locs cells slots Q (F0 m pc ls rest) :=
  lv_ldc2 F.1 F.2.1 F.2.2.2.1 (F.2.2.2.2.1 _ hl) hdg kk
theorem r_reti {r : Int32} {S1 : List va_W} (F : FX p s m args meth c cc own nL (some .int) D K) (h : WD D A s.heap H locs S1) (hdg : decode cc pc = .ok (.ireturn, 1)) : W p l e R s m args below meth c H locs cells slots (MQ below (QiS D A S1 r) args s cells slots A) (F0 m pc ls [.int r]) :=
  W.iret F.1 F.2.1 F.2.2.2.2.2.2.2.1 (fun t ht _ => ⟨⟨r, (), rfl, rfl, by rw [ht]; exact h.1, h.2.1⟩, h.2.2.1.F ht⟩) h.2.2.1.2.2 hdg F.2.2.2.2.2.2.2.2
theorem r_retz {r : Int32} {S1 : List va_W} (F : FX p s m args meth c cc own nL (some .boolean) D K) (h : WD D A s.heap H locs S1) (hr : bz r = true) (hdg : decode cc pc = .ok (.ireturn, 1)) : W p l e R s m args below meth c H locs cells slots (MQ below (QiS D A S1 r) args s cells slots A) (F0 m pc ls [.int r]) :=
  W.zret F.1 F.2.1 F.2.2.2.2.2.2.2.1 (bz_n hr) (fun t ht _ => ⟨⟨r, (), rfl, rfl, by rw [ht]; exact h.1, h.2.1⟩, h.2.2.1.F ht⟩) h.2.2.1.2.2 hdg F.2.2.2.2.2.2.2.2
theorem r_retv {S1 : List va_W} (F : FX p s m args meth c cc own nL none D K) (h : WD D A s.heap H locs S1) (hdg : decode cc pc = .ok (.return_, 1)) : W p l e R s m args below meth c H locs cells slots (MQ below (QvS D A S1) args s cells slots A) (F0 m pc ls []) :=
  W.vret F.1 F.2.1 F.2.2.2.2.2.2.2.1 (fun t ht _ => ⟨⟨(), rfl, trivial, by rw [ht]; exact h.1, h.2.1⟩, h.2.2.1.F ht⟩) h.2.2.1.2.2 hdg F.2.2.2.2.2.2.2.2
/-! calls -/
theorem good_code {y : MethodName} {b : ByteArray} {n : Nat} {r : Option FieldType} (h : Cond.code y b n r ∈ TBL) : GoodIn TBL (.code y b n r :: TBL) := by
  intro w hw
  rcases List.mem_cons.mp hw with rfl | hw
  · exact tbl_good _ h
  · exact tbl_good w hw
theorem PcS_blind {av : List Value} {S0 : List va_W} {sz : Nat} : FrameBlind (PcS D K av S0 sz) := by
  rintro a U g mk ⟨q0, q1, q2, q3, q4, q5⟩
  exact ⟨q0, q1, q2, va_K.moved (u := U) (U := U.calling g mk a) (Vm.Alike.refl U.vm) q3, q4, NW.same rfl q5⟩
theorem PcS_in {av : List Value} {S0 : List va_W} (hK : va_K D vwCl (tys K) s) (hN : NW s) (hP : va_P D vwCl (WL S0) H) (hD : va_D A (WL S0)) (U : State) (hU : U.heap = H) (hW : s.WarmedH U.vm) : PcS D K av S0 H.size av.toArray U :=
  ⟨rfl, by rw [hU], by rw [hU]; exact hP, va_K.moved hW.alike hK, hD.weaken (fun _ _ _ _ => trivial), NW.warm hW hN⟩
/-- the objects for the callee, and behind it -/
theorem split_call {S S' C0 C1 Rr : List va_W} {is : List Nat} (h : WD D A H0 H locs S) (hp : is.isPerm (List.range S.length) = true) (h0 : pick S is = C0 ++ Rr) (h1 : pick S' is = C1 ++ Rr) (hlen : S'.length = S.length) :
    va_P D vwCl (WL C0) H ∧ va_D A (WL C0) ∧ (∀ q, va_A (WL C0) H.size q → A q) ∧ ∀ (H1 : Heap) (locs1 : List Loc), va_P D vwCl (WL C1) H1 → va_D (va_A (WL C0) H.size) (WL C1) → (∀ q : Nat, q < H.size → ¬ va_A (WL C0) H.size q → H1[q]? = H[q]?) → va_S A H0 H1 locs1 → WD D A H0 H1 locs1 S' := by
  have g := h.perm (pick_perm hp).symm
  rw [h0] at g
  have eC : ∀ C : List va_W, WL (C ++ Rr) = WL C ++ WL Rr := fun C => List.flatten_append
  obtain ⟨gP, gD, gS, gA⟩ := g
  rw [eC] at gP gD
  have hF : ∀ q, va_A (WL C0) H.size q → A q := by
    intro q hq
    rcases hq with ⟨k, e, hk⟩ | hq
    · exact (D_iff.mp gD).2 (q, e) (List.mem_append_left _ (List.mem_of_getElem? hk))
    · exact gA q (Nat.le_trans gS.1 hq)
  have hDC : va_D A (WL C0) := by
    rw [D_iff] at gD ⊢
    rw [List.map_append, List.nodup_append] at gD
    exact ⟨gD.1.1, fun q hq => gD.2 q (List.mem_append_left _ hq)⟩
  refine ⟨P_of_mem (fun _ hq => List.mem_append_left _ hq) gP, hDC, hF, fun H1 locs1 hP1 hD1 hk hS1 => ?_⟩
  obtain ⟨jP, jD⟩ := join2 gP gD hk hF hP1 hD1
  have hp' : is.isPerm (List.range S'.length) = true := by rw [hlen]; exact hp
  have pp := pick_perm hp'
  rw [h1, eC] at pp
  exact ⟨P_perm pp jP, D_perm pp jD, hS1, gA⟩
theorem r_callVi {As : List Value} {y : MethodName} {b : ByteArray} {nL' fr lo index a i ci : Nat} {rt : Option FieldType} {S' C0 C1 Rr : List va_W} {r : Int32} {fs : List Value} {seg : va_W} {q : vw_C} {lv : List (Nat × Value)} (F : FX p s m args meth c cc own nL ret D K) (h : WD D A H0 H locs S) (hlv : lv_has ls nL lv) (hM : CTi l y b nL' rt fr lo D K (.ref a :: As) C0 C1 r)
    (is : List Nat) (hp : is.isPerm (List.range S.length) = true) (h0 : pick S is = C0 ++ Rr) (h1 : pick S' is = C1 ++ Rr) (hlen : S'.length = S.length) (hq : vwCl[ci]? = some q) (hs : S[i]? = some seg) (hj : seg[0]? = some (a, .inr (ci, fs))) (hcode : Cond.code y b nL' rt ∈ TBL) (hw : Cond.methodLink own index y ∈ TBL ∧ Cond.instanceMethod y ∈ TBL ∧ Cond.selects q.1 y y ∈ TBL ∧ Cond.initialized q.1 ∈ TBL)
    (hd : y.cls = q.1 ∧ y.cls ≠ "java/lang/invoke/MethodHandle" ∧ y.cls ≠ "java/lang/invoke/VarHandle" ∧ (parseMethodDescriptor y.desc).map (fun d => d.parameters.length) = some As.length) (hR : fr + 1 ≤ R.frames ∧ 8 + (nL' + 11) + lo ≤ R.locals) (hcs : cells ≤ R.cells ∧ slots ≤ R.slots) (hrest : (rest.map fun v => v.category).sum ≤ 8) (hdg : decode cc pc = .ok (.invokevirtual index, 3))
    (kk : ∀ (H1 : Heap) (locs1 : List Loc), WD D A H0 H1 locs1 S' → W p l e R s m args below meth c H1 locs1 cells slots Q (F0 m (pc + 3) ls (.int r :: rest))) : W p l e R s m args below meth c H locs cells slots Q (F0 m pc ls (As.reverse ++ .ref a :: rest)) := by
  obtain ⟨cP, cD, cF, back⟩ := split_call h hp h0 h1 hlen
  have hts := F.2.2.2.2.1
  have hG : GoodIn TBL (wsV own index q.1 y (.code y b nL' rt :: TBL)) := by
    intro w hw9
    rcases List.mem_append.mp (show w ∈ ([.methodLink own index y, .instanceMethod y, .selects q.1 y y, .initialized q.1] : List Cond) ++ _ from hw9) with h9 | h9
    · simp only [List.mem_cons, List.not_mem_nil, or_false] at h9
      rcases h9 with rfl | rfl | rfl | rfl
      · exact tbl_good _ hw.1
      · exact tbl_good _ hw.2.1
      · exact tbl_good _ hw.2.2.1
      · exact tbl_good _ hw.2.2.2
    · exact good_code hcode w h9
  obtain ⟨q0, e1, -⟩ := seg_at hs hj
  have cw : CallW R s args own q.1 index y b nL' rt (.code y b nL' rt :: TBL) (rmS fr lo) 0 0 As.length := cwV As.length hts hG rfl rfl rfl hd hR
  refine va_calli (va_runV (As := As) (rest := rest) ⟨F.1, F.2.1, F.2.2.1, F.2.2.2.1, hts⟩ (hM H.size) cw ⟨PcS_blind, va_recv F.2.2.2.2.2.1 h.1 hq e1, fun U hU hW => PcS_in F.2.2.2.2.2.1 F.2.2.2.2.2.2.1 cP cD U hU hW⟩ rfl rfl hlv.1 rfl (lv_room hrest) hdg ⟨hcs.1, hcs.2⟩) h.2.2.1 (fun q _ h9 => cF q h9) cF (fun r' u t H1 locs1 ht hvm hw hB hz1 hk1 hS1 => ?_)
  have hw : r' = r := hw
  subst hw
  obtain ⟨b1, b2⟩ := hB
  rw [ht] at b1
  exact kk H1 locs1 (back H1 locs1 b1 b2 hk1 hS1)
end ROWS
section ROWS2
variable {p : Program} {l : Launch} {e : Env} {R : Room} {s : State} {m : MethodId} {args : Array Value} {below : List Frame} {meth : Method} {c : Code} {H : Heap} {locs : List Loc} {cells slots : Nat} {Q : State → Prop}
variable {pc : Nat} {ls : Array Slot} {rest : List Value} {cc : ByteArray} {own : String} {nL : Nat} {ret : Option FieldType} {D : va_G} {K : Nat → ClassId} {A : Nat → Prop} {H0 : Heap} {S : List va_W}
theorem r_callVv {As : List Value} {y : MethodName} {b : ByteArray} {nL' fr lo index a i ci : Nat} {S' C0 C1 Rr : List va_W} {fs : List Value} {seg : va_W} {q : vw_C} {lv : List (Nat × Value)} (F : FX p s m args meth c cc own nL ret D K) (h : WD D A H0 H locs S) (hlv : lv_has ls nL lv) (hM : CTv l y b nL' fr lo D K (.ref a :: As) C0 C1)
    (is : List Nat) (hp : is.isPerm (List.range S.length) = true) (h0 : pick S is = C0 ++ Rr) (h1 : pick S' is = C1 ++ Rr) (hlen : S'.length = S.length) (hq : vwCl[ci]? = some q) (hs : S[i]? = some seg) (hj : seg[0]? = some (a, .inr (ci, fs))) (hcode : Cond.code y b nL' none ∈ TBL) (hw : Cond.methodLink own index y ∈ TBL ∧ Cond.instanceMethod y ∈ TBL ∧ Cond.selects q.1 y y ∈ TBL ∧ Cond.initialized q.1 ∈ TBL)
    (hd : y.cls = q.1 ∧ y.cls ≠ "java/lang/invoke/MethodHandle" ∧ y.cls ≠ "java/lang/invoke/VarHandle" ∧ (parseMethodDescriptor y.desc).map (fun d => d.parameters.length) = some As.length) (hR : fr + 1 ≤ R.frames ∧ 8 + (nL' + 11) + lo ≤ R.locals) (hcs : cells ≤ R.cells ∧ slots ≤ R.slots) (hrest : (rest.map fun v => v.category).sum ≤ 8) (hdg : decode cc pc = .ok (.invokevirtual index, 3))
    (kk : ∀ (H1 : Heap) (locs1 : List Loc), WD D A H0 H1 locs1 S' → W p l e R s m args below meth c H1 locs1 cells slots Q (F0 m (pc + 3) ls rest)) : W p l e R s m args below meth c H locs cells slots Q (F0 m pc ls (As.reverse ++ .ref a :: rest)) := by
  obtain ⟨cP, cD, cF, back⟩ := split_call h hp h0 h1 hlen
  have hts := F.2.2.2.2.1
  have hG : GoodIn TBL (wsV own index q.1 y (.code y b nL' none :: TBL)) := by
    intro w hw9
    rcases List.mem_append.mp (show w ∈ ([.methodLink own index y, .instanceMethod y, .selects q.1 y y, .initialized q.1] : List Cond) ++ _ from hw9) with h9 | h9
    · simp only [List.mem_cons, List.not_mem_nil, or_false] at h9
      rcases h9 with rfl | rfl | rfl | rfl
      · exact tbl_good _ hw.1
      · exact tbl_good _ hw.2.1
      · exact tbl_good _ hw.2.2.1
      · exact tbl_good _ hw.2.2.2
    · exact good_code hcode w h9
  obtain ⟨q0, e1, -⟩ := seg_at hs hj
  have cw : CallW R s args own q.1 index y b nL' none (.code y b nL' none :: TBL) (rmS fr lo) 0 0 As.length := cwV As.length hts hG rfl rfl rfl hd hR
  refine va_callv (va_runV (As := As) (rest := rest) ⟨F.1, F.2.1, F.2.2.1, F.2.2.2.1, hts⟩ (hM H.size) cw ⟨PcS_blind, va_recv F.2.2.2.2.2.1 h.1 hq e1, fun U hU hW => PcS_in F.2.2.2.2.2.1 F.2.2.2.2.2.2.1 cP cD U hU hW⟩ rfl rfl hlv.1 rfl (lv_room hrest) hdg ⟨hcs.1, hcs.2⟩) h.2.2.1 (fun q _ h9 => cF q h9) cF (fun u t H1 locs1 ht hvm hw hB hz1 hk1 hS1 => ?_)
  obtain ⟨b1, b2⟩ := hB
  rw [ht] at b1
  exact kk H1 locs1 (back H1 locs1 b1 b2 hk1 hS1)
/-- a static method, of this class or another, whose link stands in the tables -/
theorem r_callS {As : List Value} {y : MethodName} {b : ByteArray} {nL' fr lo index : Nat} {rt : Option FieldType} {r : Int32} {lv : List (Nat × Value)} (F : FX p s m args meth c cc own nL ret D K) (h : WD D A H0 H locs S) (hlv : lv_has ls nL lv) (hM : CTi l y b nL' rt fr lo D K As [] [] r)
    (hcode : Cond.code y b nL' rt ∈ TBL) (hw : Cond.methodLink own index y ∈ TBL ∧ Cond.static y ∈ TBL ∧ Cond.initialized y.cls ∈ TBL)
    (hd : y.cls ≠ "java/lang/invoke/MethodHandle" ∧ y.cls ≠ "java/lang/invoke/VarHandle" ∧ (parseMethodDescriptor y.desc).map (fun d => d.parameters.length) = some As.length) (hR : fr + 1 ≤ R.frames ∧ 8 + (nL' + 11) + lo ≤ R.locals) (hcs : cells ≤ R.cells ∧ slots ≤ R.slots) (hrest : (rest.map fun v => v.category).sum ≤ 8) (hdg : decode cc pc = .ok (.invokestatic index, 3))
    (kk : ∀ (H1 : Heap) (locs1 : List Loc), WD D A H0 H1 locs1 S → W p l e R s m args below meth c H1 locs1 cells slots Q (F0 m (pc + 3) ls (.int r :: rest))) : W p l e R s m args below meth c H locs cells slots Q (F0 m pc ls (As.reverse ++ rest)) := by
  have hp : (List.range S.length).isPerm (List.range S.length) = true := List.isPerm_iff.mpr (List.Perm.refl _)
  obtain ⟨cP, cD, cF, back⟩ := split_call (C0 := []) (C1 := []) (Rr := S) (S' := S) h hp (pick_range S) (pick_range S) rfl
  have hts := F.2.2.2.2.1
  refine va_calli (va_runS (As := As) (rest := rest) ⟨F.1, F.2.1, F.2.2.1, F.2.2.2.1, hts⟩ (hM H.size) ⟨callB_of As.length hts (good_code hcode) rfl rfl rfl (hts _ hw.2.2) (hts _ hw.1) hd hR, hts _ hw.2.1⟩ ⟨PcS_blind, fun U hU hW => PcS_in F.2.2.2.2.2.1 F.2.2.2.2.2.2.1 cP cD U hU hW⟩ rfl rfl hlv.1 rfl (lv_room hrest) hdg ⟨hcs.1, hcs.2⟩) h.2.2.1 (fun q _ h9 => cF q h9) cF (fun r' u t H1 locs1 ht hvm hw hB hz1 hk1 hS1 => ?_)
  have hw : r' = r := hw
  subst hw
  obtain ⟨b1, b2⟩ := hB
  rw [ht] at b1
  exact kk H1 locs1 (back H1 locs1 b1 b2 hk1 hS1)
/-- a private static method of a nest mate -/
theorem r_callN {As : List Value} {y : MethodName} {b : ByteArray} {nL' fr lo index : Nat} {rt : Option FieldType} {r : Int32} {lv : List (Nat × Value)} (F : FX p s m args meth c cc own nL ret D K) (h : WD D A H0 H locs S) (hlv : lv_has ls nL lv) (hM : CTi l y b nL' rt fr lo D K As [] [] r)
    (hcode : Cond.code y b nL' rt ∈ TBL) (hw : (own, index, y) ∈ nests ∧ Cond.static y ∈ TBL ∧ Cond.initialized y.cls ∈ TBL)
    (hd : y.cls ≠ "java/lang/invoke/MethodHandle" ∧ y.cls ≠ "java/lang/invoke/VarHandle" ∧ (parseMethodDescriptor y.desc).map (fun d => d.parameters.length) = some As.length) (hR : fr + 1 ≤ R.frames ∧ 8 + (nL' + 11) + lo ≤ R.locals) (hcs : cells ≤ R.cells ∧ slots ≤ R.slots) (hrest : (rest.map fun v => v.category).sum ≤ 8) (hdg : decode cc pc = .ok (.invokestatic index, 3))
    (kk : ∀ (H1 : Heap) (locs1 : List Loc), WD D A H0 H1 locs1 S → W p l e R s m args below meth c H1 locs1 cells slots Q (F0 m (pc + 3) ls (.int r :: rest))) : W p l e R s m args below meth c H locs cells slots Q (F0 m pc ls (As.reverse ++ rest)) := by
  have hp : (List.range S.length).isPerm (List.range S.length) = true := List.isPerm_iff.mpr (List.Perm.refl _)
  obtain ⟨cP, cD, cF, back⟩ := split_call (C0 := []) (C1 := []) (Rr := S) (S' := S) h hp (pick_range S) (pick_range S) rfl
  have hts := F.2.2.2.2.1
  have hN : va_Nw (.methodLinkNest own index y RX5) s := F.2.2.2.2.2.2.1 _ hw.1
  refine va_calli (va_runSN (As := As) (rest := rest) ⟨F.1, F.2.1, F.2.2.1, F.2.2.2.1, hts⟩ (hM H.size) ⟨va_cnB As.length hts (good_code hcode) rfl rfl rfl hN (hts _ hw.2.2) hd hR, hts _ hw.2.1, trivial⟩ ⟨PcS_blind, fun U hU hW => PcS_in F.2.2.2.2.2.1 F.2.2.2.2.2.2.1 cP cD U hU hW⟩ rfl rfl hlv.1 rfl (lv_room hrest) hdg ⟨hcs.1, hcs.2⟩) h.2.2.1 (fun q _ h9 => cF q h9) cF (fun r' u t H1 locs1 ht hvm hw hB hz1 hk1 hS1 => ?_)
  have hw : r' = r := hw
  subst hw
  obtain ⟨b1, b2⟩ := hB
  rw [ht] at b1
  exact kk H1 locs1 (back H1 locs1 b1 b2 hk1 hS1)
theorem r_mmax {index : Nat} {x y : Int32} {lv : List (Nat × Value)} (F : FX p s m args meth c cc own nL ret D K) (hlv : lv_has ls nL lv) (hw : Cond.methodLink own index Lib.Math.max.name ∈ TBL ∧ Cond.static Lib.Math.max.name ∈ TBL ∧ Cond.initialized "java/lang/Math" ∈ TBL ∧ Cond.code Lib.Math.max.name Lib.Math.max.code 2 (some .int) ∈ TBL) (hR : 1 ≤ R.frames ∧ (rest.map fun v => v.category).sum + 13 ≤ R.locals) (hcs : cells ≤ R.cells ∧ slots ≤ R.slots) (hdg : decode cc pc = .ok (.invokestatic index, 3))
    (kk : W p l e R s m args below meth c H locs cells slots Q (F0 m (pc + 3) ls (.int (if x < y then y else x) :: rest))) : W p l e R s m args below meth c H locs cells slots Q (F0 m pc ls (.int y :: .int x :: rest)) := by
  have hts := F.2.2.2.2.1
  exact va_mmax F.1 F.2.1 (F.2.2.1.trans hlv.1.symm) F.2.2.2.1 (hts _ hw.1) (hts _ hw.2.1) (hts _ hw.2.2.1) (hts _ hw.2.2.2) hR.1 hR.2 hcs.1 hcs.2 hdg kk
theorem r_mmin {index : Nat} {x y : Int32} {lv : List (Nat × Value)} (F : FX p s m args meth c cc own nL ret D K) (hlv : lv_has ls nL lv) (hw : Cond.methodLink own index Lib.Math.min.name ∈ TBL ∧ Cond.static Lib.Math.min.name ∈ TBL ∧ Cond.initialized "java/lang/Math" ∈ TBL ∧ Cond.code Lib.Math.min.name Lib.Math.min.code 2 (some .int) ∈ TBL) (hR : 1 ≤ R.frames ∧ (rest.map fun v => v.category).sum + 13 ≤ R.locals) (hcs : cells ≤ R.cells ∧ slots ≤ R.slots) (hdg : decode cc pc = .ok (.invokestatic index, 3))
    (kk : W p l e R s m args below meth c H locs cells slots Q (F0 m (pc + 3) ls (.int (if y < x then y else x) :: rest))) : W p l e R s m args below meth c H locs cells slots Q (F0 m pc ls (.int y :: .int x :: rest)) := by
  have hts := F.2.2.2.2.1
  exact va_mmin F.1 F.2.1 (F.2.2.1.trans hlv.1.symm) F.2.2.2.1 (hts _ hw.1) (hts _ hw.2.1) (hts _ hw.2.2.1) (hts _ hw.2.2.2) hR.1 hR.2 hcs.1 hcs.2 hdg kk
def cpk (sp dp n : Int32) (n0 n1 : Nat) : Bool := !(decide (sp < 0)) && !(decide (dp < 0)) && !(decide (n < 0)) && decide (sp.toNatClampNeg + n.toNatClampNeg ≤ n0) && decide (dp.toNatClampNeg + n.toNatClampNeg ≤ n1)
theorem cpk_ok {sp dp n : Int32} {n0 n1 : Nat} (h : cpk sp dp n n0 n1 = true) : ¬ sp < 0 ∧ ¬ dp < 0 ∧ ¬ n < 0 ∧ sp.toNatClampNeg + n.toNatClampNeg ≤ n0 ∧ dp.toNatClampNeg + n.toNatClampNeg ≤ n1 := by
  simp only [cpk, Bool.and_eq_true, Bool.not_eq_true', decide_eq_false_iff_not, decide_eq_true_eq] at h
  exact ⟨h.1.1.1.1, h.1.1.1.2, h.1.1.2, h.1.2, h.2⟩
theorem r_copy {index i0 j0 i j n0 n1 a0 a : Nat} {seg0 seg : va_W} {f g : Nat → Int32} {sp dp n : Int32} {o1 : ob} {w : ob → va_W} {S' : ob → List va_W} {lv : List (Nat × Value)} (F : FX p s m args meth c cc own nL ret D K) (h : WD D A H0 H locs S) (hlv : lv_has ls nL lv) (hw : Cond.methodLink own index arraycopyName ∈ TBL ∧ Cond.native arraycopyName ∈ TBL ∧ Cond.static arraycopyName ∈ TBL ∧ Cond.initialized "java/lang/System" ∈ TBL)
    (hs0 : S[i0]? = some seg0) (hj0 : seg0[j0]? = some (a0, .inl (K 0, n0, .inl f))) (hs : S[i]? = some seg) (hj : seg[j]? = some (a, .inl (K 0, n1, .inl g))) (hc : cpk sp dp n n0 n1 = true) (hset : seg.set j (a, .inl (K 0, n1, .inl (va_cpy f g sp.toNatClampNeg dp.toNatClampNeg n.toNatClampNeg))) = w o1) (hS : ∀ t, S.set i (w t) = S' t)
    (hR : 1 ≤ R.frames ∧ (rest.map fun v => v.category).sum + (nativeFrameWords "java/lang/System" "arraycopy" 5 + 11) ≤ R.locals) (hdg : decode cc pc = .ok (.invokestatic index, 3))
    (kk : ∀ t, t = o1 → ∀ (H1 : Heap) (locs1 : List Loc), WD D A H0 H1 locs1 (S' t) → W p l e R s m args below meth c H1 locs1 cells slots Q (F0 m (pc + 3) ls rest)) : W p l e R s m args below meth c H locs cells slots Q (F0 m pc ls (.int n :: .int dp :: .ref a :: .int sp :: .ref a0 :: rest)) := by
  obtain ⟨q0, e0, -⟩ := seg_at hs0 hj0
  obtain ⟨q1, e1, h2⟩ := seg_at hs hj
  obtain ⟨c1, c2, c3, c4, c5⟩ := cpk_ok hc
  have hts := F.2.2.2.2.1
  exact va_copyi F.1 F.2.1 (F.2.2.1.trans hlv.1.symm) F.2.2.2.1 (hts _ hw.1) (hts _ hw.2.1) (hts _ hw.2.2.1) (hts _ hw.2.2.2) F.2.2.2.2.2.1 h.1 h.2.1 h.2.2.1 q0 q1 0 0 e0 e1 rfl rfl rfl c1 c2 c3 c4 c5 (fun _ _ => rfl) hR.1 hR.2 hdg
    fun H1 locs1 a1 a2 a3 => kk o1 rfl H1 locs1 (WD.set (x := (a, .inl (K 0, n1, .inl g))) h2 hset hS h.2.2.2 a1 a2 a3)
def nz (y : Int32) : Bool := !(y == 0)
theorem nz_ok {y : Int32} (h : nz y = true) : ¬ y = 0 := by simpa [nz] using h
end ROWS2
end
section
/-! printed by gen: objects as lists of cells -/
def rdX0 (a : Nat → Nat) (o : ob) : Nat := if o.1 11 = 0 then a 10 else a 11
def spX0 (a : Nat → Nat) (o : ob) : Nat := if o.1 11 = 0 then a 11 else a 10
def oX0 (a : Nat → Nat) (o : ob) : List Value := [.int (o.1 0), .int (o.1 1), .int (o.1 2), .int (o.1 3), .ref (a 5), .ref (a 6), .ref (a 7), .ref (a 8), .int (o.1 8), .ref (rdX0 a o), .ref (spX0 a o)]
def wX0 (K : Nat → ClassId) (a : Nat → Nat) (o : ob) : va_W := [(a 0, .inr (0, oX0 a o)), (a 5, .inl (K 0, 676, .inl (o.2 4))), (a 6, .inl (K 0, 676, .inl (o.2 5))), (a 7, .inl (K 1, 13, .inl (o.2 6))), (a 8, .inl (K 0, 10, .inl (o.2 7))), (rdX0 a o, .inl (K 0, 13, .inl (o.2 9))), (spX0 a o, .inl (K 0, 13, .inl (o.2 10)))]
def oX1 (a : Nat → Nat) (o : ob) : List Value := [.ref (a 1), .int (o.1 1), .int (o.1 2)]
def wX1 (K : Nat → ClassId) (a : Nat → Nat) (o : ob) : va_W := [(a 0, .inr (1, oX1 a o)), (a 1, .inl (K 0, 12, .inl (o.2 0)))]
def oX2 (a : Nat → Nat) (o : ob) : List Value := [.ref (a 1), .ref (a 2), .int (o.1 2), .int (o.1 3), .int (o.1 4), .int (o.1 5), .int (o.1 6)]
def wX2 (K : Nat → ClassId) (a : Nat → Nat) (o : ob) : va_W := [(a 0, .inr (2, oX2 a o)), (a 1, .inl (K 0, 200, .inl (o.2 0))), (a 2, .inl (K 0, 2600, .inl (o.2 1)))]
def oX3 (a : Nat → Nat) (o : ob) : List Value := [.ref (a 1), .int (o.1 1), .int (o.1 2), .ref (a 4)]
def wX3 (K : Nat → ClassId) (a : Nat → Nat) (o : ob) : va_W := [(a 0, .inr (3, oX3 a o)), (a 1, .inl (K 2, 200, .inl (o.2 0))), (a 4, .inl (K 0, 6, .inl (o.2 3)))]
def oX4 (a : Nat → Nat) (o : ob) : List Value := [.int (o.1 0), .int (o.1 1), .ref (a 3), .ref (a 4), .ref (a 5), .ref (a 6), .ref (a 7), .int (o.1 7), .ref (a 9), .ref (a 10), .ref (a 11), .ref (a 12), .int (o.1 12), .int (o.1 13), .int (o.1 14), .ref (a 16)]
def wX4 (K : Nat → ClassId) (a : Nat → Nat) (o : ob) : va_W := [(a 0, .inr (4, oX4 a o)), (a 3, .inl (K 0, 10, .inl (o.2 2))), (a 4, .inl (K 0, 10, .inl (o.2 3))), (a 5, .inl (K 0, 10, .inl (o.2 4))), (a 6, .inl (K 0, 10, .inl (o.2 5))), (a 7, .inl (K 0, 10, .inl (o.2 6))), (a 9, .inl (K 0, 4, .inl (o.2 8))), (a 10, .inl (K 0, 4, .inl (o.2 9))), (a 11, .inl (K 1, 4, .inl (o.2 10))), (a 12, .inl (K 0, 12, .inl (o.2 11))), (a 16, .inl (K 0, 12, .inl (o.2 15)))]
def oX6 (a : Nat → Nat) (o : ob) : List Value := [.int (o.1 0), .int (o.1 1), .ref (a 3), .int (o.1 3), .ref (a 5), .int (o.1 5), .int (o.1 6), .ref (a 8), .int (o.1 8), .int (o.1 9), .ref (a 11), .int (o.1 11), .ref (a 13), .ref (a 14), .ref (a 15), .int (o.1 15), .int (o.1 16), .int (o.1 17), .ref (a 19), .ref (a 20), .ref (a 21), .ref (a 22), .int (o.1 22), .ref (a 24), .ref (a 25), .ref (a 26), .ref (a 27), .ref (a 28), .ref (a 29), .ref (a 30), .int (o.1 30), .int (o.1 31), .int (o.1 32), .int (o.1 33), .ref (a 35), .int (o.1 35), .int (o.1 36), .int (o.1 37)]
def wX6 (K : Nat → ClassId) (a : Nat → Nat) (o : ob) : va_W := [(a 0, .inr (6, oX6 a o)), (a 3, .inl (K 0, 70, .inl (o.2 2))), (a 5, .inl (K 0, 24, .inl (o.2 4))), (a 8, .inl (K 0, 12, .inl (o.2 7))), (a 11, .inl (K 0, 720, .inl (o.2 10))), (a 13, .inl (K 0, 180, .inl (o.2 12))), (a 14, .inl (K 0, 676, .inl (o.2 13))), (a 15, .inl (K 0, 676, .inl (o.2 14))), (a 19, .inl (K 0, 13, .inl (o.2 18))), (a 20, .inl (K 0, 13, .inl (o.2 19))), (a 21, .inl (K 0, 400, .inl (o.2 20))), (a 22, .inl (K 0, 5213, .inl (o.2 21))), (a 24, .inl (K 0, 13, .inl (o.2 23))), (a 25, .inl (K 0, 13, .inl (o.2 24))), (a 26, .inl (K 0, 36, .inl (o.2 25))), (a 27, .inl (K 0, 12, .inl (o.2 26))), (a 28, .inl (K 0, 3, .inl (o.2 27))), (a 29, .inl (K 0, 90, .inl (o.2 28))), (a 30, .inl (K 0, 200, .inl (o.2 29))), (a 35, .inl (K 0, 6, .inl (o.2 34)))]
def oX5 (aa : Nat → Nat → Nat) (o : ob) : List Value := [.ref (aa 1 0), .ref (aa 2 0), .ref (aa 3 0), .ref (aa 0 4), .int (o.1 4), .int (o.1 5), .ref (aa 0 7), .int (o.1 7), .ref (aa 4 0), .int (o.1 9), .ref (aa 5 0), .int (o.1 11), .ref (aa 6 0), .ref (aa 7 0), .int (o.1 14), .ref (aa 8 0)]
def wX5 (K : Nat → ClassId) (aa : Nat → Nat → Nat) (o : ob) : va_W := [(aa 0 0, .inr (5, oX5 aa o)), (aa 0 4, .inl (K 3, 8, .inr (.inr (.inr (.inr (fun i => some (aa (9 + i) 0))))))), (aa 0 7, .inl (K 3, 2, .inr (.inr (.inr (.inr (fun i => some (aa (17 + i) 0)))))))]
def wF (K : Nat → ClassId) (n : Nat) (ap : Nat → Nat → Nat) (f : Nat → ob) : va_W := (List.range n).flatMap (fun i => wX4 K (ap i) (f i))
theorem inX0_0 : u_lay RX0 TX0 0 ∈ TBL := tk_1 176 (by decide +kernel) (by decide +kernel)
theorem inX0_1 : u_lay RX0 TX0 1 ∈ TBL := tk_1 178 (by decide +kernel) (by decide +kernel)
theorem inX0_2 : u_lay RX0 TX0 2 ∈ TBL := tk_1 180 (by decide +kernel) (by decide +kernel)
theorem inX0_3 : u_lay RX0 TX0 3 ∈ TBL := tk_1 182 (by decide +kernel) (by decide +kernel)
theorem inX0_4 : u_lay RX0 TX0 4 ∈ TBL := tk_1 184 (by decide +kernel) (by decide +kernel)
theorem inX0_5 : u_lay RX0 TX0 5 ∈ TBL := tk_1 186 (by decide +kernel) (by decide +kernel)
theorem inX0_6 : u_lay RX0 TX0 6 ∈ TBL := tk_1 188 (by decide +kernel) (by decide +kernel)
theorem inX0_7 : u_lay RX0 TX0 7 ∈ TBL := tk_1 190 (by decide +kernel) (by decide +kernel)
theorem inX0_8 : u_lay RX0 TX0 8 ∈ TBL := tk_1 192 (by decide +kernel) (by decide +kernel)
theorem inX0_9 : u_lay RX0 TX0 9 ∈ TBL := tk_1 194 (by decide +kernel) (by decide +kernel)
theorem inX0_10 : u_lay RX0 TX0 10 ∈ TBL := tk_1 196 (by decide +kernel) (by decide +kernel)
theorem inX0 : ∀ w ∈ u_ws RX0 TX0 11, w ∈ TBL := by
  intro w hw
  obtain ⟨k, hk, rfl⟩ := List.mem_map.mp hw
  have hk := List.mem_range.mp hk
  match k, hk with
  | 0, _ => exact inX0_0
  | 1, _ => exact inX0_1
  | 2, _ => exact inX0_2
  | 3, _ => exact inX0_3
  | 4, _ => exact inX0_4
  | 5, _ => exact inX0_5
  | 6, _ => exact inX0_6
  | 7, _ => exact inX0_7
  | 8, _ => exact inX0_8
  | 9, _ => exact inX0_9
  | 10, _ => exact inX0_10
  | k + 11, hk => exact absurd hk (by omega)
theorem inX1_0 : u_lay RX1 TX1 0 ∈ TBL := tk_1 238 (by decide +kernel) (by decide +kernel)
theorem inX1_1 : u_lay RX1 TX1 1 ∈ TBL := tk_2 0 (by decide +kernel) (by decide +kernel)
theorem inX1_2 : u_lay RX1 TX1 2 ∈ TBL := tk_2 2 (by decide +kernel) (by decide +kernel)
theorem inX1 : ∀ w ∈ u_ws RX1 TX1 3, w ∈ TBL := by
  intro w hw
  obtain ⟨k, hk, rfl⟩ := List.mem_map.mp hw
  have hk := List.mem_range.mp hk
  match k, hk with
  | 0, _ => exact inX1_0
  | 1, _ => exact inX1_1
  | 2, _ => exact inX1_2
  | k + 3, hk => exact absurd hk (by omega)
theorem inX2_0 : u_lay RX2 TX2 0 ∈ TBL := tk_1 213 (by decide +kernel) (by decide +kernel)
theorem inX2_1 : u_lay RX2 TX2 1 ∈ TBL := tk_1 215 (by decide +kernel) (by decide +kernel)
theorem inX2_2 : u_lay RX2 TX2 2 ∈ TBL := tk_1 217 (by decide +kernel) (by decide +kernel)
theorem inX2_3 : u_lay RX2 TX2 3 ∈ TBL := tk_1 219 (by decide +kernel) (by decide +kernel)
theorem inX2_4 : u_lay RX2 TX2 4 ∈ TBL := tk_1 221 (by decide +kernel) (by decide +kernel)
theorem inX2_5 : u_lay RX2 TX2 5 ∈ TBL := tk_1 223 (by decide +kernel) (by decide +kernel)
theorem inX2_6 : u_lay RX2 TX2 6 ∈ TBL := tk_1 225 (by decide +kernel) (by decide +kernel)
theorem inX2 : ∀ w ∈ u_ws RX2 TX2 7, w ∈ TBL := by
  intro w hw
  obtain ⟨k, hk, rfl⟩ := List.mem_map.mp hw
  have hk := List.mem_range.mp hk
  match k, hk with
  | 0, _ => exact inX2_0
  | 1, _ => exact inX2_1
  | 2, _ => exact inX2_2
  | 3, _ => exact inX2_3
  | 4, _ => exact inX2_4
  | 5, _ => exact inX2_5
  | 6, _ => exact inX2_6
  | k + 7, hk => exact absurd hk (by omega)
theorem inX3_0 : u_lay RX3 TX3 0 ∈ TBL := tk_1 34 (by decide +kernel) (by decide +kernel)
theorem inX3_1 : u_lay RX3 TX3 1 ∈ TBL := tk_1 36 (by decide +kernel) (by decide +kernel)
theorem inX3_2 : u_lay RX3 TX3 2 ∈ TBL := tk_1 38 (by decide +kernel) (by decide +kernel)
theorem inX3_3 : u_lay RX3 TX3 3 ∈ TBL := tk_1 40 (by decide +kernel) (by decide +kernel)
theorem inX3 : ∀ w ∈ u_ws RX3 TX3 4, w ∈ TBL := by
  intro w hw
  obtain ⟨k, hk, rfl⟩ := List.mem_map.mp hw
  have hk := List.mem_range.mp hk
  match k, hk with
  | 0, _ => exact inX3_0
  | 1, _ => exact inX3_1
  | 2, _ => exact inX3_2
  | 3, _ => exact inX3_3
  | k + 4, hk => exact absurd hk (by omega)
theorem inX4_0 : u_lay RX4 TX4 0 ∈ TBL := tk_1 118 (by decide +kernel) (by decide +kernel)
theorem inX4_1 : u_lay RX4 TX4 1 ∈ TBL := tk_1 120 (by decide +kernel) (by decide +kernel)
theorem inX4_2 : u_lay RX4 TX4 2 ∈ TBL := tk_1 122 (by decide +kernel) (by decide +kernel)
theorem inX4_3 : u_lay RX4 TX4 3 ∈ TBL := tk_1 124 (by decide +kernel) (by decide +kernel)
theorem inX4_4 : u_lay RX4 TX4 4 ∈ TBL := tk_1 126 (by decide +kernel) (by decide +kernel)
theorem inX4_5 : u_lay RX4 TX4 5 ∈ TBL := tk_1 128 (by decide +kernel) (by decide +kernel)
theorem inX4_6 : u_lay RX4 TX4 6 ∈ TBL := tk_1 130 (by decide +kernel) (by decide +kernel)
theorem inX4_7 : u_lay RX4 TX4 7 ∈ TBL := tk_1 132 (by decide +kernel) (by decide +kernel)
theorem inX4_8 : u_lay RX4 TX4 8 ∈ TBL := tk_1 134 (by decide +kernel) (by decide +kernel)
theorem inX4_9 : u_lay RX4 TX4 9 ∈ TBL := tk_1 136 (by decide +kernel) (by decide +kernel)
theorem inX4_10 : u_lay RX4 TX4 10 ∈ TBL := tk_1 138 (by decide +kernel) (by decide +kernel)
theorem inX4_11 : u_lay RX4 TX4 11 ∈ TBL := tk_1 140 (by decide +kernel) (by decide +kernel)
theorem inX4_12 : u_lay RX4 TX4 12 ∈ TBL := tk_1 142 (by decide +kernel) (by decide +kernel)
theorem inX4_13 : u_lay RX4 TX4 13 ∈ TBL := tk_1 144 (by decide +kernel) (by decide +kernel)
theorem inX4_14 : u_lay RX4 TX4 14 ∈ TBL := tk_1 146 (by decide +kernel) (by decide +kernel)
theorem inX4_15 : u_lay RX4 TX4 15 ∈ TBL := tk_1 148 (by decide +kernel) (by decide +kernel)
theorem inX4 : ∀ w ∈ u_ws RX4 TX4 16, w ∈ TBL := by
  intro w hw
  obtain ⟨k, hk, rfl⟩ := List.mem_map.mp hw
  have hk := List.mem_range.mp hk
  match k, hk with
  | 0, _ => exact inX4_0
  | 1, _ => exact inX4_1
  | 2, _ => exact inX4_2
  | 3, _ => exact inX4_3
  | 4, _ => exact inX4_4
  | 5, _ => exact inX4_5
  | 6, _ => exact inX4_6
  | 7, _ => exact inX4_7
  | 8, _ => exact inX4_8
  | 9, _ => exact inX4_9
  | 10, _ => exact inX4_10
  | 11, _ => exact inX4_11
  | 12, _ => exact inX4_12
  | 13, _ => exact inX4_13
  | 14, _ => exact inX4_14
  | 15, _ => exact inX4_15
  | k + 16, hk => exact absurd hk (by omega)
theorem inX5_0 : u_lay RX5 TX5 0 ∈ TBL := tk_2 145 (by decide +kernel) (by decide +kernel)
theorem inX5_1 : u_lay RX5 TX5 1 ∈ TBL := tk_2 147 (by decide +kernel) (by decide +kernel)
theorem inX5_2 : u_lay RX5 TX5 2 ∈ TBL := tk_2 149 (by decide +kernel) (by decide +kernel)
theorem inX5_3 : u_lay RX5 TX5 3 ∈ TBL := tk_2 151 (by decide +kernel) (by decide +kernel)
theorem inX5_4 : u_lay RX5 TX5 4 ∈ TBL := tk_2 153 (by decide +kernel) (by decide +kernel)
theorem inX5_5 : u_lay RX5 TX5 5 ∈ TBL := tk_2 155 (by decide +kernel) (by decide +kernel)
theorem inX5_6 : u_lay RX5 TX5 6 ∈ TBL := tk_2 157 (by decide +kernel) (by decide +kernel)
theorem inX5_7 : u_lay RX5 TX5 7 ∈ TBL := tk_2 159 (by decide +kernel) (by decide +kernel)
theorem inX5_8 : u_lay RX5 TX5 8 ∈ TBL := tk_2 161 (by decide +kernel) (by decide +kernel)
theorem inX5_9 : u_lay RX5 TX5 9 ∈ TBL := tk_2 163 (by decide +kernel) (by decide +kernel)
theorem inX5_10 : u_lay RX5 TX5 10 ∈ TBL := tk_2 165 (by decide +kernel) (by decide +kernel)
theorem inX5_11 : u_lay RX5 TX5 11 ∈ TBL := tk_2 167 (by decide +kernel) (by decide +kernel)
theorem inX5_12 : u_lay RX5 TX5 12 ∈ TBL := tk_2 169 (by decide +kernel) (by decide +kernel)
theorem inX5_13 : u_lay RX5 TX5 13 ∈ TBL := tk_2 171 (by decide +kernel) (by decide +kernel)
theorem inX5_14 : u_lay RX5 TX5 14 ∈ TBL := tk_2 173 (by decide +kernel) (by decide +kernel)
theorem inX5_15 : u_lay RX5 TX5 15 ∈ TBL := tk_2 175 (by decide +kernel) (by decide +kernel)
theorem inX5 : ∀ w ∈ u_ws RX5 TX5 16, w ∈ TBL := by
  intro w hw
  obtain ⟨k, hk, rfl⟩ := List.mem_map.mp hw
  have hk := List.mem_range.mp hk
  match k, hk with
  | 0, _ => exact inX5_0
  | 1, _ => exact inX5_1
  | 2, _ => exact inX5_2
  | 3, _ => exact inX5_3
  | 4, _ => exact inX5_4
  | 5, _ => exact inX5_5
  | 6, _ => exact inX5_6
  | 7, _ => exact inX5_7
  | 8, _ => exact inX5_8
  | 9, _ => exact inX5_9
  | 10, _ => exact inX5_10
  | 11, _ => exact inX5_11
  | 12, _ => exact inX5_12
  | 13, _ => exact inX5_13
  | 14, _ => exact inX5_14
  | 15, _ => exact inX5_15
  | k + 16, hk => exact absurd hk (by omega)
theorem inX6_0 : u_lay RX6 TX6 0 ∈ TBL := tk_4 99 (by decide +kernel) (by decide +kernel)
theorem inX6_1 : u_lay RX6 TX6 1 ∈ TBL := tk_4 101 (by decide +kernel) (by decide +kernel)
theorem inX6_2 : u_lay RX6 TX6 2 ∈ TBL := tk_4 103 (by decide +kernel) (by decide +kernel)
theorem inX6_3 : u_lay RX6 TX6 3 ∈ TBL := tk_4 105 (by decide +kernel) (by decide +kernel)
theorem inX6_4 : u_lay RX6 TX6 4 ∈ TBL := tk_4 107 (by decide +kernel) (by decide +kernel)
theorem inX6_5 : u_lay RX6 TX6 5 ∈ TBL := tk_4 109 (by decide +kernel) (by decide +kernel)
theorem inX6_6 : u_lay RX6 TX6 6 ∈ TBL := tk_4 111 (by decide +kernel) (by decide +kernel)
theorem inX6_7 : u_lay RX6 TX6 7 ∈ TBL := tk_4 113 (by decide +kernel) (by decide +kernel)
theorem inX6_8 : u_lay RX6 TX6 8 ∈ TBL := tk_4 115 (by decide +kernel) (by decide +kernel)
theorem inX6_9 : u_lay RX6 TX6 9 ∈ TBL := tk_4 117 (by decide +kernel) (by decide +kernel)
theorem inX6_10 : u_lay RX6 TX6 10 ∈ TBL := tk_4 119 (by decide +kernel) (by decide +kernel)
theorem inX6_11 : u_lay RX6 TX6 11 ∈ TBL := tk_4 121 (by decide +kernel) (by decide +kernel)
theorem inX6_12 : u_lay RX6 TX6 12 ∈ TBL := tk_4 123 (by decide +kernel) (by decide +kernel)
theorem inX6_13 : u_lay RX6 TX6 13 ∈ TBL := tk_4 125 (by decide +kernel) (by decide +kernel)
theorem inX6_14 : u_lay RX6 TX6 14 ∈ TBL := tk_4 127 (by decide +kernel) (by decide +kernel)
theorem inX6_15 : u_lay RX6 TX6 15 ∈ TBL := tk_4 129 (by decide +kernel) (by decide +kernel)
theorem inX6_16 : u_lay RX6 TX6 16 ∈ TBL := tk_4 131 (by decide +kernel) (by decide +kernel)
theorem inX6_17 : u_lay RX6 TX6 17 ∈ TBL := tk_4 133 (by decide +kernel) (by decide +kernel)
theorem inX6_18 : u_lay RX6 TX6 18 ∈ TBL := tk_4 135 (by decide +kernel) (by decide +kernel)
theorem inX6_19 : u_lay RX6 TX6 19 ∈ TBL := tk_4 137 (by decide +kernel) (by decide +kernel)
theorem inX6_20 : u_lay RX6 TX6 20 ∈ TBL := tk_4 139 (by decide +kernel) (by decide +kernel)
theorem inX6_21 : u_lay RX6 TX6 21 ∈ TBL := tk_4 141 (by decide +kernel) (by decide +kernel)
theorem inX6_22 : u_lay RX6 TX6 22 ∈ TBL := tk_4 143 (by decide +kernel) (by decide +kernel)
theorem inX6_23 : u_lay RX6 TX6 23 ∈ TBL := tk_4 145 (by decide +kernel) (by decide +kernel)
theorem inX6_24 : u_lay RX6 TX6 24 ∈ TBL := tk_4 147 (by decide +kernel) (by decide +kernel)
theorem inX6_25 : u_lay RX6 TX6 25 ∈ TBL := tk_4 149 (by decide +kernel) (by decide +kernel)
theorem inX6_26 : u_lay RX6 TX6 26 ∈ TBL := tk_4 151 (by decide +kernel) (by decide +kernel)
theorem inX6_27 : u_lay RX6 TX6 27 ∈ TBL := tk_4 153 (by decide +kernel) (by decide +kernel)
theorem inX6_28 : u_lay RX6 TX6 28 ∈ TBL := tk_4 155 (by decide +kernel) (by decide +kernel)
theorem inX6_29 : u_lay RX6 TX6 29 ∈ TBL := tk_4 157 (by decide +kernel) (by decide +kernel)
theorem inX6_30 : u_lay RX6 TX6 30 ∈ TBL := tk_4 159 (by decide +kernel) (by decide +kernel)
theorem inX6_31 : u_lay RX6 TX6 31 ∈ TBL := tk_4 161 (by decide +kernel) (by decide +kernel)
theorem inX6_32 : u_lay RX6 TX6 32 ∈ TBL := tk_4 163 (by decide +kernel) (by decide +kernel)
theorem inX6_33 : u_lay RX6 TX6 33 ∈ TBL := tk_4 165 (by decide +kernel) (by decide +kernel)
theorem inX6_34 : u_lay RX6 TX6 34 ∈ TBL := tk_4 167 (by decide +kernel) (by decide +kernel)
theorem inX6_35 : u_lay RX6 TX6 35 ∈ TBL := tk_4 169 (by decide +kernel) (by decide +kernel)
theorem inX6_36 : u_lay RX6 TX6 36 ∈ TBL := tk_4 171 (by decide +kernel) (by decide +kernel)
theorem inX6_37 : u_lay RX6 TX6 37 ∈ TBL := tk_4 173 (by decide +kernel) (by decide +kernel)
theorem inX6 : ∀ w ∈ u_ws RX6 TX6 38, w ∈ TBL := by
  intro w hw
  obtain ⟨k, hk, rfl⟩ := List.mem_map.mp hw
  have hk := List.mem_range.mp hk
  match k, hk with
  | 0, _ => exact inX6_0
  | 1, _ => exact inX6_1
  | 2, _ => exact inX6_2
  | 3, _ => exact inX6_3
  | 4, _ => exact inX6_4
  | 5, _ => exact inX6_5
  | 6, _ => exact inX6_6
  | 7, _ => exact inX6_7
  | 8, _ => exact inX6_8
  | 9, _ => exact inX6_9
  | 10, _ => exact inX6_10
  | 11, _ => exact inX6_11
  | 12, _ => exact inX6_12
  | 13, _ => exact inX6_13
  | 14, _ => exact inX6_14
  | 15, _ => exact inX6_15
  | 16, _ => exact inX6_16
  | 17, _ => exact inX6_17
  | 18, _ => exact inX6_18
  | 19, _ => exact inX6_19
  | 20, _ => exact inX6_20
  | 21, _ => exact inX6_21
  | 22, _ => exact inX6_22
  | 23, _ => exact inX6_23
  | 24, _ => exact inX6_24
  | 25, _ => exact inX6_25
  | 26, _ => exact inX6_26
  | 27, _ => exact inX6_27
  | 28, _ => exact inX6_28
  | 29, _ => exact inX6_29
  | 30, _ => exact inX6_30
  | 31, _ => exact inX6_31
  | 32, _ => exact inX6_32
  | 33, _ => exact inX6_33
  | 34, _ => exact inX6_34
  | 35, _ => exact inX6_35
  | 36, _ => exact inX6_36
  | 37, _ => exact inX6_37
  | k + 38, hk => exact absurd hk (by omega)
end
section
theorem w0 : Cond.methodLink RX6 99 yX6_in ∈ TBL := tk_4 204 (by decide +kernel) (by decide +kernel)
theorem w1 : Cond.static yX6_in ∈ TBL := tk_4 205 (by decide +kernel) (by decide +kernel)
theorem w2 : Cond.initialized RX6 ∈ TBL := tk_1 11 (by decide +kernel) (by decide +kernel)
theorem w3 : Cond.code yX6_in cX6_in 3 (some .boolean) ∈ TBL := tk_4 206 (by decide +kernel) (by decide +kernel)
theorem w4 : Cond.fieldLink RX6 13 (TX6 1).1 (TX6 1).2.1 (TX6 1).2.2.1 ∈ TBL := tk_4 62 (by decide +kernel) (by decide +kernel)
theorem w5 : Cond.fieldLink RX6 7 (TX6 0).1 (TX6 0).2.1 (TX6 0).2.2.1 ∈ TBL := tk_4 61 (by decide +kernel) (by decide +kernel)
theorem w6 : Cond.fieldLink RX6 16 (TX6 2).1 (TX6 2).2.1 (TX6 2).2.2.1 ∈ TBL := tk_4 63 (by decide +kernel) (by decide +kernel)
theorem w7 : Cond.code yX6_isRule cX6_isRule 2 (some .boolean) ∈ TBL := tk_4 203 (by decide +kernel) (by decide +kernel)
theorem w8 : Cond.methodLink RX6 103 yX6_isRule ∈ TBL := tk_4 200 (by decide +kernel) (by decide +kernel)
theorem w9 : Cond.instanceMethod yX6_isRule ∈ TBL := tk_4 202 (by decide +kernel) (by decide +kernel)
theorem w10 : Cond.selects RX6 yX6_isRule yX6_isRule ∈ TBL := tk_0 37 (by decide +kernel) (by decide +kernel)
theorem w11 : Cond.fieldLink RX6 20 (TX6 3).1 (TX6 3).2.1 (TX6 3).2.2.1 ∈ TBL := tk_4 64 (by decide +kernel) (by decide +kernel)
theorem w12 : Cond.fieldLink RX6 23 (TX6 4).1 (TX6 4).2.1 (TX6 4).2.2.1 ∈ TBL := tk_4 65 (by decide +kernel) (by decide +kernel)
theorem w13 : Cond.fieldLink RX6 26 (TX6 6).1 (TX6 6).2.1 (TX6 6).2.2.1 ∈ TBL := tk_4 67 (by decide +kernel) (by decide +kernel)
theorem w14 : Cond.fieldLink RX6 29 (TX6 7).1 (TX6 7).2.1 (TX6 7).2.2.1 ∈ TBL := tk_4 68 (by decide +kernel) (by decide +kernel)
theorem w15 : Cond.fieldLink RX6 80 (TX6 5).1 (TX6 5).2.1 (TX6 5).2.2.1 ∈ TBL := tk_4 66 (by decide +kernel) (by decide +kernel)
theorem w16 : Cond.fieldLink RX6 249 (TX6 31).1 (TX6 31).2.1 (TX6 31).2.2.1 ∈ TBL := tk_4 92 (by decide +kernel) (by decide +kernel)
theorem w17 : Cond.fieldLink RX6 246 (TX6 30).1 (TX6 30).2.1 (TX6 30).2.2.1 ∈ TBL := tk_4 91 (by decide +kernel) (by decide +kernel)
theorem w18 : Cond.fieldLink RX6 74 (TX6 29).1 (TX6 29).2.1 (TX6 29).2.2.1 ∈ TBL := tk_4 90 (by decide +kernel) (by decide +kernel)
theorem w19 : Cond.fieldLink RX6 252 (TX6 32).1 (TX6 32).2.1 (TX6 32).2.2.1 ∈ TBL := tk_4 93 (by decide +kernel) (by decide +kernel)
theorem w20 : Cond.methodLink RX6 107 yX6_isLetter ∈ TBL := tk_4 219 (by decide +kernel) (by decide +kernel)
theorem w21 : Cond.static yX6_isLetter ∈ TBL := tk_4 220 (by decide +kernel) (by decide +kernel)
theorem w22 : Cond.code yX6_isLetter cX6_isLetter 1 (some .boolean) ∈ TBL := tk_4 221 (by decide +kernel) (by decide +kernel)
theorem w23 : Cond.fieldLink RX6 255 (TX6 33).1 (TX6 33).2.1 (TX6 33).2.2.1 ∈ TBL := tk_4 94 (by decide +kernel) (by decide +kernel)
theorem w24 : Cond.fieldLink RX6 77 (TX6 34).1 (TX6 34).2.1 (TX6 34).2.2.1 ∈ TBL := tk_4 95 (by decide +kernel) (by decide +kernel)
theorem w25 : Cond.code yX6_isWordAt cX6_isWordAt 1 (some .boolean) ∈ TBL := tk_5 235 (by decide +kernel) (by decide +kernel)
theorem w26 : Cond.methodLink RX6 258 yX6_isWordAt ∈ TBL := tk_5 232 (by decide +kernel) (by decide +kernel)
theorem w27 : Cond.instanceMethod yX6_isWordAt ∈ TBL := tk_5 234 (by decide +kernel) (by decide +kernel)
theorem w28 : Cond.selects RX6 yX6_isWordAt yX6_isWordAt ∈ TBL := tk_0 77 (by decide +kernel) (by decide +kernel)
theorem w29 : Cond.fieldLink RX6 83 (TX6 8).1 (TX6 8).2.1 (TX6 8).2.2.1 ∈ TBL := tk_4 69 (by decide +kernel) (by decide +kernel)
theorem w30 : Cond.fieldLink RX6 86 (TX6 9).1 (TX6 9).2.1 (TX6 9).2.2.1 ∈ TBL := tk_4 70 (by decide +kernel) (by decide +kernel)
theorem w31 : Cond.fieldLink RX6 96 (TX6 11).1 (TX6 11).2.1 (TX6 11).2.2.1 ∈ TBL := tk_4 72 (by decide +kernel) (by decide +kernel)
theorem w32 : Cond.fieldLink RX6 32 (TX6 10).1 (TX6 10).2.1 (TX6 10).2.2.1 ∈ TBL := tk_4 71 (by decide +kernel) (by decide +kernel)
theorem w33 : Cond.code yX6_writes cX6_writes 4 none ∈ TBL := tk_4 191 (by decide +kernel) (by decide +kernel)
theorem w34 : Cond.methodLink RX6 89 yX6_writes ∈ TBL := tk_4 188 (by decide +kernel) (by decide +kernel)
theorem w35 : Cond.instanceMethod yX6_writes ∈ TBL := tk_4 190 (by decide +kernel) (by decide +kernel)
theorem w36 : Cond.selects RX6 yX6_writes yX6_writes ∈ TBL := tk_0 36 (by decide +kernel) (by decide +kernel)
theorem w37 : Cond.code yX6_readsBack cX6_readsBack 4 none ∈ TBL := tk_4 183 (by decide +kernel) (by decide +kernel)
theorem w38 : Cond.methodLink RX6 93 yX6_readsBack ∈ TBL := tk_4 180 (by decide +kernel) (by decide +kernel)
theorem w39 : Cond.instanceMethod yX6_readsBack ∈ TBL := tk_4 182 (by decide +kernel) (by decide +kernel)
theorem w40 : Cond.selects RX6 yX6_readsBack yX6_readsBack ∈ TBL := tk_0 35 (by decide +kernel) (by decide +kernel)
theorem w41 : Cond.fieldLink RX6 35 (TX6 12).1 (TX6 12).2.1 (TX6 12).2.2.1 ∈ TBL := tk_4 73 (by decide +kernel) (by decide +kernel)
theorem w42 : Cond.code yX6_notes cX6_notes 2 none ∈ TBL := tk_4 225 (by decide +kernel) (by decide +kernel)
theorem w43 : Cond.methodLink RX6 110 yX6_notes ∈ TBL := tk_4 222 (by decide +kernel) (by decide +kernel)
theorem w44 : Cond.instanceMethod yX6_notes ∈ TBL := tk_4 224 (by decide +kernel) (by decide +kernel)
theorem w45 : Cond.selects RX6 yX6_notes yX6_notes ∈ TBL := tk_0 38 (by decide +kernel) (by decide +kernel)
theorem w46 : Cond.code yX6_fits cX6_fits 4 (some .boolean) ∈ TBL := tk_4 237 (by decide +kernel) (by decide +kernel)
theorem w47 : Cond.methodLink RX6 113 yX6_fits ∈ TBL := tk_4 234 (by decide +kernel) (by decide +kernel)
theorem w48 : Cond.instanceMethod yX6_fits ∈ TBL := tk_4 236 (by decide +kernel) (by decide +kernel)
theorem w49 : Cond.selects RX6 yX6_fits yX6_fits ∈ TBL := tk_0 39 (by decide +kernel) (by decide +kernel)
theorem w50 : Cond.code yX6_steps cX6_steps 3 none ∈ TBL := tk_5 1 (by decide +kernel) (by decide +kernel)
theorem w51 : Cond.methodLink RX6 116 yX6_steps ∈ TBL := tk_4 238 (by decide +kernel) (by decide +kernel)
theorem w52 : Cond.instanceMethod yX6_steps ∈ TBL := tk_5 0 (by decide +kernel) (by decide +kernel)
theorem w53 : Cond.selects RX6 yX6_steps yX6_steps ∈ TBL := tk_0 40 (by decide +kernel) (by decide +kernel)
theorem w54 : Cond.code yX6_isState cX6_isState 2 (some .boolean) ∈ TBL := tk_5 9 (by decide +kernel) (by decide +kernel)
theorem w55 : Cond.methodLink RX6 120 yX6_isState ∈ TBL := tk_5 6 (by decide +kernel) (by decide +kernel)
theorem w56 : Cond.instanceMethod yX6_isState ∈ TBL := tk_5 8 (by decide +kernel) (by decide +kernel)
theorem w57 : Cond.selects RX6 yX6_isState yX6_isState ∈ TBL := tk_0 41 (by decide +kernel) (by decide +kernel)
theorem w58 : Cond.code yX6_enters cX6_enters 7 none ∈ TBL := tk_5 17 (by decide +kernel) (by decide +kernel)
theorem w59 : Cond.methodLink RX6 123 yX6_enters ∈ TBL := tk_5 14 (by decide +kernel) (by decide +kernel)
theorem w60 : Cond.instanceMethod yX6_enters ∈ TBL := tk_5 16 (by decide +kernel) (by decide +kernel)
theorem w61 : Cond.selects RX6 yX6_enters yX6_enters ∈ TBL := tk_0 42 (by decide +kernel) (by decide +kernel)
theorem w62 : Cond.fieldLink RX6 38 (TX6 13).1 (TX6 13).2.1 (TX6 13).2.2.1 ∈ TBL := tk_4 74 (by decide +kernel) (by decide +kernel)
theorem w63 : Cond.methodLink RX6 130 yX6_place ∈ TBL := tk_5 46 (by decide +kernel) (by decide +kernel)
theorem w64 : Cond.static yX6_place ∈ TBL := tk_5 47 (by decide +kernel) (by decide +kernel)
theorem w65 : Cond.code yX6_place cX6_place 3 (some .int) ∈ TBL := tk_5 48 (by decide +kernel) (by decide +kernel)
theorem w66 : Cond.fieldLink RX6 127 (TX6 15).1 (TX6 15).2.1 (TX6 15).2.2.1 ∈ TBL := tk_4 76 (by decide +kernel) (by decide +kernel)
theorem w67 : Cond.fieldLink RX6 141 (TX6 16).1 (TX6 16).2.1 (TX6 16).2.2.1 ∈ TBL := tk_4 77 (by decide +kernel) (by decide +kernel)
theorem w68 : Cond.fieldLink RX6 144 (TX6 17).1 (TX6 17).2.1 (TX6 17).2.2.1 ∈ TBL := tk_4 78 (by decide +kernel) (by decide +kernel)
theorem w69 : Cond.code yX6_edges cX6_edges 3 (some .int) ∈ TBL := tk_5 56 (by decide +kernel) (by decide +kernel)
theorem w70 : Cond.methodLink RX6 137 yX6_edges ∈ TBL := tk_5 53 (by decide +kernel) (by decide +kernel)
theorem w71 : Cond.instanceMethod yX6_edges ∈ TBL := tk_5 55 (by decide +kernel) (by decide +kernel)
theorem w72 : Cond.selects RX6 yX6_edges yX6_edges ∈ TBL := tk_0 47 (by decide +kernel) (by decide +kernel)
theorem w73 : Cond.code yX6_targetEdges cX6_targetEdges 9 none ∈ TBL := tk_5 52 (by decide +kernel) (by decide +kernel)
theorem w74 : Cond.methodLink RX6 134 yX6_targetEdges ∈ TBL := tk_5 49 (by decide +kernel) (by decide +kernel)
theorem w75 : Cond.instanceMethod yX6_targetEdges ∈ TBL := tk_5 51 (by decide +kernel) (by decide +kernel)
theorem w76 : Cond.selects RX6 yX6_targetEdges yX6_targetEdges ∈ TBL := tk_0 46 (by decide +kernel) (by decide +kernel)
theorem w77 : Cond.fieldLink RX6 44 (TX6 18).1 (TX6 18).2.1 (TX6 18).2.2.1 ∈ TBL := tk_4 79 (by decide +kernel) (by decide +kernel)
theorem w78 : Cond.fieldLink RX6 47 (TX6 19).1 (TX6 19).2.1 (TX6 19).2.2.1 ∈ TBL := tk_4 80 (by decide +kernel) (by decide +kernel)
theorem w79 : Cond.fieldLink RX6 41 (TX6 14).1 (TX6 14).2.1 (TX6 14).2.2.1 ∈ TBL := tk_4 75 (by decide +kernel) (by decide +kernel)
theorem w80 : Cond.methodLink RX6 147 yX6_made ∈ TBL := tk_5 69 (by decide +kernel) (by decide +kernel)
theorem w81 : Cond.static yX6_made ∈ TBL := tk_5 70 (by decide +kernel) (by decide +kernel)
theorem w82 : Cond.code yX6_made cX6_made 3 (some .int) ∈ TBL := tk_5 71 (by decide +kernel) (by decide +kernel)
theorem w83 : Cond.methodLink RX6 150 yX6_lesser ∈ TBL := tk_5 72 (by decide +kernel) (by decide +kernel)
theorem w84 : Cond.static yX6_lesser ∈ TBL := tk_5 73 (by decide +kernel) (by decide +kernel)
theorem w85 : Cond.code yX6_lesser cX6_lesser 2 (some .int) ∈ TBL := tk_5 74 (by decide +kernel) (by decide +kernel)
theorem w86 : Cond.code yX6_standsAt cX6_standsAt 3 none ∈ TBL := tk_5 64 (by decide +kernel) (by decide +kernel)
theorem w87 : Cond.methodLink RX6 154 yX6_standsAt ∈ TBL := tk_5 61 (by decide +kernel) (by decide +kernel)
theorem w88 : Cond.instanceMethod yX6_standsAt ∈ TBL := tk_5 63 (by decide +kernel) (by decide +kernel)
theorem w89 : Cond.selects RX6 yX6_standsAt yX6_standsAt ∈ TBL := tk_0 49 (by decide +kernel) (by decide +kernel)
theorem w90 : Cond.code yX6_reads cX6_reads 6 none ∈ TBL := tk_5 68 (by decide +kernel) (by decide +kernel)
theorem w91 : Cond.methodLink RX6 157 yX6_reads ∈ TBL := tk_5 65 (by decide +kernel) (by decide +kernel)
theorem w92 : Cond.instanceMethod yX6_reads ∈ TBL := tk_5 67 (by decide +kernel) (by decide +kernel)
theorem w93 : Cond.selects RX6 yX6_reads yX6_reads ∈ TBL := tk_0 50 (by decide +kernel) (by decide +kernel)
theorem w94 : Cond.code yX6_begins cX6_begins 2 none ∈ TBL := tk_5 45 (by decide +kernel) (by decide +kernel)
theorem w95 : Cond.methodLink RX6 161 yX6_begins ∈ TBL := tk_5 42 (by decide +kernel) (by decide +kernel)
theorem w96 : Cond.instanceMethod yX6_begins ∈ TBL := tk_5 44 (by decide +kernel) (by decide +kernel)
theorem w97 : Cond.selects RX6 yX6_begins yX6_begins ∈ TBL := tk_0 45 (by decide +kernel) (by decide +kernel)
theorem w98 : Cond.code yX6_roundBy cX6_roundBy 9 (some .boolean) ∈ TBL := tk_5 60 (by decide +kernel) (by decide +kernel)
theorem w99 : Cond.methodLink RX6 164 yX6_roundBy ∈ TBL := tk_5 57 (by decide +kernel) (by decide +kernel)
theorem w100 : Cond.instanceMethod yX6_roundBy ∈ TBL := tk_5 59 (by decide +kernel) (by decide +kernel)
theorem w101 : Cond.selects RX6 yX6_roundBy yX6_roundBy ∈ TBL := tk_0 48 (by decide +kernel) (by decide +kernel)
theorem w102 : Cond.code yX6_isEnd cX6_isEnd 4 (some .boolean) ∈ TBL := tk_5 82 (by decide +kernel) (by decide +kernel)
theorem w103 : Cond.methodLink RX6 167 yX6_isEnd ∈ TBL := tk_5 79 (by decide +kernel) (by decide +kernel)
theorem w104 : Cond.instanceMethod yX6_isEnd ∈ TBL := tk_5 81 (by decide +kernel) (by decide +kernel)
theorem w105 : Cond.selects RX6 yX6_isEnd yX6_isEnd ∈ TBL := tk_0 52 (by decide +kernel) (by decide +kernel)
theorem w106 : Cond.code yX6_grows cX6_grows 6 none ∈ TBL := tk_5 41 (by decide +kernel) (by decide +kernel)
theorem w107 : Cond.methodLink RX6 170 yX6_grows ∈ TBL := tk_5 38 (by decide +kernel) (by decide +kernel)
theorem w108 : Cond.instanceMethod yX6_grows ∈ TBL := tk_5 40 (by decide +kernel) (by decide +kernel)
theorem w109 : Cond.selects RX6 yX6_grows yX6_grows ∈ TBL := tk_0 44 (by decide +kernel) (by decide +kernel)
theorem w110 : Cond.code yX6_least cX6_least 4 (some .int) ∈ TBL := tk_5 78 (by decide +kernel) (by decide +kernel)
theorem w111 : Cond.methodLink RX6 173 yX6_least ∈ TBL := tk_5 75 (by decide +kernel) (by decide +kernel)
theorem w112 : Cond.instanceMethod yX6_least ∈ TBL := tk_5 77 (by decide +kernel) (by decide +kernel)
theorem w113 : Cond.selects RX6 yX6_least yX6_least ∈ TBL := tk_0 51 (by decide +kernel) (by decide +kernel)
theorem w114 : Cond.code yX6_priceWithout cX6_priceWithout 2 (some .int) ∈ TBL := tk_5 37 (by decide +kernel) (by decide +kernel)
theorem w115 : Cond.methodLink RX6 177 yX6_priceWithout ∈ TBL := tk_5 34 (by decide +kernel) (by decide +kernel)
theorem w116 : Cond.instanceMethod yX6_priceWithout ∈ TBL := tk_5 36 (by decide +kernel) (by decide +kernel)
theorem w117 : Cond.selects RX6 yX6_priceWithout yX6_priceWithout ∈ TBL := tk_0 43 (by decide +kernel) (by decide +kernel)
theorem w118 : Cond.code yX6_price cX6_price 1 (some .int) ∈ TBL := tk_5 33 (by decide +kernel) (by decide +kernel)
theorem w119 : Cond.methodLink RX6 180 yX6_price ∈ TBL := tk_5 95 (by decide +kernel) (by decide +kernel)
theorem w120 : Cond.instanceMethod yX6_price ∈ TBL := tk_5 31 (by decide +kernel) (by decide +kernel)
theorem w121 : Cond.selects RX6 yX6_price yX6_price ∈ TBL := tk_5 32 (by decide +kernel) (by decide +kernel)
theorem w122 : Cond.fieldLink RX6 56 (TX6 23).1 (TX6 23).2.1 (TX6 23).2.2.1 ∈ TBL := tk_4 84 (by decide +kernel) (by decide +kernel)
theorem w123 : Cond.fieldLink RX6 59 (TX6 24).1 (TX6 24).2.1 (TX6 24).2.2.1 ∈ TBL := tk_4 85 (by decide +kernel) (by decide +kernel)
theorem w124 : Cond.fieldLink RX6 53 (TX6 21).1 (TX6 21).2.1 (TX6 21).2.2.1 ∈ TBL := tk_4 82 (by decide +kernel) (by decide +kernel)
theorem w125 : Cond.fieldLink RX6 183 (TX6 22).1 (TX6 22).2.1 (TX6 22).2.2.1 ∈ TBL := tk_4 83 (by decide +kernel) (by decide +kernel)
theorem w126 : Cond.fieldLink RX6 50 (TX6 20).1 (TX6 20).2.1 (TX6 20).2.2.1 ∈ TBL := tk_4 81 (by decide +kernel) (by decide +kernel)
theorem w127 : Cond.code yX6_standsOn cX6_standsOn 3 none ∈ TBL := tk_5 115 (by decide +kernel) (by decide +kernel)
theorem w128 : Cond.methodLink RX6 186 yX6_standsOn ∈ TBL := tk_5 112 (by decide +kernel) (by decide +kernel)
theorem w129 : Cond.instanceMethod yX6_standsOn ∈ TBL := tk_5 114 (by decide +kernel) (by decide +kernel)
theorem w130 : Cond.selects RX6 yX6_standsOn yX6_standsOn ∈ TBL := tk_0 55 (by decide +kernel) (by decide +kernel)
theorem w131 : Cond.code yX6_goesBy cX6_goesBy 5 none ∈ TBL := tk_5 119 (by decide +kernel) (by decide +kernel)
theorem w132 : Cond.methodLink RX6 189 yX6_goesBy ∈ TBL := tk_5 116 (by decide +kernel) (by decide +kernel)
theorem w133 : Cond.instanceMethod yX6_goesBy ∈ TBL := tk_5 118 (by decide +kernel) (by decide +kernel)
theorem w134 : Cond.selects RX6 yX6_goesBy yX6_goesBy ∈ TBL := tk_0 56 (by decide +kernel) (by decide +kernel)
theorem w135 : Cond.code yX6_puts cX6_puts 3 none ∈ TBL := tk_5 111 (by decide +kernel) (by decide +kernel)
theorem w136 : Cond.methodLink RX6 192 yX6_puts ∈ TBL := tk_5 108 (by decide +kernel) (by decide +kernel)
theorem w137 : Cond.instanceMethod yX6_puts ∈ TBL := tk_5 110 (by decide +kernel) (by decide +kernel)
theorem w138 : Cond.selects RX6 yX6_puts yX6_puts ∈ TBL := tk_0 54 (by decide +kernel) (by decide +kernel)
theorem w139 : Cond.code yX6_behind cX6_behind 3 (some .int) ∈ TBL := tk_5 127 (by decide +kernel) (by decide +kernel)
theorem w140 : Cond.methodLink RX6 195 yX6_behind ∈ TBL := tk_5 124 (by decide +kernel) (by decide +kernel)
theorem w141 : Cond.instanceMethod yX6_behind ∈ TBL := tk_5 126 (by decide +kernel) (by decide +kernel)
theorem w142 : Cond.selects RX6 yX6_behind yX6_behind ∈ TBL := tk_0 58 (by decide +kernel) (by decide +kernel)
theorem w143 : Cond.code yX6_towerBegins cX6_towerBegins 2 none ∈ TBL := tk_5 107 (by decide +kernel) (by decide +kernel)
theorem w144 : Cond.methodLink RX6 198 yX6_towerBegins ∈ TBL := tk_5 104 (by decide +kernel) (by decide +kernel)
theorem w145 : Cond.instanceMethod yX6_towerBegins ∈ TBL := tk_5 106 (by decide +kernel) (by decide +kernel)
theorem w146 : Cond.selects RX6 yX6_towerBegins yX6_towerBegins ∈ TBL := tk_0 53 (by decide +kernel) (by decide +kernel)
theorem w147 : Cond.code yX6_ruleOn cX6_ruleOn 4 (some .int) ∈ TBL := tk_5 123 (by decide +kernel) (by decide +kernel)
theorem w148 : Cond.methodLink RX6 201 yX6_ruleOn ∈ TBL := tk_5 120 (by decide +kernel) (by decide +kernel)
theorem w149 : Cond.instanceMethod yX6_ruleOn ∈ TBL := tk_5 122 (by decide +kernel) (by decide +kernel)
theorem w150 : Cond.selects RX6 yX6_ruleOn yX6_ruleOn ∈ TBL := tk_0 57 (by decide +kernel) (by decide +kernel)
theorem w151 : Cond.code yX6_towerSteps cX6_towerSteps 3 none ∈ TBL := tk_5 131 (by decide +kernel) (by decide +kernel)
theorem w152 : Cond.methodLink RX6 204 yX6_towerSteps ∈ TBL := tk_5 128 (by decide +kernel) (by decide +kernel)
theorem w153 : Cond.instanceMethod yX6_towerSteps ∈ TBL := tk_5 130 (by decide +kernel) (by decide +kernel)
theorem w154 : Cond.selects RX6 yX6_towerSteps yX6_towerSteps ∈ TBL := tk_0 59 (by decide +kernel) (by decide +kernel)
theorem w155 : Cond.fieldLink RX6 62 (TX6 25).1 (TX6 25).2.1 (TX6 25).2.2.1 ∈ TBL := tk_4 86 (by decide +kernel) (by decide +kernel)
theorem w156 : Cond.code yX6_popsBy cX6_popsBy 4 (some .int) ∈ TBL := tk_5 151 (by decide +kernel) (by decide +kernel)
theorem w157 : Cond.methodLink RX6 207 yX6_popsBy ∈ TBL := tk_5 148 (by decide +kernel) (by decide +kernel)
theorem w158 : Cond.instanceMethod yX6_popsBy ∈ TBL := tk_5 150 (by decide +kernel) (by decide +kernel)
theorem w159 : Cond.selects RX6 yX6_popsBy yX6_popsBy ∈ TBL := tk_0 63 (by decide +kernel) (by decide +kernel)
theorem w160 : Cond.code yX6_isGone cX6_isGone 8 (some .boolean) ∈ TBL := tk_5 147 (by decide +kernel) (by decide +kernel)
theorem w161 : Cond.methodLink RX6 210 yX6_isGone ∈ TBL := tk_5 144 (by decide +kernel) (by decide +kernel)
theorem w162 : Cond.instanceMethod yX6_isGone ∈ TBL := tk_5 146 (by decide +kernel) (by decide +kernel)
theorem w163 : Cond.selects RX6 yX6_isGone yX6_isGone ∈ TBL := tk_0 62 (by decide +kernel) (by decide +kernel)
theorem w164 : Cond.fieldLink RX6 68 (TX6 27).1 (TX6 27).2.1 (TX6 27).2.2.1 ∈ TBL := tk_4 88 (by decide +kernel) (by decide +kernel)
theorem w165 : Cond.fieldLink RX6 65 (TX6 26).1 (TX6 26).2.1 (TX6 26).2.2.1 ∈ TBL := tk_4 87 (by decide +kernel) (by decide +kernel)
theorem w166 : Cond.code yX6_setPops cX6_setPops 5 none ∈ TBL := tk_5 143 (by decide +kernel) (by decide +kernel)
theorem w167 : Cond.methodLink RX6 214 yX6_setPops ∈ TBL := tk_5 140 (by decide +kernel) (by decide +kernel)
theorem w168 : Cond.instanceMethod yX6_setPops ∈ TBL := tk_5 142 (by decide +kernel) (by decide +kernel)
theorem w169 : Cond.selects RX6 yX6_setPops yX6_setPops ∈ TBL := tk_0 61 (by decide +kernel) (by decide +kernel)
theorem w170 : Cond.code yX6_headsOfPile cX6_headsOfPile 6 none ∈ TBL := tk_5 155 (by decide +kernel) (by decide +kernel)
theorem w171 : Cond.methodLink RX6 217 yX6_headsOfPile ∈ TBL := tk_5 152 (by decide +kernel) (by decide +kernel)
theorem w172 : Cond.instanceMethod yX6_headsOfPile ∈ TBL := tk_5 154 (by decide +kernel) (by decide +kernel)
theorem w173 : Cond.selects RX6 yX6_headsOfPile yX6_headsOfPile ∈ TBL := tk_0 64 (by decide +kernel) (by decide +kernel)
theorem w174 : Cond.code yX6_headMany cX6_headMany 3 (some .int) ∈ TBL := tk_5 159 (by decide +kernel) (by decide +kernel)
theorem w175 : Cond.methodLink RX6 220 yX6_headMany ∈ TBL := tk_5 156 (by decide +kernel) (by decide +kernel)
theorem w176 : Cond.instanceMethod yX6_headMany ∈ TBL := tk_5 158 (by decide +kernel) (by decide +kernel)
theorem w177 : Cond.selects RX6 yX6_headMany yX6_headMany ∈ TBL := tk_0 65 (by decide +kernel) (by decide +kernel)
theorem w178 : Cond.code yX6_headsOf cX6_headsOf 5 none ∈ TBL := tk_5 163 (by decide +kernel) (by decide +kernel)
theorem w179 : Cond.methodLink RX6 223 yX6_headsOf ∈ TBL := tk_5 160 (by decide +kernel) (by decide +kernel)
theorem w180 : Cond.instanceMethod yX6_headsOf ∈ TBL := tk_5 162 (by decide +kernel) (by decide +kernel)
theorem w181 : Cond.selects RX6 yX6_headsOf yX6_headsOf ∈ TBL := tk_0 66 (by decide +kernel) (by decide +kernel)
theorem w182 : Cond.code yX6_setHeads cX6_setHeads 3 none ∈ TBL := tk_5 139 (by decide +kernel) (by decide +kernel)
theorem w183 : Cond.methodLink RX6 226 yX6_setHeads ∈ TBL := tk_5 136 (by decide +kernel) (by decide +kernel)
theorem w184 : Cond.instanceMethod yX6_setHeads ∈ TBL := tk_5 138 (by decide +kernel) (by decide +kernel)
theorem w185 : Cond.selects RX6 yX6_setHeads yX6_setHeads ∈ TBL := tk_0 60 (by decide +kernel) (by decide +kernel)
theorem w186 : Cond.constantLong RX6 232 (7919) ∈ TBL := tk_5 184 (by decide +kernel) (by decide +kernel)
theorem w187 : Cond.constantLong RX6 234 (6151) ∈ TBL := tk_5 185 (by decide +kernel) (by decide +kernel)
theorem w188 : Cond.constantLong RX6 236 (65521) ∈ TBL := tk_5 186 (by decide +kernel) (by decide +kernel)
theorem w189 : Cond.constantLong RX6 238 (4) ∈ TBL := tk_5 187 (by decide +kernel) (by decide +kernel)
theorem w190 : Cond.code yX6_fitting cX6_fitting 3 (some .int) ∈ TBL := tk_5 183 (by decide +kernel) (by decide +kernel)
theorem w191 : Cond.methodLink RX6 229 yX6_fitting ∈ TBL := tk_5 180 (by decide +kernel) (by decide +kernel)
theorem w192 : Cond.instanceMethod yX6_fitting ∈ TBL := tk_5 182 (by decide +kernel) (by decide +kernel)
theorem w193 : Cond.selects RX6 yX6_fitting yX6_fitting ∈ TBL := tk_0 68 (by decide +kernel) (by decide +kernel)
theorem w194 : Cond.code yX6_fittingAt cX6_fittingAt 4 (some .int) ∈ TBL := tk_5 191 (by decide +kernel) (by decide +kernel)
theorem w195 : Cond.methodLink RX6 240 yX6_fittingAt ∈ TBL := tk_5 188 (by decide +kernel) (by decide +kernel)
theorem w196 : Cond.instanceMethod yX6_fittingAt ∈ TBL := tk_5 190 (by decide +kernel) (by decide +kernel)
theorem w197 : Cond.selects RX6 yX6_fittingAt yX6_fittingAt ∈ TBL := tk_0 69 (by decide +kernel) (by decide +kernel)
theorem w198 : Cond.fieldLink RX6 71 (TX6 28).1 (TX6 28).2.1 (TX6 28).2.2.1 ∈ TBL := tk_4 89 (by decide +kernel) (by decide +kernel)
theorem w199 : Cond.code yX6_walks cX6_walks 7 (some .boolean) ∈ TBL := tk_5 179 (by decide +kernel) (by decide +kernel)
theorem w200 : Cond.methodLink RX6 243 yX6_walks ∈ TBL := tk_5 176 (by decide +kernel) (by decide +kernel)
theorem w201 : Cond.instanceMethod yX6_walks ∈ TBL := tk_5 178 (by decide +kernel) (by decide +kernel)
theorem w202 : Cond.selects RX6 yX6_walks yX6_walks ∈ TBL := tk_0 67 (by decide +kernel) (by decide +kernel)
theorem w203 : Cond.fieldLink RX6 265 (TX6 35).1 (TX6 35).2.1 (TX6 35).2.2.1 ∈ TBL := tk_4 96 (by decide +kernel) (by decide +kernel)
theorem w204 : Cond.code yX6_figure cX6_figure 3 (some .boolean) ∈ TBL := tk_5 219 (by decide +kernel) (by decide +kernel)
theorem w205 : Cond.methodLink RX6 262 yX6_figure ∈ TBL := tk_5 216 (by decide +kernel) (by decide +kernel)
theorem w206 : Cond.instanceMethod yX6_figure ∈ TBL := tk_5 218 (by decide +kernel) (by decide +kernel)
theorem w207 : Cond.selects RX6 yX6_figure yX6_figure ∈ TBL := tk_0 73 (by decide +kernel) (by decide +kernel)
theorem w208 : Cond.fieldLink RX6 268 (TX6 36).1 (TX6 36).2.1 (TX6 36).2.2.1 ∈ TBL := tk_4 97 (by decide +kernel) (by decide +kernel)
theorem w209 : Cond.code yX6_sign cX6_sign 2 (some .boolean) ∈ TBL := tk_5 227 (by decide +kernel) (by decide +kernel)
theorem w210 : Cond.methodLink RX6 271 yX6_sign ∈ TBL := tk_5 224 (by decide +kernel) (by decide +kernel)
theorem w211 : Cond.instanceMethod yX6_sign ∈ TBL := tk_5 226 (by decide +kernel) (by decide +kernel)
theorem w212 : Cond.selects RX6 yX6_sign yX6_sign ∈ TBL := tk_0 75 (by decide +kernel) (by decide +kernel)
theorem w213 : Cond.code yX6_word cX6_word 2 (some .boolean) ∈ TBL := tk_5 231 (by decide +kernel) (by decide +kernel)
theorem w214 : Cond.methodLink RX6 274 yX6_word ∈ TBL := tk_5 228 (by decide +kernel) (by decide +kernel)
theorem w215 : Cond.instanceMethod yX6_word ∈ TBL := tk_5 230 (by decide +kernel) (by decide +kernel)
theorem w216 : Cond.selects RX6 yX6_word yX6_word ∈ TBL := tk_0 76 (by decide +kernel) (by decide +kernel)
theorem w217 : Cond.fieldLink RX6 277 (TX6 37).1 (TX6 37).2.1 (TX6 37).2.2.1 ∈ TBL := tk_4 98 (by decide +kernel) (by decide +kernel)
theorem w218 : Cond.code yX6_readsConfiguration cX6_readsConfiguration 3 (some .boolean) ∈ TBL := tk_6 3 (by decide +kernel) (by decide +kernel)
theorem w219 : Cond.methodLink RX6 291 yX6_readsConfiguration ∈ TBL := tk_6 0 (by decide +kernel) (by decide +kernel)
theorem w220 : Cond.instanceMethod yX6_readsConfiguration ∈ TBL := tk_6 2 (by decide +kernel) (by decide +kernel)
theorem w221 : Cond.selects RX6 yX6_readsConfiguration yX6_readsConfiguration ∈ TBL := tk_0 79 (by decide +kernel) (by decide +kernel)
theorem w222 : Cond.code yX6_readsTarget cX6_readsTarget 6 (some .boolean) ∈ TBL := tk_5 239 (by decide +kernel) (by decide +kernel)
theorem w223 : Cond.methodLink RX6 288 yX6_readsTarget ∈ TBL := tk_5 236 (by decide +kernel) (by decide +kernel)
theorem w224 : Cond.instanceMethod yX6_readsTarget ∈ TBL := tk_5 238 (by decide +kernel) (by decide +kernel)
theorem w225 : Cond.selects RX6 yX6_readsTarget yX6_readsTarget ∈ TBL := tk_0 78 (by decide +kernel) (by decide +kernel)
theorem w226 : Cond.code yX6_readsRule cX6_readsRule 6 (some .boolean) ∈ TBL := tk_5 223 (by decide +kernel) (by decide +kernel)
theorem w227 : Cond.methodLink RX6 284 yX6_readsRule ∈ TBL := tk_5 220 (by decide +kernel) (by decide +kernel)
theorem w228 : Cond.instanceMethod yX6_readsRule ∈ TBL := tk_5 222 (by decide +kernel) (by decide +kernel)
theorem w229 : Cond.selects RX6 yX6_readsRule yX6_readsRule ∈ TBL := tk_0 74 (by decide +kernel) (by decide +kernel)
theorem w230 : Cond.code yX6_readsStates cX6_readsStates 3 (some .boolean) ∈ TBL := tk_5 215 (by decide +kernel) (by decide +kernel)
theorem w231 : Cond.methodLink RX6 280 yX6_readsStates ∈ TBL := tk_5 212 (by decide +kernel) (by decide +kernel)
theorem w232 : Cond.instanceMethod yX6_readsStates ∈ TBL := tk_5 214 (by decide +kernel) (by decide +kernel)
theorem w233 : Cond.selects RX6 yX6_readsStates yX6_readsStates ∈ TBL := tk_0 72 (by decide +kernel) (by decide +kernel)
theorem w234 : Cond.code yX6_readsItem cX6_readsItem 5 (some .boolean) ∈ TBL := tk_5 211 (by decide +kernel) (by decide +kernel)
theorem w235 : Cond.methodLink RX6 294 yX6_readsItem ∈ TBL := tk_5 208 (by decide +kernel) (by decide +kernel)
theorem w236 : Cond.instanceMethod yX6_readsItem ∈ TBL := tk_5 210 (by decide +kernel) (by decide +kernel)
theorem w237 : Cond.selects RX6 yX6_readsItem yX6_readsItem ∈ TBL := tk_0 71 (by decide +kernel) (by decide +kernel)
theorem w238 : Cond.code yX6_goesThrough cX6_goesThrough 3 (some .int) ∈ TBL := tk_5 207 (by decide +kernel) (by decide +kernel)
theorem w239 : Cond.methodLink RX6 297 yX6_goesThrough ∈ TBL := tk_5 204 (by decide +kernel) (by decide +kernel)
theorem w240 : Cond.instanceMethod yX6_goesThrough ∈ TBL := tk_5 206 (by decide +kernel) (by decide +kernel)
theorem w241 : Cond.selects RX6 yX6_goesThrough yX6_goesThrough ∈ TBL := tk_0 70 (by decide +kernel) (by decide +kernel)
theorem w242 : Cond.constantLong RX5 292 (7919) ∈ TBL := tk_4 34 (by decide +kernel) (by decide +kernel)
theorem w243 : Cond.constantLong RX5 294 (6151) ∈ TBL := tk_4 35 (by decide +kernel) (by decide +kernel)
theorem w244 : Cond.constantLong RX5 296 (65521) ∈ TBL := tk_4 36 (by decide +kernel) (by decide +kernel)
theorem w245 : Cond.fieldLink RX4 43 (TX4 0).1 (TX4 0).2.1 (TX4 0).2.2.1 ∈ TBL := tk_1 51 (by decide +kernel) (by decide +kernel)
theorem w246 : Cond.fieldLink RX4 47 (TX4 1).1 (TX4 1).2.1 (TX4 1).2.2.1 ∈ TBL := tk_1 55 (by decide +kernel) (by decide +kernel)
theorem w247 : Cond.fieldLink RX4 50 (TX4 7).1 (TX4 7).2.1 (TX4 7).2.2.1 ∈ TBL := tk_1 83 (by decide +kernel) (by decide +kernel)
theorem w248 : Cond.fieldLink RX4 53 (TX4 12).1 (TX4 12).2.1 (TX4 12).2.2.1 ∈ TBL := tk_1 98 (by decide +kernel) (by decide +kernel)
theorem w249 : Cond.fieldLink RX4 56 (TX4 13).1 (TX4 13).2.1 (TX4 13).2.2.1 ∈ TBL := tk_1 102 (by decide +kernel) (by decide +kernel)
theorem w250 : Cond.fieldLink RX4 59 (TX4 14).1 (TX4 14).2.1 (TX4 14).2.2.1 ∈ TBL := tk_1 108 (by decide +kernel) (by decide +kernel)
theorem w251 : Cond.fieldLink RX4 9 (TX4 2).1 (TX4 2).2.1 (TX4 2).2.2.1 ∈ TBL := tk_1 60 (by decide +kernel) (by decide +kernel)
theorem w252 : Cond.methodLink RX4 62 arraycopyName ∈ TBL := tk_2 199 (by decide +kernel) (by decide +kernel)
theorem w253 : Cond.native arraycopyName ∈ TBL := tk_2 201 (by decide +kernel) (by decide +kernel)
theorem w254 : Cond.static arraycopyName ∈ TBL := tk_2 200 (by decide +kernel) (by decide +kernel)
theorem w255 : Cond.initialized "java/lang/System" ∈ TBL := tk_1 12 (by decide +kernel) (by decide +kernel)
theorem w256 : Cond.fieldLink RX4 15 (TX4 3).1 (TX4 3).2.1 (TX4 3).2.2.1 ∈ TBL := tk_1 65 (by decide +kernel) (by decide +kernel)
theorem w257 : Cond.fieldLink RX4 18 (TX4 4).1 (TX4 4).2.1 (TX4 4).2.2.1 ∈ TBL := tk_1 70 (by decide +kernel) (by decide +kernel)
theorem w258 : Cond.fieldLink RX4 21 (TX4 5).1 (TX4 5).2.1 (TX4 5).2.2.1 ∈ TBL := tk_1 75 (by decide +kernel) (by decide +kernel)
theorem w259 : Cond.fieldLink RX4 24 (TX4 6).1 (TX4 6).2.1 (TX4 6).2.2.1 ∈ TBL := tk_1 80 (by decide +kernel) (by decide +kernel)
theorem w260 : Cond.fieldLink RX4 37 (TX4 11).1 (TX4 11).2.1 (TX4 11).2.2.1 ∈ TBL := tk_1 95 (by decide +kernel) (by decide +kernel)
theorem w261 : Cond.fieldLink RX4 40 (TX4 15).1 (TX4 15).2.1 (TX4 15).2.2.1 ∈ TBL := tk_1 113 (by decide +kernel) (by decide +kernel)
theorem w262 : Cond.fieldLink RX4 27 (TX4 8).1 (TX4 8).2.1 (TX4 8).2.2.1 ∈ TBL := tk_1 86 (by decide +kernel) (by decide +kernel)
theorem w263 : Cond.fieldLink RX4 30 (TX4 9).1 (TX4 9).2.1 (TX4 9).2.2.1 ∈ TBL := tk_1 89 (by decide +kernel) (by decide +kernel)
theorem w264 : Cond.fieldLink RX4 33 (TX4 10).1 (TX4 10).2.1 (TX4 10).2.2.1 ∈ TBL := tk_1 92 (by decide +kernel) (by decide +kernel)
theorem w265 : Cond.static yX5_lettersIn ∈ TBL := tk_2 215 (by decide +kernel) (by decide +kernel)
theorem w266 : Cond.initialized RX5 ∈ TBL := tk_1 1 (by decide +kernel) (by decide +kernel)
theorem w267 : Cond.code yX5_lettersIn cX5_lettersIn 1 (some .int) ∈ TBL := tk_2 216 (by decide +kernel) (by decide +kernel)
theorem w268 : Cond.static yX5_firstLetter ∈ TBL := tk_2 218 (by decide +kernel) (by decide +kernel)
theorem w269 : Cond.code yX5_firstLetter cX5_firstLetter 1 (some .int) ∈ TBL := tk_2 219 (by decide +kernel) (by decide +kernel)
theorem w270 : Cond.static yX5_secondLetter ∈ TBL := tk_2 221 (by decide +kernel) (by decide +kernel)
theorem w271 : Cond.code yX5_secondLetter cX5_secondLetter 1 (some .int) ∈ TBL := tk_2 222 (by decide +kernel) (by decide +kernel)
theorem w272 : Cond.code yX4_takeLetter cX4_takeLetter 1 (some .int) ∈ TBL := tk_3 10 (by decide +kernel) (by decide +kernel)
theorem w273 : Cond.methodLink RX4 72 yX4_takeLetter ∈ TBL := tk_3 28 (by decide +kernel) (by decide +kernel)
theorem w274 : Cond.instanceMethod yX4_takeLetter ∈ TBL := tk_3 8 (by decide +kernel) (by decide +kernel)
theorem w275 : Cond.selects RX4 yX4_takeLetter yX4_takeLetter ∈ TBL := tk_3 9 (by decide +kernel) (by decide +kernel)
theorem w276 : Cond.initialized RX4 ∈ TBL := tk_1 3 (by decide +kernel) (by decide +kernel)
theorem w277 : Cond.code yX4_putLetter cX4_putLetter 2 none ∈ TBL := tk_2 120 (by decide +kernel) (by decide +kernel)
theorem w278 : Cond.methodLink RX4 79 yX4_putLetter ∈ TBL := tk_3 30 (by decide +kernel) (by decide +kernel)
theorem w279 : Cond.instanceMethod yX4_putLetter ∈ TBL := tk_2 118 (by decide +kernel) (by decide +kernel)
theorem w280 : Cond.selects RX4 yX4_putLetter yX4_putLetter ∈ TBL := tk_2 119 (by decide +kernel) (by decide +kernel)
theorem w281 : Cond.code yX4_applies cX4_applies 2 (some .boolean) ∈ TBL := tk_3 18 (by decide +kernel) (by decide +kernel)
theorem w282 : Cond.methodLink RX4 90 yX4_applies ∈ TBL := tk_4 42 (by decide +kernel) (by decide +kernel)
theorem w283 : Cond.instanceMethod yX4_applies ∈ TBL := tk_3 16 (by decide +kernel) (by decide +kernel)
theorem w284 : Cond.selects RX4 yX4_applies yX4_applies ∈ TBL := tk_3 17 (by decide +kernel) (by decide +kernel)
theorem w285 : Cond.code yX4_rulesFor cX4_rulesFor 5 (some .int) ∈ TBL := tk_3 239 (by decide +kernel) (by decide +kernel)
theorem w286 : Cond.methodLink RX4 86 yX4_rulesFor ∈ TBL := tk_4 41 (by decide +kernel) (by decide +kernel)
theorem w287 : Cond.instanceMethod yX4_rulesFor ∈ TBL := tk_3 237 (by decide +kernel) (by decide +kernel)
theorem w288 : Cond.selects RX4 yX4_rulesFor yX4_rulesFor ∈ TBL := tk_3 238 (by decide +kernel) (by decide +kernel)
theorem w289 : Cond.fieldLink RX3 19 (TX3 1).1 (TX3 1).2.1 (TX3 1).2.2.1 ∈ TBL := tk_1 30 (by decide +kernel) (by decide +kernel)
theorem w290 : Cond.fieldLink RX3 9 (TX3 0).1 (TX3 0).2.1 (TX3 0).2.2.1 ∈ TBL := tk_1 29 (by decide +kernel) (by decide +kernel)
theorem w291 : Cond.fieldLink RX3 28 (TX3 2).1 (TX3 2).2.1 (TX3 2).2.2.1 ∈ TBL := tk_1 32 (by decide +kernel) (by decide +kernel)
theorem w292 : Cond.fieldLink RX3 15 (TX3 3).1 (TX3 3).2.1 (TX3 3).2.2.1 ∈ TBL := tk_1 33 (by decide +kernel) (by decide +kernel)
theorem w293 : Cond.code yX3_readLetter cX3_readLetter 2 (some .int) ∈ TBL := tk_2 89 (by decide +kernel) (by decide +kernel)
theorem w294 : Cond.methodLink RX3 62 yX3_readLetter ∈ TBL := tk_2 86 (by decide +kernel) (by decide +kernel)
theorem w295 : Cond.instanceMethod yX3_readLetter ∈ TBL := tk_2 88 (by decide +kernel) (by decide +kernel)
theorem w296 : Cond.selects RX3 yX3_readLetter yX3_readLetter ∈ TBL := tk_0 5 (by decide +kernel) (by decide +kernel)
theorem w297 : Cond.initialized RX3 ∈ TBL := tk_1 2 (by decide +kernel) (by decide +kernel)
theorem w298 : Cond.static yX5_wordOf ∈ TBL := tk_2 99 (by decide +kernel) (by decide +kernel)
theorem w299 : Cond.code yX5_wordOf cX5_wordOf 2 (some .int) ∈ TBL := tk_2 100 (by decide +kernel) (by decide +kernel)
theorem w300 : Cond.fieldLink RX3 59 (TX4 0).1 (TX4 0).2.1 (TX4 0).2.2.1 ∈ TBL := tk_1 53 (by decide +kernel) (by decide +kernel)
theorem w301 : Cond.code yX3_readDigit cX3_readDigit 3 (some .int) ∈ TBL := tk_2 77 (by decide +kernel) (by decide +kernel)
theorem w302 : Cond.methodLink RX3 51 yX3_readDigit ∈ TBL := tk_2 74 (by decide +kernel) (by decide +kernel)
theorem w303 : Cond.instanceMethod yX3_readDigit ∈ TBL := tk_2 76 (by decide +kernel) (by decide +kernel)
theorem w304 : Cond.selects RX3 yX3_readDigit yX3_readDigit ∈ TBL := tk_0 2 (by decide +kernel) (by decide +kernel)
theorem w305 : Cond.code yX3_readSign cX3_readSign 2 (some .boolean) ∈ TBL := tk_2 81 (by decide +kernel) (by decide +kernel)
theorem w306 : Cond.methodLink RX3 55 yX3_readSign ∈ TBL := tk_2 78 (by decide +kernel) (by decide +kernel)
theorem w307 : Cond.instanceMethod yX3_readSign ∈ TBL := tk_2 80 (by decide +kernel) (by decide +kernel)
theorem w308 : Cond.selects RX3 yX3_readSign yX3_readSign ∈ TBL := tk_0 3 (by decide +kernel) (by decide +kernel)
theorem w309 : Cond.code yX3_readWord cX3_readWord 5 (some .int) ∈ TBL := tk_2 93 (by decide +kernel) (by decide +kernel)
theorem w310 : Cond.methodLink RX3 66 yX3_readWord ∈ TBL := tk_2 90 (by decide +kernel) (by decide +kernel)
theorem w311 : Cond.instanceMethod yX3_readWord ∈ TBL := tk_2 92 (by decide +kernel) (by decide +kernel)
theorem w312 : Cond.selects RX3 yX3_readWord yX3_readWord ∈ TBL := tk_0 6 (by decide +kernel) (by decide +kernel)
theorem w313 : Cond.code yX3_wordFrom cX3_wordFrom 2 (some .int) ∈ TBL := tk_2 97 (by decide +kernel) (by decide +kernel)
theorem w314 : Cond.methodLink RX3 69 yX3_wordFrom ∈ TBL := tk_2 94 (by decide +kernel) (by decide +kernel)
theorem w315 : Cond.instanceMethod yX3_wordFrom ∈ TBL := tk_2 96 (by decide +kernel) (by decide +kernel)
theorem w316 : Cond.selects RX3 yX3_wordFrom yX3_wordFrom ∈ TBL := tk_0 7 (by decide +kernel) (by decide +kernel)
theorem w317 : Cond.code yX4_addRule cX4_addRule 6 (some .boolean) ∈ TBL := tk_2 104 (by decide +kernel) (by decide +kernel)
theorem w318 : Cond.methodLink RX3 72 yX4_addRule ∈ TBL := tk_2 101 (by decide +kernel) (by decide +kernel)
theorem w319 : Cond.instanceMethod yX4_addRule ∈ TBL := tk_2 102 (by decide +kernel) (by decide +kernel)
theorem w320 : Cond.selects RX4 yX4_addRule yX4_addRule ∈ TBL := tk_2 103 (by decide +kernel) (by decide +kernel)
theorem w321 : Cond.code yX4_addTarget cX4_addTarget 6 (some .boolean) ∈ TBL := tk_2 112 (by decide +kernel) (by decide +kernel)
theorem w322 : Cond.methodLink RX3 76 yX4_addTarget ∈ TBL := tk_2 109 (by decide +kernel) (by decide +kernel)
theorem w323 : Cond.instanceMethod yX4_addTarget ∈ TBL := tk_2 110 (by decide +kernel) (by decide +kernel)
theorem w324 : Cond.selects RX4 yX4_addTarget yX4_addTarget ∈ TBL := tk_2 111 (by decide +kernel) (by decide +kernel)
theorem w325 : Cond.fieldLink RX3 80 (TX4 13).1 (TX4 13).2.1 (TX4 13).2.2.1 ∈ TBL := tk_1 105 (by decide +kernel) (by decide +kernel)
theorem w326 : Cond.fieldLink RX3 83 (TX4 14).1 (TX4 14).2.1 (TX4 14).2.2.1 ∈ TBL := tk_1 111 (by decide +kernel) (by decide +kernel)
theorem w327 : Cond.methodLink RX3 86 yX4_putLetter ∈ TBL := tk_2 117 (by decide +kernel) (by decide +kernel)
theorem w328 : Cond.fieldLink RX3 90 (TX4 12).1 (TX4 12).2.1 (TX4 12).2.2.1 ∈ TBL := tk_1 99 (by decide +kernel) (by decide +kernel)
theorem w329 : Cond.code yX3_readConfiguration cX3_readConfiguration 5 (some .boolean) ∈ TBL := tk_2 116 (by decide +kernel) (by decide +kernel)
theorem w330 : Cond.methodLink RX3 45 yX3_readConfiguration ∈ TBL := tk_2 113 (by decide +kernel) (by decide +kernel)
theorem w331 : Cond.instanceMethod yX3_readConfiguration ∈ TBL := tk_2 115 (by decide +kernel) (by decide +kernel)
theorem w332 : Cond.selects RX3 yX3_readConfiguration yX3_readConfiguration ∈ TBL := tk_0 9 (by decide +kernel) (by decide +kernel)
theorem w333 : Cond.code yX3_readMode cX3_readMode 3 (some .boolean) ∈ TBL := tk_2 124 (by decide +kernel) (by decide +kernel)
theorem w334 : Cond.methodLink RX3 48 yX3_readMode ∈ TBL := tk_2 121 (by decide +kernel) (by decide +kernel)
theorem w335 : Cond.instanceMethod yX3_readMode ∈ TBL := tk_2 123 (by decide +kernel) (by decide +kernel)
theorem w336 : Cond.selects RX3 yX3_readMode yX3_readMode ∈ TBL := tk_0 10 (by decide +kernel) (by decide +kernel)
theorem w337 : Cond.code yX3_readStates cX3_readStates 3 (some .boolean) ∈ TBL := tk_2 73 (by decide +kernel) (by decide +kernel)
theorem w338 : Cond.methodLink RX3 35 yX3_readStates ∈ TBL := tk_2 70 (by decide +kernel) (by decide +kernel)
theorem w339 : Cond.instanceMethod yX3_readStates ∈ TBL := tk_2 72 (by decide +kernel) (by decide +kernel)
theorem w340 : Cond.selects RX3 yX3_readStates yX3_readStates ∈ TBL := tk_0 1 (by decide +kernel) (by decide +kernel)
theorem w341 : Cond.code yX3_readRule cX3_readRule 7 (some .boolean) ∈ TBL := tk_2 85 (by decide +kernel) (by decide +kernel)
theorem w342 : Cond.methodLink RX3 39 yX3_readRule ∈ TBL := tk_2 82 (by decide +kernel) (by decide +kernel)
theorem w343 : Cond.instanceMethod yX3_readRule ∈ TBL := tk_2 84 (by decide +kernel) (by decide +kernel)
theorem w344 : Cond.selects RX3 yX3_readRule yX3_readRule ∈ TBL := tk_0 4 (by decide +kernel) (by decide +kernel)
theorem w345 : Cond.code yX3_readTarget cX3_readTarget 5 (some .boolean) ∈ TBL := tk_2 108 (by decide +kernel) (by decide +kernel)
theorem w346 : Cond.methodLink RX3 42 yX3_readTarget ∈ TBL := tk_2 105 (by decide +kernel) (by decide +kernel)
theorem w347 : Cond.instanceMethod yX3_readTarget ∈ TBL := tk_2 107 (by decide +kernel) (by decide +kernel)
theorem w348 : Cond.selects RX3 yX3_readTarget yX3_readTarget ∈ TBL := tk_0 8 (by decide +kernel) (by decide +kernel)
theorem w349 : Cond.code yX4_clear cX4_clear 1 none ∈ TBL := tk_2 65 (by decide +kernel) (by decide +kernel)
theorem w350 : Cond.methodLink RX3 23 yX4_clear ∈ TBL := tk_2 62 (by decide +kernel) (by decide +kernel)
theorem w351 : Cond.instanceMethod yX4_clear ∈ TBL := tk_2 63 (by decide +kernel) (by decide +kernel)
theorem w352 : Cond.selects RX4 yX4_clear yX4_clear ∈ TBL := tk_2 64 (by decide +kernel) (by decide +kernel)
theorem w353 : Cond.code yX3_readItem cX3_readItem 4 (some .boolean) ∈ TBL := tk_2 69 (by decide +kernel) (by decide +kernel)
theorem w354 : Cond.methodLink RX3 31 yX3_readItem ∈ TBL := tk_2 66 (by decide +kernel) (by decide +kernel)
theorem w355 : Cond.instanceMethod yX3_readItem ∈ TBL := tk_2 68 (by decide +kernel) (by decide +kernel)
theorem w356 : Cond.selects RX3 yX3_readItem yX3_readItem ∈ TBL := tk_0 0 (by decide +kernel) (by decide +kernel)
theorem w357 : Cond.fieldLink RX0 31 (TX0 0).1 (TX0 0).2.1 (TX0 0).2.2.1 ∈ TBL := tk_1 159 (by decide +kernel) (by decide +kernel)
theorem w358 : Cond.fieldLink RX0 35 (TX0 8).1 (TX0 8).2.1 (TX0 8).2.2.1 ∈ TBL := tk_1 173 (by decide +kernel) (by decide +kernel)
theorem w359 : Cond.methodLink RX0 138 Lib.Math.max.name ∈ TBL := tk_3 115 (by decide +kernel) (by decide +kernel)
theorem w360 : Cond.static Lib.Math.max.name ∈ TBL := tk_3 116 (by decide +kernel) (by decide +kernel)
theorem w361 : Cond.initialized "java/lang/Math" ∈ TBL := tk_1 13 (by decide +kernel) (by decide +kernel)
theorem w362 : Cond.code Lib.Math.max.name Lib.Math.max.code 2 (some .int) ∈ TBL := tk_3 117 (by decide +kernel) (by decide +kernel)
theorem w363 : Cond.fieldLink RX0 25 (TX0 9).1 (TX0 9).2.1 (TX0 9).2.2.1 ∈ TBL := tk_1 174 (by decide +kernel) (by decide +kernel)
theorem w364 : Cond.constant RX0 77 (1000000000) ∈ TBL := tk_3 84 (by decide +kernel) (by decide +kernel)
theorem w365 : Cond.fieldLink RX0 28 (TX0 10).1 (TX0 10).2.1 (TX0 10).2.2.1 ∈ TBL := tk_1 175 (by decide +kernel) (by decide +kernel)
theorem w366 : Cond.fieldLink RX2 48 (TX2 4).1 (TX2 4).2.1 (TX2 4).2.2.1 ∈ TBL := tk_1 209 (by decide +kernel) (by decide +kernel)
theorem w367 : Cond.constant RX2 58 (1000000000) ∈ TBL := tk_3 158 (by decide +kernel) (by decide +kernel)
theorem w368 : Cond.fieldLink RX2 29 (TX2 6).1 (TX2 6).2.1 (TX2 6).2.2.1 ∈ TBL := tk_1 211 (by decide +kernel) (by decide +kernel)
theorem w369 : Cond.fieldLink RX2 51 (TX0 0).1 (TX0 0).2.1 (TX0 0).2.2.1 ∈ TBL := tk_1 160 (by decide +kernel) (by decide +kernel)
theorem w370 : Cond.fieldLink RX2 15 (TX2 1).1 (TX2 1).2.1 (TX2 1).2.2.1 ∈ TBL := tk_1 206 (by decide +kernel) (by decide +kernel)
theorem w371 : Cond.fieldLink RX2 9 (TX2 0).1 (TX2 0).2.1 (TX2 0).2.2.1 ∈ TBL := tk_1 205 (by decide +kernel) (by decide +kernel)
theorem w372 : Cond.fieldLink RX1 15 (TX1 1).1 (TX1 1).2.1 (TX1 1).2.2.1 ∈ TBL := tk_1 235 (by decide +kernel) (by decide +kernel)
theorem w373 : Cond.fieldLink RX1 9 (TX1 0).1 (TX1 0).2.1 (TX1 0).2.2.1 ∈ TBL := tk_1 234 (by decide +kernel) (by decide +kernel)
theorem w374 : Cond.code yX1_afterLetter cX1_afterLetter 5 (some .int) ∈ TBL := tk_3 204 (by decide +kernel) (by decide +kernel)
theorem w375 : Cond.methodLink RX1 58 yX1_afterLetter ∈ TBL := tk_3 201 (by decide +kernel) (by decide +kernel)
theorem w376 : Cond.instanceMethod yX1_afterLetter ∈ TBL := tk_3 203 (by decide +kernel) (by decide +kernel)
theorem w377 : Cond.selects RX1 yX1_afterLetter yX1_afterLetter ∈ TBL := tk_0 31 (by decide +kernel) (by decide +kernel)
theorem w378 : Cond.initialized RX1 ∈ TBL := tk_1 6 (by decide +kernel) (by decide +kernel)
theorem w379 : Cond.fieldLink RX1 30 (TX4 1).1 (TX4 1).2.1 (TX4 1).2.2.1 ∈ TBL := tk_1 57 (by decide +kernel) (by decide +kernel)
theorem w380 : Cond.fieldLink RX1 35 (TX4 2).1 (TX4 2).2.1 (TX4 2).2.2.1 ∈ TBL := tk_1 61 (by decide +kernel) (by decide +kernel)
theorem w381 : Cond.fieldLink RX1 38 (TX4 3).1 (TX4 3).2.1 (TX4 3).2.2.1 ∈ TBL := tk_1 66 (by decide +kernel) (by decide +kernel)
theorem w382 : Cond.fieldLink RX1 41 (TX4 4).1 (TX4 4).2.1 (TX4 4).2.2.1 ∈ TBL := tk_1 71 (by decide +kernel) (by decide +kernel)
theorem w383 : Cond.fieldLink RX1 44 (TX4 5).1 (TX4 5).2.1 (TX4 5).2.2.1 ∈ TBL := tk_1 76 (by decide +kernel) (by decide +kernel)
theorem w384 : Cond.code yX1_afterWord cX1_afterWord 4 (some .int) ∈ TBL := tk_3 198 (by decide +kernel) (by decide +kernel)
theorem w385 : Cond.methodLink RX1 47 yX1_afterWord ∈ TBL := tk_3 195 (by decide +kernel) (by decide +kernel)
theorem w386 : Cond.instanceMethod yX1_afterWord ∈ TBL := tk_3 197 (by decide +kernel) (by decide +kernel)
theorem w387 : Cond.selects RX1 yX1_afterWord yX1_afterWord ∈ TBL := tk_0 30 (by decide +kernel) (by decide +kernel)
theorem w388 : Cond.fieldLink RX1 64 (TX4 13).1 (TX4 13).2.1 (TX4 13).2.2.1 ∈ TBL := tk_1 103 (by decide +kernel) (by decide +kernel)
theorem w389 : Cond.fieldLink RX1 67 (TX4 14).1 (TX4 14).2.1 (TX4 14).2.2.1 ∈ TBL := tk_1 109 (by decide +kernel) (by decide +kernel)
theorem w390 : Cond.fieldLink RX1 76 (TX1 2).1 (TX1 2).2.1 (TX1 2).2.2.1 ∈ TBL := tk_1 236 (by decide +kernel) (by decide +kernel)
theorem w391 : Cond.fieldLink RX1 70 (TX4 15).1 (TX4 15).2.1 (TX4 15).2.2.1 ∈ TBL := tk_1 115 (by decide +kernel) (by decide +kernel)
theorem w392 : Cond.methodLink RX1 73 yX1_headsOf ∈ TBL := tk_3 210 (by decide +kernel) (by decide +kernel)
theorem w393 : Cond.static yX1_headsOf ∈ TBL := tk_3 211 (by decide +kernel) (by decide +kernel)
theorem w394 : Cond.code yX1_headsOf cX1_headsOf 4 (some .int) ∈ TBL := tk_3 212 (by decide +kernel) (by decide +kernel)
theorem w395 : Cond.code yX1_hasHead cX1_hasHead 3 (some .boolean) ∈ TBL := tk_3 220 (by decide +kernel) (by decide +kernel)
theorem w396 : Cond.methodLink RX1 79 yX1_hasHead ∈ TBL := tk_3 217 (by decide +kernel) (by decide +kernel)
theorem w397 : Cond.instanceMethod yX1_hasHead ∈ TBL := tk_3 218 (by decide +kernel) (by decide +kernel)
theorem w398 : Cond.selects RX1 yX1_hasHead yX1_hasHead ∈ TBL := tk_3 219 (by decide +kernel) (by decide +kernel)
theorem w399 : Cond.code yX1_settleFalls cX1_settleFalls 7 none ∈ TBL := tk_3 194 (by decide +kernel) (by decide +kernel)
theorem w400 : Cond.methodLink RX1 19 yX1_settleFalls ∈ TBL := tk_3 191 (by decide +kernel) (by decide +kernel)
theorem w401 : Cond.instanceMethod yX1_settleFalls ∈ TBL := tk_3 193 (by decide +kernel) (by decide +kernel)
theorem w402 : Cond.selects RX1 yX1_settleFalls yX1_settleFalls ∈ TBL := tk_0 29 (by decide +kernel) (by decide +kernel)
theorem w403 : Cond.code yX1_descend cX1_descend 4 none ∈ TBL := tk_3 209 (by decide +kernel) (by decide +kernel)
theorem w404 : Cond.methodLink RX1 23 yX1_descend ∈ TBL := tk_3 206 (by decide +kernel) (by decide +kernel)
theorem w405 : Cond.instanceMethod yX1_descend ∈ TBL := tk_3 208 (by decide +kernel) (by decide +kernel)
theorem w406 : Cond.selects RX1 yX1_descend yX1_descend ∈ TBL := tk_0 32 (by decide +kernel) (by decide +kernel)
theorem w407 : Cond.code yX1_spread cX1_spread 6 (some .boolean) ∈ TBL := tk_3 216 (by decide +kernel) (by decide +kernel)
theorem w408 : Cond.methodLink RX1 26 yX1_spread ∈ TBL := tk_3 213 (by decide +kernel) (by decide +kernel)
theorem w409 : Cond.instanceMethod yX1_spread ∈ TBL := tk_3 215 (by decide +kernel) (by decide +kernel)
theorem w410 : Cond.selects RX1 yX1_spread yX1_spread ∈ TBL := tk_0 33 (by decide +kernel) (by decide +kernel)
theorem w411 : Cond.fieldLink RX5 19 (TX5 1).1 (TX5 1).2.1 (TX5 1).2.2.1 ∈ TBL := tk_2 130 (by decide +kernel) (by decide +kernel)
theorem w412 : Cond.fieldLink RX5 86 (TX4 1).1 (TX4 1).2.1 (TX4 1).2.2.1 ∈ TBL := tk_1 58 (by decide +kernel) (by decide +kernel)
theorem w413 : Cond.fieldLink RX5 236 (TX4 0).1 (TX4 0).2.1 (TX4 0).2.2.1 ∈ TBL := tk_1 54 (by decide +kernel) (by decide +kernel)
theorem w414 : Cond.fieldLink RX5 286 (TX5 9).1 (TX5 9).2.1 (TX5 9).2.2.1 ∈ TBL := tk_2 138 (by decide +kernel) (by decide +kernel)
theorem w415 : Cond.fieldLink RX5 289 (TX5 11).1 (TX5 11).2.1 (TX5 11).2.2.1 ∈ TBL := tk_2 140 (by decide +kernel) (by decide +kernel)
theorem w416 : Cond.fieldLink RX5 282 (TX5 14).1 (TX5 14).2.1 (TX5 14).2.2.1 ∈ TBL := tk_2 143 (by decide +kernel) (by decide +kernel)
theorem w417 : Cond.fieldLink RX5 36 (TX5 8).1 (TX5 8).2.1 (TX5 8).2.2.1 ∈ TBL := tk_2 137 (by decide +kernel) (by decide +kernel)
theorem w418 : Cond.fieldLink RX5 192 (TX4 12).1 (TX4 12).2.1 (TX4 12).2.2.1 ∈ TBL := tk_1 100 (by decide +kernel) (by decide +kernel)
theorem hsc6_in : yX6_in.cls ≠ "java/lang/invoke/MethodHandle" ∧ yX6_in.cls ≠ "java/lang/invoke/VarHandle" ∧ (parseMethodDescriptor yX6_in.desc).map (fun d => d.parameters.length) = some 3 := by decide +kernel
theorem hsc6_isRule : yX6_isRule.cls = RX6 ∧ yX6_isRule.cls ≠ "java/lang/invoke/MethodHandle" ∧ yX6_isRule.cls ≠ "java/lang/invoke/VarHandle" ∧ (parseMethodDescriptor yX6_isRule.desc).map (fun d => d.parameters.length) = some 1 := by decide +kernel
theorem hsc6_isLetter : yX6_isLetter.cls ≠ "java/lang/invoke/MethodHandle" ∧ yX6_isLetter.cls ≠ "java/lang/invoke/VarHandle" ∧ (parseMethodDescriptor yX6_isLetter.desc).map (fun d => d.parameters.length) = some 1 := by decide +kernel
theorem hsc6_isWordAt : yX6_isWordAt.cls = RX6 ∧ yX6_isWordAt.cls ≠ "java/lang/invoke/MethodHandle" ∧ yX6_isWordAt.cls ≠ "java/lang/invoke/VarHandle" ∧ (parseMethodDescriptor yX6_isWordAt.desc).map (fun d => d.parameters.length) = some 0 := by decide +kernel
theorem hsc6_writes_undone : yX6_writes.cls = RX6 ∧ yX6_writes.cls ≠ "java/lang/invoke/MethodHandle" ∧ yX6_writes.cls ≠ "java/lang/invoke/VarHandle" ∧ (parseMethodDescriptor yX6_writes.desc).map (fun d => d.parameters.length) = some 2 := by decide +kernel
theorem hsc6_readsBack_undone : yX6_readsBack.cls = RX6 ∧ yX6_readsBack.cls ≠ "java/lang/invoke/MethodHandle" ∧ yX6_readsBack.cls ≠ "java/lang/invoke/VarHandle" ∧ (parseMethodDescriptor yX6_readsBack.desc).map (fun d => d.parameters.length) = some 2 := by decide +kernel
theorem hsc6_writes_kept : yX6_writes.cls = RX6 ∧ yX6_writes.cls ≠ "java/lang/invoke/MethodHandle" ∧ yX6_writes.cls ≠ "java/lang/invoke/VarHandle" ∧ (parseMethodDescriptor yX6_writes.desc).map (fun d => d.parameters.length) = some 2 := by decide +kernel
theorem hsc6_readsBack_kept : yX6_readsBack.cls = RX6 ∧ yX6_readsBack.cls ≠ "java/lang/invoke/MethodHandle" ∧ yX6_readsBack.cls ≠ "java/lang/invoke/VarHandle" ∧ (parseMethodDescriptor yX6_readsBack.desc).map (fun d => d.parameters.length) = some 2 := by decide +kernel
theorem hsc6_notes : yX6_notes.cls = RX6 ∧ yX6_notes.cls ≠ "java/lang/invoke/MethodHandle" ∧ yX6_notes.cls ≠ "java/lang/invoke/VarHandle" ∧ (parseMethodDescriptor yX6_notes.desc).map (fun d => d.parameters.length) = some 0 := by decide +kernel
theorem hsc6_fits : yX6_fits.cls = RX6 ∧ yX6_fits.cls ≠ "java/lang/invoke/MethodHandle" ∧ yX6_fits.cls ≠ "java/lang/invoke/VarHandle" ∧ (parseMethodDescriptor yX6_fits.desc).map (fun d => d.parameters.length) = some 3 := by decide +kernel
theorem hsc6_steps : yX6_steps.cls = RX6 ∧ yX6_steps.cls ≠ "java/lang/invoke/MethodHandle" ∧ yX6_steps.cls ≠ "java/lang/invoke/VarHandle" ∧ (parseMethodDescriptor yX6_steps.desc).map (fun d => d.parameters.length) = some 1 := by decide +kernel
theorem hsc6_isState : yX6_isState.cls = RX6 ∧ yX6_isState.cls ≠ "java/lang/invoke/MethodHandle" ∧ yX6_isState.cls ≠ "java/lang/invoke/VarHandle" ∧ (parseMethodDescriptor yX6_isState.desc).map (fun d => d.parameters.length) = some 1 := by decide +kernel
theorem hsc6_enters : yX6_enters.cls = RX6 ∧ yX6_enters.cls ≠ "java/lang/invoke/MethodHandle" ∧ yX6_enters.cls ≠ "java/lang/invoke/VarHandle" ∧ (parseMethodDescriptor yX6_enters.desc).map (fun d => d.parameters.length) = some 5 := by decide +kernel
theorem hsc6_place : yX6_place.cls ≠ "java/lang/invoke/MethodHandle" ∧ yX6_place.cls ≠ "java/lang/invoke/VarHandle" ∧ (parseMethodDescriptor yX6_place.desc).map (fun d => d.parameters.length) = some 3 := by decide +kernel
theorem hsc6_edges : yX6_edges.cls = RX6 ∧ yX6_edges.cls ≠ "java/lang/invoke/MethodHandle" ∧ yX6_edges.cls ≠ "java/lang/invoke/VarHandle" ∧ (parseMethodDescriptor yX6_edges.desc).map (fun d => d.parameters.length) = some 0 := by decide +kernel
theorem hsc6_targetEdges : yX6_targetEdges.cls = RX6 ∧ yX6_targetEdges.cls ≠ "java/lang/invoke/MethodHandle" ∧ yX6_targetEdges.cls ≠ "java/lang/invoke/VarHandle" ∧ (parseMethodDescriptor yX6_targetEdges.desc).map (fun d => d.parameters.length) = some 1 := by decide +kernel
theorem hsc6_made : yX6_made.cls ≠ "java/lang/invoke/MethodHandle" ∧ yX6_made.cls ≠ "java/lang/invoke/VarHandle" ∧ (parseMethodDescriptor yX6_made.desc).map (fun d => d.parameters.length) = some 3 := by decide +kernel
theorem hsc6_lesser : yX6_lesser.cls ≠ "java/lang/invoke/MethodHandle" ∧ yX6_lesser.cls ≠ "java/lang/invoke/VarHandle" ∧ (parseMethodDescriptor yX6_lesser.desc).map (fun d => d.parameters.length) = some 2 := by decide +kernel
theorem hsc6_standsAt : yX6_standsAt.cls = RX6 ∧ yX6_standsAt.cls ≠ "java/lang/invoke/MethodHandle" ∧ yX6_standsAt.cls ≠ "java/lang/invoke/VarHandle" ∧ (parseMethodDescriptor yX6_standsAt.desc).map (fun d => d.parameters.length) = some 1 := by decide +kernel
theorem hsc6_reads : yX6_reads.cls = RX6 ∧ yX6_reads.cls ≠ "java/lang/invoke/MethodHandle" ∧ yX6_reads.cls ≠ "java/lang/invoke/VarHandle" ∧ (parseMethodDescriptor yX6_reads.desc).map (fun d => d.parameters.length) = some 2 := by decide +kernel
theorem hsc6_begins : yX6_begins.cls = RX6 ∧ yX6_begins.cls ≠ "java/lang/invoke/MethodHandle" ∧ yX6_begins.cls ≠ "java/lang/invoke/VarHandle" ∧ (parseMethodDescriptor yX6_begins.desc).map (fun d => d.parameters.length) = some 0 := by decide +kernel
theorem hsc6_roundBy : yX6_roundBy.cls = RX6 ∧ yX6_roundBy.cls ≠ "java/lang/invoke/MethodHandle" ∧ yX6_roundBy.cls ≠ "java/lang/invoke/VarHandle" ∧ (parseMethodDescriptor yX6_roundBy.desc).map (fun d => d.parameters.length) = some 3 := by decide +kernel
theorem hsc6_isEnd : yX6_isEnd.cls = RX6 ∧ yX6_isEnd.cls ≠ "java/lang/invoke/MethodHandle" ∧ yX6_isEnd.cls ≠ "java/lang/invoke/VarHandle" ∧ (parseMethodDescriptor yX6_isEnd.desc).map (fun d => d.parameters.length) = some 1 := by decide +kernel
theorem hsc6_grows : yX6_grows.cls = RX6 ∧ yX6_grows.cls ≠ "java/lang/invoke/MethodHandle" ∧ yX6_grows.cls ≠ "java/lang/invoke/VarHandle" ∧ (parseMethodDescriptor yX6_grows.desc).map (fun d => d.parameters.length) = some 2 := by decide +kernel
theorem hsc6_least : yX6_least.cls = RX6 ∧ yX6_least.cls ≠ "java/lang/invoke/MethodHandle" ∧ yX6_least.cls ≠ "java/lang/invoke/VarHandle" ∧ (parseMethodDescriptor yX6_least.desc).map (fun d => d.parameters.length) = some 1 := by decide +kernel
theorem hsc6_priceWithout : yX6_priceWithout.cls = RX6 ∧ yX6_priceWithout.cls ≠ "java/lang/invoke/MethodHandle" ∧ yX6_priceWithout.cls ≠ "java/lang/invoke/VarHandle" ∧ (parseMethodDescriptor yX6_priceWithout.desc).map (fun d => d.parameters.length) = some 1 := by decide +kernel
theorem hsc6_price : yX6_price.cls = RX6 ∧ yX6_price.cls ≠ "java/lang/invoke/MethodHandle" ∧ yX6_price.cls ≠ "java/lang/invoke/VarHandle" ∧ (parseMethodDescriptor yX6_price.desc).map (fun d => d.parameters.length) = some 0 := by decide +kernel
theorem hsc6_standsOn : yX6_standsOn.cls = RX6 ∧ yX6_standsOn.cls ≠ "java/lang/invoke/MethodHandle" ∧ yX6_standsOn.cls ≠ "java/lang/invoke/VarHandle" ∧ (parseMethodDescriptor yX6_standsOn.desc).map (fun d => d.parameters.length) = some 1 := by decide +kernel
theorem hsc6_goesBy : yX6_goesBy.cls = RX6 ∧ yX6_goesBy.cls ≠ "java/lang/invoke/MethodHandle" ∧ yX6_goesBy.cls ≠ "java/lang/invoke/VarHandle" ∧ (parseMethodDescriptor yX6_goesBy.desc).map (fun d => d.parameters.length) = some 1 := by decide +kernel
theorem hsc6_puts : yX6_puts.cls = RX6 ∧ yX6_puts.cls ≠ "java/lang/invoke/MethodHandle" ∧ yX6_puts.cls ≠ "java/lang/invoke/VarHandle" ∧ (parseMethodDescriptor yX6_puts.desc).map (fun d => d.parameters.length) = some 1 := by decide +kernel
theorem hsc6_behind : yX6_behind.cls = RX6 ∧ yX6_behind.cls ≠ "java/lang/invoke/MethodHandle" ∧ yX6_behind.cls ≠ "java/lang/invoke/VarHandle" ∧ (parseMethodDescriptor yX6_behind.desc).map (fun d => d.parameters.length) = some 1 := by decide +kernel
theorem hsc6_towerBegins : yX6_towerBegins.cls = RX6 ∧ yX6_towerBegins.cls ≠ "java/lang/invoke/MethodHandle" ∧ yX6_towerBegins.cls ≠ "java/lang/invoke/VarHandle" ∧ (parseMethodDescriptor yX6_towerBegins.desc).map (fun d => d.parameters.length) = some 0 := by decide +kernel
theorem hsc6_ruleOn : yX6_ruleOn.cls = RX6 ∧ yX6_ruleOn.cls ≠ "java/lang/invoke/MethodHandle" ∧ yX6_ruleOn.cls ≠ "java/lang/invoke/VarHandle" ∧ (parseMethodDescriptor yX6_ruleOn.desc).map (fun d => d.parameters.length) = some 2 := by decide +kernel
theorem hsc6_towerSteps : yX6_towerSteps.cls = RX6 ∧ yX6_towerSteps.cls ≠ "java/lang/invoke/MethodHandle" ∧ yX6_towerSteps.cls ≠ "java/lang/invoke/VarHandle" ∧ (parseMethodDescriptor yX6_towerSteps.desc).map (fun d => d.parameters.length) = some 1 := by decide +kernel
theorem hsc6_popsBy : yX6_popsBy.cls = RX6 ∧ yX6_popsBy.cls ≠ "java/lang/invoke/MethodHandle" ∧ yX6_popsBy.cls ≠ "java/lang/invoke/VarHandle" ∧ (parseMethodDescriptor yX6_popsBy.desc).map (fun d => d.parameters.length) = some 3 := by decide +kernel
theorem hsc6_isGone : yX6_isGone.cls = RX6 ∧ yX6_isGone.cls ≠ "java/lang/invoke/MethodHandle" ∧ yX6_isGone.cls ≠ "java/lang/invoke/VarHandle" ∧ (parseMethodDescriptor yX6_isGone.desc).map (fun d => d.parameters.length) = some 2 := by decide +kernel
theorem hsc6_setPops : yX6_setPops.cls = RX6 ∧ yX6_setPops.cls ≠ "java/lang/invoke/MethodHandle" ∧ yX6_setPops.cls ≠ "java/lang/invoke/VarHandle" ∧ (parseMethodDescriptor yX6_setPops.desc).map (fun d => d.parameters.length) = some 0 := by decide +kernel
theorem hsc6_headsOfPile : yX6_headsOfPile.cls = RX6 ∧ yX6_headsOfPile.cls ≠ "java/lang/invoke/MethodHandle" ∧ yX6_headsOfPile.cls ≠ "java/lang/invoke/VarHandle" ∧ (parseMethodDescriptor yX6_headsOfPile.desc).map (fun d => d.parameters.length) = some 0 := by decide +kernel
theorem hsc6_headMany : yX6_headMany.cls = RX6 ∧ yX6_headMany.cls ≠ "java/lang/invoke/MethodHandle" ∧ yX6_headMany.cls ≠ "java/lang/invoke/VarHandle" ∧ (parseMethodDescriptor yX6_headMany.desc).map (fun d => d.parameters.length) = some 0 := by decide +kernel
theorem hsc6_headsOf : yX6_headsOf.cls = RX6 ∧ yX6_headsOf.cls ≠ "java/lang/invoke/MethodHandle" ∧ yX6_headsOf.cls ≠ "java/lang/invoke/VarHandle" ∧ (parseMethodDescriptor yX6_headsOf.desc).map (fun d => d.parameters.length) = some 1 := by decide +kernel
theorem hsc6_setHeads : yX6_setHeads.cls = RX6 ∧ yX6_setHeads.cls ≠ "java/lang/invoke/MethodHandle" ∧ yX6_setHeads.cls ≠ "java/lang/invoke/VarHandle" ∧ (parseMethodDescriptor yX6_setHeads.desc).map (fun d => d.parameters.length) = some 0 := by decide +kernel
theorem hsc6_fitting : yX6_fitting.cls = RX6 ∧ yX6_fitting.cls ≠ "java/lang/invoke/MethodHandle" ∧ yX6_fitting.cls ≠ "java/lang/invoke/VarHandle" ∧ (parseMethodDescriptor yX6_fitting.desc).map (fun d => d.parameters.length) = some 0 := by decide +kernel
theorem hsc6_fittingAt : yX6_fittingAt.cls = RX6 ∧ yX6_fittingAt.cls ≠ "java/lang/invoke/MethodHandle" ∧ yX6_fittingAt.cls ≠ "java/lang/invoke/VarHandle" ∧ (parseMethodDescriptor yX6_fittingAt.desc).map (fun d => d.parameters.length) = some 1 := by decide +kernel
theorem hsc6_writes_before : yX6_writes.cls = RX6 ∧ yX6_writes.cls ≠ "java/lang/invoke/MethodHandle" ∧ yX6_writes.cls ≠ "java/lang/invoke/VarHandle" ∧ (parseMethodDescriptor yX6_writes.desc).map (fun d => d.parameters.length) = some 2 := by decide +kernel
theorem hsc6_readsBack_before : yX6_readsBack.cls = RX6 ∧ yX6_readsBack.cls ≠ "java/lang/invoke/MethodHandle" ∧ yX6_readsBack.cls ≠ "java/lang/invoke/VarHandle" ∧ (parseMethodDescriptor yX6_readsBack.desc).map (fun d => d.parameters.length) = some 2 := by decide +kernel
theorem hsc6_walks : yX6_walks.cls = RX6 ∧ yX6_walks.cls ≠ "java/lang/invoke/MethodHandle" ∧ yX6_walks.cls ≠ "java/lang/invoke/VarHandle" ∧ (parseMethodDescriptor yX6_walks.desc).map (fun d => d.parameters.length) = some 2 := by decide +kernel
theorem hsc6_figure : yX6_figure.cls = RX6 ∧ yX6_figure.cls ≠ "java/lang/invoke/MethodHandle" ∧ yX6_figure.cls ≠ "java/lang/invoke/VarHandle" ∧ (parseMethodDescriptor yX6_figure.desc).map (fun d => d.parameters.length) = some 2 := by decide +kernel
theorem hsc6_sign : yX6_sign.cls = RX6 ∧ yX6_sign.cls ≠ "java/lang/invoke/MethodHandle" ∧ yX6_sign.cls ≠ "java/lang/invoke/VarHandle" ∧ (parseMethodDescriptor yX6_sign.desc).map (fun d => d.parameters.length) = some 1 := by decide +kernel
theorem hsc6_word : yX6_word.cls = RX6 ∧ yX6_word.cls ≠ "java/lang/invoke/MethodHandle" ∧ yX6_word.cls ≠ "java/lang/invoke/VarHandle" ∧ (parseMethodDescriptor yX6_word.desc).map (fun d => d.parameters.length) = some 1 := by decide +kernel
theorem hsc6_readsConfiguration : yX6_readsConfiguration.cls = RX6 ∧ yX6_readsConfiguration.cls ≠ "java/lang/invoke/MethodHandle" ∧ yX6_readsConfiguration.cls ≠ "java/lang/invoke/VarHandle" ∧ (parseMethodDescriptor yX6_readsConfiguration.desc).map (fun d => d.parameters.length) = some 1 := by decide +kernel
theorem hsc6_readsTarget : yX6_readsTarget.cls = RX6 ∧ yX6_readsTarget.cls ≠ "java/lang/invoke/MethodHandle" ∧ yX6_readsTarget.cls ≠ "java/lang/invoke/VarHandle" ∧ (parseMethodDescriptor yX6_readsTarget.desc).map (fun d => d.parameters.length) = some 1 := by decide +kernel
theorem hsc6_readsRule : yX6_readsRule.cls = RX6 ∧ yX6_readsRule.cls ≠ "java/lang/invoke/MethodHandle" ∧ yX6_readsRule.cls ≠ "java/lang/invoke/VarHandle" ∧ (parseMethodDescriptor yX6_readsRule.desc).map (fun d => d.parameters.length) = some 1 := by decide +kernel
theorem hsc6_readsStates : yX6_readsStates.cls = RX6 ∧ yX6_readsStates.cls ≠ "java/lang/invoke/MethodHandle" ∧ yX6_readsStates.cls ≠ "java/lang/invoke/VarHandle" ∧ (parseMethodDescriptor yX6_readsStates.desc).map (fun d => d.parameters.length) = some 2 := by decide +kernel
theorem hsc6_readsItem : yX6_readsItem.cls = RX6 ∧ yX6_readsItem.cls ≠ "java/lang/invoke/MethodHandle" ∧ yX6_readsItem.cls ≠ "java/lang/invoke/VarHandle" ∧ (parseMethodDescriptor yX6_readsItem.desc).map (fun d => d.parameters.length) = some 2 := by decide +kernel
theorem hsc6_goesThrough : yX6_goesThrough.cls = RX6 ∧ yX6_goesThrough.cls ≠ "java/lang/invoke/MethodHandle" ∧ yX6_goesThrough.cls ≠ "java/lang/invoke/VarHandle" ∧ (parseMethodDescriptor yX6_goesThrough.desc).map (fun d => d.parameters.length) = some 1 := by decide +kernel
theorem hsc5_lettersIn : yX5_lettersIn.cls ≠ "java/lang/invoke/MethodHandle" ∧ yX5_lettersIn.cls ≠ "java/lang/invoke/VarHandle" ∧ (parseMethodDescriptor yX5_lettersIn.desc).map (fun d => d.parameters.length) = some 1 := by decide +kernel
theorem hsc5_firstLetter : yX5_firstLetter.cls ≠ "java/lang/invoke/MethodHandle" ∧ yX5_firstLetter.cls ≠ "java/lang/invoke/VarHandle" ∧ (parseMethodDescriptor yX5_firstLetter.desc).map (fun d => d.parameters.length) = some 1 := by decide +kernel
theorem hsc5_secondLetter : yX5_secondLetter.cls ≠ "java/lang/invoke/MethodHandle" ∧ yX5_secondLetter.cls ≠ "java/lang/invoke/VarHandle" ∧ (parseMethodDescriptor yX5_secondLetter.desc).map (fun d => d.parameters.length) = some 1 := by decide +kernel
theorem hsc4_takeLetter : yX4_takeLetter.cls = RX4 ∧ yX4_takeLetter.cls ≠ "java/lang/invoke/MethodHandle" ∧ yX4_takeLetter.cls ≠ "java/lang/invoke/VarHandle" ∧ (parseMethodDescriptor yX4_takeLetter.desc).map (fun d => d.parameters.length) = some 0 := by decide +kernel
theorem hsc4_putLetter : yX4_putLetter.cls = RX4 ∧ yX4_putLetter.cls ≠ "java/lang/invoke/MethodHandle" ∧ yX4_putLetter.cls ≠ "java/lang/invoke/VarHandle" ∧ (parseMethodDescriptor yX4_putLetter.desc).map (fun d => d.parameters.length) = some 1 := by decide +kernel
theorem hsc4_applies : yX4_applies.cls = RX4 ∧ yX4_applies.cls ≠ "java/lang/invoke/MethodHandle" ∧ yX4_applies.cls ≠ "java/lang/invoke/VarHandle" ∧ (parseMethodDescriptor yX4_applies.desc).map (fun d => d.parameters.length) = some 1 := by decide +kernel
theorem hsc4_rulesFor : yX4_rulesFor.cls = RX4 ∧ yX4_rulesFor.cls ≠ "java/lang/invoke/MethodHandle" ∧ yX4_rulesFor.cls ≠ "java/lang/invoke/VarHandle" ∧ (parseMethodDescriptor yX4_rulesFor.desc).map (fun d => d.parameters.length) = some 2 := by decide +kernel
theorem hsc3_readLetter : yX3_readLetter.cls = RX3 ∧ yX3_readLetter.cls ≠ "java/lang/invoke/MethodHandle" ∧ yX3_readLetter.cls ≠ "java/lang/invoke/VarHandle" ∧ (parseMethodDescriptor yX3_readLetter.desc).map (fun d => d.parameters.length) = some 0 := by decide +kernel
theorem hsc5_wordOf : yX5_wordOf.cls ≠ "java/lang/invoke/MethodHandle" ∧ yX5_wordOf.cls ≠ "java/lang/invoke/VarHandle" ∧ (parseMethodDescriptor yX5_wordOf.desc).map (fun d => d.parameters.length) = some 2 := by decide +kernel
theorem hsc3_readDigit : yX3_readDigit.cls = RX3 ∧ yX3_readDigit.cls ≠ "java/lang/invoke/MethodHandle" ∧ yX3_readDigit.cls ≠ "java/lang/invoke/VarHandle" ∧ (parseMethodDescriptor yX3_readDigit.desc).map (fun d => d.parameters.length) = some 1 := by decide +kernel
theorem hsc3_readSign : yX3_readSign.cls = RX3 ∧ yX3_readSign.cls ≠ "java/lang/invoke/MethodHandle" ∧ yX3_readSign.cls ≠ "java/lang/invoke/VarHandle" ∧ (parseMethodDescriptor yX3_readSign.desc).map (fun d => d.parameters.length) = some 1 := by decide +kernel
theorem hsc3_readWord : yX3_readWord.cls = RX3 ∧ yX3_readWord.cls ≠ "java/lang/invoke/MethodHandle" ∧ yX3_readWord.cls ≠ "java/lang/invoke/VarHandle" ∧ (parseMethodDescriptor yX3_readWord.desc).map (fun d => d.parameters.length) = some 1 := by decide +kernel
theorem hsc3_wordFrom : yX3_wordFrom.cls = RX3 ∧ yX3_wordFrom.cls ≠ "java/lang/invoke/MethodHandle" ∧ yX3_wordFrom.cls ≠ "java/lang/invoke/VarHandle" ∧ (parseMethodDescriptor yX3_wordFrom.desc).map (fun d => d.parameters.length) = some 1 := by decide +kernel
theorem hsc4_addRule : yX4_addRule.cls = RX4 ∧ yX4_addRule.cls ≠ "java/lang/invoke/MethodHandle" ∧ yX4_addRule.cls ≠ "java/lang/invoke/VarHandle" ∧ (parseMethodDescriptor yX4_addRule.desc).map (fun d => d.parameters.length) = some 5 := by decide +kernel
theorem hsc4_addTarget : yX4_addTarget.cls = RX4 ∧ yX4_addTarget.cls ≠ "java/lang/invoke/MethodHandle" ∧ yX4_addTarget.cls ≠ "java/lang/invoke/VarHandle" ∧ (parseMethodDescriptor yX4_addTarget.desc).map (fun d => d.parameters.length) = some 4 := by decide +kernel
theorem hsc3_readConfiguration : yX3_readConfiguration.cls = RX3 ∧ yX3_readConfiguration.cls ≠ "java/lang/invoke/MethodHandle" ∧ yX3_readConfiguration.cls ≠ "java/lang/invoke/VarHandle" ∧ (parseMethodDescriptor yX3_readConfiguration.desc).map (fun d => d.parameters.length) = some 1 := by decide +kernel
theorem hsc3_readMode : yX3_readMode.cls = RX3 ∧ yX3_readMode.cls ≠ "java/lang/invoke/MethodHandle" ∧ yX3_readMode.cls ≠ "java/lang/invoke/VarHandle" ∧ (parseMethodDescriptor yX3_readMode.desc).map (fun d => d.parameters.length) = some 1 := by decide +kernel
theorem hsc3_readStates : yX3_readStates.cls = RX3 ∧ yX3_readStates.cls ≠ "java/lang/invoke/MethodHandle" ∧ yX3_readStates.cls ≠ "java/lang/invoke/VarHandle" ∧ (parseMethodDescriptor yX3_readStates.desc).map (fun d => d.parameters.length) = some 1 := by decide +kernel
theorem hsc3_readRule : yX3_readRule.cls = RX3 ∧ yX3_readRule.cls ≠ "java/lang/invoke/MethodHandle" ∧ yX3_readRule.cls ≠ "java/lang/invoke/VarHandle" ∧ (parseMethodDescriptor yX3_readRule.desc).map (fun d => d.parameters.length) = some 1 := by decide +kernel
theorem hsc3_readTarget : yX3_readTarget.cls = RX3 ∧ yX3_readTarget.cls ≠ "java/lang/invoke/MethodHandle" ∧ yX3_readTarget.cls ≠ "java/lang/invoke/VarHandle" ∧ (parseMethodDescriptor yX3_readTarget.desc).map (fun d => d.parameters.length) = some 1 := by decide +kernel
theorem hsc4_clear : yX4_clear.cls = RX4 ∧ yX4_clear.cls ≠ "java/lang/invoke/MethodHandle" ∧ yX4_clear.cls ≠ "java/lang/invoke/VarHandle" ∧ (parseMethodDescriptor yX4_clear.desc).map (fun d => d.parameters.length) = some 0 := by decide +kernel
theorem hsc3_readItem : yX3_readItem.cls = RX3 ∧ yX3_readItem.cls ≠ "java/lang/invoke/MethodHandle" ∧ yX3_readItem.cls ≠ "java/lang/invoke/VarHandle" ∧ (parseMethodDescriptor yX3_readItem.desc).map (fun d => d.parameters.length) = some 2 := by decide +kernel
theorem hsc1_afterLetter : yX1_afterLetter.cls = RX1 ∧ yX1_afterLetter.cls ≠ "java/lang/invoke/MethodHandle" ∧ yX1_afterLetter.cls ≠ "java/lang/invoke/VarHandle" ∧ (parseMethodDescriptor yX1_afterLetter.desc).map (fun d => d.parameters.length) = some 2 := by decide +kernel
theorem hsc1_afterWord : yX1_afterWord.cls = RX1 ∧ yX1_afterWord.cls ≠ "java/lang/invoke/MethodHandle" ∧ yX1_afterWord.cls ≠ "java/lang/invoke/VarHandle" ∧ (parseMethodDescriptor yX1_afterWord.desc).map (fun d => d.parameters.length) = some 2 := by decide +kernel
theorem hsc1_headsOf : yX1_headsOf.cls ≠ "java/lang/invoke/MethodHandle" ∧ yX1_headsOf.cls ≠ "java/lang/invoke/VarHandle" ∧ (parseMethodDescriptor yX1_headsOf.desc).map (fun d => d.parameters.length) = some 2 := by decide +kernel
theorem hsc1_hasHead : yX1_hasHead.cls = RX1 ∧ yX1_hasHead.cls ≠ "java/lang/invoke/MethodHandle" ∧ yX1_hasHead.cls ≠ "java/lang/invoke/VarHandle" ∧ (parseMethodDescriptor yX1_hasHead.desc).map (fun d => d.parameters.length) = some 2 := by decide +kernel
theorem hsc1_settleFalls : yX1_settleFalls.cls = RX1 ∧ yX1_settleFalls.cls ≠ "java/lang/invoke/MethodHandle" ∧ yX1_settleFalls.cls ≠ "java/lang/invoke/VarHandle" ∧ (parseMethodDescriptor yX1_settleFalls.desc).map (fun d => d.parameters.length) = some 1 := by decide +kernel
theorem hsc1_descend : yX1_descend.cls = RX1 ∧ yX1_descend.cls ≠ "java/lang/invoke/MethodHandle" ∧ yX1_descend.cls ≠ "java/lang/invoke/VarHandle" ∧ (parseMethodDescriptor yX1_descend.desc).map (fun d => d.parameters.length) = some 1 := by decide +kernel
theorem hsc1_spread : yX1_spread.cls = RX1 ∧ yX1_spread.cls ≠ "java/lang/invoke/MethodHandle" ∧ yX1_spread.cls ≠ "java/lang/invoke/VarHandle" ∧ (parseMethodDescriptor yX1_spread.desc).map (fun d => d.parameters.length) = some 1 := by decide +kernel
theorem tab_out_0_6 {x : Int32} (h0 : ¬ x = 0) (h1 : ¬ x = 1) (h2 : ¬ x = 2) (h3 : ¬ x = 3) (h4 : ¬ x = 4) (h5 : ¬ x = 5) (h6 : ¬ x = 6) : x.toInt < 0 ∨ 6 < x.toInt := by
  by_cases q : x.toInt < 0
  · exact Or.inl q
  by_cases r : 6 < x.toInt
  · exact Or.inr r
  have e : x = Int32.ofInt x.toInt := (Int32.ofInt_toInt x).symm
  exfalso
  rcases (show x.toInt = 0 ∨ x.toInt = 1 ∨ x.toInt = 2 ∨ x.toInt = 3 ∨ x.toInt = 4 ∨ x.toInt = 5 ∨ x.toInt = 6 by omega) with g | g | g | g | g | g | g <;> rw [g] at e <;> contradiction
end
section
def f6_in (x0 : Int32) (x1 : Int32) (x2 : Int32) : Option (Int32) :=
  (if x0 < x1 then (some 0) else ((if x2 < x0 then (some 0) else (some 1))))
set_option maxRecDepth 100000 in
set_option maxHeartbeats 4000000 in
theorem c6_in (l : Launch) (D : va_G) (K : Nat → ClassId) (x0 : Int32) (x1 : Int32) (x2 : Int32) (r : Int32) (hf : f6_in x0 x1 x2 = some r) : CTi l yX6_in cX6_in 3 (some .boolean) 0 0 D K [.int x0, .int x1, .int x2] [] [] r := by
  unfold f6_in at hf
  have hf := tob hf
  refine entI (by decide) (Nat.le_of_ble_eq_true rfl) (fun P e s m args below meth c A ls F h hl hin => ?_)
  have hx := F.1
  have hb := F.2.1
  have hl : lv_has ls 3 [(0, .int x0), (1, .int x1), (2, .int x2)] := hl
  refine lv_iload_n hx hb dX6_in_0 rfl (lv_at hl 0 rfl) ?_
  refine lv_iload_n hx hb dX6_in_1 rfl (lv_at hl 1 rfl) ?_
  refine lv_icmp_lt (tgt := 14) hx hb dX6_in_2 (by decide) (fun c1 => ?_) (fun c1 => ?_)
  · have hf := ifp hf c1
    refine lv_iconst (v := 0) hx hb dX6_in_14 (by decide) ?_
    obtain rfl := sor hf
    exact r_retz F h rfl dX6_in_15
  · have hf := ifn hf c1
    refine lv_iload_n hx hb dX6_in_5 rfl (lv_at hl 0 rfl) ?_
    refine lv_iload_n hx hb dX6_in_6 rfl (lv_at hl 2 rfl) ?_
    refine lv_icmp_gt (tgt := 14) hx hb dX6_in_7 (by decide) (fun c2 => ?_) (fun c2 => ?_)
    · have hf := ifp hf c2
      refine lv_iconst (v := 0) hx hb dX6_in_14 (by decide) ?_
      obtain rfl := sor hf
      exact r_retz F h rfl dX6_in_15
    · have hf := ifn hf c2
      refine lv_iconst (v := 1) hx hb dX6_in_10 (by decide) ?_
      refine lv_goto (tgt := 15) hx hb dX6_in_11 (by decide) ?_
      obtain rfl := sor hf
      exact r_retz F h rfl dX6_in_15
def f6_isLetter (x0 : Int32) : Option (Int32) :=
  (f6_in x0 0 3).bind fun q1 => gd (bz q1) <| some q1
set_option maxRecDepth 100000 in
set_option maxHeartbeats 4000000 in
theorem c6_isLetter (l : Launch) (D : va_G) (K : Nat → ClassId) (x0 : Int32) (r : Int32) (hf : f6_isLetter x0 = some r) : CTi l yX6_isLetter cX6_isLetter 1 (some .boolean) 1 22 D K [.int x0] [] [] r := by
  unfold f6_isLetter at hf
  have hf := tob hf
  refine entI (by decide) (Nat.le_of_ble_eq_true rfl) (fun P e s m args below meth c A ls F h hl hin => ?_)
  have hx := F.1
  have hb := F.2.1
  have hl : lv_has ls 1 [(0, .int x0)] := hl
  refine lv_iload_n hx hb dX6_isLetter_0 rfl (lv_at hl 0 rfl) ?_
  refine lv_iconst (v := 0) hx hb dX6_isLetter_1 (by decide) ?_
  refine lv_iconst (v := 3) hx hb dX6_isLetter_2 (by decide) ?_
  obtain ⟨q1, h1, hf⟩ := asb hf
  refine r_callS (As := [.int x0, .int 0, .int 3]) (rest := []) F h hl (c6_in l D K x0 0 3 q1 h1) w3 ⟨w0, w1, w2⟩ hsc6_in ⟨Nat.le_of_ble_eq_true rfl, Nat.le_of_ble_eq_true rfl⟩ ⟨Nat.le_refl 0, Nat.le_refl 0⟩ (Nat.le_of_ble_eq_true rfl) dX6_isLetter_3 (fun H locs h => ?_)
  obtain ⟨g2, hf⟩ := gdb hf
  obtain rfl := sor hf
  exact r_retz F h g2 dX6_isLetter_6
def f6_place (x0 : Int32) (x1 : Int32) (x2 : Int32) : Option (Int32) :=
  some (((52 * x0) + (13 * x1)) + x2)
set_option maxRecDepth 100000 in
set_option maxHeartbeats 4000000 in
theorem c6_place (l : Launch) (D : va_G) (K : Nat → ClassId) (x0 : Int32) (x1 : Int32) (x2 : Int32) (r : Int32) (hf : f6_place x0 x1 x2 = some r) : CTi l yX6_place cX6_place 3 (some .int) 0 0 D K [.int x0, .int x1, .int x2] [] [] r := by
  unfold f6_place at hf
  have hf := tob hf
  refine entI (by decide) (Nat.le_of_ble_eq_true rfl) (fun P e s m args below meth c A ls F h hl hin => ?_)
  have hx := F.1
  have hb := F.2.1
  have hl : lv_has ls 3 [(0, .int x0), (1, .int x1), (2, .int x2)] := hl
  refine lv_bipush (v := 52) hx hb dX6_place_0 (by decide) ?_
  refine lv_iload_n hx hb dX6_place_2 rfl (lv_at hl 0 rfl) ?_
  refine lv_imul hx hb dX6_place_3 ?_
  refine lv_bipush (v := 13) hx hb dX6_place_4 (by decide) ?_
  refine lv_iload_n hx hb dX6_place_6 rfl (lv_at hl 1 rfl) ?_
  refine lv_imul hx hb dX6_place_7 ?_
  refine lv_iadd hx hb dX6_place_8 ?_
  refine lv_iload_n hx hb dX6_place_9 rfl (lv_at hl 2 rfl) ?_
  refine lv_iadd hx hb dX6_place_10 ?_
  obtain rfl := sor hf
  exact r_reti F h dX6_place_11
def f6_made (x0 : Int32) (x1 : Int32) (x2 : Int32) : Option (Int32) :=
  (if x0 = 2 then ((if x1 ≤ x2 then (some x2) else (some x1))) else (some (x1 + x2)))
set_option maxRecDepth 100000 in
set_option maxHeartbeats 4000000 in
theorem c6_made (l : Launch) (D : va_G) (K : Nat → ClassId) (x0 : Int32) (x1 : Int32) (x2 : Int32) (r : Int32) (hf : f6_made x0 x1 x2 = some r) : CTi l yX6_made cX6_made 3 (some .int) 0 0 D K [.int x0, .int x1, .int x2] [] [] r := by
  unfold f6_made at hf
  have hf := tob hf
  refine entI (by decide) (Nat.le_of_ble_eq_true rfl) (fun P e s m args below meth c A ls F h hl hin => ?_)
  have hx := F.1
  have hb := F.2.1
  have hl : lv_has ls 3 [(0, .int x0), (1, .int x1), (2, .int x2)] := hl
  refine lv_iload_n hx hb dX6_made_0 rfl (lv_at hl 0 rfl) ?_
  refine lv_iconst (v := 2) hx hb dX6_made_1 (by decide) ?_
  refine lv_icmp_ne (tgt := 18) hx hb dX6_made_2 (by decide) (fun c1 => ?_) (fun c1 => ?_)
  · have hf := ifn hf c1
    refine lv_iload_n hx hb dX6_made_18 rfl (lv_at hl 1 rfl) ?_
    refine lv_iload_n hx hb dX6_made_19 rfl (lv_at hl 2 rfl) ?_
    refine lv_iadd hx hb dX6_made_20 ?_
    obtain rfl := sor hf
    exact r_reti F h dX6_made_21
  · have hf := ifp hf c1
    refine lv_iload_n hx hb dX6_made_5 rfl (lv_at hl 1 rfl) ?_
    refine lv_iload_n hx hb dX6_made_6 rfl (lv_at hl 2 rfl) ?_
    refine lv_icmp_le (tgt := 14) hx hb dX6_made_7 (by decide) (fun c2 => ?_) (fun c2 => ?_)
    · have hf := ifp hf c2
      refine lv_iload_n hx hb dX6_made_14 rfl (lv_at hl 2 rfl) ?_
      refine lv_goto (tgt := 21) hx hb dX6_made_15 (by decide) ?_
      obtain rfl := sor hf
      exact r_reti F h dX6_made_21
    · have hf := ifn hf c2
      refine lv_iload_n hx hb dX6_made_10 rfl (lv_at hl 1 rfl) ?_
      refine lv_goto (tgt := 21) hx hb dX6_made_11 (by decide) ?_
      obtain rfl := sor hf
      exact r_reti F h dX6_made_21
def f6_lesser (x0 : Int32) (x1 : Int32) : Option (Int32) :=
  (if x0 < 0 then (some x1) else ((if x0 ≤ x1 then (some x0) else (some x1))))
set_option maxRecDepth 100000 in
set_option maxHeartbeats 4000000 in
theorem c6_lesser (l : Launch) (D : va_G) (K : Nat → ClassId) (x0 : Int32) (x1 : Int32) (r : Int32) (hf : f6_lesser x0 x1 = some r) : CTi l yX6_lesser cX6_lesser 2 (some .int) 0 0 D K [.int x0, .int x1] [] [] r := by
  unfold f6_lesser at hf
  have hf := tob hf
  refine entI (by decide) (Nat.le_of_ble_eq_true rfl) (fun P e s m args below meth c A ls F h hl hin => ?_)
  have hx := F.1
  have hb := F.2.1
  have hl : lv_has ls 2 [(0, .int x0), (1, .int x1)] := hl
  refine lv_iload_n hx hb dX6_lesser_0 rfl (lv_at hl 0 rfl) ?_
  refine lv_if_lt (tgt := 9) hx hb dX6_lesser_1 (by decide) (fun c1 => ?_) (fun c1 => ?_)
  · have hf := ifp hf c1
    refine lv_iload_n hx hb dX6_lesser_9 rfl (lv_at hl 1 rfl) ?_
    refine lv_goto (tgt := 14) hx hb dX6_lesser_10 (by decide) ?_
    obtain rfl := sor hf
    exact r_reti F h dX6_lesser_14
  · have hf := ifn hf c1
    refine lv_iload_n hx hb dX6_lesser_4 rfl (lv_at hl 1 rfl) ?_
    refine lv_iload_n hx hb dX6_lesser_5 rfl (lv_at hl 0 rfl) ?_
    refine lv_icmp_ge (tgt := 13) hx hb dX6_lesser_6 (by decide) (fun c2 => ?_) (fun c2 => ?_)
    · have hf := ifp hf c2
      refine lv_iload_n hx hb dX6_lesser_13 rfl (lv_at hl 0 rfl) ?_
      obtain rfl := sor hf
      exact r_reti F h dX6_lesser_14
    · have hf := ifn hf c2
      refine lv_iload_n hx hb dX6_lesser_9 rfl (lv_at hl 1 rfl) ?_
      refine lv_goto (tgt := 14) hx hb dX6_lesser_10 (by decide) ?_
      obtain rfl := sor hf
      exact r_reti F h dX6_lesser_14
def f6_isRule (x0 : Int32) (o_this : ob) : Option (Int32) :=
  (f6_in x0 0 ((o_this.1 1) - 1)).bind fun q1 => gd (bz q1) <| some q1
set_option maxRecDepth 100000 in
set_option maxHeartbeats 4000000 in
theorem c6_isRule (l : Launch) (D : va_G) (K : Nat → ClassId) (a0 : Nat → Nat) (x0 : Int32) (o_this : ob) (r : Int32) (hf : f6_isRule x0 o_this = some r) : CTi l yX6_isRule cX6_isRule 2 (some .boolean) 1 22 D K [.ref (a0 0), .int x0] [wX6 K a0 o_this] [wX6 K a0 o_this] r := by
  unfold f6_isRule at hf
  have hf := tob hf
  refine entI (by decide) (Nat.le_of_ble_eq_true rfl) (fun P e s m args below meth c A ls F h hl hin => ?_)
  have hx := F.1
  have hb := F.2.1
  have hl : lv_has ls 2 [(0, .ref (a0 0)), (1, .int x0)] := hl
  refine lv_iload_n hx hb dX6_isRule_0 rfl (lv_at hl 1 rfl) ?_
  refine lv_iconst (v := 0) hx hb dX6_isRule_1 (by decide) ?_
  refine lv_aload_n hx hb dX6_isRule_2 rfl (lv_at hl 0 rfl) ?_
  refine r_get F h (i := 0) (k := 1) (.int (o_this.1 1)) inX6 rfl (by decide) w4 rfl rfl rfl dX6_isRule_3 ?_
  refine lv_iconst (v := 1) hx hb dX6_isRule_6 (by decide) ?_
  refine lv_isub hx hb dX6_isRule_7 ?_
  obtain ⟨q1, h1, hf⟩ := asb hf
  refine r_callS (As := [.int x0, .int 0, .int ((o_this.1 1) - 1)]) (rest := []) F h hl (c6_in l D K x0 0 ((o_this.1 1) - 1) q1 h1) w3 ⟨w0, w1, w2⟩ hsc6_in ⟨Nat.le_of_ble_eq_true rfl, Nat.le_of_ble_eq_true rfl⟩ ⟨Nat.le_refl 0, Nat.le_refl 0⟩ (Nat.le_of_ble_eq_true rfl) dX6_isRule_8 (fun H locs h => ?_)
  obtain ⟨g2, hf⟩ := gdb hf
  obtain rfl := sor hf
  exact r_retz F h g2 dX6_isRule_11
def f6_isState (x0 : Int32) (o_this : ob) : Option (Int32) :=
  (f6_in x0 0 ((o_this.1 0) - 1)).bind fun q1 => gd (bz q1) <| some q1
set_option maxRecDepth 100000 in
set_option maxHeartbeats 4000000 in
theorem c6_isState (l : Launch) (D : va_G) (K : Nat → ClassId) (a0 : Nat → Nat) (x0 : Int32) (o_this : ob) (r : Int32) (hf : f6_isState x0 o_this = some r) : CTi l yX6_isState cX6_isState 2 (some .boolean) 1 22 D K [.ref (a0 0), .int x0] [wX6 K a0 o_this] [wX6 K a0 o_this] r := by
  unfold f6_isState at hf
  have hf := tob hf
  refine entI (by decide) (Nat.le_of_ble_eq_true rfl) (fun P e s m args below meth c A ls F h hl hin => ?_)
  have hx := F.1
  have hb := F.2.1
  have hl : lv_has ls 2 [(0, .ref (a0 0)), (1, .int x0)] := hl
  refine lv_iload_n hx hb dX6_isState_0 rfl (lv_at hl 1 rfl) ?_
  refine lv_iconst (v := 0) hx hb dX6_isState_1 (by decide) ?_
  refine lv_aload_n hx hb dX6_isState_2 rfl (lv_at hl 0 rfl) ?_
  refine r_get F h (i := 0) (k := 0) (.int (o_this.1 0)) inX6 rfl (by decide) w5 rfl rfl rfl dX6_isState_3 ?_
  refine lv_iconst (v := 1) hx hb dX6_isState_6 (by decide) ?_
  refine lv_isub hx hb dX6_isState_7 ?_
  obtain ⟨q1, h1, hf⟩ := asb hf
  refine r_callS (As := [.int x0, .int 0, .int ((o_this.1 0) - 1)]) (rest := []) F h hl (c6_in l D K x0 0 ((o_this.1 0) - 1) q1 h1) w3 ⟨w0, w1, w2⟩ hsc6_in ⟨Nat.le_of_ble_eq_true rfl, Nat.le_of_ble_eq_true rfl⟩ ⟨Nat.le_refl 0, Nat.le_refl 0⟩ (Nat.le_of_ble_eq_true rfl) dX6_isState_8 (fun H locs h => ?_)
  obtain ⟨g2, hf⟩ := gdb hf
  obtain rfl := sor hf
  exact r_retz F h g2 dX6_isState_11
def f6_fits (x0 : Int32) (x1 : Int32) (x2 : Int32) (o_this : ob) : Option (Int32) :=
  gd (vin (7 * x0) 70) <| (if (o_this.2 2 (7 * x0).toNatClampNeg) = x1 then (gd (vin ((7 * x0) + 1) 70) <| (if (o_this.2 2 ((7 * x0) + 1).toNatClampNeg) = x2 then (some 1) else (some 0))) else (some 0))
set_option maxRecDepth 100000 in
set_option maxHeartbeats 4000000 in
theorem c6_fits (l : Launch) (D : va_G) (K : Nat → ClassId) (a0 : Nat → Nat) (x0 : Int32) (x1 : Int32) (x2 : Int32) (o_this : ob) (r : Int32) (hf : f6_fits x0 x1 x2 o_this = some r) : CTi l yX6_fits cX6_fits 4 (some .boolean) 0 0 D K [.ref (a0 0), .int x0, .int x1, .int x2] [wX6 K a0 o_this] [wX6 K a0 o_this] r := by
  unfold f6_fits at hf
  have hf := tob hf
  refine entI (by decide) (Nat.le_of_ble_eq_true rfl) (fun P e s m args below meth c A ls F h hl hin => ?_)
  have hx := F.1
  have hb := F.2.1
  have hl : lv_has ls 4 [(0, .ref (a0 0)), (1, .int x0), (2, .int x1), (3, .int x2)] := hl
  refine lv_aload_n hx hb dX6_fits_0 rfl (lv_at hl 0 rfl) ?_
  refine r_get F h (i := 0) (k := 2) (.ref (a0 3)) inX6 rfl (by decide) w6 rfl rfl rfl dX6_fits_1 ?_
  refine lv_bipush (v := 7) hx hb dX6_fits_4 (by decide) ?_
  refine lv_iload_n hx hb dX6_fits_6 rfl (lv_at hl 1 rfl) ?_
  refine lv_imul hx hb dX6_fits_7 ?_
  obtain ⟨g1, hf⟩ := gdb hf
  refine r_iald F h (i := 0) (j := 1) rfl rfl (vin_ok g1) dX6_fits_8 ?_
  refine lv_iload_n hx hb dX6_fits_9 rfl (lv_at hl 2 rfl) ?_
  refine lv_icmp_ne (tgt := 32) hx hb dX6_fits_10 (by decide) (fun c2 => ?_) (fun c2 => ?_)
  · have hf := ifn hf c2
    refine lv_iconst (v := 0) hx hb dX6_fits_32 (by decide) ?_
    obtain rfl := sor hf
    exact r_retz F h rfl dX6_fits_33
  · have hf := ifp hf c2
    refine lv_aload_n hx hb dX6_fits_13 rfl (lv_at hl 0 rfl) ?_
    refine r_get F h (i := 0) (k := 2) (.ref (a0 3)) inX6 rfl (by decide) w6 rfl rfl rfl dX6_fits_14 ?_
    refine lv_bipush (v := 7) hx hb dX6_fits_17 (by decide) ?_
    refine lv_iload_n hx hb dX6_fits_19 rfl (lv_at hl 1 rfl) ?_
    refine lv_imul hx hb dX6_fits_20 ?_
    refine lv_iconst (v := 1) hx hb dX6_fits_21 (by decide) ?_
    refine lv_iadd hx hb dX6_fits_22 ?_
    obtain ⟨g3, hf⟩ := gdb hf
    refine r_iald F h (i := 0) (j := 1) rfl rfl (vin_ok g3) dX6_fits_23 ?_
    refine lv_iload_n hx hb dX6_fits_24 rfl (lv_at hl 3 rfl) ?_
    refine lv_icmp_ne (tgt := 32) hx hb dX6_fits_25 (by decide) (fun c4 => ?_) (fun c4 => ?_)
    · have hf := ifn hf c4
      refine lv_iconst (v := 0) hx hb dX6_fits_32 (by decide) ?_
      obtain rfl := sor hf
      exact r_retz F h rfl dX6_fits_33
    · have hf := ifp hf c4
      refine lv_iconst (v := 1) hx hb dX6_fits_28 (by decide) ?_
      refine lv_goto (tgt := 33) hx hb dX6_fits_29 (by decide) ?_
      obtain rfl := sor hf
      exact r_retz F h rfl dX6_fits_33
def f6_rule (x0 : Int32) (x1 : Int32) (o_this : ob) : Option (Int32) :=
  (f6_isRule x0 o_this).bind fun q1 => (if q1 = 0 then (some (-1)) else ((f6_in x1 0 6).bind fun q3 => (if q3 = 0 then (some (-1)) else (gd (vin ((7 * x0) + x1) 70) <| some (o_this.2 2 ((7 * x0) + x1).toNatClampNeg)))))
set_option maxRecDepth 100000 in
set_option maxHeartbeats 4000000 in
theorem c6_rule (l : Launch) (D : va_G) (K : Nat → ClassId) (a0 : Nat → Nat) (x0 : Int32) (x1 : Int32) (o_this : ob) (r : Int32) (hf : f6_rule x0 x1 o_this = some r) : CTi l yX6_rule cX6_rule 3 (some .int) 2 43 D K [.ref (a0 0), .int x0, .int x1] [wX6 K a0 o_this] [wX6 K a0 o_this] r := by
  unfold f6_rule at hf
  have hf := tob hf
  refine entI (by decide) (Nat.le_of_ble_eq_true rfl) (fun P e s m args below meth c A ls F h hl hin => ?_)
  have hx := F.1
  have hb := F.2.1
  have hl : lv_has ls 3 [(0, .ref (a0 0)), (1, .int x0), (2, .int x1)] := hl
  refine lv_aload_n hx hb dX6_rule_0 rfl (lv_at hl 0 rfl) ?_
  refine lv_iload_n hx hb dX6_rule_1 rfl (lv_at hl 1 rfl) ?_
  obtain ⟨q1, h1, hf⟩ := asb hf
  refine r_callVi (As := [.int x0]) (rest := []) (C0 := [wX6 K a0 o_this]) (C1 := [wX6 K a0 o_this]) (Rr := []) (S' := [wX6 K a0 o_this]) F h hl (c6_isRule l D K a0 x0 o_this q1 h1) [0] rfl rfl rfl rfl rfl (i := 0) rfl rfl w7 ⟨w8, w9, w10, w2⟩ hsc6_isRule ⟨Nat.le_of_ble_eq_true rfl, Nat.le_of_ble_eq_true rfl⟩ ⟨Nat.le_refl 0, Nat.le_refl 0⟩ (Nat.le_of_ble_eq_true rfl) dX6_rule_2 (fun H locs h => ?_)
  refine lv_if_eq (tgt := 18) hx hb dX6_rule_5 (by decide) (fun c2 => ?_) (fun c2 => ?_)
  · have hf := ifp hf c2
    refine lv_iconst (v := (-1)) hx hb dX6_rule_18 (by decide) ?_
    obtain rfl := sor hf
    exact r_reti F h dX6_rule_19
  · have hf := ifn hf c2
    refine lv_iload_n hx hb dX6_rule_8 rfl (lv_at hl 2 rfl) ?_
    refine lv_iconst (v := 0) hx hb dX6_rule_9 (by decide) ?_
    refine lv_bipush (v := 6) hx hb dX6_rule_10 (by decide) ?_
    obtain ⟨q3, h3, hf⟩ := asb hf
    refine r_callS (As := [.int x1, .int 0, .int 6]) (rest := []) F h hl (c6_in l D K x1 0 6 q3 h3) w3 ⟨w0, w1, w2⟩ hsc6_in ⟨Nat.le_of_ble_eq_true rfl, Nat.le_of_ble_eq_true rfl⟩ ⟨Nat.le_refl 0, Nat.le_refl 0⟩ (Nat.le_of_ble_eq_true rfl) dX6_rule_12 (fun H locs h => ?_)
    refine lv_if_ne (tgt := 20) hx hb dX6_rule_15 (by decide) (fun c4 => ?_) (fun c4 => ?_)
    · have hf := ifn hf c4
      refine lv_aload_n hx hb dX6_rule_20 rfl (lv_at hl 0 rfl) ?_
      refine r_get F h (i := 0) (k := 2) (.ref (a0 3)) inX6 rfl (by decide) w6 rfl rfl rfl dX6_rule_21 ?_
      refine lv_bipush (v := 7) hx hb dX6_rule_24 (by decide) ?_
      refine lv_iload_n hx hb dX6_rule_26 rfl (lv_at hl 1 rfl) ?_
      refine lv_imul hx hb dX6_rule_27 ?_
      refine lv_iload_n hx hb dX6_rule_28 rfl (lv_at hl 2 rfl) ?_
      refine lv_iadd hx hb dX6_rule_29 ?_
      obtain ⟨g5, hf⟩ := gdb hf
      refine r_iald F h (i := 0) (j := 1) rfl rfl (vin_ok g5) dX6_rule_30 ?_
      obtain rfl := sor hf
      exact r_reti F h dX6_rule_31
    · have hf := ifp hf c4
      refine lv_iconst (v := (-1)) hx hb dX6_rule_18 (by decide) ?_
      obtain rfl := sor hf
      exact r_reti F h dX6_rule_19
def f6_target (x0 : Int32) (x1 : Int32) (o_this : ob) : Option (Int32) :=
  (f6_in x0 0 ((o_this.1 3) - 1)).bind fun q1 => (if q1 = 0 then (some (-1)) else ((f6_in x1 0 5).bind fun q3 => (if q3 = 0 then (some (-1)) else (gd (vin ((6 * x0) + x1) 24) <| some (o_this.2 4 ((6 * x0) + x1).toNatClampNeg)))))
set_option maxRecDepth 100000 in
set_option maxHeartbeats 4000000 in
theorem c6_target (l : Launch) (D : va_G) (K : Nat → ClassId) (a0 : Nat → Nat) (x0 : Int32) (x1 : Int32) (o_this : ob) (r : Int32) (hf : f6_target x0 x1 o_this = some r) : CTi l yX6_target cX6_target 3 (some .int) 1 22 D K [.ref (a0 0), .int x0, .int x1] [wX6 K a0 o_this] [wX6 K a0 o_this] r := by
  unfold f6_target at hf
  have hf := tob hf
  refine entI (by decide) (Nat.le_of_ble_eq_true rfl) (fun P e s m args below meth c A ls F h hl hin => ?_)
  have hx := F.1
  have hb := F.2.1
  have hl : lv_has ls 3 [(0, .ref (a0 0)), (1, .int x0), (2, .int x1)] := hl
  refine lv_iload_n hx hb dX6_target_0 rfl (lv_at hl 1 rfl) ?_
  refine lv_iconst (v := 0) hx hb dX6_target_1 (by decide) ?_
  refine lv_aload_n hx hb dX6_target_2 rfl (lv_at hl 0 rfl) ?_
  refine r_get F h (i := 0) (k := 3) (.int (o_this.1 3)) inX6 rfl (by decide) w11 rfl rfl rfl dX6_target_3 ?_
  refine lv_iconst (v := 1) hx hb dX6_target_6 (by decide) ?_
  refine lv_isub hx hb dX6_target_7 ?_
  obtain ⟨q1, h1, hf⟩ := asb hf
  refine r_callS (As := [.int x0, .int 0, .int ((o_this.1 3) - 1)]) (rest := []) F h hl (c6_in l D K x0 0 ((o_this.1 3) - 1) q1 h1) w3 ⟨w0, w1, w2⟩ hsc6_in ⟨Nat.le_of_ble_eq_true rfl, Nat.le_of_ble_eq_true rfl⟩ ⟨Nat.le_refl 0, Nat.le_refl 0⟩ (Nat.le_of_ble_eq_true rfl) dX6_target_8 (fun H locs h => ?_)
  refine lv_if_eq (tgt := 37) hx hb dX6_target_11 (by decide) (fun c2 => ?_) (fun c2 => ?_)
  · have hf := ifp hf c2
    refine lv_iconst (v := (-1)) hx hb dX6_target_37 (by decide) ?_
    obtain rfl := sor hf
    exact r_reti F h dX6_target_38
  · have hf := ifn hf c2
    refine lv_iload_n hx hb dX6_target_14 rfl (lv_at hl 2 rfl) ?_
    refine lv_iconst (v := 0) hx hb dX6_target_15 (by decide) ?_
    refine lv_iconst (v := 5) hx hb dX6_target_16 (by decide) ?_
    obtain ⟨q3, h3, hf⟩ := asb hf
    refine r_callS (As := [.int x1, .int 0, .int 5]) (rest := []) F h hl (c6_in l D K x1 0 5 q3 h3) w3 ⟨w0, w1, w2⟩ hsc6_in ⟨Nat.le_of_ble_eq_true rfl, Nat.le_of_ble_eq_true rfl⟩ ⟨Nat.le_refl 0, Nat.le_refl 0⟩ (Nat.le_of_ble_eq_true rfl) dX6_target_17 (fun H locs h => ?_)
    refine lv_if_eq (tgt := 37) hx hb dX6_target_20 (by decide) (fun c4 => ?_) (fun c4 => ?_)
    · have hf := ifp hf c4
      refine lv_iconst (v := (-1)) hx hb dX6_target_37 (by decide) ?_
      obtain rfl := sor hf
      exact r_reti F h dX6_target_38
    · have hf := ifn hf c4
      refine lv_aload_n hx hb dX6_target_23 rfl (lv_at hl 0 rfl) ?_
      refine r_get F h (i := 0) (k := 4) (.ref (a0 5)) inX6 rfl (by decide) w12 rfl rfl rfl dX6_target_24 ?_
      refine lv_bipush (v := 6) hx hb dX6_target_27 (by decide) ?_
      refine lv_iload_n hx hb dX6_target_29 rfl (lv_at hl 1 rfl) ?_
      refine lv_imul hx hb dX6_target_30 ?_
      refine lv_iload_n hx hb dX6_target_31 rfl (lv_at hl 2 rfl) ?_
      refine lv_iadd hx hb dX6_target_32 ?_
      obtain ⟨g5, hf⟩ := gdb hf
      refine r_iald F h (i := 0) (j := 2) rfl rfl (vin_ok g5) dX6_target_33 ?_
      refine lv_goto (tgt := 38) hx hb dX6_target_34 (by decide) ?_
      obtain rfl := sor hf
      exact r_reti F h dX6_target_38
def f6_stack (x0 : Int32) (o_this : ob) : Option (Int32) :=
  (if (-2) ≤ x0 then ((if 0 ≤ x0 then ((if (o_this.1 6) ≤ x0 then (some (-4)) else (gd (vin (((o_this.1 6) - 1) - x0) 12) <| some (o_this.2 7 (((o_this.1 6) - 1) - x0).toNatClampNeg)))) else ((if x0 = (-2) then (some (o_this.1 5)) else (some (o_this.1 6)))))) else (some (-1)))
set_option maxRecDepth 100000 in
set_option maxHeartbeats 4000000 in
theorem c6_stack (l : Launch) (D : va_G) (K : Nat → ClassId) (a0 : Nat → Nat) (x0 : Int32) (o_this : ob) (r : Int32) (hf : f6_stack x0 o_this = some r) : CTi l yX6_stack cX6_stack 2 (some .int) 0 0 D K [.ref (a0 0), .int x0] [wX6 K a0 o_this] [wX6 K a0 o_this] r := by
  unfold f6_stack at hf
  have hf := tob hf
  refine entI (by decide) (Nat.le_of_ble_eq_true rfl) (fun P e s m args below meth c A ls F h hl hin => ?_)
  have hx := F.1
  have hb := F.2.1
  have hl : lv_has ls 2 [(0, .ref (a0 0)), (1, .int x0)] := hl
  refine lv_iload_n hx hb dX6_stack_0 rfl (lv_at hl 1 rfl) ?_
  refine lv_bipush (v := (-2)) hx hb dX6_stack_1 (by decide) ?_
  refine lv_icmp_ge (tgt := 8) hx hb dX6_stack_3 (by decide) (fun c1 => ?_) (fun c1 => ?_)
  · have hf := ifp hf c1
    refine lv_iload_n hx hb dX6_stack_8 rfl (lv_at hl 1 rfl) ?_
    refine lv_if_ge (tgt := 30) hx hb dX6_stack_9 (by decide) (fun c2 => ?_) (fun c2 => ?_)
    · have hf := ifp hf c2
      refine lv_iload_n hx hb dX6_stack_30 rfl (lv_at hl 1 rfl) ?_
      refine lv_aload_n hx hb dX6_stack_31 rfl (lv_at hl 0 rfl) ?_
      refine r_get F h (i := 0) (k := 6) (.int (o_this.1 6)) inX6 rfl (by decide) w13 rfl rfl rfl dX6_stack_32 ?_
      refine lv_icmp_ge (tgt := 54) hx hb dX6_stack_35 (by decide) (fun c3 => ?_) (fun c3 => ?_)
      · have hf := ifp hf c3
        refine lv_bipush (v := (-4)) hx hb dX6_stack_54 (by decide) ?_
        obtain rfl := sor hf
        exact r_reti F h dX6_stack_56
      · have hf := ifn hf c3
        refine lv_aload_n hx hb dX6_stack_38 rfl (lv_at hl 0 rfl) ?_
        refine r_get F h (i := 0) (k := 7) (.ref (a0 8)) inX6 rfl (by decide) w14 rfl rfl rfl dX6_stack_39 ?_
        refine lv_aload_n hx hb dX6_stack_42 rfl (lv_at hl 0 rfl) ?_
        refine r_get F h (i := 0) (k := 6) (.int (o_this.1 6)) inX6 rfl (by decide) w13 rfl rfl rfl dX6_stack_43 ?_
        refine lv_iconst (v := 1) hx hb dX6_stack_46 (by decide) ?_
        refine lv_isub hx hb dX6_stack_47 ?_
        refine lv_iload_n hx hb dX6_stack_48 rfl (lv_at hl 1 rfl) ?_
        refine lv_isub hx hb dX6_stack_49 ?_
        obtain ⟨g4, hf⟩ := gdb hf
        refine r_iald F h (i := 0) (j := 3) rfl rfl (vin_ok g4) dX6_stack_50 ?_
        refine lv_goto (tgt := 56) hx hb dX6_stack_51 (by decide) ?_
        obtain rfl := sor hf
        exact r_reti F h dX6_stack_56
    · have hf := ifn hf c2
      refine lv_iload_n hx hb dX6_stack_12 rfl (lv_at hl 1 rfl) ?_
      refine lv_bipush (v := (-2)) hx hb dX6_stack_13 (by decide) ?_
      refine lv_icmp_ne (tgt := 25) hx hb dX6_stack_15 (by decide) (fun c5 => ?_) (fun c5 => ?_)
      · have hf := ifn hf c5
        refine lv_aload_n hx hb dX6_stack_25 rfl (lv_at hl 0 rfl) ?_
        refine r_get F h (i := 0) (k := 6) (.int (o_this.1 6)) inX6 rfl (by decide) w13 rfl rfl rfl dX6_stack_26 ?_
        obtain rfl := sor hf
        exact r_reti F h dX6_stack_29
      · have hf := ifp hf c5
        refine lv_aload_n hx hb dX6_stack_18 rfl (lv_at hl 0 rfl) ?_
        refine r_get F h (i := 0) (k := 5) (.int (o_this.1 5)) inX6 rfl (by decide) w15 rfl rfl rfl dX6_stack_19 ?_
        refine lv_goto (tgt := 29) hx hb dX6_stack_22 (by decide) ?_
        obtain rfl := sor hf
        exact r_reti F h dX6_stack_29
  · have hf := ifn hf c1
    refine lv_iconst (v := (-1)) hx hb dX6_stack_6 (by decide) ?_
    obtain rfl := sor hf
    exact r_reti F h dX6_stack_7
def f6_sign (x0 : Int32) (o_this : ob) : Option (Int32 × ob) :=
  (if (o_this.1 30) ≤ (o_this.1 31) then (some (0, o_this)) else (gd (vin (o_this.1 31) 200) <| (if (o_this.2 29 (o_this.1 31).toNatClampNeg) = x0 then (lt (sI o_this 31 ((o_this.1 31) + 1)) fun t4 => some (1, t4)) else (some (0, o_this)))))
set_option maxRecDepth 100000 in
set_option maxHeartbeats 4000000 in
theorem c6_sign (l : Launch) (D : va_G) (K : Nat → ClassId) (a0 : Nat → Nat) (x0 : Int32) (o_this : ob) (r : Int32 × ob) (hf : f6_sign x0 o_this = some r) : CTi l yX6_sign cX6_sign 2 (some .boolean) 0 0 D K [.ref (a0 0), .int x0] [wX6 K a0 o_this] [wX6 K a0 r.2] r.1 := by
  unfold f6_sign at hf
  have hf := tob hf
  refine entI (by decide) (Nat.le_of_ble_eq_true rfl) (fun P e s m args below meth c A ls F h hl hin => ?_)
  have hx := F.1
  have hb := F.2.1
  have hl : lv_has ls 2 [(0, .ref (a0 0)), (1, .int x0)] := hl
  refine lv_aload_n hx hb dX6_sign_0 rfl (lv_at hl 0 rfl) ?_
  refine r_get F h (i := 0) (k := 31) (.int (o_this.1 31)) inX6 rfl (by decide) w16 rfl rfl rfl dX6_sign_1 ?_
  refine lv_aload_n hx hb dX6_sign_4 rfl (lv_at hl 0 rfl) ?_
  refine r_get F h (i := 0) (k := 30) (.int (o_this.1 30)) inX6 rfl (by decide) w17 rfl rfl rfl dX6_sign_5 ?_
  refine lv_icmp_ge (tgt := 36) hx hb dX6_sign_8 (by decide) (fun c1 => ?_) (fun c1 => ?_)
  · have hf := ifp hf c1
    refine lv_iconst (v := 0) hx hb dX6_sign_36 (by decide) ?_
    obtain rfl := sor hf
    exact r_retz F h rfl dX6_sign_37
  · have hf := ifn hf c1
    refine lv_aload_n hx hb dX6_sign_11 rfl (lv_at hl 0 rfl) ?_
    refine r_get F h (i := 0) (k := 29) (.ref (a0 30)) inX6 rfl (by decide) w18 rfl rfl rfl dX6_sign_12 ?_
    refine lv_aload_n hx hb dX6_sign_15 rfl (lv_at hl 0 rfl) ?_
    refine r_get F h (i := 0) (k := 31) (.int (o_this.1 31)) inX6 rfl (by decide) w16 rfl rfl rfl dX6_sign_16 ?_
    obtain ⟨g2, hf⟩ := gdb hf
    refine r_iald F h (i := 0) (j := 18) rfl rfl (vin_ok g2) dX6_sign_19 ?_
    refine lv_iload_n hx hb dX6_sign_20 rfl (lv_at hl 1 rfl) ?_
    refine lv_icmp_ne (tgt := 36) hx hb dX6_sign_21 (by decide) (fun c3 => ?_) (fun c3 => ?_)
    · have hf := ifn hf c3
      refine lv_iconst (v := 0) hx hb dX6_sign_36 (by decide) ?_
      obtain rfl := sor hf
      exact r_retz F h rfl dX6_sign_37
    · have hf := ifp hf c3
      refine lv_aload_n hx hb dX6_sign_24 rfl (lv_at hl 0 rfl) ?_
      refine lv_dup hx hb dX6_sign_25 rfl ?_
      refine r_get F h (i := 0) (k := 31) (.int (o_this.1 31)) inX6 rfl (by decide) w16 rfl rfl rfl dX6_sign_26 ?_
      refine lv_iconst (v := 1) hx hb dX6_sign_29 (by decide) ?_
      refine lv_iadd hx hb dX6_sign_30 ?_
      refine r_put (o1 := sI o_this 31 ((o_this.1 31) + 1)) (w := fun t4 => wX6 K a0 t4) (S' := fun t4 => [wX6 K a0 t4]) F h (i := 0) (k := 31) inX6 tyX6_ok nmX6 rfl (by decide) w16 rfl rfl rfl rfl rfl (Nat.le_of_ble_eq_true rfl) rfl (fun _ => rfl) dX6_sign_31 (fun t4 e4 H locs h => ?_)
      have hf := ltb hf e4
      refine lv_iconst (v := 1) hx hb dX6_sign_34 (by decide) ?_
      obtain rfl := sor hf
      exact r_retz F h rfl dX6_sign_35
def f6_figure (x0 : Int32) (x1 : Int32) (o_this : ob) : Option (Int32 × ob) :=
  (if (o_this.1 30) ≤ (o_this.1 31) then (some (0, o_this)) else (gd (vin (o_this.1 31) 200) <| (f6_in ((o_this.2 29 (o_this.1 31).toNatClampNeg) - 48) x0 (x1 - 1)).bind fun q3 => (if q3 = 0 then (some (0, o_this)) else (gd (vin (o_this.1 31) 200) <| lt (sI o_this 32 ((o_this.2 29 (o_this.1 31).toNatClampNeg) - 48)) fun t6 => lt (sI t6 31 ((t6.1 31) + 1)) fun t7 => some (1, t7)))))
set_option maxRecDepth 100000 in
set_option maxHeartbeats 4000000 in
theorem c6_figure (l : Launch) (D : va_G) (K : Nat → ClassId) (a0 : Nat → Nat) (x0 : Int32) (x1 : Int32) (o_this : ob) (r : Int32 × ob) (hf : f6_figure x0 x1 o_this = some r) : CTi l yX6_figure cX6_figure 3 (some .boolean) 1 22 D K [.ref (a0 0), .int x0, .int x1] [wX6 K a0 o_this] [wX6 K a0 r.2] r.1 := by
  unfold f6_figure at hf
  have hf := tob hf
  refine entI (by decide) (Nat.le_of_ble_eq_true rfl) (fun P e s m args below meth c A ls F h hl hin => ?_)
  have hx := F.1
  have hb := F.2.1
  have hl : lv_has ls 3 [(0, .ref (a0 0)), (1, .int x0), (2, .int x1)] := hl
  refine lv_aload_n hx hb dX6_figure_0 rfl (lv_at hl 0 rfl) ?_
  refine r_get F h (i := 0) (k := 31) (.int (o_this.1 31)) inX6 rfl (by decide) w16 rfl rfl rfl dX6_figure_1 ?_
  refine lv_aload_n hx hb dX6_figure_4 rfl (lv_at hl 0 rfl) ?_
  refine r_get F h (i := 0) (k := 30) (.int (o_this.1 30)) inX6 rfl (by decide) w17 rfl rfl rfl dX6_figure_5 ?_
  refine lv_icmp_ge (tgt := 61) hx hb dX6_figure_8 (by decide) (fun c1 => ?_) (fun c1 => ?_)
  · have hf := ifp hf c1
    refine lv_iconst (v := 0) hx hb dX6_figure_61 (by decide) ?_
    obtain rfl := sor hf
    exact r_retz F h rfl dX6_figure_62
  · have hf := ifn hf c1
    refine lv_aload_n hx hb dX6_figure_11 rfl (lv_at hl 0 rfl) ?_
    refine r_get F h (i := 0) (k := 29) (.ref (a0 30)) inX6 rfl (by decide) w18 rfl rfl rfl dX6_figure_12 ?_
    refine lv_aload_n hx hb dX6_figure_15 rfl (lv_at hl 0 rfl) ?_
    refine r_get F h (i := 0) (k := 31) (.int (o_this.1 31)) inX6 rfl (by decide) w16 rfl rfl rfl dX6_figure_16 ?_
    obtain ⟨g2, hf⟩ := gdb hf
    refine r_iald F h (i := 0) (j := 18) rfl rfl (vin_ok g2) dX6_figure_19 ?_
    refine lv_bipush (v := 48) hx hb dX6_figure_20 (by decide) ?_
    refine lv_isub hx hb dX6_figure_22 ?_
    refine lv_iload_n hx hb dX6_figure_23 rfl (lv_at hl 1 rfl) ?_
    refine lv_iload_n hx hb dX6_figure_24 rfl (lv_at hl 2 rfl) ?_
    refine lv_iconst (v := 1) hx hb dX6_figure_25 (by decide) ?_
    refine lv_isub hx hb dX6_figure_26 ?_
    obtain ⟨q3, h3, hf⟩ := asb hf
    refine r_callS (As := [.int ((o_this.2 29 (o_this.1 31).toNatClampNeg) - 48), .int x0, .int (x1 - 1)]) (rest := []) F h hl (c6_in l D K ((o_this.2 29 (o_this.1 31).toNatClampNeg) - 48) x0 (x1 - 1) q3 h3) w3 ⟨w0, w1, w2⟩ hsc6_in ⟨Nat.le_of_ble_eq_true rfl, Nat.le_of_ble_eq_true rfl⟩ ⟨Nat.le_refl 0, Nat.le_refl 0⟩ (Nat.le_of_ble_eq_true rfl) dX6_figure_27 (fun H locs h => ?_)
    refine lv_if_eq (tgt := 61) hx hb dX6_figure_30 (by decide) (fun c4 => ?_) (fun c4 => ?_)
    · have hf := ifp hf c4
      refine lv_iconst (v := 0) hx hb dX6_figure_61 (by decide) ?_
      obtain rfl := sor hf
      exact r_retz F h rfl dX6_figure_62
    · have hf := ifn hf c4
      refine lv_aload_n hx hb dX6_figure_33 rfl (lv_at hl 0 rfl) ?_
      refine lv_aload_n hx hb dX6_figure_34 rfl (lv_at hl 0 rfl) ?_
      refine r_get F h (i := 0) (k := 29) (.ref (a0 30)) inX6 rfl (by decide) w18 rfl rfl rfl dX6_figure_35 ?_
      refine lv_aload_n hx hb dX6_figure_38 rfl (lv_at hl 0 rfl) ?_
      refine r_get F h (i := 0) (k := 31) (.int (o_this.1 31)) inX6 rfl (by decide) w16 rfl rfl rfl dX6_figure_39 ?_
      obtain ⟨g5, hf⟩ := gdb hf
      refine r_iald F h (i := 0) (j := 18) rfl rfl (vin_ok g5) dX6_figure_42 ?_
      refine lv_bipush (v := 48) hx hb dX6_figure_43 (by decide) ?_
      refine lv_isub hx hb dX6_figure_45 ?_
      refine r_put (o1 := sI o_this 32 ((o_this.2 29 (o_this.1 31).toNatClampNeg) - 48)) (w := fun t6 => wX6 K a0 t6) (S' := fun t6 => [wX6 K a0 t6]) F h (i := 0) (k := 32) inX6 tyX6_ok nmX6 rfl (by decide) w19 rfl rfl rfl rfl rfl (Nat.le_of_ble_eq_true rfl) rfl (fun _ => rfl) dX6_figure_46 (fun t6 e6 H locs h => ?_)
      have hf := ltb hf e6
      refine lv_aload_n hx hb dX6_figure_49 rfl (lv_at hl 0 rfl) ?_
      refine lv_dup hx hb dX6_figure_50 rfl ?_
      refine r_get F h (i := 0) (k := 31) (.int (t6.1 31)) inX6 rfl (by decide) w16 rfl rfl rfl dX6_figure_51 ?_
      refine lv_iconst (v := 1) hx hb dX6_figure_54 (by decide) ?_
      refine lv_iadd hx hb dX6_figure_55 ?_
      refine r_put (o1 := sI t6 31 ((t6.1 31) + 1)) (w := fun t7 => wX6 K a0 t7) (S' := fun t7 => [wX6 K a0 t7]) F h (i := 0) (k := 31) inX6 tyX6_ok nmX6 rfl (by decide) w16 rfl rfl rfl rfl rfl (Nat.le_of_ble_eq_true rfl) rfl (fun _ => rfl) dX6_figure_56 (fun t7 e7 H locs h => ?_)
      have hf := ltb hf e7
      refine lv_iconst (v := 1) hx hb dX6_figure_59 (by decide) ?_
      obtain rfl := sor hf
      exact r_retz F h rfl dX6_figure_60
def f6_isWordAt (o_this : ob) : Option (Int32) :=
  (if (o_this.1 30) ≤ (o_this.1 31) then (some 0) else (gd (vin (o_this.1 31) 200) <| (f6_isLetter ((o_this.2 29 (o_this.1 31).toNatClampNeg) - 97)).bind fun q3 => (if q3 = 0 then (some 0) else (some 1))))
set_option maxRecDepth 100000 in
set_option maxHeartbeats 4000000 in
theorem c6_isWordAt (l : Launch) (D : va_G) (K : Nat → ClassId) (a0 : Nat → Nat) (o_this : ob) (r : Int32) (hf : f6_isWordAt o_this = some r) : CTi l yX6_isWordAt cX6_isWordAt 1 (some .boolean) 2 42 D K [.ref (a0 0)] [wX6 K a0 o_this] [wX6 K a0 o_this] r := by
  unfold f6_isWordAt at hf
  have hf := tob hf
  refine entI (by decide) (Nat.le_of_ble_eq_true rfl) (fun P e s m args below meth c A ls F h hl hin => ?_)
  have hx := F.1
  have hb := F.2.1
  have hl : lv_has ls 1 [(0, .ref (a0 0))] := hl
  refine lv_aload_n hx hb dX6_isWordAt_0 rfl (lv_at hl 0 rfl) ?_
  refine r_get F h (i := 0) (k := 31) (.int (o_this.1 31)) inX6 rfl (by decide) w16 rfl rfl rfl dX6_isWordAt_1 ?_
  refine lv_aload_n hx hb dX6_isWordAt_4 rfl (lv_at hl 0 rfl) ?_
  refine r_get F h (i := 0) (k := 30) (.int (o_this.1 30)) inX6 rfl (by decide) w17 rfl rfl rfl dX6_isWordAt_5 ?_
  refine lv_icmp_ge (tgt := 33) hx hb dX6_isWordAt_8 (by decide) (fun c1 => ?_) (fun c1 => ?_)
  · have hf := ifp hf c1
    refine lv_iconst (v := 0) hx hb dX6_isWordAt_33 (by decide) ?_
    obtain rfl := sor hf
    exact r_retz F h rfl dX6_isWordAt_34
  · have hf := ifn hf c1
    refine lv_aload_n hx hb dX6_isWordAt_11 rfl (lv_at hl 0 rfl) ?_
    refine r_get F h (i := 0) (k := 29) (.ref (a0 30)) inX6 rfl (by decide) w18 rfl rfl rfl dX6_isWordAt_12 ?_
    refine lv_aload_n hx hb dX6_isWordAt_15 rfl (lv_at hl 0 rfl) ?_
    refine r_get F h (i := 0) (k := 31) (.int (o_this.1 31)) inX6 rfl (by decide) w16 rfl rfl rfl dX6_isWordAt_16 ?_
    obtain ⟨g2, hf⟩ := gdb hf
    refine r_iald F h (i := 0) (j := 18) rfl rfl (vin_ok g2) dX6_isWordAt_19 ?_
    refine lv_bipush (v := 97) hx hb dX6_isWordAt_20 (by decide) ?_
    refine lv_isub hx hb dX6_isWordAt_22 ?_
    obtain ⟨q3, h3, hf⟩ := asb hf
    refine r_callS (As := [.int ((o_this.2 29 (o_this.1 31).toNatClampNeg) - 97)]) (rest := []) F h hl (c6_isLetter l D K ((o_this.2 29 (o_this.1 31).toNatClampNeg) - 97) q3 h3) w22 ⟨w20, w21, w2⟩ hsc6_isLetter ⟨Nat.le_of_ble_eq_true rfl, Nat.le_of_ble_eq_true rfl⟩ ⟨Nat.le_refl 0, Nat.le_refl 0⟩ (Nat.le_of_ble_eq_true rfl) dX6_isWordAt_23 (fun H locs h => ?_)
    refine lv_if_eq (tgt := 33) hx hb dX6_isWordAt_26 (by decide) (fun c4 => ?_) (fun c4 => ?_)
    · have hf := ifp hf c4
      refine lv_iconst (v := 0) hx hb dX6_isWordAt_33 (by decide) ?_
      obtain rfl := sor hf
      exact r_retz F h rfl dX6_isWordAt_34
    · have hf := ifn hf c4
      refine lv_iconst (v := 1) hx hb dX6_isWordAt_29 (by decide) ?_
      refine lv_goto (tgt := 34) hx hb dX6_isWordAt_30 (by decide) ?_
      obtain rfl := sor hf
      exact r_retz F h rfl dX6_isWordAt_34
def f6_word_L5 (z2 : ob) : Option (Nat × (ob)) :=
  (f6_isWordAt z2).bind fun q4 => (if q4 = 0 then (some (1, z2)) else (((if 6 ≤ (z2.1 33) then (some z2) else (gd (vin (z2.1 31) 200) <| gd (vin (z2.1 33) 6) <| lt (sA z2 34 (z2.1 33).toNatClampNeg ((z2.2 29 (z2.1 31).toNatClampNeg) - 97)) fun t12 => some t12))).bind fun v6 => lt (sI v6 33 ((v6.1 33) + 1)) fun t7 => lt (sI t7 31 ((t7.1 31) + 1)) fun t8 => some (0, t8)))
noncomputable def f6_word (x0 : Int32) (o_this : ob) : Option (Int32 × ob) :=
  lt (sI o_this 33 0) fun t1 => (wh f6_word_L5 t1).bind fun q2 => (if x0 < (q2.2.1 33) then (some (0, q2.2)) else (some (1, q2.2)))
set_option maxRecDepth 100000 in
set_option maxHeartbeats 4000000 in
theorem c6_word (l : Launch) (D : va_G) (K : Nat → ClassId) (a0 : Nat → Nat) (x0 : Int32) (o_this : ob) (r : Int32 × ob) (hf : f6_word x0 o_this = some r) : CTi l yX6_word cX6_word 2 (some .boolean) 3 62 D K [.ref (a0 0), .int x0] [wX6 K a0 o_this] [wX6 K a0 r.2] r.1 := by
  unfold f6_word at hf
  have hf := tob hf
  refine entI (by decide) (Nat.le_of_ble_eq_true rfl) (fun P e s m args below meth c A ls F h hl hin => ?_)
  have hx := F.1
  have hb := F.2.1
  have hl : lv_has ls 2 [(0, .ref (a0 0)), (1, .int x0)] := hl
  refine lv_aload_n hx hb dX6_word_0 rfl (lv_at hl 0 rfl) ?_
  refine lv_iconst (v := 0) hx hb dX6_word_1 (by decide) ?_
  refine r_put (o1 := sI o_this 33 0) (w := fun t1 => wX6 K a0 t1) (S' := fun t1 => [wX6 K a0 t1]) F h (i := 0) (k := 33) inX6 tyX6_ok nmX6 rfl (by decide) w23 rfl rfl rfl rfl rfl (Nat.le_of_ble_eq_true rfl) rfl (fun _ => rfl) dX6_word_2 (fun t1 e1 H locs h => ?_)
  have hf := ltb hf e1
  obtain ⟨q2, hq2, hf⟩ := asb hf
  obtain ⟨nq2, hq2⟩ := wh_out hq2
  have Xq2_1 : ∀ (z2 : ob) (H : Heap) (locs : List Loc) (ls : Array Slot), q2 = (1, z2) → WD D A s.heap H locs [wX6 K a0 z2] → lv_has ls 2 [(0, .ref (a0 0)), (1, .int x0)] → W P l e (rmS 3 62) s m args below meth c H locs 0 0 (MQ below (QiS D A [wX6 K a0 r.2] r.1) args s 0 0 A) (F0 m 65 ls []) := by
    intro z2 H locs ls eq2 h hl
    obtain rfl : z2 = q2.2 := by rw [eq2]
    refine lv_aload_n hx hb dX6_word_65 rfl (lv_at hl 0 rfl) ?_
    refine r_get F h (i := 0) (k := 33) (.int (q2.2.1 33)) inX6 rfl (by decide) w23 rfl rfl rfl dX6_word_66 ?_
    refine lv_iload_n hx hb dX6_word_69 rfl (lv_at hl 1 rfl) ?_
    refine lv_icmp_gt (tgt := 77) hx hb dX6_word_70 (by decide) (fun c3 => ?_) (fun c3 => ?_)
    · have hf := ifp hf c3
      refine lv_iconst (v := 0) hx hb dX6_word_77 (by decide) ?_
      obtain rfl := sor hf
      exact r_retz F h rfl dX6_word_78
    · have hf := ifn hf c3
      refine lv_iconst (v := 1) hx hb dX6_word_73 (by decide) ?_
      refine lv_goto (tgt := 78) hx hb dX6_word_74 (by decide) ?_
      obtain rfl := sor hf
      exact r_retz F h rfl dX6_word_78
  have Lq2 : ∀ (n : Nat) (z2 : ob) (H : Heap) (locs : List Loc) (ls : Array Slot), iter f6_word_L5 n z2 = some q2 → WD D A s.heap H locs [wX6 K a0 z2] → lv_has ls 2 [(0, .ref (a0 0)), (1, .int x0)] → W P l e (rmS 3 62) s m args below meth c H locs 0 0 (MQ below (QiS D A [wX6 K a0 r.2] r.1) args s 0 0 A) (F0 m 5 ls []) := by
    intro n
    induction n with
    | zero => intro z2 H locs ls hi; exact (iter_0 hi).elim
    | succ n ihq2 =>
      intro z2 H locs ls hi h hl
      obtain ⟨uq2, hf, huq2⟩ := iter_s hi
      unfold f6_word_L5 at hf
      have hf := tob hf
      refine lv_aload_n hx hb dX6_word_5 rfl (lv_at hl 0 rfl) ?_
      obtain ⟨q4, h4, hf⟩ := asb hf
      refine r_callVi (As := []) (rest := []) (C0 := [wX6 K a0 z2]) (C1 := [wX6 K a0 z2]) (Rr := []) (S' := [wX6 K a0 z2]) F h hl (c6_isWordAt l D K a0 z2 q4 h4) [0] rfl rfl rfl rfl rfl (i := 0) rfl rfl w25 ⟨w26, w27, w28, w2⟩ hsc6_isWordAt ⟨Nat.le_of_ble_eq_true rfl, Nat.le_of_ble_eq_true rfl⟩ ⟨Nat.le_refl 0, Nat.le_refl 0⟩ (Nat.le_of_ble_eq_true rfl) dX6_word_6 (fun H locs h => ?_)
      refine lv_if_eq (tgt := 65) hx hb dX6_word_9 (by decide) (fun c5 => ?_) (fun c5 => ?_)
      · have hf := ifp hf c5
        exact Xq2_1 _ _ _ _ (itr_x huq2 (sor hf)) h (lv_sub hl [0, 1] rfl)
      · have hf := ifn hf c5
        refine lv_aload_n hx hb dX6_word_12 rfl (lv_at hl 0 rfl) ?_
        refine r_get F h (i := 0) (k := 33) (.int (z2.1 33)) inX6 rfl (by decide) w23 rfl rfl rfl dX6_word_13 ?_
        refine lv_bipush (v := 6) hx hb dX6_word_16 (by decide) ?_
        obtain ⟨J6, eJ6, hf⟩ := rgn hf
        have JW6 : ∀ (v6 : ob) (H : Heap) (locs : List Loc) (ls : Array Slot), WD D A s.heap H locs [wX6 K a0 v6] → lv_has ls 2 [(0, .ref (a0 0)), (1, .int x0)] → J6 v6 = some uq2 → W P l e (rmS 3 62) s m args below meth c H locs 0 0 (MQ below (QiS D A [wX6 K a0 r.2] r.1) args s 0 0 A) (F0 m 42 ls []) := by
          intro v6 H locs ls h hl hf
          have hf := jof eJ6 hf
          refine lv_aload_n hx hb dX6_word_42 rfl (lv_at hl 0 rfl) ?_
          refine lv_dup hx hb dX6_word_43 rfl ?_
          refine r_get F h (i := 0) (k := 33) (.int (v6.1 33)) inX6 rfl (by decide) w23 rfl rfl rfl dX6_word_44 ?_
          refine lv_iconst (v := 1) hx hb dX6_word_47 (by decide) ?_
          refine lv_iadd hx hb dX6_word_48 ?_
          refine r_put (o1 := sI v6 33 ((v6.1 33) + 1)) (w := fun t7 => wX6 K a0 t7) (S' := fun t7 => [wX6 K a0 t7]) F h (i := 0) (k := 33) inX6 tyX6_ok nmX6 rfl (by decide) w23 rfl rfl rfl rfl rfl (Nat.le_of_ble_eq_true rfl) rfl (fun _ => rfl) dX6_word_49 (fun t7 e7 H locs h => ?_)
          have hf := ltb hf e7
          refine lv_aload_n hx hb dX6_word_52 rfl (lv_at hl 0 rfl) ?_
          refine lv_dup hx hb dX6_word_53 rfl ?_
          refine r_get F h (i := 0) (k := 31) (.int (t7.1 31)) inX6 rfl (by decide) w16 rfl rfl rfl dX6_word_54 ?_
          refine lv_iconst (v := 1) hx hb dX6_word_57 (by decide) ?_
          refine lv_iadd hx hb dX6_word_58 ?_
          refine r_put (o1 := sI t7 31 ((t7.1 31) + 1)) (w := fun t8 => wX6 K a0 t8) (S' := fun t8 => [wX6 K a0 t8]) F h (i := 0) (k := 31) inX6 tyX6_ok nmX6 rfl (by decide) w16 rfl rfl rfl rfl rfl (Nat.le_of_ble_eq_true rfl) rfl (fun _ => rfl) dX6_word_59 (fun t8 e8 H locs h => ?_)
          have hf := ltb hf e8
          refine lv_goto (tgt := 5) hx hb dX6_word_62 (by decide) ?_
          exact ihq2 _ _ _ _ (itr_c huq2 (sor hf)) h (lv_sub hl [0, 1] rfl)
        refine lv_icmp_ge (tgt := 42) hx hb dX6_word_18 (by decide) (fun c9 => ?_) (fun c9 => ?_)
        · have hf := ifp hf c9
          exact JW6 z2 _ _ _ h (lv_sub hl [0, 1] rfl) (sob hf)
        · have hf := ifn hf c9
          refine lv_aload_n hx hb dX6_word_21 rfl (lv_at hl 0 rfl) ?_
          refine r_get F h (i := 0) (k := 34) (.ref (a0 35)) inX6 rfl (by decide) w24 rfl rfl rfl dX6_word_22 ?_
          refine lv_aload_n hx hb dX6_word_25 rfl (lv_at hl 0 rfl) ?_
          refine r_get F h (i := 0) (k := 33) (.int (z2.1 33)) inX6 rfl (by decide) w23 rfl rfl rfl dX6_word_26 ?_
          refine lv_aload_n hx hb dX6_word_29 rfl (lv_at hl 0 rfl) ?_
          refine r_get F h (i := 0) (k := 29) (.ref (a0 30)) inX6 rfl (by decide) w18 rfl rfl rfl dX6_word_30 ?_
          refine lv_aload_n hx hb dX6_word_33 rfl (lv_at hl 0 rfl) ?_
          refine r_get F h (i := 0) (k := 31) (.int (z2.1 31)) inX6 rfl (by decide) w16 rfl rfl rfl dX6_word_34 ?_
          obtain ⟨g10, hf⟩ := gdb hf
          refine r_iald F h (i := 0) (j := 18) rfl rfl (vin_ok g10) dX6_word_37 ?_
          refine lv_bipush (v := 97) hx hb dX6_word_38 (by decide) ?_
          refine lv_isub hx hb dX6_word_40 ?_
          obtain ⟨g11, hf⟩ := gdb hf
          refine r_iast (o1 := sA z2 34 (z2.1 33).toNatClampNeg ((z2.2 29 (z2.1 31).toNatClampNeg) - 97)) (w := fun t12 => wX6 K a0 t12) (S' := fun t12 => [wX6 K a0 t12]) F h (i := 0) (j := 19) rfl rfl (vin_ok g11) rfl (fun _ => rfl) dX6_word_41 (fun t12 e12 H locs h => ?_)
          have hf := ltb hf e12
          exact JW6 t12 _ _ _ h (lv_sub hl [0, 1] rfl) (sob hf)
  exact Lq2 _ _ _ _ _ hq2 h (lv_sub hl [0, 1] rfl)
def f6_wipe (o_this : ob) : Option (Int32 × ob) :=
  lt (o_this.1 30) fun y1 => lt (sI o_this 30 0) fun t2 => some (y1, t2)
set_option maxRecDepth 100000 in
set_option maxHeartbeats 4000000 in
theorem c6_wipe (l : Launch) (D : va_G) (K : Nat → ClassId) (a0 : Nat → Nat) (o_this : ob) (r : Int32 × ob) (hf : f6_wipe o_this = some r) : CTi l yX6_wipe cX6_wipe 2 (some .int) 0 0 D K [.ref (a0 0)] [wX6 K a0 o_this] [wX6 K a0 r.2] r.1 := by
  unfold f6_wipe at hf
  have hf := tob hf
  refine entI (by decide) (Nat.le_of_ble_eq_true rfl) (fun P e s m args below meth c A ls F h hl hin => ?_)
  have hx := F.1
  have hb := F.2.1
  have hl : lv_has ls 2 [(0, .ref (a0 0))] := hl
  refine lv_aload_n hx hb dX6_wipe_0 rfl (lv_at hl 0 rfl) ?_
  refine r_get F h (i := 0) (k := 30) (.int (o_this.1 30)) inX6 rfl (by decide) w17 rfl rfl rfl dX6_wipe_1 ?_
  refine lv_topi (fun y1 e1 => ?_)
  have hf := ltb hf e1
  refine lv_istore_n (lv' := [(1, .int y1), (0, .ref (a0 0))]) hx hb dX6_wipe_4 rfl hl (by decide) rfl (fun ls hl => ?_)
  refine lv_aload_n hx hb dX6_wipe_5 rfl (lv_at hl 1 rfl) ?_
  refine lv_iconst (v := 0) hx hb dX6_wipe_6 (by decide) ?_
  refine r_put (o1 := sI o_this 30 0) (w := fun t2 => wX6 K a0 t2) (S' := fun t2 => [wX6 K a0 t2]) F h (i := 0) (k := 30) inX6 tyX6_ok nmX6 rfl (by decide) w17 rfl rfl rfl rfl rfl (Nat.le_of_ble_eq_true rfl) rfl (fun _ => rfl) dX6_wipe_7 (fun t2 e2 H locs h => ?_)
  have hf := ltb hf e2
  refine lv_iload_n hx hb dX6_wipe_10 rfl (lv_at hl 0 rfl) ?_
  obtain rfl := sor hf
  exact r_reti F h dX6_wipe_11
def f6_write (x0 : Int32) (o_this : ob) : Option (Int32 × ob) :=
  (f6_in x0 32 126).bind fun q1 => (if q1 = 0 then (some ((-1), o_this)) else ((if (o_this.1 30) = 200 then (some ((-3), o_this)) else (gd (vin (o_this.1 30) 200) <| lt (sA o_this 29 (o_this.1 30).toNatClampNeg x0) fun t5 => lt (sI t5 30 ((t5.1 30) + 1)) fun t6 => some (t6.1 30, t6)))))
set_option maxRecDepth 100000 in
set_option maxHeartbeats 4000000 in
theorem c6_write (l : Launch) (D : va_G) (K : Nat → ClassId) (a0 : Nat → Nat) (x0 : Int32) (o_this : ob) (r : Int32 × ob) (hf : f6_write x0 o_this = some r) : CTi l yX6_write cX6_write 2 (some .int) 1 22 D K [.ref (a0 0), .int x0] [wX6 K a0 o_this] [wX6 K a0 r.2] r.1 := by
  unfold f6_write at hf
  have hf := tob hf
  refine entI (by decide) (Nat.le_of_ble_eq_true rfl) (fun P e s m args below meth c A ls F h hl hin => ?_)
  have hx := F.1
  have hb := F.2.1
  have hl : lv_has ls 2 [(0, .ref (a0 0)), (1, .int x0)] := hl
  refine lv_iload_n hx hb dX6_write_0 rfl (lv_at hl 1 rfl) ?_
  refine lv_bipush (v := 32) hx hb dX6_write_1 (by decide) ?_
  refine lv_bipush (v := 126) hx hb dX6_write_3 (by decide) ?_
  obtain ⟨q1, h1, hf⟩ := asb hf
  refine r_callS (As := [.int x0, .int 32, .int 126]) (rest := []) F h hl (c6_in l D K x0 32 126 q1 h1) w3 ⟨w0, w1, w2⟩ hsc6_in ⟨Nat.le_of_ble_eq_true rfl, Nat.le_of_ble_eq_true rfl⟩ ⟨Nat.le_refl 0, Nat.le_refl 0⟩ (Nat.le_of_ble_eq_true rfl) dX6_write_5 (fun H locs h => ?_)
  refine lv_if_ne (tgt := 13) hx hb dX6_write_8 (by decide) (fun c2 => ?_) (fun c2 => ?_)
  · have hf := ifn hf c2
    refine lv_aload_n hx hb dX6_write_13 rfl (lv_at hl 0 rfl) ?_
    refine r_get F h (i := 0) (k := 30) (.int (o_this.1 30)) inX6 rfl (by decide) w17 rfl rfl rfl dX6_write_14 ?_
    refine lv_sipush (v := 200) hx hb dX6_write_17 (by decide) ?_
    refine lv_icmp_ne (tgt := 26) hx hb dX6_write_20 (by decide) (fun c3 => ?_) (fun c3 => ?_)
    · have hf := ifn hf c3
      refine lv_aload_n hx hb dX6_write_26 rfl (lv_at hl 0 rfl) ?_
      refine r_get F h (i := 0) (k := 29) (.ref (a0 30)) inX6 rfl (by decide) w18 rfl rfl rfl dX6_write_27 ?_
      refine lv_aload_n hx hb dX6_write_30 rfl (lv_at hl 0 rfl) ?_
      refine r_get F h (i := 0) (k := 30) (.int (o_this.1 30)) inX6 rfl (by decide) w17 rfl rfl rfl dX6_write_31 ?_
      refine lv_iload_n hx hb dX6_write_34 rfl (lv_at hl 1 rfl) ?_
      obtain ⟨g4, hf⟩ := gdb hf
      refine r_iast (o1 := sA o_this 29 (o_this.1 30).toNatClampNeg x0) (w := fun t5 => wX6 K a0 t5) (S' := fun t5 => [wX6 K a0 t5]) F h (i := 0) (j := 18) rfl rfl (vin_ok g4) rfl (fun _ => rfl) dX6_write_35 (fun t5 e5 H locs h => ?_)
      have hf := ltb hf e5
      refine lv_aload_n hx hb dX6_write_36 rfl (lv_at hl 0 rfl) ?_
      refine lv_dup hx hb dX6_write_37 rfl ?_
      refine r_get F h (i := 0) (k := 30) (.int (t5.1 30)) inX6 rfl (by decide) w17 rfl rfl rfl dX6_write_38 ?_
      refine lv_iconst (v := 1) hx hb dX6_write_41 (by decide) ?_
      refine lv_iadd hx hb dX6_write_42 ?_
      refine r_put (o1 := sI t5 30 ((t5.1 30) + 1)) (w := fun t6 => wX6 K a0 t6) (S' := fun t6 => [wX6 K a0 t6]) F h (i := 0) (k := 30) inX6 tyX6_ok nmX6 rfl (by decide) w17 rfl rfl rfl rfl rfl (Nat.le_of_ble_eq_true rfl) rfl (fun _ => rfl) dX6_write_43 (fun t6 e6 H locs h => ?_)
      have hf := ltb hf e6
      refine lv_aload_n hx hb dX6_write_46 rfl (lv_at hl 0 rfl) ?_
      refine r_get F h (i := 0) (k := 30) (.int (t6.1 30)) inX6 rfl (by decide) w17 rfl rfl rfl dX6_write_47 ?_
      obtain rfl := sor hf
      exact r_reti F h dX6_write_50
    · have hf := ifp hf c3
      refine lv_bipush (v := (-3)) hx hb dX6_write_23 (by decide) ?_
      obtain rfl := sor hf
      exact r_reti F h dX6_write_25
  · have hf := ifp hf c2
    refine lv_iconst (v := (-1)) hx hb dX6_write_11 (by decide) ?_
    obtain rfl := sor hf
    exact r_reti F h dX6_write_12
def f6_count (x0 : Int32) (o_this : ob) : Option (Int32) :=
  (if x0 = 0 then (some (o_this.1 0)) else (if x0 = 1 then (some (o_this.1 1)) else (if x0 = 2 then (some (o_this.1 3)) else (if x0 = 3 then (some (o_this.1 8)) else (if x0 = 4 then (some (o_this.1 9)) else (if x0 = 5 then (some (o_this.1 11)) else (if x0 = 6 then (some (o_this.1 30)) else (some (-1)))))))))
set_option maxRecDepth 100000 in
set_option maxHeartbeats 4000000 in
theorem c6_count (l : Launch) (D : va_G) (K : Nat → ClassId) (a0 : Nat → Nat) (x0 : Int32) (o_this : ob) (r : Int32) (hf : f6_count x0 o_this = some r) : CTi l yX6_count cX6_count 2 (some .int) 0 0 D K [.ref (a0 0), .int x0] [wX6 K a0 o_this] [wX6 K a0 o_this] r := by
  unfold f6_count at hf
  have hf := tob hf
  refine entI (by decide) (Nat.le_of_ble_eq_true rfl) (fun P e s m args below meth c A ls F h hl hin => ?_)
  have hx := F.1
  have hb := F.2.1
  have hl : lv_has ls 2 [(0, .ref (a0 0)), (1, .int x0)] := hl
  refine lv_iload_n hx hb dX6_count_0 rfl (lv_at hl 1 rfl) ?_
  by_cases c1_0 : x0 = 0
  · have hf := ifp hf c1_0
    refine lv_tableIn (tgt := 44) hx hb dX6_count_1 (by rw [c1_0]; decide) (by rw [c1_0]; decide) (by rw [c1_0]; rfl) (by decide) ?_
    refine lv_aload_n hx hb dX6_count_44 rfl (lv_at hl 0 rfl) ?_
    refine r_get F h (i := 0) (k := 0) (.int (o_this.1 0)) inX6 rfl (by decide) w5 rfl rfl rfl dX6_count_45 ?_
    obtain rfl := sor hf
    exact r_reti F h dX6_count_48
  have hf := ifn hf c1_0
  by_cases c1_1 : x0 = 1
  · have hf := ifp hf c1_1
    refine lv_tableIn (tgt := 49) hx hb dX6_count_1 (by rw [c1_1]; decide) (by rw [c1_1]; decide) (by rw [c1_1]; rfl) (by decide) ?_
    refine lv_aload_n hx hb dX6_count_49 rfl (lv_at hl 0 rfl) ?_
    refine r_get F h (i := 0) (k := 1) (.int (o_this.1 1)) inX6 rfl (by decide) w4 rfl rfl rfl dX6_count_50 ?_
    obtain rfl := sor hf
    exact r_reti F h dX6_count_53
  have hf := ifn hf c1_1
  by_cases c1_2 : x0 = 2
  · have hf := ifp hf c1_2
    refine lv_tableIn (tgt := 54) hx hb dX6_count_1 (by rw [c1_2]; decide) (by rw [c1_2]; decide) (by rw [c1_2]; rfl) (by decide) ?_
    refine lv_aload_n hx hb dX6_count_54 rfl (lv_at hl 0 rfl) ?_
    refine r_get F h (i := 0) (k := 3) (.int (o_this.1 3)) inX6 rfl (by decide) w11 rfl rfl rfl dX6_count_55 ?_
    obtain rfl := sor hf
    exact r_reti F h dX6_count_58
  have hf := ifn hf c1_2
  by_cases c1_3 : x0 = 3
  · have hf := ifp hf c1_3
    refine lv_tableIn (tgt := 59) hx hb dX6_count_1 (by rw [c1_3]; decide) (by rw [c1_3]; decide) (by rw [c1_3]; rfl) (by decide) ?_
    refine lv_aload_n hx hb dX6_count_59 rfl (lv_at hl 0 rfl) ?_
    refine r_get F h (i := 0) (k := 8) (.int (o_this.1 8)) inX6 rfl (by decide) w29 rfl rfl rfl dX6_count_60 ?_
    obtain rfl := sor hf
    exact r_reti F h dX6_count_63
  have hf := ifn hf c1_3
  by_cases c1_4 : x0 = 4
  · have hf := ifp hf c1_4
    refine lv_tableIn (tgt := 64) hx hb dX6_count_1 (by rw [c1_4]; decide) (by rw [c1_4]; decide) (by rw [c1_4]; rfl) (by decide) ?_
    refine lv_aload_n hx hb dX6_count_64 rfl (lv_at hl 0 rfl) ?_
    refine r_get F h (i := 0) (k := 9) (.int (o_this.1 9)) inX6 rfl (by decide) w30 rfl rfl rfl dX6_count_65 ?_
    obtain rfl := sor hf
    exact r_reti F h dX6_count_68
  have hf := ifn hf c1_4
  by_cases c1_5 : x0 = 5
  · have hf := ifp hf c1_5
    refine lv_tableIn (tgt := 69) hx hb dX6_count_1 (by rw [c1_5]; decide) (by rw [c1_5]; decide) (by rw [c1_5]; rfl) (by decide) ?_
    refine lv_aload_n hx hb dX6_count_69 rfl (lv_at hl 0 rfl) ?_
    refine r_get F h (i := 0) (k := 11) (.int (o_this.1 11)) inX6 rfl (by decide) w31 rfl rfl rfl dX6_count_70 ?_
    obtain rfl := sor hf
    exact r_reti F h dX6_count_73
  have hf := ifn hf c1_5
  by_cases c1_6 : x0 = 6
  · have hf := ifp hf c1_6
    refine lv_tableIn (tgt := 74) hx hb dX6_count_1 (by rw [c1_6]; decide) (by rw [c1_6]; decide) (by rw [c1_6]; rfl) (by decide) ?_
    refine lv_aload_n hx hb dX6_count_74 rfl (lv_at hl 0 rfl) ?_
    refine r_get F h (i := 0) (k := 30) (.int (o_this.1 30)) inX6 rfl (by decide) w17 rfl rfl rfl dX6_count_75 ?_
    obtain rfl := sor hf
    exact r_reti F h dX6_count_78
  have hf := ifn hf c1_6
  refine lv_tableOut (tgt := 79) hx hb dX6_count_1 (tab_out_0_6 c1_0 c1_1 c1_2 c1_3 c1_4 c1_5 c1_6) (by decide) ?_
  refine lv_iconst (v := (-1)) hx hb dX6_count_79 (by decide) ?_
  obtain rfl := sor hf
  exact r_reti F h dX6_count_80
end
