section
-- ===== PART A: goes FIRST, ahead of the names: the tables' words, and 'selects' of the private methods out of them =====
/-- a private method of a class that the tables say can be made, by its rows of tables_1 -/
def lw_okq (q : MethodName × Nat) : Prop := (q.1.cls ≠ "java/lang/invoke/MethodHandle" ∧ q.1.cls ≠ "java/lang/invoke/VarHandle") ∧ Cond.instantiable q.1.cls q.2 ∈ tables_1 ∧ Cond.privateMethod q.1 ∈ tables_1 ∧ Cond.instanceMethod q.1 ∈ tables_1
theorem lw_p0 : lw_okq (⟨"CallTowers$Script", "readItem", "(LCallTowers$Tower;Z)Z"⟩, 4) := ⟨⟨by decide +kernel, by decide +kernel⟩, List.mem_of_getElem? (i := 24) (by decide +kernel), List.mem_of_getElem? (i := 307) (by decide +kernel), List.mem_of_getElem? (i := 308) (by decide +kernel)⟩
theorem lw_p1 : lw_okq (⟨"CallTowers$Script", "readStates", "(LCallTowers$Tower;)Z"⟩, 4) := ⟨⟨by decide +kernel, by decide +kernel⟩, List.mem_of_getElem? (i := 24) (by decide +kernel), List.mem_of_getElem? (i := 311) (by decide +kernel), List.mem_of_getElem? (i := 312) (by decide +kernel)⟩
theorem lw_p2 : lw_okq (⟨"CallTowers$Script", "readDigit", "(I)I"⟩, 4) := ⟨⟨by decide +kernel, by decide +kernel⟩, List.mem_of_getElem? (i := 24) (by decide +kernel), List.mem_of_getElem? (i := 315) (by decide +kernel), List.mem_of_getElem? (i := 316) (by decide +kernel)⟩
theorem lw_p3 : lw_okq (⟨"CallTowers$Script", "readSign", "(C)Z"⟩, 4) := ⟨⟨by decide +kernel, by decide +kernel⟩, List.mem_of_getElem? (i := 24) (by decide +kernel), List.mem_of_getElem? (i := 319) (by decide +kernel), List.mem_of_getElem? (i := 320) (by decide +kernel)⟩
theorem lw_p4 : lw_okq (⟨"CallTowers$Script", "readRule", "(LCallTowers$Tower;)Z"⟩, 4) := ⟨⟨by decide +kernel, by decide +kernel⟩, List.mem_of_getElem? (i := 24) (by decide +kernel), List.mem_of_getElem? (i := 323) (by decide +kernel), List.mem_of_getElem? (i := 324) (by decide +kernel)⟩
theorem lw_p5 : lw_okq (⟨"CallTowers$Script", "readLetter", "()I"⟩, 4) := ⟨⟨by decide +kernel, by decide +kernel⟩, List.mem_of_getElem? (i := 24) (by decide +kernel), List.mem_of_getElem? (i := 327) (by decide +kernel), List.mem_of_getElem? (i := 328) (by decide +kernel)⟩
theorem lw_p6 : lw_okq (⟨"CallTowers$Script", "readWord", "(I)I"⟩, 4) := ⟨⟨by decide +kernel, by decide +kernel⟩, List.mem_of_getElem? (i := 24) (by decide +kernel), List.mem_of_getElem? (i := 331) (by decide +kernel), List.mem_of_getElem? (i := 332) (by decide +kernel)⟩
theorem lw_p7 : lw_okq (⟨"CallTowers$Script", "wordFrom", "(I)I"⟩, 4) := ⟨⟨by decide +kernel, by decide +kernel⟩, List.mem_of_getElem? (i := 24) (by decide +kernel), List.mem_of_getElem? (i := 335) (by decide +kernel), List.mem_of_getElem? (i := 336) (by decide +kernel)⟩
theorem lw_p8 : lw_okq (⟨"CallTowers$Script", "readTarget", "(LCallTowers$Tower;)Z"⟩, 4) := ⟨⟨by decide +kernel, by decide +kernel⟩, List.mem_of_getElem? (i := 24) (by decide +kernel), List.mem_of_getElem? (i := 346) (by decide +kernel), List.mem_of_getElem? (i := 347) (by decide +kernel)⟩
theorem lw_p9 : lw_okq (⟨"CallTowers$Script", "readConfiguration", "(LCallTowers$Tower;)Z"⟩, 4) := ⟨⟨by decide +kernel, by decide +kernel⟩, List.mem_of_getElem? (i := 24) (by decide +kernel), List.mem_of_getElem? (i := 354) (by decide +kernel), List.mem_of_getElem? (i := 355) (by decide +kernel)⟩
theorem lw_p10 : lw_okq (⟨"CallTowers$Script", "readMode", "(LCallTowers$Tower;)Z"⟩, 4) := ⟨⟨by decide +kernel, by decide +kernel⟩, List.mem_of_getElem? (i := 24) (by decide +kernel), List.mem_of_getElem? (i := 362) (by decide +kernel), List.mem_of_getElem? (i := 363) (by decide +kernel)⟩
theorem lw_p11 : lw_okq (⟨"CallTowers", "noteNewRules", "()V"⟩, 16) := ⟨⟨by decide +kernel, by decide +kernel⟩, List.mem_of_getElem? (i := 16) (by decide +kernel), List.mem_of_getElem? (i := 443) (by decide +kernel), List.mem_of_getElem? (i := 444) (by decide +kernel)⟩
theorem lw_p12 : lw_okq (⟨"CallTowers", "isRule", "(I)Z"⟩, 16) := ⟨⟨by decide +kernel, by decide +kernel⟩, List.mem_of_getElem? (i := 16) (by decide +kernel), List.mem_of_getElem? (i := 451) (by decide +kernel), List.mem_of_getElem? (i := 452) (by decide +kernel)⟩
theorem lw_p13 : lw_okq (⟨"CallTowers", "remember", "()V"⟩, 16) := ⟨⟨by decide +kernel, by decide +kernel⟩, List.mem_of_getElem? (i := 16) (by decide +kernel), List.mem_of_getElem? (i := 479) (by decide +kernel), List.mem_of_getElem? (i := 480) (by decide +kernel)⟩
theorem lw_p14 : lw_okq (⟨"CallTowers", "isState", "(I)Z"⟩, 16) := ⟨⟨by decide +kernel, by decide +kernel⟩, List.mem_of_getElem? (i := 16) (by decide +kernel), List.mem_of_getElem? (i := 517) (by decide +kernel), List.mem_of_getElem? (i := 518) (by decide +kernel)⟩
theorem lw_p15 : lw_okq (⟨"CallTowers", "renewNet", "()V"⟩, 16) := ⟨⟨by decide +kernel, by decide +kernel⟩, List.mem_of_getElem? (i := 16) (by decide +kernel), List.mem_of_getElem? (i := 553) (by decide +kernel), List.mem_of_getElem? (i := 554) (by decide +kernel)⟩
def lw_privs_1 : List (MethodName × Nat) := [(⟨"CallTowers$Script", "readItem", "(LCallTowers$Tower;Z)Z"⟩, 4), (⟨"CallTowers$Script", "readStates", "(LCallTowers$Tower;)Z"⟩, 4), (⟨"CallTowers$Script", "readDigit", "(I)I"⟩, 4), (⟨"CallTowers$Script", "readSign", "(C)Z"⟩, 4), (⟨"CallTowers$Script", "readRule", "(LCallTowers$Tower;)Z"⟩, 4), (⟨"CallTowers$Script", "readLetter", "()I"⟩, 4), (⟨"CallTowers$Script", "readWord", "(I)I"⟩, 4), (⟨"CallTowers$Script", "wordFrom", "(I)I"⟩, 4), (⟨"CallTowers$Script", "readTarget", "(LCallTowers$Tower;)Z"⟩, 4), (⟨"CallTowers$Script", "readConfiguration", "(LCallTowers$Tower;)Z"⟩, 4), (⟨"CallTowers$Script", "readMode", "(LCallTowers$Tower;)Z"⟩, 4), (⟨"CallTowers", "noteNewRules", "()V"⟩, 16), (⟨"CallTowers", "isRule", "(I)Z"⟩, 16), (⟨"CallTowers", "remember", "()V"⟩, 16), (⟨"CallTowers", "isState", "(I)Z"⟩, 16), (⟨"CallTowers", "renewNet", "()V"⟩, 16)]
theorem lw_r1 : ∀ q ∈ lw_privs_1, lw_okq q := List.forall_mem_cons.mpr ⟨lw_p0, List.forall_mem_cons.mpr ⟨lw_p1, List.forall_mem_cons.mpr ⟨lw_p2, List.forall_mem_cons.mpr ⟨lw_p3, List.forall_mem_cons.mpr ⟨lw_p4, List.forall_mem_cons.mpr ⟨lw_p5, List.forall_mem_cons.mpr ⟨lw_p6, List.forall_mem_cons.mpr ⟨lw_p7, List.forall_mem_cons.mpr ⟨lw_p8, List.forall_mem_cons.mpr ⟨lw_p9, List.forall_mem_cons.mpr ⟨lw_p10, List.forall_mem_cons.mpr ⟨lw_p11, List.forall_mem_cons.mpr ⟨lw_p12, List.forall_mem_cons.mpr ⟨lw_p13, List.forall_mem_cons.mpr ⟨lw_p14, List.forall_mem_cons.mpr ⟨lw_p15, fun _ h => absurd h List.not_mem_nil⟩⟩⟩⟩⟩⟩⟩⟩⟩⟩⟩⟩⟩⟩⟩⟩
theorem lw_p16 : lw_okq (⟨"CallTowers$Net", "layTargets", "(LCallTowers$Tower;)V"⟩, 11) := ⟨⟨by decide +kernel, by decide +kernel⟩, List.mem_of_getElem? (i := 154) (by decide +kernel), List.mem_of_getElem? (i := 561) (by decide +kernel), List.mem_of_getElem? (i := 562) (by decide +kernel)⟩
theorem lw_p17 : lw_okq (⟨"CallTowers$Net", "layAnyLetter", "(II)V"⟩, 11) := ⟨⟨by decide +kernel, by decide +kernel⟩, List.mem_of_getElem? (i := 154) (by decide +kernel), List.mem_of_getElem? (i := 566) (by decide +kernel), List.mem_of_getElem? (i := 567) (by decide +kernel)⟩
theorem lw_p18 : lw_okq (⟨"CallTowers$Net", "countEdges", "()I"⟩, 11) := ⟨⟨by decide +kernel, by decide +kernel⟩, List.mem_of_getElem? (i := 154) (by decide +kernel), List.mem_of_getElem? (i := 573) (by decide +kernel), List.mem_of_getElem? (i := 574) (by decide +kernel)⟩
theorem lw_p19 : lw_okq (⟨"CallTowers$Net", "playRound", "(LCallTowers$Tower;)Z"⟩, 11) := ⟨⟨by decide +kernel, by decide +kernel⟩, List.mem_of_getElem? (i := 154) (by decide +kernel), List.mem_of_getElem? (i := 578) (by decide +kernel), List.mem_of_getElem? (i := 579) (by decide +kernel)⟩
theorem lw_p20 : lw_okq (⟨"CallTowers$Net", "startAt", "(I)V"⟩, 11) := ⟨⟨by decide +kernel, by decide +kernel⟩, List.mem_of_getElem? (i := 154) (by decide +kernel), List.mem_of_getElem? (i := 582) (by decide +kernel), List.mem_of_getElem? (i := 583) (by decide +kernel)⟩
theorem lw_p21 : lw_okq (⟨"CallTowers$Net", "readOn", "(I)V"⟩, 11) := ⟨⟨by decide +kernel, by decide +kernel⟩, List.mem_of_getElem? (i := 154) (by decide +kernel), List.mem_of_getElem? (i := 588) (by decide +kernel), List.mem_of_getElem? (i := 589) (by decide +kernel)⟩
theorem lw_p22 : lw_okq (⟨"CallTowers$Net", "joined", "(II)I"⟩, 11) := ⟨⟨by decide +kernel, by decide +kernel⟩, List.mem_of_getElem? (i := 154) (by decide +kernel), List.mem_of_getElem? (i := 592) (by decide +kernel), List.mem_of_getElem? (i := 593) (by decide +kernel)⟩
theorem lw_p23 : lw_okq (⟨"CallTowers$Net", "drawEdges", "(II)Z"⟩, 11) := ⟨⟨by decide +kernel, by decide +kernel⟩, List.mem_of_getElem? (i := 154) (by decide +kernel), List.mem_of_getElem? (i := 603) (by decide +kernel), List.mem_of_getElem? (i := 604) (by decide +kernel)⟩
theorem lw_p24 : lw_okq (⟨"CallTowers", "renewRoute", "()V"⟩, 16) := ⟨⟨by decide +kernel, by decide +kernel⟩, List.mem_of_getElem? (i := 16) (by decide +kernel), List.mem_of_getElem? (i := 615) (by decide +kernel), List.mem_of_getElem? (i := 616) (by decide +kernel)⟩
theorem lw_p25 : lw_okq (⟨"CallTowers$Route", "fillTail", "(ILCallTowers$Net;)V"⟩, 7) := ⟨⟨by decide +kernel, by decide +kernel⟩, List.mem_of_getElem? (i := 200) (by decide +kernel), List.mem_of_getElem? (i := 627) (by decide +kernel), List.mem_of_getElem? (i := 628) (by decide +kernel)⟩
theorem lw_p26 : lw_okq (⟨"CallTowers$Route", "advance", "(LCallTowers$Tower;LCallTowers$Net;)I"⟩, 7) := ⟨⟨by decide +kernel, by decide +kernel⟩, List.mem_of_getElem? (i := 200) (by decide +kernel), List.mem_of_getElem? (i := 644) (by decide +kernel), List.mem_of_getElem? (i := 645) (by decide +kernel)⟩
theorem lw_p27 : lw_okq (⟨"CallTowers$Route", "stepsAfter", "(IILCallTowers$Net;)I"⟩, 7) := ⟨⟨by decide +kernel, by decide +kernel⟩, List.mem_of_getElem? (i := 200) (by decide +kernel), List.mem_of_getElem? (i := 648) (by decide +kernel), List.mem_of_getElem? (i := 649) (by decide +kernel)⟩
theorem lw_p28 : lw_okq (⟨"CallTowers$Route", "replaceTop", "(ILCallTowers$Net;)V"⟩, 7) := ⟨⟨by decide +kernel, by decide +kernel⟩, List.mem_of_getElem? (i := 200) (by decide +kernel), List.mem_of_getElem? (i := 660) (by decide +kernel), List.mem_of_getElem? (i := 661) (by decide +kernel)⟩
theorem lw_p29 : lw_okq (⟨"CallTowers$Reach", "settleFalls", "(LCallTowers$Tower;)V"⟩, 3) := ⟨⟨by decide +kernel, by decide +kernel⟩, List.mem_of_getElem? (i := 229) (by decide +kernel), List.mem_of_getElem? (i := 672) (by decide +kernel), List.mem_of_getElem? (i := 673) (by decide +kernel)⟩
theorem lw_p30 : lw_okq (⟨"CallTowers$Reach", "afterWord", "(II)I"⟩, 3) := ⟨⟨by decide +kernel, by decide +kernel⟩, List.mem_of_getElem? (i := 229) (by decide +kernel), List.mem_of_getElem? (i := 676) (by decide +kernel), List.mem_of_getElem? (i := 677) (by decide +kernel)⟩
theorem lw_p31 : lw_okq (⟨"CallTowers$Reach", "afterLetter", "(II)I"⟩, 3) := ⟨⟨by decide +kernel, by decide +kernel⟩, List.mem_of_getElem? (i := 229) (by decide +kernel), List.mem_of_getElem? (i := 682) (by decide +kernel), List.mem_of_getElem? (i := 683) (by decide +kernel)⟩
def lw_privs_2 : List (MethodName × Nat) := [(⟨"CallTowers$Net", "layTargets", "(LCallTowers$Tower;)V"⟩, 11), (⟨"CallTowers$Net", "layAnyLetter", "(II)V"⟩, 11), (⟨"CallTowers$Net", "countEdges", "()I"⟩, 11), (⟨"CallTowers$Net", "playRound", "(LCallTowers$Tower;)Z"⟩, 11), (⟨"CallTowers$Net", "startAt", "(I)V"⟩, 11), (⟨"CallTowers$Net", "readOn", "(I)V"⟩, 11), (⟨"CallTowers$Net", "joined", "(II)I"⟩, 11), (⟨"CallTowers$Net", "drawEdges", "(II)Z"⟩, 11), (⟨"CallTowers", "renewRoute", "()V"⟩, 16), (⟨"CallTowers$Route", "fillTail", "(ILCallTowers$Net;)V"⟩, 7), (⟨"CallTowers$Route", "advance", "(LCallTowers$Tower;LCallTowers$Net;)I"⟩, 7), (⟨"CallTowers$Route", "stepsAfter", "(IILCallTowers$Net;)I"⟩, 7), (⟨"CallTowers$Route", "replaceTop", "(ILCallTowers$Net;)V"⟩, 7), (⟨"CallTowers$Reach", "settleFalls", "(LCallTowers$Tower;)V"⟩, 3), (⟨"CallTowers$Reach", "afterWord", "(II)I"⟩, 3), (⟨"CallTowers$Reach", "afterLetter", "(II)I"⟩, 3)]
theorem lw_r2 : ∀ q ∈ lw_privs_2, lw_okq q := List.forall_mem_cons.mpr ⟨lw_p16, List.forall_mem_cons.mpr ⟨lw_p17, List.forall_mem_cons.mpr ⟨lw_p18, List.forall_mem_cons.mpr ⟨lw_p19, List.forall_mem_cons.mpr ⟨lw_p20, List.forall_mem_cons.mpr ⟨lw_p21, List.forall_mem_cons.mpr ⟨lw_p22, List.forall_mem_cons.mpr ⟨lw_p23, List.forall_mem_cons.mpr ⟨lw_p24, List.forall_mem_cons.mpr ⟨lw_p25, List.forall_mem_cons.mpr ⟨lw_p26, List.forall_mem_cons.mpr ⟨lw_p27, List.forall_mem_cons.mpr ⟨lw_p28, List.forall_mem_cons.mpr ⟨lw_p29, List.forall_mem_cons.mpr ⟨lw_p30, List.forall_mem_cons.mpr ⟨lw_p31, fun _ h => absurd h List.not_mem_nil⟩⟩⟩⟩⟩⟩⟩⟩⟩⟩⟩⟩⟩⟩⟩⟩
theorem lw_p32 : lw_okq (⟨"CallTowers$Reach", "descend", "(LCallTowers$Tower;)V"⟩, 3) := ⟨⟨by decide +kernel, by decide +kernel⟩, List.mem_of_getElem? (i := 229) (by decide +kernel), List.mem_of_getElem? (i := 687) (by decide +kernel), List.mem_of_getElem? (i := 688) (by decide +kernel)⟩
theorem lw_p33 : lw_okq (⟨"CallTowers$Reach", "spread", "(LCallTowers$Tower;)Z"⟩, 3) := ⟨⟨by decide +kernel, by decide +kernel⟩, List.mem_of_getElem? (i := 229) (by decide +kernel), List.mem_of_getElem? (i := 694) (by decide +kernel), List.mem_of_getElem? (i := 695) (by decide +kernel)⟩
theorem lw_p34 : lw_okq (⟨"CallTowers", "priceWith", "(II)I"⟩, 16) := ⟨⟨by decide +kernel, by decide +kernel⟩, List.mem_of_getElem? (i := 16) (by decide +kernel), List.mem_of_getElem? (i := 744) (by decide +kernel), List.mem_of_getElem? (i := 745) (by decide +kernel)⟩
theorem lw_p35 : lw_okq (⟨"CallTowersModel", "readsBack", "([II)V"⟩, 38) := ⟨⟨by decide +kernel, by decide +kernel⟩, List.mem_of_getElem? (i := 776) (by decide +kernel), List.mem_of_getElem? (i := 901) (by decide +kernel), List.mem_of_getElem? (i := 902) (by decide +kernel)⟩
theorem lw_p36 : lw_okq (⟨"CallTowersModel", "writes", "([II)V"⟩, 38) := ⟨⟨by decide +kernel, by decide +kernel⟩, List.mem_of_getElem? (i := 776) (by decide +kernel), List.mem_of_getElem? (i := 909) (by decide +kernel), List.mem_of_getElem? (i := 910) (by decide +kernel)⟩
theorem lw_p37 : lw_okq (⟨"CallTowersModel", "isRule", "(I)Z"⟩, 38) := ⟨⟨by decide +kernel, by decide +kernel⟩, List.mem_of_getElem? (i := 776) (by decide +kernel), List.mem_of_getElem? (i := 921) (by decide +kernel), List.mem_of_getElem? (i := 922) (by decide +kernel)⟩
theorem lw_p38 : lw_okq (⟨"CallTowersModel", "notes", "()V"⟩, 38) := ⟨⟨by decide +kernel, by decide +kernel⟩, List.mem_of_getElem? (i := 776) (by decide +kernel), List.mem_of_getElem? (i := 943) (by decide +kernel), List.mem_of_getElem? (i := 944) (by decide +kernel)⟩
theorem lw_p39 : lw_okq (⟨"CallTowersModel", "fits", "(III)Z"⟩, 38) := ⟨⟨by decide +kernel, by decide +kernel⟩, List.mem_of_getElem? (i := 776) (by decide +kernel), List.mem_of_getElem? (i := 955) (by decide +kernel), List.mem_of_getElem? (i := 956) (by decide +kernel)⟩
theorem lw_p40 : lw_okq (⟨"CallTowersModel", "steps", "(I)V"⟩, 38) := ⟨⟨by decide +kernel, by decide +kernel⟩, List.mem_of_getElem? (i := 776) (by decide +kernel), List.mem_of_getElem? (i := 959) (by decide +kernel), List.mem_of_getElem? (i := 960) (by decide +kernel)⟩
theorem lw_p41 : lw_okq (⟨"CallTowersModel", "isState", "(I)Z"⟩, 38) := ⟨⟨by decide +kernel, by decide +kernel⟩, List.mem_of_getElem? (i := 776) (by decide +kernel), List.mem_of_getElem? (i := 967) (by decide +kernel), List.mem_of_getElem? (i := 968) (by decide +kernel)⟩
theorem lw_p42 : lw_okq (⟨"CallTowersModel", "enters", "(IIIII)V"⟩, 38) := ⟨⟨by decide +kernel, by decide +kernel⟩, List.mem_of_getElem? (i := 776) (by decide +kernel), List.mem_of_getElem? (i := 975) (by decide +kernel), List.mem_of_getElem? (i := 976) (by decide +kernel)⟩
theorem lw_p43 : lw_okq (⟨"CallTowersModel", "priceWithout", "(I)I"⟩, 38) := ⟨⟨by decide +kernel, by decide +kernel⟩, List.mem_of_getElem? (i := 776) (by decide +kernel), List.mem_of_getElem? (i := 995) (by decide +kernel), List.mem_of_getElem? (i := 996) (by decide +kernel)⟩
theorem lw_p44 : lw_okq (⟨"CallTowersModel", "grows", "(II)V"⟩, 38) := ⟨⟨by decide +kernel, by decide +kernel⟩, List.mem_of_getElem? (i := 776) (by decide +kernel), List.mem_of_getElem? (i := 999) (by decide +kernel), List.mem_of_getElem? (i := 1000) (by decide +kernel)⟩
theorem lw_p45 : lw_okq (⟨"CallTowersModel", "begins", "()V"⟩, 38) := ⟨⟨by decide +kernel, by decide +kernel⟩, List.mem_of_getElem? (i := 776) (by decide +kernel), List.mem_of_getElem? (i := 1003) (by decide +kernel), List.mem_of_getElem? (i := 1004) (by decide +kernel)⟩
theorem lw_p46 : lw_okq (⟨"CallTowersModel", "targetEdges", "(I)V"⟩, 38) := ⟨⟨by decide +kernel, by decide +kernel⟩, List.mem_of_getElem? (i := 776) (by decide +kernel), List.mem_of_getElem? (i := 1010) (by decide +kernel), List.mem_of_getElem? (i := 1011) (by decide +kernel)⟩
theorem lw_p47 : lw_okq (⟨"CallTowersModel", "edges", "()I"⟩, 38) := ⟨⟨by decide +kernel, by decide +kernel⟩, List.mem_of_getElem? (i := 776) (by decide +kernel), List.mem_of_getElem? (i := 1014) (by decide +kernel), List.mem_of_getElem? (i := 1015) (by decide +kernel)⟩
def lw_privs_3 : List (MethodName × Nat) := [(⟨"CallTowers$Reach", "descend", "(LCallTowers$Tower;)V"⟩, 3), (⟨"CallTowers$Reach", "spread", "(LCallTowers$Tower;)Z"⟩, 3), (⟨"CallTowers", "priceWith", "(II)I"⟩, 16), (⟨"CallTowersModel", "readsBack", "([II)V"⟩, 38), (⟨"CallTowersModel", "writes", "([II)V"⟩, 38), (⟨"CallTowersModel", "isRule", "(I)Z"⟩, 38), (⟨"CallTowersModel", "notes", "()V"⟩, 38), (⟨"CallTowersModel", "fits", "(III)Z"⟩, 38), (⟨"CallTowersModel", "steps", "(I)V"⟩, 38), (⟨"CallTowersModel", "isState", "(I)Z"⟩, 38), (⟨"CallTowersModel", "enters", "(IIIII)V"⟩, 38), (⟨"CallTowersModel", "priceWithout", "(I)I"⟩, 38), (⟨"CallTowersModel", "grows", "(II)V"⟩, 38), (⟨"CallTowersModel", "begins", "()V"⟩, 38), (⟨"CallTowersModel", "targetEdges", "(I)V"⟩, 38), (⟨"CallTowersModel", "edges", "()I"⟩, 38)]
theorem lw_r3 : ∀ q ∈ lw_privs_3, lw_okq q := List.forall_mem_cons.mpr ⟨lw_p32, List.forall_mem_cons.mpr ⟨lw_p33, List.forall_mem_cons.mpr ⟨lw_p34, List.forall_mem_cons.mpr ⟨lw_p35, List.forall_mem_cons.mpr ⟨lw_p36, List.forall_mem_cons.mpr ⟨lw_p37, List.forall_mem_cons.mpr ⟨lw_p38, List.forall_mem_cons.mpr ⟨lw_p39, List.forall_mem_cons.mpr ⟨lw_p40, List.forall_mem_cons.mpr ⟨lw_p41, List.forall_mem_cons.mpr ⟨lw_p42, List.forall_mem_cons.mpr ⟨lw_p43, List.forall_mem_cons.mpr ⟨lw_p44, List.forall_mem_cons.mpr ⟨lw_p45, List.forall_mem_cons.mpr ⟨lw_p46, List.forall_mem_cons.mpr ⟨lw_p47, fun _ h => absurd h List.not_mem_nil⟩⟩⟩⟩⟩⟩⟩⟩⟩⟩⟩⟩⟩⟩⟩⟩
theorem lw_p48 : lw_okq (⟨"CallTowersModel", "roundBy", "(III)Z"⟩, 38) := ⟨⟨by decide +kernel, by decide +kernel⟩, List.mem_of_getElem? (i := 776) (by decide +kernel), List.mem_of_getElem? (i := 1018) (by decide +kernel), List.mem_of_getElem? (i := 1019) (by decide +kernel)⟩
theorem lw_p49 : lw_okq (⟨"CallTowersModel", "standsAt", "(I)V"⟩, 38) := ⟨⟨by decide +kernel, by decide +kernel⟩, List.mem_of_getElem? (i := 776) (by decide +kernel), List.mem_of_getElem? (i := 1022) (by decide +kernel), List.mem_of_getElem? (i := 1023) (by decide +kernel)⟩
theorem lw_p50 : lw_okq (⟨"CallTowersModel", "reads", "(II)V"⟩, 38) := ⟨⟨by decide +kernel, by decide +kernel⟩, List.mem_of_getElem? (i := 776) (by decide +kernel), List.mem_of_getElem? (i := 1026) (by decide +kernel), List.mem_of_getElem? (i := 1027) (by decide +kernel)⟩
theorem lw_p51 : lw_okq (⟨"CallTowersModel", "least", "(I)I"⟩, 38) := ⟨⟨by decide +kernel, by decide +kernel⟩, List.mem_of_getElem? (i := 776) (by decide +kernel), List.mem_of_getElem? (i := 1036) (by decide +kernel), List.mem_of_getElem? (i := 1037) (by decide +kernel)⟩
theorem lw_p52 : lw_okq (⟨"CallTowersModel", "isEnd", "(I)Z"⟩, 38) := ⟨⟨by decide +kernel, by decide +kernel⟩, List.mem_of_getElem? (i := 776) (by decide +kernel), List.mem_of_getElem? (i := 1040) (by decide +kernel), List.mem_of_getElem? (i := 1041) (by decide +kernel)⟩
theorem lw_p53 : lw_okq (⟨"CallTowersModel", "towerBegins", "()V"⟩, 38) := ⟨⟨by decide +kernel, by decide +kernel⟩, List.mem_of_getElem? (i := 776) (by decide +kernel), List.mem_of_getElem? (i := 1065) (by decide +kernel), List.mem_of_getElem? (i := 1066) (by decide +kernel)⟩
theorem lw_p54 : lw_okq (⟨"CallTowersModel", "puts", "(I)V"⟩, 38) := ⟨⟨by decide +kernel, by decide +kernel⟩, List.mem_of_getElem? (i := 776) (by decide +kernel), List.mem_of_getElem? (i := 1069) (by decide +kernel), List.mem_of_getElem? (i := 1070) (by decide +kernel)⟩
theorem lw_p55 : lw_okq (⟨"CallTowersModel", "standsOn", "(I)V"⟩, 38) := ⟨⟨by decide +kernel, by decide +kernel⟩, List.mem_of_getElem? (i := 776) (by decide +kernel), List.mem_of_getElem? (i := 1073) (by decide +kernel), List.mem_of_getElem? (i := 1074) (by decide +kernel)⟩
theorem lw_p56 : lw_okq (⟨"CallTowersModel", "goesBy", "(I)V"⟩, 38) := ⟨⟨by decide +kernel, by decide +kernel⟩, List.mem_of_getElem? (i := 776) (by decide +kernel), List.mem_of_getElem? (i := 1077) (by decide +kernel), List.mem_of_getElem? (i := 1078) (by decide +kernel)⟩
theorem lw_p57 : lw_okq (⟨"CallTowersModel", "ruleOn", "(II)I"⟩, 38) := ⟨⟨by decide +kernel, by decide +kernel⟩, List.mem_of_getElem? (i := 776) (by decide +kernel), List.mem_of_getElem? (i := 1081) (by decide +kernel), List.mem_of_getElem? (i := 1082) (by decide +kernel)⟩
theorem lw_p58 : lw_okq (⟨"CallTowersModel", "behind", "(I)I"⟩, 38) := ⟨⟨by decide +kernel, by decide +kernel⟩, List.mem_of_getElem? (i := 776) (by decide +kernel), List.mem_of_getElem? (i := 1085) (by decide +kernel), List.mem_of_getElem? (i := 1086) (by decide +kernel)⟩
theorem lw_p59 : lw_okq (⟨"CallTowersModel", "towerSteps", "(I)V"⟩, 38) := ⟨⟨by decide +kernel, by decide +kernel⟩, List.mem_of_getElem? (i := 776) (by decide +kernel), List.mem_of_getElem? (i := 1089) (by decide +kernel), List.mem_of_getElem? (i := 1090) (by decide +kernel)⟩
theorem lw_p60 : lw_okq (⟨"CallTowersModel", "setHeads", "()V"⟩, 38) := ⟨⟨by decide +kernel, by decide +kernel⟩, List.mem_of_getElem? (i := 776) (by decide +kernel), List.mem_of_getElem? (i := 1097) (by decide +kernel), List.mem_of_getElem? (i := 1098) (by decide +kernel)⟩
theorem lw_p61 : lw_okq (⟨"CallTowersModel", "setPops", "()V"⟩, 38) := ⟨⟨by decide +kernel, by decide +kernel⟩, List.mem_of_getElem? (i := 776) (by decide +kernel), List.mem_of_getElem? (i := 1101) (by decide +kernel), List.mem_of_getElem? (i := 1102) (by decide +kernel)⟩
theorem lw_p62 : lw_okq (⟨"CallTowersModel", "isGone", "(II)Z"⟩, 38) := ⟨⟨by decide +kernel, by decide +kernel⟩, List.mem_of_getElem? (i := 776) (by decide +kernel), List.mem_of_getElem? (i := 1105) (by decide +kernel), List.mem_of_getElem? (i := 1106) (by decide +kernel)⟩
theorem lw_p63 : lw_okq (⟨"CallTowersModel", "popsBy", "(III)I"⟩, 38) := ⟨⟨by decide +kernel, by decide +kernel⟩, List.mem_of_getElem? (i := 776) (by decide +kernel), List.mem_of_getElem? (i := 1109) (by decide +kernel), List.mem_of_getElem? (i := 1110) (by decide +kernel)⟩
def lw_privs_4 : List (MethodName × Nat) := [(⟨"CallTowersModel", "roundBy", "(III)Z"⟩, 38), (⟨"CallTowersModel", "standsAt", "(I)V"⟩, 38), (⟨"CallTowersModel", "reads", "(II)V"⟩, 38), (⟨"CallTowersModel", "least", "(I)I"⟩, 38), (⟨"CallTowersModel", "isEnd", "(I)Z"⟩, 38), (⟨"CallTowersModel", "towerBegins", "()V"⟩, 38), (⟨"CallTowersModel", "puts", "(I)V"⟩, 38), (⟨"CallTowersModel", "standsOn", "(I)V"⟩, 38), (⟨"CallTowersModel", "goesBy", "(I)V"⟩, 38), (⟨"CallTowersModel", "ruleOn", "(II)I"⟩, 38), (⟨"CallTowersModel", "behind", "(I)I"⟩, 38), (⟨"CallTowersModel", "towerSteps", "(I)V"⟩, 38), (⟨"CallTowersModel", "setHeads", "()V"⟩, 38), (⟨"CallTowersModel", "setPops", "()V"⟩, 38), (⟨"CallTowersModel", "isGone", "(II)Z"⟩, 38), (⟨"CallTowersModel", "popsBy", "(III)I"⟩, 38)]
theorem lw_r4 : ∀ q ∈ lw_privs_4, lw_okq q := List.forall_mem_cons.mpr ⟨lw_p48, List.forall_mem_cons.mpr ⟨lw_p49, List.forall_mem_cons.mpr ⟨lw_p50, List.forall_mem_cons.mpr ⟨lw_p51, List.forall_mem_cons.mpr ⟨lw_p52, List.forall_mem_cons.mpr ⟨lw_p53, List.forall_mem_cons.mpr ⟨lw_p54, List.forall_mem_cons.mpr ⟨lw_p55, List.forall_mem_cons.mpr ⟨lw_p56, List.forall_mem_cons.mpr ⟨lw_p57, List.forall_mem_cons.mpr ⟨lw_p58, List.forall_mem_cons.mpr ⟨lw_p59, List.forall_mem_cons.mpr ⟨lw_p60, List.forall_mem_cons.mpr ⟨lw_p61, List.forall_mem_cons.mpr ⟨lw_p62, List.forall_mem_cons.mpr ⟨lw_p63, fun _ h => absurd h List.not_mem_nil⟩⟩⟩⟩⟩⟩⟩⟩⟩⟩⟩⟩⟩⟩⟩⟩
theorem lw_p64 : lw_okq (⟨"CallTowersModel", "headsOfPile", "()V"⟩, 38) := ⟨⟨by decide +kernel, by decide +kernel⟩, List.mem_of_getElem? (i := 776) (by decide +kernel), List.mem_of_getElem? (i := 1113) (by decide +kernel), List.mem_of_getElem? (i := 1114) (by decide +kernel)⟩
theorem lw_p65 : lw_okq (⟨"CallTowersModel", "headMany", "()I"⟩, 38) := ⟨⟨by decide +kernel, by decide +kernel⟩, List.mem_of_getElem? (i := 776) (by decide +kernel), List.mem_of_getElem? (i := 1117) (by decide +kernel), List.mem_of_getElem? (i := 1118) (by decide +kernel)⟩
theorem lw_p66 : lw_okq (⟨"CallTowersModel", "headsOf", "(I)V"⟩, 38) := ⟨⟨by decide +kernel, by decide +kernel⟩, List.mem_of_getElem? (i := 776) (by decide +kernel), List.mem_of_getElem? (i := 1121) (by decide +kernel), List.mem_of_getElem? (i := 1122) (by decide +kernel)⟩
theorem lw_p67 : lw_okq (⟨"CallTowersModel", "walks", "(II)Z"⟩, 38) := ⟨⟨by decide +kernel, by decide +kernel⟩, List.mem_of_getElem? (i := 776) (by decide +kernel), List.mem_of_getElem? (i := 1137) (by decide +kernel), List.mem_of_getElem? (i := 1138) (by decide +kernel)⟩
theorem lw_p68 : lw_okq (⟨"CallTowersModel", "fitting", "()I"⟩, 38) := ⟨⟨by decide +kernel, by decide +kernel⟩, List.mem_of_getElem? (i := 776) (by decide +kernel), List.mem_of_getElem? (i := 1141) (by decide +kernel), List.mem_of_getElem? (i := 1142) (by decide +kernel)⟩
theorem lw_p69 : lw_okq (⟨"CallTowersModel", "fittingAt", "(I)I"⟩, 38) := ⟨⟨by decide +kernel, by decide +kernel⟩, List.mem_of_getElem? (i := 776) (by decide +kernel), List.mem_of_getElem? (i := 1149) (by decide +kernel), List.mem_of_getElem? (i := 1150) (by decide +kernel)⟩
theorem lw_p70 : lw_okq (⟨"CallTowersModel", "goesThrough", "(Z)I"⟩, 38) := ⟨⟨by decide +kernel, by decide +kernel⟩, List.mem_of_getElem? (i := 776) (by decide +kernel), List.mem_of_getElem? (i := 1165) (by decide +kernel), List.mem_of_getElem? (i := 1166) (by decide +kernel)⟩
theorem lw_p71 : lw_okq (⟨"CallTowersModel", "readsItem", "(ZZ)Z"⟩, 38) := ⟨⟨by decide +kernel, by decide +kernel⟩, List.mem_of_getElem? (i := 776) (by decide +kernel), List.mem_of_getElem? (i := 1169) (by decide +kernel), List.mem_of_getElem? (i := 1170) (by decide +kernel)⟩
theorem lw_p72 : lw_okq (⟨"CallTowersModel", "readsStates", "(ZZ)Z"⟩, 38) := ⟨⟨by decide +kernel, by decide +kernel⟩, List.mem_of_getElem? (i := 776) (by decide +kernel), List.mem_of_getElem? (i := 1173) (by decide +kernel), List.mem_of_getElem? (i := 1174) (by decide +kernel)⟩
theorem lw_p73 : lw_okq (⟨"CallTowersModel", "figure", "(II)Z"⟩, 38) := ⟨⟨by decide +kernel, by decide +kernel⟩, List.mem_of_getElem? (i := 776) (by decide +kernel), List.mem_of_getElem? (i := 1177) (by decide +kernel), List.mem_of_getElem? (i := 1178) (by decide +kernel)⟩
theorem lw_p74 : lw_okq (⟨"CallTowersModel", "readsRule", "(Z)Z"⟩, 38) := ⟨⟨by decide +kernel, by decide +kernel⟩, List.mem_of_getElem? (i := 776) (by decide +kernel), List.mem_of_getElem? (i := 1181) (by decide +kernel), List.mem_of_getElem? (i := 1182) (by decide +kernel)⟩
theorem lw_p75 : lw_okq (⟨"CallTowersModel", "sign", "(I)Z"⟩, 38) := ⟨⟨by decide +kernel, by decide +kernel⟩, List.mem_of_getElem? (i := 776) (by decide +kernel), List.mem_of_getElem? (i := 1185) (by decide +kernel), List.mem_of_getElem? (i := 1186) (by decide +kernel)⟩
theorem lw_p76 : lw_okq (⟨"CallTowersModel", "word", "(I)Z"⟩, 38) := ⟨⟨by decide +kernel, by decide +kernel⟩, List.mem_of_getElem? (i := 776) (by decide +kernel), List.mem_of_getElem? (i := 1189) (by decide +kernel), List.mem_of_getElem? (i := 1190) (by decide +kernel)⟩
theorem lw_p77 : lw_okq (⟨"CallTowersModel", "isWordAt", "()Z"⟩, 38) := ⟨⟨by decide +kernel, by decide +kernel⟩, List.mem_of_getElem? (i := 776) (by decide +kernel), List.mem_of_getElem? (i := 1193) (by decide +kernel), List.mem_of_getElem? (i := 1194) (by decide +kernel)⟩
theorem lw_p78 : lw_okq (⟨"CallTowersModel", "readsTarget", "(Z)Z"⟩, 38) := ⟨⟨by decide +kernel, by decide +kernel⟩, List.mem_of_getElem? (i := 776) (by decide +kernel), List.mem_of_getElem? (i := 1197) (by decide +kernel), List.mem_of_getElem? (i := 1198) (by decide +kernel)⟩
theorem lw_p79 : lw_okq (⟨"CallTowersModel", "readsConfiguration", "(Z)Z"⟩, 38) := ⟨⟨by decide +kernel, by decide +kernel⟩, List.mem_of_getElem? (i := 776) (by decide +kernel), List.mem_of_getElem? (i := 1201) (by decide +kernel), List.mem_of_getElem? (i := 1202) (by decide +kernel)⟩
def lw_privs_5 : List (MethodName × Nat) := [(⟨"CallTowersModel", "headsOfPile", "()V"⟩, 38), (⟨"CallTowersModel", "headMany", "()I"⟩, 38), (⟨"CallTowersModel", "headsOf", "(I)V"⟩, 38), (⟨"CallTowersModel", "walks", "(II)Z"⟩, 38), (⟨"CallTowersModel", "fitting", "()I"⟩, 38), (⟨"CallTowersModel", "fittingAt", "(I)I"⟩, 38), (⟨"CallTowersModel", "goesThrough", "(Z)I"⟩, 38), (⟨"CallTowersModel", "readsItem", "(ZZ)Z"⟩, 38), (⟨"CallTowersModel", "readsStates", "(ZZ)Z"⟩, 38), (⟨"CallTowersModel", "figure", "(II)Z"⟩, 38), (⟨"CallTowersModel", "readsRule", "(Z)Z"⟩, 38), (⟨"CallTowersModel", "sign", "(I)Z"⟩, 38), (⟨"CallTowersModel", "word", "(I)Z"⟩, 38), (⟨"CallTowersModel", "isWordAt", "()Z"⟩, 38), (⟨"CallTowersModel", "readsTarget", "(Z)Z"⟩, 38), (⟨"CallTowersModel", "readsConfiguration", "(Z)Z"⟩, 38)]
theorem lw_r5 : ∀ q ∈ lw_privs_5, lw_okq q := List.forall_mem_cons.mpr ⟨lw_p64, List.forall_mem_cons.mpr ⟨lw_p65, List.forall_mem_cons.mpr ⟨lw_p66, List.forall_mem_cons.mpr ⟨lw_p67, List.forall_mem_cons.mpr ⟨lw_p68, List.forall_mem_cons.mpr ⟨lw_p69, List.forall_mem_cons.mpr ⟨lw_p70, List.forall_mem_cons.mpr ⟨lw_p71, List.forall_mem_cons.mpr ⟨lw_p72, List.forall_mem_cons.mpr ⟨lw_p73, List.forall_mem_cons.mpr ⟨lw_p74, List.forall_mem_cons.mpr ⟨lw_p75, List.forall_mem_cons.mpr ⟨lw_p76, List.forall_mem_cons.mpr ⟨lw_p77, List.forall_mem_cons.mpr ⟨lw_p78, List.forall_mem_cons.mpr ⟨lw_p79, fun _ h => absurd h List.not_mem_nil⟩⟩⟩⟩⟩⟩⟩⟩⟩⟩⟩⟩⟩⟩⟩⟩
def lw_privs : List (MethodName × Nat) := lw_privs_1 ++ (lw_privs_2 ++ (lw_privs_3 ++ (lw_privs_4 ++ (lw_privs_5))))
def lw_tbl : List Cond := k2_sels lw_privs ++ tables_1
theorem lw_privs_ok : ∀ q ∈ lw_privs, lw_okq q := by
  show ∀ q ∈ lw_privs_1 ++ (lw_privs_2 ++ (lw_privs_3 ++ (lw_privs_4 ++ (lw_privs_5)))), lw_okq q
  exact List.forall_mem_append.mpr ⟨lw_r1, List.forall_mem_append.mpr ⟨lw_r2, List.forall_mem_append.mpr ⟨lw_r3, List.forall_mem_append.mpr ⟨lw_r4, lw_r5⟩⟩⟩⟩
end
section
/-! ===== BEGIN words of one list among another's, by their places ===== -/
theorem goodIn_r {big : List Cond} (ws : List Cond) (ps : List Nat) (hp : ws = ps.filterMap (fun i => big[i]?)) (h : ws.all goodWord = true) : GoodIn big ws := by
  intro w hw
  have h1 := List.all_eq_true.mp h w hw
  rw [hp] at hw
  obtain ⟨i, -, hi⟩ := List.mem_filterMap.mp hw
  have hm : w ∈ big := by first | exact List.mem_of_getElem? hi | exact List.getElem?_mem hi
  exact ⟨hm, good_of_word h1⟩
theorem goodIn_app {big a b : List Cond} (ha : GoodIn big a) (hb : GoodIn big b) : GoodIn big (a ++ b) := fun w h => (List.mem_append.mp h).elim (ha w) (hb w)
theorem goodIn_ca {big a b : List Cond} {c : Cond} (ha : GoodIn big (c :: a)) (hb : GoodIn big b) : GoodIn big (c :: (a ++ b)) := fun w h => (List.mem_cons.mp h).elim (fun e => ha w (List.mem_cons.mpr (Or.inl e))) (fun h => (List.mem_append.mp h).elim (fun h => ha w (List.mem_cons.mpr (Or.inr h))) (hb w))
theorem goodIn_sub {big ws : List Cond} (hm : ∀ w ∈ ws, w ∈ big) (h : ws.all goodWord = true) : GoodIn big ws := fun w hw => ⟨hm w hw, good_of_word (List.all_eq_true.mp h w hw)⟩
/-! ===== END ===== -/

/-! ===== BEGIN printed: names, fields, word lists, decode rows ===== -/
def RX0 : String := "CallTowers$Net"
def TX0 : u_T := fun k => match k with
  | 0 => ("CallTowers$Net", "nodes", "I", false)
  | 1 => ("CallTowers$Net", "firstEdges", "I", false)
  | 2 => ("CallTowers$Net", "edges", "I", false)
  | 3 => ("CallTowers$Net", "rounds", "I", false)
  | 4 => ("CallTowers$Net", "weights", "[I", true)
  | 5 => ("CallTowers$Net", "before", "[I", true)
  | 6 => ("CallTowers$Net", "accepting", "[Z", true)
  | 7 => ("CallTowers$Net", "costs", "[I", true)
  | 8 => ("CallTowers$Net", "worst", "Z", false)
  | 9 => ("CallTowers$Net", "read", "[I", false)
  | _ => ("CallTowers$Net", "spare", "[I", false)
def tyX0 : Nat → FieldType := fun k => match k with
  | 0 => .int
  | 1 => .int
  | 2 => .int
  | 3 => .int
  | 4 => .array .int
  | 5 => .array .int
  | 6 => .array .boolean
  | 7 => .array .int
  | 8 => .boolean
  | 9 => .array .int
  | _ => .array .int
abbrev wsX00 : List Cond := u_ws RX0 TX0 11
theorem nmX0 : ∀ a, a < 11 → ∀ b, b < 11 → a ≠ b → (TX0 a).2.1 ≠ (TX0 b).2.1 := by decide +kernel
theorem tyX0_ok : ∀ k, k < 11 → parseFieldDescriptor (TX0 k).2.2.1 = some (tyX0 k) := by decide +kernel
abbrev cX0_init : ByteArray := prog_2_method_1_code
def yX0_init : MethodName := ⟨RX0, "<init>", "()V"⟩
abbrev cX0_isNode : ByteArray := prog_2_method_2_code
def yX0_isNode : MethodName := ⟨RX0, "isNode", "(I)Z"⟩
abbrev cX0_build : ByteArray := prog_2_method_3_code
def yX0_build : MethodName := ⟨RX0, "build", "(LCallTowers$Tower;III)V"⟩
abbrev cX0_layTargets : ByteArray := prog_2_method_4_code
def yX0_layTargets : MethodName := ⟨RX0, "layTargets", "(LCallTowers$Tower;)V"⟩
abbrev cX0_layAnyLetter : ByteArray := prog_2_method_5_code
def yX0_layAnyLetter : MethodName := ⟨RX0, "layAnyLetter", "(II)V"⟩
abbrev cX0_countEdges : ByteArray := prog_2_method_6_code
def yX0_countEdges : MethodName := ⟨RX0, "countEdges", "()I"⟩
abbrev cX0_playRound : ByteArray := prog_2_method_7_code
def yX0_playRound : MethodName := ⟨RX0, "playRound", "(LCallTowers$Tower;)Z"⟩
abbrev cX0_drawEdges : ByteArray := prog_2_method_8_code
def yX0_drawEdges : MethodName := ⟨RX0, "drawEdges", "(II)Z"⟩
abbrev cX0_joined : ByteArray := prog_2_method_9_code
def yX0_joined : MethodName := ⟨RX0, "joined", "(II)I"⟩
abbrev cX0_startAt : ByteArray := prog_2_method_10_code
def yX0_startAt : MethodName := ⟨RX0, "startAt", "(I)V"⟩
abbrev cX0_readOn : ByteArray := prog_2_method_11_code
def yX0_readOn : MethodName := ⟨RX0, "readOn", "(I)V"⟩
abbrev cX0_priceOf : ByteArray := prog_2_method_12_code
def yX0_priceOf : MethodName := ⟨RX0, "priceOf", "(LCallTowers$Tower;)I"⟩
abbrev cX0_fillBottom : ByteArray := prog_2_method_13_code
def yX0_fillBottom : MethodName := ⟨RX0, "fillBottom", "([I)V"⟩
abbrev cX0_stepsOver : ByteArray := prog_2_method_14_code
def yX0_stepsOver : MethodName := ⟨RX0, "stepsOver", "(II[II)I"⟩
abbrev cX0_stepsOverTwo : ByteArray := prog_2_method_15_code
def yX0_stepsOverTwo : MethodName := ⟨RX0, "stepsOverTwo", "(III[II)I"⟩
def RX1 : String := "CallTowers$Reach"
def TX1 : u_T := fun k => match k with
  | 0 => ("CallTowers$Reach", "falls", "[I", true)
  | 1 => ("CallTowers$Reach", "headSet", "I", false)
  | _ => ("CallTowers$Reach", "bottoms", "I", false)
def tyX1 : Nat → FieldType := fun k => match k with
  | 0 => .array .int
  | 1 => .int
  | _ => .int
abbrev wsX10 : List Cond := u_ws RX1 TX1 3
theorem nmX1 : ∀ a, a < 3 → ∀ b, b < 3 → a ≠ b → (TX1 a).2.1 ≠ (TX1 b).2.1 := by decide +kernel
theorem tyX1_ok : ∀ k, k < 3 → parseFieldDescriptor (TX1 k).2.2.1 = some (tyX1 k) := by decide +kernel
abbrev cX1_init : ByteArray := prog_3_method_1_code
def yX1_init : MethodName := ⟨RX1, "<init>", "()V"⟩
abbrev cX1_hasHead : ByteArray := prog_3_method_2_code
def yX1_hasHead : MethodName := ⟨RX1, "hasHead", "(II)Z"⟩
abbrev cX1_explore : ByteArray := prog_3_method_3_code
def yX1_explore : MethodName := ⟨RX1, "explore", "(LCallTowers$Tower;)V"⟩
abbrev cX1_settleFalls : ByteArray := prog_3_method_4_code
def yX1_settleFalls : MethodName := ⟨RX1, "settleFalls", "(LCallTowers$Tower;)V"⟩
abbrev cX1_afterWord : ByteArray := prog_3_method_5_code
def yX1_afterWord : MethodName := ⟨RX1, "afterWord", "(II)I"⟩
abbrev cX1_afterLetter : ByteArray := prog_3_method_6_code
def yX1_afterLetter : MethodName := ⟨RX1, "afterLetter", "(II)I"⟩
abbrev cX1_descend : ByteArray := prog_3_method_7_code
def yX1_descend : MethodName := ⟨RX1, "descend", "(LCallTowers$Tower;)V"⟩
abbrev cX1_headsOf : ByteArray := prog_3_method_8_code
def yX1_headsOf : MethodName := ⟨RX1, "headsOf", "(II)I"⟩
abbrev cX1_spread : ByteArray := prog_3_method_9_code
def yX1_spread : MethodName := ⟨RX1, "spread", "(LCallTowers$Tower;)Z"⟩
def RX2 : String := "CallTowers$Route"
def TX2 : u_T := fun k => match k with
  | 0 => ("CallTowers$Route", "letters", "[I", true)
  | 1 => ("CallTowers$Route", "tails", "[I", true)
  | 2 => ("CallTowers$Route", "height", "I", false)
  | 3 => ("CallTowers$Route", "state", "I", false)
  | 4 => ("CallTowers$Route", "left", "I", false)
  | 5 => ("CallTowers$Route", "latest", "I", false)
  | _ => ("CallTowers$Route", "done", "I", false)
def tyX2 : Nat → FieldType := fun k => match k with
  | 0 => .array .int
  | 1 => .array .int
  | 2 => .int
  | 3 => .int
  | 4 => .int
  | 5 => .int
  | _ => .int
abbrev wsX20 : List Cond := u_ws RX2 TX2 7
theorem nmX2 : ∀ a, a < 7 → ∀ b, b < 7 → a ≠ b → (TX2 a).2.1 ≠ (TX2 b).2.1 := by decide +kernel
theorem tyX2_ok : ∀ k, k < 7 → parseFieldDescriptor (TX2 k).2.2.1 = some (tyX2 k) := by decide +kernel
abbrev cX2_init : ByteArray := prog_4_method_1_code
def yX2_init : MethodName := ⟨RX2, "<init>", "()V"⟩
abbrev cX2_begin : ByteArray := prog_4_method_2_code
def yX2_begin : MethodName := ⟨RX2, "begin", "(LCallTowers$Tower;LCallTowers$Net;)V"⟩
abbrev cX2_fillTail : ByteArray := prog_4_method_3_code
def yX2_fillTail : MethodName := ⟨RX2, "fillTail", "(ILCallTowers$Net;)V"⟩
abbrev cX2_steps : ByteArray := prog_4_method_4_code
def yX2_steps : MethodName := ⟨RX2, "steps", "()I"⟩
abbrev cX2_ruleAt : ByteArray := prog_4_method_5_code
def yX2_ruleAt : MethodName := ⟨RX2, "ruleAt", "(ILCallTowers$Tower;LCallTowers$Net;)I"⟩
abbrev cX2_advance : ByteArray := prog_4_method_6_code
def yX2_advance : MethodName := ⟨RX2, "advance", "(LCallTowers$Tower;LCallTowers$Net;)I"⟩
abbrev cX2_stepsAfter : ByteArray := prog_4_method_7_code
def yX2_stepsAfter : MethodName := ⟨RX2, "stepsAfter", "(IILCallTowers$Net;)I"⟩
abbrev cX2_replaceTop : ByteArray := prog_4_method_8_code
def yX2_replaceTop : MethodName := ⟨RX2, "replaceTop", "(ILCallTowers$Net;)V"⟩
def RX3 : String := "CallTowers$Script"
def TX3 : u_T := fun k => match k with
  | 0 => ("CallTowers$Script", "signs", "[C", true)
  | 1 => ("CallTowers$Script", "length", "I", false)
  | 2 => ("CallTowers$Script", "at", "I", false)
  | _ => ("CallTowers$Script", "letters", "[I", true)
def tyX3 : Nat → FieldType := fun k => match k with
  | 0 => .array .char
  | 1 => .int
  | 2 => .int
  | _ => .array .int
abbrev wsX30 : List Cond := u_ws RX3 TX3 4
theorem nmX3 : ∀ a, a < 4 → ∀ b, b < 4 → a ≠ b → (TX3 a).2.1 ≠ (TX3 b).2.1 := by decide +kernel
theorem tyX3_ok : ∀ k, k < 4 → parseFieldDescriptor (TX3 k).2.2.1 = some (tyX3 k) := by decide +kernel
abbrev cX3_init : ByteArray := prog_5_method_1_code
def yX3_init : MethodName := ⟨RX3, "<init>", "()V"⟩
abbrev cX3_append : ByteArray := prog_5_method_2_code
def yX3_append : MethodName := ⟨RX3, "append", "(C)Z"⟩
abbrev cX3_clear : ByteArray := prog_5_method_3_code
def yX3_clear : MethodName := ⟨RX3, "clear", "()V"⟩
abbrev cX3_readInto : ByteArray := prog_5_method_4_code
def yX3_readInto : MethodName := ⟨RX3, "readInto", "(LCallTowers$Tower;)I"⟩
abbrev cX3_readItem : ByteArray := prog_5_method_5_code
def yX3_readItem : MethodName := ⟨RX3, "readItem", "(LCallTowers$Tower;Z)Z"⟩
abbrev cX3_readStates : ByteArray := prog_5_method_6_code
def yX3_readStates : MethodName := ⟨RX3, "readStates", "(LCallTowers$Tower;)Z"⟩
abbrev cX3_readRule : ByteArray := prog_5_method_7_code
def yX3_readRule : MethodName := ⟨RX3, "readRule", "(LCallTowers$Tower;)Z"⟩
abbrev cX3_readTarget : ByteArray := prog_5_method_8_code
def yX3_readTarget : MethodName := ⟨RX3, "readTarget", "(LCallTowers$Tower;)Z"⟩
abbrev cX3_readConfiguration : ByteArray := prog_5_method_9_code
def yX3_readConfiguration : MethodName := ⟨RX3, "readConfiguration", "(LCallTowers$Tower;)Z"⟩
abbrev cX3_readMode : ByteArray := prog_5_method_10_code
def yX3_readMode : MethodName := ⟨RX3, "readMode", "(LCallTowers$Tower;)Z"⟩
abbrev cX3_readSign : ByteArray := prog_5_method_11_code
def yX3_readSign : MethodName := ⟨RX3, "readSign", "(C)Z"⟩
abbrev cX3_readDigit : ByteArray := prog_5_method_12_code
def yX3_readDigit : MethodName := ⟨RX3, "readDigit", "(I)I"⟩
abbrev cX3_readLetter : ByteArray := prog_5_method_13_code
def yX3_readLetter : MethodName := ⟨RX3, "readLetter", "()I"⟩
abbrev cX3_readWord : ByteArray := prog_5_method_14_code
def yX3_readWord : MethodName := ⟨RX3, "readWord", "(I)I"⟩
abbrev cX3_wordFrom : ByteArray := prog_5_method_15_code
def yX3_wordFrom : MethodName := ⟨RX3, "wordFrom", "(I)I"⟩
def RX4 : String := "CallTowers$Tower"
def TX4 : u_T := fun k => match k with
  | 0 => ("CallTowers$Tower", "states", "I", false)
  | 1 => ("CallTowers$Tower", "rules", "I", false)
  | 2 => ("CallTowers$Tower", "from", "[I", true)
  | 3 => ("CallTowers$Tower", "top", "[I", true)
  | 4 => ("CallTowers$Tower", "into", "[I", true)
  | 5 => ("CallTowers$Tower", "word", "[I", true)
  | 6 => ("CallTowers$Tower", "cost", "[I", true)
  | 7 => ("CallTowers$Tower", "targets", "I", false)
  | 8 => ("CallTowers$Tower", "targetState", "[I", true)
  | 9 => ("CallTowers$Tower", "targetLength", "[I", true)
  | 10 => ("CallTowers$Tower", "targetOpen", "[Z", true)
  | 11 => ("CallTowers$Tower", "targetWord", "[I", true)
  | 12 => ("CallTowers$Tower", "mode", "I", false)
  | 13 => ("CallTowers$Tower", "state", "I", false)
  | 14 => ("CallTowers$Tower", "height", "I", false)
  | _ => ("CallTowers$Tower", "stack", "[I", true)
def tyX4 : Nat → FieldType := fun k => match k with
  | 0 => .int
  | 1 => .int
  | 2 => .array .int
  | 3 => .array .int
  | 4 => .array .int
  | 5 => .array .int
  | 6 => .array .int
  | 7 => .int
  | 8 => .array .int
  | 9 => .array .int
  | 10 => .array .boolean
  | 11 => .array .int
  | 12 => .int
  | 13 => .int
  | 14 => .int
  | _ => .array .int
abbrev wsX40 : List Cond := u_ws RX4 TX4 16
theorem nmX4 : ∀ a, a < 16 → ∀ b, b < 16 → a ≠ b → (TX4 a).2.1 ≠ (TX4 b).2.1 := by decide +kernel
theorem tyX4_ok : ∀ k, k < 16 → parseFieldDescriptor (TX4 k).2.2.1 = some (tyX4 k) := by decide +kernel
abbrev cX4_init : ByteArray := prog_6_method_1_code
def yX4_init : MethodName := ⟨RX4, "<init>", "()V"⟩
abbrev cX4_clear : ByteArray := prog_6_method_2_code
def yX4_clear : MethodName := ⟨RX4, "clear", "()V"⟩
abbrev cX4_copyFrom : ByteArray := prog_6_method_3_code
def yX4_copyFrom : MethodName := ⟨RX4, "copyFrom", "(LCallTowers$Tower;)V"⟩
abbrev cX4_addRule : ByteArray := prog_6_method_4_code
def yX4_addRule : MethodName := ⟨RX4, "addRule", "(IIIII)Z"⟩
abbrev cX4_removeRule : ByteArray := prog_6_method_5_code
def yX4_removeRule : MethodName := ⟨RX4, "removeRule", "(I)V"⟩
abbrev cX4_addTarget : ByteArray := prog_6_method_6_code
def yX4_addTarget : MethodName := ⟨RX4, "addTarget", "(I[IIZ)Z"⟩
abbrev cX4_putLetter : ByteArray := prog_6_method_7_code
def yX4_putLetter : MethodName := ⟨RX4, "putLetter", "(I)V"⟩
abbrev cX4_takeLetter : ByteArray := prog_6_method_8_code
def yX4_takeLetter : MethodName := ⟨RX4, "takeLetter", "()I"⟩
abbrev cX4_rulesFor : ByteArray := prog_6_method_9_code
def yX4_rulesFor : MethodName := ⟨RX4, "rulesFor", "(II)I"⟩
abbrev cX4_applies : ByteArray := prog_6_method_10_code
def yX4_applies : MethodName := ⟨RX4, "applies", "(I)Z"⟩
abbrev cX4_heightAfter : ByteArray := prog_6_method_11_code
def yX4_heightAfter : MethodName := ⟨RX4, "heightAfter", "(I)I"⟩
abbrev cX4_apply : ByteArray := prog_6_method_12_code
def yX4_apply : MethodName := ⟨RX4, "apply", "(I)V"⟩
abbrev cX4_choose : ByteArray := prog_6_method_13_code
def yX4_choose : MethodName := ⟨RX4, "choose", "(I)I"⟩
def RX5 : String := "CallTowers"
def TX5 : u_T := fun k => match k with
  | 0 => ("CallTowers", "script", "LCallTowers$Script;", true)
  | 1 => ("CallTowers", "now", "LCallTowers$Tower;", true)
  | 2 => ("CallTowers", "draft", "LCallTowers$Tower;", true)
  | 3 => ("CallTowers", "past", "[LCallTowers$Tower;", true)
  | 4 => ("CallTowers", "pastNext", "I", false)
  | 5 => ("CallTowers", "pastCount", "I", false)
  | 6 => ("CallTowers", "saved", "[LCallTowers$Tower;", true)
  | 7 => ("CallTowers", "savedCount", "I", false)
  | 8 => ("CallTowers", "net", "LCallTowers$Net;", true)
  | 9 => ("CallTowers", "netFresh", "Z", false)
  | 10 => ("CallTowers", "paces", "LCallTowers$Net;", true)
  | 11 => ("CallTowers", "pacesFresh", "Z", false)
  | 12 => ("CallTowers", "trial", "LCallTowers$Net;", true)
  | 13 => ("CallTowers", "route", "LCallTowers$Route;", true)
  | 14 => ("CallTowers", "routeFresh", "Z", false)
  | _ => ("CallTowers", "reach", "LCallTowers$Reach;", true)
def tyX5 : Nat → FieldType := fun k => match k with
  | 0 => .object "CallTowers$Script"
  | 1 => .object "CallTowers$Tower"
  | 2 => .object "CallTowers$Tower"
  | 3 => .array (.object "CallTowers$Tower")
  | 4 => .int
  | 5 => .int
  | 6 => .array (.object "CallTowers$Tower")
  | 7 => .int
  | 8 => .object "CallTowers$Net"
  | 9 => .boolean
  | 10 => .object "CallTowers$Net"
  | 11 => .boolean
  | 12 => .object "CallTowers$Net"
  | 13 => .object "CallTowers$Route"
  | 14 => .boolean
  | _ => .object "CallTowers$Reach"
abbrev wsX50 : List Cond := u_ws RX5 TX5 16
theorem nmX5 : ∀ a, a < 16 → ∀ b, b < 16 → a ≠ b → (TX5 a).2.1 ≠ (TX5 b).2.1 := by decide +kernel
theorem tyX5_ok : ∀ k, k < 16 → parseFieldDescriptor (TX5 k).2.2.1 = some (tyX5 k) := by decide +kernel
abbrev cX5_init : ByteArray := prog_1_method_1_code
def yX5_init : MethodName := ⟨RX5, "<init>", "()V"⟩
abbrev cX5_write : ByteArray := prog_1_method_2_code
def yX5_write : MethodName := ⟨RX5, "write", "(I)I"⟩
abbrev cX5_wipe : ByteArray := prog_1_method_3_code
def yX5_wipe : MethodName := ⟨RX5, "wipe", "()I"⟩
abbrev cX5_fault : ByteArray := prog_1_method_4_code
def yX5_fault : MethodName := ⟨RX5, "fault", "()I"⟩
abbrev cX5_lay : ByteArray := prog_1_method_5_code
def yX5_lay : MethodName := ⟨RX5, "lay", "()I"⟩
abbrev cX5_rule : ByteArray := prog_1_method_6_code
def yX5_rule : MethodName := ⟨RX5, "rule", "(II)I"⟩
abbrev cX5_target : ByteArray := prog_1_method_7_code
def yX5_target : MethodName := ⟨RX5, "target", "(II)I"⟩
abbrev cX5_stack : ByteArray := prog_1_method_8_code
def yX5_stack : MethodName := ⟨RX5, "stack", "(I)I"⟩
abbrev cX5_push : ByteArray := prog_1_method_9_code
def yX5_push : MethodName := ⟨RX5, "push", "(I)I"⟩
abbrev cX5_pop : ByteArray := prog_1_method_10_code
def yX5_pop : MethodName := ⟨RX5, "pop", "()I"⟩
abbrev cX5_step : ByteArray := prog_1_method_11_code
def yX5_step : MethodName := ⟨RX5, "step", "(I)I"⟩
abbrev cX5_go : ByteArray := prog_1_method_12_code
def yX5_go : MethodName := ⟨RX5, "go", "(I)I"⟩
abbrev cX5_enter : ByteArray := prog_1_method_13_code
def yX5_enter : MethodName := ⟨RX5, "enter", "(IIIII)I"⟩
abbrev cX5_drop : ByteArray := prog_1_method_14_code
def yX5_drop : MethodName := ⟨RX5, "drop", "(I)I"⟩
abbrev cX5_weigh : ByteArray := prog_1_method_15_code
def yX5_weigh : MethodName := ⟨RX5, "weigh", "(II)I"⟩
abbrev cX5_mode : ByteArray := prog_1_method_16_code
def yX5_mode : MethodName := ⟨RX5, "mode", "(I)I"⟩
abbrev cX5_undo : ByteArray := prog_1_method_17_code
def yX5_undo : MethodName := ⟨RX5, "undo", "()I"⟩
abbrev cX5_price : ByteArray := prog_1_method_18_code
def yX5_price : MethodName := ⟨RX5, "price", "()I"⟩
abbrev cX5_run : ByteArray := prog_1_method_19_code
def yX5_run : MethodName := ⟨RX5, "run", "(I)I"⟩
abbrev cX5_heads : ByteArray := prog_1_method_20_code
def yX5_heads : MethodName := ⟨RX5, "heads", "(II)I"⟩
abbrev cX5_empty : ByteArray := prog_1_method_21_code
def yX5_empty : MethodName := ⟨RX5, "empty", "(I)I"⟩
abbrev cX5_stuck : ByteArray := prog_1_method_22_code
def yX5_stuck : MethodName := ⟨RX5, "stuck", "()I"⟩
abbrev cX5_edge : ByteArray := prog_1_method_23_code
def yX5_edge : MethodName := ⟨RX5, "edge", "(III)I"⟩
abbrev cX5_automaton : ByteArray := prog_1_method_24_code
def yX5_automaton : MethodName := ⟨RX5, "automaton", "(I)I"⟩
abbrev cX5_needed : ByteArray := prog_1_method_25_code
def yX5_needed : MethodName := ⟨RX5, "needed", "()I"⟩
abbrev cX5_dear : ByteArray := prog_1_method_26_code
def yX5_dear : MethodName := ⟨RX5, "dear", "(I)I"⟩
abbrev cX5_walk : ByteArray := prog_1_method_27_code
def yX5_walk : MethodName := ⟨RX5, "walk", "(III)I"⟩
abbrev cX5_keep : ByteArray := prog_1_method_28_code
def yX5_keep : MethodName := ⟨RX5, "keep", "()I"⟩
abbrev cX5_back : ByteArray := prog_1_method_29_code
def yX5_back : MethodName := ⟨RX5, "back", "()I"⟩
abbrev cX5_count : ByteArray := prog_1_method_30_code
def yX5_count : MethodName := ⟨RX5, "count", "(I)I"⟩
abbrev cX5_isState : ByteArray := prog_1_method_31_code
def yX5_isState : MethodName := ⟨RX5, "isState", "(I)Z"⟩
abbrev cX5_isRule : ByteArray := prog_1_method_32_code
def yX5_isRule : MethodName := ⟨RX5, "isRule", "(I)Z"⟩
abbrev cX5_isLetter : ByteArray := prog_1_method_33_code
def yX5_isLetter : MethodName := ⟨RX5, "isLetter", "(I)Z"⟩
abbrev cX5_isCost : ByteArray := prog_1_method_34_code
def yX5_isCost : MethodName := ⟨RX5, "isCost", "(I)Z"⟩
abbrev cX5_remember : ByteArray := prog_1_method_35_code
def yX5_remember : MethodName := ⟨RX5, "remember", "()V"⟩
abbrev cX5_noteNewRules : ByteArray := prog_1_method_36_code
def yX5_noteNewRules : MethodName := ⟨RX5, "noteNewRules", "()V"⟩
abbrev cX5_renewNet : ByteArray := prog_1_method_37_code
def yX5_renewNet : MethodName := ⟨RX5, "renewNet", "()V"⟩
abbrev cX5_renewRoute : ByteArray := prog_1_method_38_code
def yX5_renewRoute : MethodName := ⟨RX5, "renewRoute", "()V"⟩
abbrev cX5_priceWith : ByteArray := prog_1_method_39_code
def yX5_priceWith : MethodName := ⟨RX5, "priceWith", "(II)I"⟩
abbrev cX5_drawn : ByteArray := prog_1_method_40_code
def yX5_drawn : MethodName := ⟨RX5, "drawn", "(II)I"⟩
abbrev cX5_wordOf : ByteArray := prog_1_method_41_code
def yX5_wordOf : MethodName := ⟨RX5, "wordOf", "(II)I"⟩
abbrev cX5_lettersIn : ByteArray := prog_1_method_42_code
def yX5_lettersIn : MethodName := ⟨RX5, "lettersIn", "(I)I"⟩
abbrev cX5_firstLetter : ByteArray := prog_1_method_43_code
def yX5_firstLetter : MethodName := ⟨RX5, "firstLetter", "(I)I"⟩
abbrev cX5_secondLetter : ByteArray := prog_1_method_44_code
def yX5_secondLetter : MethodName := ⟨RX5, "secondLetter", "(I)I"⟩
abbrev cX5_edgeAt : ByteArray := prog_1_method_45_code
def yX5_edgeAt : MethodName := ⟨RX5, "edgeAt", "(III)I"⟩
def RX6 : String := "CallTowersModel"
def TX6 : u_T := fun k => match k with
  | 0 => ("CallTowersModel", "states", "I", false)
  | 1 => ("CallTowersModel", "many", "I", false)
  | 2 => ("CallTowersModel", "rule", "[I", true)
  | 3 => ("CallTowersModel", "targets", "I", false)
  | 4 => ("CallTowersModel", "target", "[I", true)
  | 5 => ("CallTowersModel", "state", "I", false)
  | 6 => ("CallTowersModel", "high", "I", false)
  | 7 => ("CallTowersModel", "pile", "[I", true)
  | 8 => ("CallTowersModel", "mode", "I", false)
  | 9 => ("CallTowersModel", "undos", "I", false)
  | 10 => ("CallTowersModel", "undone", "[I", true)
  | 11 => ("CallTowersModel", "kepts", "I", false)
  | 12 => ("CallTowersModel", "kept", "[I", true)
  | 13 => ("CallTowersModel", "weight", "[I", true)
  | 14 => ("CallTowersModel", "ahead", "[I", true)
  | 15 => ("CallTowersModel", "nodes", "I", false)
  | 16 => ("CallTowersModel", "begun", "I", false)
  | 17 => ("CallTowersModel", "rounds", "I", false)
  | 18 => ("CallTowersModel", "reach", "[I", true)
  | 19 => ("CallTowersModel", "reachThen", "[I", true)
  | 20 => ("CallTowersModel", "tower", "[I", true)
  | 21 => ("CallTowersModel", "togo", "[I", true)
  | 22 => ("CallTowersModel", "tall", "I", false)
  | 23 => ("CallTowersModel", "above", "[I", true)
  | 24 => ("CallTowersModel", "aboveThen", "[I", true)
  | 25 => ("CallTowersModel", "pops", "[I", true)
  | 26 => ("CallTowersModel", "head", "[I", true)
  | 27 => ("CallTowersModel", "bare", "[I", true)
  | 28 => ("CallTowersModel", "before", "[I", true)
  | 29 => ("CallTowersModel", "text", "[I", true)
  | 30 => ("CallTowersModel", "size", "I", false)
  | 31 => ("CallTowersModel", "readAt", "I", false)
  | 32 => ("CallTowersModel", "readValue", "I", false)
  | 33 => ("CallTowersModel", "wordLong", "I", false)
  | 34 => ("CallTowersModel", "readWord", "[I", true)
  | 35 => ("CallTowersModel", "textStates", "I", false)
  | 36 => ("CallTowersModel", "textRules", "I", false)
  | _ => ("CallTowersModel", "textTargets", "I", false)
def tyX6 : Nat → FieldType := fun k => match k with
  | 0 => .int
  | 1 => .int
  | 2 => .array .int
  | 3 => .int
  | 4 => .array .int
  | 5 => .int
  | 6 => .int
  | 7 => .array .int
  | 8 => .int
  | 9 => .int
  | 10 => .array .int
  | 11 => .int
  | 12 => .array .int
  | 13 => .array .int
  | 14 => .array .int
  | 15 => .int
  | 16 => .int
  | 17 => .int
  | 18 => .array .int
  | 19 => .array .int
  | 20 => .array .int
  | 21 => .array .int
  | 22 => .int
  | 23 => .array .int
  | 24 => .array .int
  | 25 => .array .int
  | 26 => .array .int
  | 27 => .array .int
  | 28 => .array .int
  | 29 => .array .int
  | 30 => .int
  | 31 => .int
  | 32 => .int
  | 33 => .int
  | 34 => .array .int
  | 35 => .int
  | 36 => .int
  | _ => .int
abbrev wsX60 : List Cond := u_ws RX6 TX6 38
theorem nmX6 : ∀ a, a < 38 → ∀ b, b < 38 → a ≠ b → (TX6 a).2.1 ≠ (TX6 b).2.1 := by decide +kernel
theorem tyX6_ok : ∀ k, k < 38 → parseFieldDescriptor (TX6 k).2.2.1 = some (tyX6 k) := by decide +kernel
abbrev cX6_init : ByteArray := prog_8_method_1_code
def yX6_init : MethodName := ⟨RX6, "<init>", "()V"⟩
abbrev cX6_in : ByteArray := prog_8_method_2_code
def yX6_in : MethodName := ⟨RX6, "in", "(III)Z"⟩
abbrev cX6_writes : ByteArray := prog_8_method_3_code
def yX6_writes : MethodName := ⟨RX6, "writes", "([II)V"⟩
abbrev cX6_readsBack : ByteArray := prog_8_method_4_code
def yX6_readsBack : MethodName := ⟨RX6, "readsBack", "([II)V"⟩
abbrev cX6_notes : ByteArray := prog_8_method_5_code
def yX6_notes : MethodName := ⟨RX6, "notes", "()V"⟩
abbrev cX6_undo : ByteArray := prog_8_method_6_code
def yX6_undo : MethodName := ⟨RX6, "undo", "()I"⟩
abbrev cX6_keep : ByteArray := prog_8_method_7_code
def yX6_keep : MethodName := ⟨RX6, "keep", "()I"⟩
abbrev cX6_back : ByteArray := prog_8_method_8_code
def yX6_back : MethodName := ⟨RX6, "back", "()I"⟩
abbrev cX6_isRule : ByteArray := prog_8_method_9_code
def yX6_isRule : MethodName := ⟨RX6, "isRule", "(I)Z"⟩
abbrev cX6_isState : ByteArray := prog_8_method_10_code
def yX6_isState : MethodName := ⟨RX6, "isState", "(I)Z"⟩
abbrev cX6_isLetter : ByteArray := prog_8_method_11_code
def yX6_isLetter : MethodName := ⟨RX6, "isLetter", "(I)Z"⟩
abbrev cX6_rule : ByteArray := prog_8_method_12_code
def yX6_rule : MethodName := ⟨RX6, "rule", "(II)I"⟩
abbrev cX6_target : ByteArray := prog_8_method_13_code
def yX6_target : MethodName := ⟨RX6, "target", "(II)I"⟩
abbrev cX6_stack : ByteArray := prog_8_method_14_code
def yX6_stack : MethodName := ⟨RX6, "stack", "(I)I"⟩
abbrev cX6_push : ByteArray := prog_8_method_15_code
def yX6_push : MethodName := ⟨RX6, "push", "(I)I"⟩
abbrev cX6_pop : ByteArray := prog_8_method_16_code
def yX6_pop : MethodName := ⟨RX6, "pop", "()I"⟩
abbrev cX6_fits : ByteArray := prog_8_method_17_code
def yX6_fits : MethodName := ⟨RX6, "fits", "(III)Z"⟩
abbrev cX6_steps : ByteArray := prog_8_method_18_code
def yX6_steps : MethodName := ⟨RX6, "steps", "(I)V"⟩
abbrev cX6_step : ByteArray := prog_8_method_19_code
def yX6_step : MethodName := ⟨RX6, "step", "(I)I"⟩
abbrev cX6_go : ByteArray := prog_8_method_20_code
def yX6_go : MethodName := ⟨RX6, "go", "(I)I"⟩
abbrev cX6_enters : ByteArray := prog_8_method_21_code
def yX6_enters : MethodName := ⟨RX6, "enters", "(IIIII)V"⟩
abbrev cX6_enter : ByteArray := prog_8_method_22_code
def yX6_enter : MethodName := ⟨RX6, "enter", "(IIIII)I"⟩
abbrev cX6_drop : ByteArray := prog_8_method_23_code
def yX6_drop : MethodName := ⟨RX6, "drop", "(I)I"⟩
abbrev cX6_weigh : ByteArray := prog_8_method_24_code
def yX6_weigh : MethodName := ⟨RX6, "weigh", "(II)I"⟩
abbrev cX6_mode : ByteArray := prog_8_method_25_code
def yX6_mode : MethodName := ⟨RX6, "mode", "(I)I"⟩
abbrev cX6_place : ByteArray := prog_8_method_26_code
def yX6_place : MethodName := ⟨RX6, "place", "(III)I"⟩
abbrev cX6_targetEdges : ByteArray := prog_8_method_27_code
def yX6_targetEdges : MethodName := ⟨RX6, "targetEdges", "(I)V"⟩
abbrev cX6_edges : ByteArray := prog_8_method_28_code
def yX6_edges : MethodName := ⟨RX6, "edges", "()I"⟩
abbrev cX6_begins : ByteArray := prog_8_method_29_code
def yX6_begins : MethodName := ⟨RX6, "begins", "()V"⟩
abbrev cX6_made : ByteArray := prog_8_method_30_code
def yX6_made : MethodName := ⟨RX6, "made", "(III)I"⟩
abbrev cX6_lesser : ByteArray := prog_8_method_31_code
def yX6_lesser : MethodName := ⟨RX6, "lesser", "(II)I"⟩
abbrev cX6_reads : ByteArray := prog_8_method_32_code
def yX6_reads : MethodName := ⟨RX6, "reads", "(II)V"⟩
abbrev cX6_standsAt : ByteArray := prog_8_method_33_code
def yX6_standsAt : MethodName := ⟨RX6, "standsAt", "(I)V"⟩
abbrev cX6_roundBy : ByteArray := prog_8_method_34_code
def yX6_roundBy : MethodName := ⟨RX6, "roundBy", "(III)Z"⟩
abbrev cX6_grows : ByteArray := prog_8_method_35_code
def yX6_grows : MethodName := ⟨RX6, "grows", "(II)V"⟩
abbrev cX6_isEnd : ByteArray := prog_8_method_36_code
def yX6_isEnd : MethodName := ⟨RX6, "isEnd", "(I)Z"⟩
abbrev cX6_least : ByteArray := prog_8_method_37_code
def yX6_least : MethodName := ⟨RX6, "least", "(I)I"⟩
abbrev cX6_priceWithout : ByteArray := prog_8_method_38_code
def yX6_priceWithout : MethodName := ⟨RX6, "priceWithout", "(I)I"⟩
abbrev cX6_price : ByteArray := prog_8_method_39_code
def yX6_price : MethodName := ⟨RX6, "price", "()I"⟩
abbrev cX6_edge : ByteArray := prog_8_method_40_code
def yX6_edge : MethodName := ⟨RX6, "edge", "(III)I"⟩
abbrev cX6_automaton : ByteArray := prog_8_method_41_code
def yX6_automaton : MethodName := ⟨RX6, "automaton", "(I)I"⟩
abbrev cX6_needed : ByteArray := prog_8_method_42_code
def yX6_needed : MethodName := ⟨RX6, "needed", "()I"⟩
abbrev cX6_dear : ByteArray := prog_8_method_43_code
def yX6_dear : MethodName := ⟨RX6, "dear", "(I)I"⟩
abbrev cX6_goesBy : ByteArray := prog_8_method_44_code
def yX6_goesBy : MethodName := ⟨RX6, "goesBy", "(I)V"⟩
abbrev cX6_standsOn : ByteArray := prog_8_method_45_code
def yX6_standsOn : MethodName := ⟨RX6, "standsOn", "(I)V"⟩
abbrev cX6_puts : ByteArray := prog_8_method_46_code
def yX6_puts : MethodName := ⟨RX6, "puts", "(I)V"⟩
abbrev cX6_behind : ByteArray := prog_8_method_47_code
def yX6_behind : MethodName := ⟨RX6, "behind", "(I)I"⟩
abbrev cX6_towerBegins : ByteArray := prog_8_method_48_code
def yX6_towerBegins : MethodName := ⟨RX6, "towerBegins", "()V"⟩
abbrev cX6_ruleOn : ByteArray := prog_8_method_49_code
def yX6_ruleOn : MethodName := ⟨RX6, "ruleOn", "(II)I"⟩
abbrev cX6_towerSteps : ByteArray := prog_8_method_50_code
def yX6_towerSteps : MethodName := ⟨RX6, "towerSteps", "(I)V"⟩
abbrev cX6_run : ByteArray := prog_8_method_51_code
def yX6_run : MethodName := ⟨RX6, "run", "(I)I"⟩
abbrev cX6_popsBy : ByteArray := prog_8_method_52_code
def yX6_popsBy : MethodName := ⟨RX6, "popsBy", "(III)I"⟩
abbrev cX6_isGone : ByteArray := prog_8_method_53_code
def yX6_isGone : MethodName := ⟨RX6, "isGone", "(II)Z"⟩
abbrev cX6_setPops : ByteArray := prog_8_method_54_code
def yX6_setPops : MethodName := ⟨RX6, "setPops", "()V"⟩
abbrev cX6_headsOfPile : ByteArray := prog_8_method_55_code
def yX6_headsOfPile : MethodName := ⟨RX6, "headsOfPile", "()V"⟩
abbrev cX6_headMany : ByteArray := prog_8_method_56_code
def yX6_headMany : MethodName := ⟨RX6, "headMany", "()I"⟩
abbrev cX6_headsOf : ByteArray := prog_8_method_57_code
def yX6_headsOf : MethodName := ⟨RX6, "headsOf", "(I)V"⟩
abbrev cX6_setHeads : ByteArray := prog_8_method_58_code
def yX6_setHeads : MethodName := ⟨RX6, "setHeads", "()V"⟩
abbrev cX6_heads : ByteArray := prog_8_method_59_code
def yX6_heads : MethodName := ⟨RX6, "heads", "(II)I"⟩
abbrev cX6_empty : ByteArray := prog_8_method_60_code
def yX6_empty : MethodName := ⟨RX6, "empty", "(I)I"⟩
abbrev cX6_stuck : ByteArray := prog_8_method_61_code
def yX6_stuck : MethodName := ⟨RX6, "stuck", "()I"⟩
abbrev cX6_fitting : ByteArray := prog_8_method_62_code
def yX6_fitting : MethodName := ⟨RX6, "fitting", "()I"⟩
abbrev cX6_fittingAt : ByteArray := prog_8_method_63_code
def yX6_fittingAt : MethodName := ⟨RX6, "fittingAt", "(I)I"⟩
abbrev cX6_walks : ByteArray := prog_8_method_64_code
def yX6_walks : MethodName := ⟨RX6, "walks", "(II)Z"⟩
abbrev cX6_walk : ByteArray := prog_8_method_65_code
def yX6_walk : MethodName := ⟨RX6, "walk", "(III)I"⟩
abbrev cX6_write : ByteArray := prog_8_method_66_code
def yX6_write : MethodName := ⟨RX6, "write", "(I)I"⟩
abbrev cX6_wipe : ByteArray := prog_8_method_67_code
def yX6_wipe : MethodName := ⟨RX6, "wipe", "()I"⟩
abbrev cX6_sign : ByteArray := prog_8_method_68_code
def yX6_sign : MethodName := ⟨RX6, "sign", "(I)Z"⟩
abbrev cX6_figure : ByteArray := prog_8_method_69_code
def yX6_figure : MethodName := ⟨RX6, "figure", "(II)Z"⟩
abbrev cX6_isWordAt : ByteArray := prog_8_method_70_code
def yX6_isWordAt : MethodName := ⟨RX6, "isWordAt", "()Z"⟩
abbrev cX6_word : ByteArray := prog_8_method_71_code
def yX6_word : MethodName := ⟨RX6, "word", "(I)Z"⟩
abbrev cX6_readsStates : ByteArray := prog_8_method_72_code
def yX6_readsStates : MethodName := ⟨RX6, "readsStates", "(ZZ)Z"⟩
abbrev cX6_readsRule : ByteArray := prog_8_method_73_code
def yX6_readsRule : MethodName := ⟨RX6, "readsRule", "(Z)Z"⟩
abbrev cX6_readsTarget : ByteArray := prog_8_method_74_code
def yX6_readsTarget : MethodName := ⟨RX6, "readsTarget", "(Z)Z"⟩
abbrev cX6_readsConfiguration : ByteArray := prog_8_method_75_code
def yX6_readsConfiguration : MethodName := ⟨RX6, "readsConfiguration", "(Z)Z"⟩
abbrev cX6_readsItem : ByteArray := prog_8_method_76_code
def yX6_readsItem : MethodName := ⟨RX6, "readsItem", "(ZZ)Z"⟩
abbrev cX6_goesThrough : ByteArray := prog_8_method_77_code
def yX6_goesThrough : MethodName := ⟨RX6, "goesThrough", "(Z)I"⟩
abbrev cX6_fault : ByteArray := prog_8_method_78_code
def yX6_fault : MethodName := ⟨RX6, "fault", "()I"⟩
abbrev cX6_lay : ByteArray := prog_8_method_79_code
def yX6_lay : MethodName := ⟨RX6, "lay", "()I"⟩
abbrev cX6_count : ByteArray := prog_8_method_80_code
def yX6_count : MethodName := ⟨RX6, "count", "(I)I"⟩
def RJ6 : String := "java/lang/Integer"
def TJ6 : u_T := fun k => match k with
  | _ => ("", "", "", false)
def tyJ6 : Nat → FieldType := fun k => match k with
  | _ => .int
abbrev wsJ60 : List Cond := u_ws RJ6 TJ6 0
theorem nmJ6 : ∀ a, a < 0 → ∀ b, b < 0 → a ≠ b → (TJ6 a).2.1 ≠ (TJ6 b).2.1 := by decide +kernel
theorem tyJ6_ok : ∀ k, k < 0 → parseFieldDescriptor (TJ6 k).2.2.1 = some (tyJ6 k) := by decide +kernel
abbrev cJ6_bitCount_0f7a4 : ByteArray := prog_9_method_49_code
def yJ6_bitCount_0f7a4 : MethodName := ⟨RJ6, "bitCount", "(I)I"⟩
def RJ9 : String := "java/lang/Math"
def TJ9 : u_T := fun k => match k with
  | _ => ("", "", "", false)
def tyJ9 : Nat → FieldType := fun k => match k with
  | _ => .int
abbrev wsJ90 : List Cond := u_ws RJ9 TJ9 0
theorem nmJ9 : ∀ a, a < 0 → ∀ b, b < 0 → a ≠ b → (TJ9 a).2.1 ≠ (TJ9 b).2.1 := by decide +kernel
theorem tyJ9_ok : ∀ k, k < 0 → parseFieldDescriptor (TJ9 k).2.2.1 = some (tyJ9 k) := by decide +kernel
abbrev cJ9_max_7cf53 : ByteArray := prog_10_method_65_code
def yJ9_max_7cf53 : MethodName := ⟨RJ9, "max", "(II)I"⟩
abbrev cJ9_min_7cf53 : ByteArray := prog_10_method_69_code
def yJ9_min_7cf53 : MethodName := ⟨RJ9, "min", "(II)I"⟩
def RJ0 : String := "java/lang/String"
def TJ0 : u_T := fun k => match k with
  | _ => ("", "", "", false)
def tyJ0 : Nat → FieldType := fun k => match k with
  | _ => .int
abbrev wsJ00 : List Cond := u_ws RJ0 TJ0 0
theorem nmJ0 : ∀ a, a < 0 → ∀ b, b < 0 → a ≠ b → (TJ0 a).2.1 ≠ (TJ0 b).2.1 := by decide +kernel
theorem tyJ0_ok : ∀ k, k < 0 → parseFieldDescriptor (TJ0 k).2.2.1 = some (tyJ0 k) := by decide +kernel
abbrev cJ0_length_8abf5 : ByteArray := prog_11_method_54_code
def yJ0_length_8abf5 : MethodName := ⟨RJ0, "length", "()I"⟩
abbrev cJ0_charAt_5068e : ByteArray := prog_11_method_56_code
def yJ0_charAt_5068e : MethodName := ⟨RJ0, "charAt", "(I)C"⟩
abbrev cJ0_coder_7d493 : ByteArray := prog_11_method_152_code
def yJ0_coder_7d493 : MethodName := ⟨RJ0, "coder", "()B"⟩
abbrev cJ0_isLatin1_aae02 : ByteArray := prog_11_method_154_code
def yJ0_isLatin1_aae02 : MethodName := ⟨RJ0, "isLatin1", "()Z"⟩
abbrev cJ0_checkIndex_df160 : ByteArray := prog_11_method_155_code
def yJ0_checkIndex_df160 : MethodName := ⟨RJ0, "checkIndex", "(II)V"⟩
def RJ1 : String := "java/lang/StringLatin1"
def TJ1 : u_T := fun k => match k with
  | _ => ("", "", "", false)
def tyJ1 : Nat → FieldType := fun k => match k with
  | _ => .int
abbrev wsJ10 : List Cond := u_ws RJ1 TJ1 0
theorem nmJ1 : ∀ a, a < 0 → ∀ b, b < 0 → a ≠ b → (TJ1 a).2.1 ≠ (TJ1 b).2.1 := by decide +kernel
theorem tyJ1_ok : ∀ k, k < 0 → parseFieldDescriptor (TJ1 k).2.2.1 = some (tyJ1 k) := by decide +kernel
abbrev cJ1_charAt_3b067 : ByteArray := prog_12_method_2_code
def yJ1_charAt_3b067 : MethodName := ⟨RJ1, "charAt", "([BI)C"⟩
def RJ2 : String := "java/lang/StringUTF16"
def TJ2 : u_T := fun k => match k with
  | _ => ("", "", "", false)
def tyJ2 : Nat → FieldType := fun k => match k with
  | _ => .int
abbrev wsJ20 : List Cond := u_ws RJ2 TJ2 0
theorem nmJ2 : ∀ a, a < 0 → ∀ b, b < 0 → a ≠ b → (TJ2 a).2.1 ≠ (TJ2 b).2.1 := by decide +kernel
theorem tyJ2_ok : ∀ k, k < 0 → parseFieldDescriptor (TJ2 k).2.2.1 = some (tyJ2 k) := by decide +kernel
abbrev cJ2_getChar_3b067 : ByteArray := prog_13_method_5_code
def yJ2_getChar_3b067 : MethodName := ⟨RJ2, "getChar", "([BI)C"⟩
abbrev cJ2_length_9d52b : ByteArray := prog_13_method_6_code
def yJ2_length_9d52b : MethodName := ⟨RJ2, "length", "([B)I"⟩
abbrev cJ2_charAt_3b067 : ByteArray := prog_13_method_83_code
def yJ2_charAt_3b067 : MethodName := ⟨RJ2, "charAt", "([BI)C"⟩
abbrev cJ2_checkIndex_2214a : ByteArray := prog_13_method_91_code
def yJ2_checkIndex_2214a : MethodName := ⟨RJ2, "checkIndex", "(I[B)V"⟩
def RJ10 : String := "java/lang/System"
def TJ10 : u_T := fun k => match k with
  | _ => ("", "", "", false)
def tyJ10 : Nat → FieldType := fun k => match k with
  | _ => .int
abbrev wsJ100 : List Cond := u_ws RJ10 TJ10 0
theorem nmJ10 : ∀ a, a < 0 → ∀ b, b < 0 → a ≠ b → (TJ10 a).2.1 ≠ (TJ10 b).2.1 := by decide +kernel
theorem tyJ10_ok : ∀ k, k < 0 → parseFieldDescriptor (TJ10 k).2.2.1 = some (tyJ10 k) := by decide +kernel
def RJ3 : String := "jdk/internal/util/Preconditions"
def TJ3 : u_T := fun k => match k with
  | _ => ("", "", "", false)
def tyJ3 : Nat → FieldType := fun k => match k with
  | _ => .int
abbrev wsJ30 : List Cond := u_ws RJ3 TJ3 0
theorem nmJ3 : ∀ a, a < 0 → ∀ b, b < 0 → a ≠ b → (TJ3 a).2.1 ≠ (TJ3 b).2.1 := by decide +kernel
theorem tyJ3_ok : ∀ k, k < 0 → parseFieldDescriptor (TJ3 k).2.2.1 = some (tyJ3 k) := by decide +kernel
abbrev cJ3_checkIndex_8e157 : ByteArray := prog_15_method_11_code
def yJ3_checkIndex_8e157 : MethodName := ⟨RJ3, "checkIndex", "(IILjava/util/function/BiFunction;)I"⟩
def RL : String := "CallTowersLaw"
abbrev cL_law : ByteArray := code
def yL_law : MethodName := ⟨RL, "law", "([I)Z"⟩
theorem dJ6_bitCount_0f7a4_0 : decode cJ6_bitCount_0f7a4 0 = .ok (.iload_n 0, 1) := by decide +kernel
theorem dJ6_bitCount_0f7a4_1 : decode cJ6_bitCount_0f7a4 1 = .ok (.iload_n 0, 1) := by decide +kernel
theorem dJ6_bitCount_0f7a4_2 : decode cJ6_bitCount_0f7a4 2 = .ok (.iconst 1, 1) := by decide +kernel
theorem dJ6_bitCount_0f7a4_3 : decode cJ6_bitCount_0f7a4 3 = .ok (.iushr, 1) := by decide +kernel
theorem dJ6_bitCount_0f7a4_4 : decode cJ6_bitCount_0f7a4 4 = .ok (.ldc_w 265, 3) := by decide +kernel
theorem dJ6_bitCount_0f7a4_7 : decode cJ6_bitCount_0f7a4 7 = .ok (.iand, 1) := by decide +kernel
theorem dJ6_bitCount_0f7a4_8 : decode cJ6_bitCount_0f7a4 8 = .ok (.isub, 1) := by decide +kernel
theorem dJ6_bitCount_0f7a4_9 : decode cJ6_bitCount_0f7a4 9 = .ok (.istore_n 0, 1) := by decide +kernel
theorem dJ6_bitCount_0f7a4_10 : decode cJ6_bitCount_0f7a4 10 = .ok (.iload_n 0, 1) := by decide +kernel
theorem dJ6_bitCount_0f7a4_11 : decode cJ6_bitCount_0f7a4 11 = .ok (.ldc_w 266, 3) := by decide +kernel
theorem dJ6_bitCount_0f7a4_14 : decode cJ6_bitCount_0f7a4 14 = .ok (.iand, 1) := by decide +kernel
theorem dJ6_bitCount_0f7a4_15 : decode cJ6_bitCount_0f7a4 15 = .ok (.iload_n 0, 1) := by decide +kernel
theorem dJ6_bitCount_0f7a4_16 : decode cJ6_bitCount_0f7a4 16 = .ok (.iconst 2, 1) := by decide +kernel
theorem dJ6_bitCount_0f7a4_17 : decode cJ6_bitCount_0f7a4 17 = .ok (.iushr, 1) := by decide +kernel
theorem dJ6_bitCount_0f7a4_18 : decode cJ6_bitCount_0f7a4 18 = .ok (.ldc_w 266, 3) := by decide +kernel
theorem dJ6_bitCount_0f7a4_21 : decode cJ6_bitCount_0f7a4 21 = .ok (.iand, 1) := by decide +kernel
theorem dJ6_bitCount_0f7a4_22 : decode cJ6_bitCount_0f7a4 22 = .ok (.iadd, 1) := by decide +kernel
theorem dJ6_bitCount_0f7a4_23 : decode cJ6_bitCount_0f7a4 23 = .ok (.istore_n 0, 1) := by decide +kernel
theorem dJ6_bitCount_0f7a4_24 : decode cJ6_bitCount_0f7a4 24 = .ok (.iload_n 0, 1) := by decide +kernel
theorem dJ6_bitCount_0f7a4_25 : decode cJ6_bitCount_0f7a4 25 = .ok (.iload_n 0, 1) := by decide +kernel
theorem dJ6_bitCount_0f7a4_26 : decode cJ6_bitCount_0f7a4 26 = .ok (.iconst 4, 1) := by decide +kernel
theorem dJ6_bitCount_0f7a4_27 : decode cJ6_bitCount_0f7a4 27 = .ok (.iushr, 1) := by decide +kernel
theorem dJ6_bitCount_0f7a4_28 : decode cJ6_bitCount_0f7a4 28 = .ok (.iadd, 1) := by decide +kernel
theorem dJ6_bitCount_0f7a4_29 : decode cJ6_bitCount_0f7a4 29 = .ok (.ldc_w 267, 3) := by decide +kernel
theorem dJ6_bitCount_0f7a4_32 : decode cJ6_bitCount_0f7a4 32 = .ok (.iand, 1) := by decide +kernel
theorem dJ6_bitCount_0f7a4_33 : decode cJ6_bitCount_0f7a4 33 = .ok (.istore_n 0, 1) := by decide +kernel
theorem dJ6_bitCount_0f7a4_34 : decode cJ6_bitCount_0f7a4 34 = .ok (.iload_n 0, 1) := by decide +kernel
theorem dJ6_bitCount_0f7a4_35 : decode cJ6_bitCount_0f7a4 35 = .ok (.iload_n 0, 1) := by decide +kernel
theorem dJ6_bitCount_0f7a4_36 : decode cJ6_bitCount_0f7a4 36 = .ok (.bipush 8, 2) := by decide +kernel
theorem dJ6_bitCount_0f7a4_38 : decode cJ6_bitCount_0f7a4 38 = .ok (.iushr, 1) := by decide +kernel
theorem dJ6_bitCount_0f7a4_39 : decode cJ6_bitCount_0f7a4 39 = .ok (.iadd, 1) := by decide +kernel
theorem dJ6_bitCount_0f7a4_40 : decode cJ6_bitCount_0f7a4 40 = .ok (.istore_n 0, 1) := by decide +kernel
theorem dJ6_bitCount_0f7a4_41 : decode cJ6_bitCount_0f7a4 41 = .ok (.iload_n 0, 1) := by decide +kernel
theorem dJ6_bitCount_0f7a4_42 : decode cJ6_bitCount_0f7a4 42 = .ok (.iload_n 0, 1) := by decide +kernel
theorem dJ6_bitCount_0f7a4_43 : decode cJ6_bitCount_0f7a4 43 = .ok (.bipush 16, 2) := by decide +kernel
theorem dJ6_bitCount_0f7a4_45 : decode cJ6_bitCount_0f7a4 45 = .ok (.iushr, 1) := by decide +kernel
theorem dJ6_bitCount_0f7a4_46 : decode cJ6_bitCount_0f7a4 46 = .ok (.iadd, 1) := by decide +kernel
theorem dJ6_bitCount_0f7a4_47 : decode cJ6_bitCount_0f7a4 47 = .ok (.istore_n 0, 1) := by decide +kernel
theorem dJ6_bitCount_0f7a4_48 : decode cJ6_bitCount_0f7a4 48 = .ok (.iload_n 0, 1) := by decide +kernel
theorem dJ6_bitCount_0f7a4_49 : decode cJ6_bitCount_0f7a4 49 = .ok (.bipush 63, 2) := by decide +kernel
theorem dJ6_bitCount_0f7a4_51 : decode cJ6_bitCount_0f7a4 51 = .ok (.iand, 1) := by decide +kernel
theorem dJ6_bitCount_0f7a4_52 : decode cJ6_bitCount_0f7a4 52 = .ok (.ireturn, 1) := by decide +kernel
theorem dJ9_max_7cf53_0 : decode cJ9_max_7cf53 0 = .ok (.iload_n 0, 1) := by decide +kernel
theorem dJ9_max_7cf53_1 : decode cJ9_max_7cf53 1 = .ok (.iload_n 1, 1) := by decide +kernel
theorem dJ9_max_7cf53_2 : decode cJ9_max_7cf53 2 = .ok (.if_icmp .lt 7, 3) := by decide +kernel
theorem dJ9_max_7cf53_5 : decode cJ9_max_7cf53 5 = .ok (.iload_n 0, 1) := by decide +kernel
theorem dJ9_max_7cf53_6 : decode cJ9_max_7cf53 6 = .ok (.goto 4, 3) := by decide +kernel
theorem dJ9_max_7cf53_9 : decode cJ9_max_7cf53 9 = .ok (.iload_n 1, 1) := by decide +kernel
theorem dJ9_max_7cf53_10 : decode cJ9_max_7cf53 10 = .ok (.ireturn, 1) := by decide +kernel
theorem dJ9_min_7cf53_0 : decode cJ9_min_7cf53 0 = .ok (.iload_n 0, 1) := by decide +kernel
theorem dJ9_min_7cf53_1 : decode cJ9_min_7cf53 1 = .ok (.iload_n 1, 1) := by decide +kernel
theorem dJ9_min_7cf53_2 : decode cJ9_min_7cf53 2 = .ok (.if_icmp .gt 7, 3) := by decide +kernel
theorem dJ9_min_7cf53_5 : decode cJ9_min_7cf53 5 = .ok (.iload_n 0, 1) := by decide +kernel
theorem dJ9_min_7cf53_6 : decode cJ9_min_7cf53 6 = .ok (.goto 4, 3) := by decide +kernel
theorem dJ9_min_7cf53_9 : decode cJ9_min_7cf53 9 = .ok (.iload_n 1, 1) := by decide +kernel
theorem dJ9_min_7cf53_10 : decode cJ9_min_7cf53 10 = .ok (.ireturn, 1) := by decide +kernel
theorem dJ0_length_8abf5_0 : decode cJ0_length_8abf5 0 = .ok (.aload_n 0, 1) := by decide +kernel
theorem dJ0_length_8abf5_1 : decode cJ0_length_8abf5 1 = .ok (.getfield 9, 3) := by decide +kernel
theorem dJ0_length_8abf5_4 : decode cJ0_length_8abf5 4 = .ok (.arraylength, 1) := by decide +kernel
theorem dJ0_length_8abf5_5 : decode cJ0_length_8abf5 5 = .ok (.aload_n 0, 1) := by decide +kernel
theorem dJ0_length_8abf5_6 : decode cJ0_length_8abf5 6 = .ok (.invokevirtual 335, 3) := by decide +kernel
theorem dJ0_length_8abf5_9 : decode cJ0_length_8abf5 9 = .ok (.ishr, 1) := by decide +kernel
theorem dJ0_length_8abf5_10 : decode cJ0_length_8abf5 10 = .ok (.ireturn, 1) := by decide +kernel
theorem dJ0_charAt_5068e_0 : decode cJ0_charAt_5068e 0 = .ok (.aload_n 0, 1) := by decide +kernel
theorem dJ0_charAt_5068e_1 : decode cJ0_charAt_5068e 1 = .ok (.invokevirtual 492, 3) := by decide +kernel
theorem dJ0_charAt_5068e_4 : decode cJ0_charAt_5068e 4 = .ok (.ifCond .eq 12, 3) := by decide +kernel
theorem dJ0_charAt_5068e_7 : decode cJ0_charAt_5068e 7 = .ok (.aload_n 0, 1) := by decide +kernel
theorem dJ0_charAt_5068e_8 : decode cJ0_charAt_5068e 8 = .ok (.getfield 9, 3) := by decide +kernel
theorem dJ0_charAt_5068e_11 : decode cJ0_charAt_5068e 11 = .ok (.iload_n 1, 1) := by decide +kernel
theorem dJ0_charAt_5068e_12 : decode cJ0_charAt_5068e 12 = .ok (.invokestatic 495, 3) := by decide +kernel
theorem dJ0_charAt_5068e_15 : decode cJ0_charAt_5068e 15 = .ok (.ireturn, 1) := by decide +kernel
theorem dJ0_charAt_5068e_16 : decode cJ0_charAt_5068e 16 = .ok (.aload_n 0, 1) := by decide +kernel
theorem dJ0_charAt_5068e_17 : decode cJ0_charAt_5068e 17 = .ok (.getfield 9, 3) := by decide +kernel
theorem dJ0_charAt_5068e_20 : decode cJ0_charAt_5068e 20 = .ok (.iload_n 1, 1) := by decide +kernel
theorem dJ0_charAt_5068e_21 : decode cJ0_charAt_5068e 21 = .ok (.invokestatic 498, 3) := by decide +kernel
theorem dJ0_charAt_5068e_24 : decode cJ0_charAt_5068e 24 = .ok (.ireturn, 1) := by decide +kernel
theorem dJ0_coder_7d493_0 : decode cJ0_coder_7d493 0 = .ok (.getstatic 38, 3) := by decide +kernel
theorem dJ0_coder_7d493_3 : decode cJ0_coder_7d493 3 = .ok (.ifCond .eq 10, 3) := by decide +kernel
theorem dJ0_coder_7d493_6 : decode cJ0_coder_7d493 6 = .ok (.aload_n 0, 1) := by decide +kernel
theorem dJ0_coder_7d493_7 : decode cJ0_coder_7d493 7 = .ok (.getfield 15, 3) := by decide +kernel
theorem dJ0_coder_7d493_10 : decode cJ0_coder_7d493 10 = .ok (.goto 4, 3) := by decide +kernel
theorem dJ0_coder_7d493_13 : decode cJ0_coder_7d493 13 = .ok (.iconst 1, 1) := by decide +kernel
theorem dJ0_coder_7d493_14 : decode cJ0_coder_7d493 14 = .ok (.ireturn, 1) := by decide +kernel
theorem dJ0_isLatin1_aae02_0 : decode cJ0_isLatin1_aae02 0 = .ok (.getstatic 38, 3) := by decide +kernel
theorem dJ0_isLatin1_aae02_3 : decode cJ0_isLatin1_aae02 3 = .ok (.ifCond .eq 14, 3) := by decide +kernel
theorem dJ0_isLatin1_aae02_6 : decode cJ0_isLatin1_aae02 6 = .ok (.aload_n 0, 1) := by decide +kernel
theorem dJ0_isLatin1_aae02_7 : decode cJ0_isLatin1_aae02 7 = .ok (.getfield 15, 3) := by decide +kernel
theorem dJ0_isLatin1_aae02_10 : decode cJ0_isLatin1_aae02 10 = .ok (.ifCond .ne 7, 3) := by decide +kernel
theorem dJ0_isLatin1_aae02_13 : decode cJ0_isLatin1_aae02 13 = .ok (.iconst 1, 1) := by decide +kernel
theorem dJ0_isLatin1_aae02_14 : decode cJ0_isLatin1_aae02 14 = .ok (.goto 4, 3) := by decide +kernel
theorem dJ0_isLatin1_aae02_17 : decode cJ0_isLatin1_aae02 17 = .ok (.iconst 0, 1) := by decide +kernel
theorem dJ0_isLatin1_aae02_18 : decode cJ0_isLatin1_aae02 18 = .ok (.ireturn, 1) := by decide +kernel
theorem dJ0_checkIndex_df160_0 : decode cJ0_checkIndex_df160 0 = .ok (.iload_n 0, 1) := by decide +kernel
theorem dJ0_checkIndex_df160_1 : decode cJ0_checkIndex_df160 1 = .ok (.iload_n 1, 1) := by decide +kernel
theorem dJ0_checkIndex_df160_2 : decode cJ0_checkIndex_df160 2 = .ok (.getstatic 1053, 3) := by decide +kernel
theorem dJ0_checkIndex_df160_5 : decode cJ0_checkIndex_df160 5 = .ok (.invokestatic 1059, 3) := by decide +kernel
theorem dJ0_checkIndex_df160_8 : decode cJ0_checkIndex_df160 8 = .ok (.pop, 1) := by decide +kernel
theorem dJ0_checkIndex_df160_9 : decode cJ0_checkIndex_df160 9 = .ok (.return_, 1) := by decide +kernel
theorem dJ1_charAt_3b067_0 : decode cJ1_charAt_3b067 0 = .ok (.iload_n 1, 1) := by decide +kernel
theorem dJ1_charAt_3b067_1 : decode cJ1_charAt_3b067 1 = .ok (.aload_n 0, 1) := by decide +kernel
theorem dJ1_charAt_3b067_2 : decode cJ1_charAt_3b067 2 = .ok (.arraylength, 1) := by decide +kernel
theorem dJ1_charAt_3b067_3 : decode cJ1_charAt_3b067 3 = .ok (.invokestatic 9, 3) := by decide +kernel
theorem dJ1_charAt_3b067_6 : decode cJ1_charAt_3b067 6 = .ok (.aload_n 0, 1) := by decide +kernel
theorem dJ1_charAt_3b067_7 : decode cJ1_charAt_3b067 7 = .ok (.iload_n 1, 1) := by decide +kernel
theorem dJ1_charAt_3b067_8 : decode cJ1_charAt_3b067 8 = .ok (.baload, 1) := by decide +kernel
theorem dJ1_charAt_3b067_9 : decode cJ1_charAt_3b067 9 = .ok (.sipush 255, 3) := by decide +kernel
theorem dJ1_charAt_3b067_12 : decode cJ1_charAt_3b067 12 = .ok (.iand, 1) := by decide +kernel
theorem dJ1_charAt_3b067_13 : decode cJ1_charAt_3b067 13 = .ok (.i2c, 1) := by decide +kernel
theorem dJ1_charAt_3b067_14 : decode cJ1_charAt_3b067 14 = .ok (.ireturn, 1) := by decide +kernel
theorem dJ2_getChar_3b067_0 : decode cJ2_getChar_3b067 0 = .ok (.getstatic 44, 3) := by decide +kernel
theorem dJ2_getChar_3b067_3 : decode cJ2_getChar_3b067 3 = .ok (.ifCond .ne 25, 3) := by decide +kernel
theorem dJ2_getChar_3b067_6 : decode cJ2_getChar_3b067 6 = .ok (.iload_n 1, 1) := by decide +kernel
theorem dJ2_getChar_3b067_7 : decode cJ2_getChar_3b067 7 = .ok (.ifCond .lt 11, 3) := by decide +kernel
theorem dJ2_getChar_3b067_10 : decode cJ2_getChar_3b067 10 = .ok (.iload_n 1, 1) := by decide +kernel
theorem dJ2_getChar_3b067_11 : decode cJ2_getChar_3b067 11 = .ok (.aload_n 0, 1) := by decide +kernel
theorem dJ2_getChar_3b067_12 : decode cJ2_getChar_3b067 12 = .ok (.invokestatic 48, 3) := by decide +kernel
theorem dJ2_getChar_3b067_15 : decode cJ2_getChar_3b067 15 = .ok (.if_icmp .lt 13, 3) := by decide +kernel
theorem dJ2_getChar_3b067_18 : decode cJ2_getChar_3b067 18 = .ok (.new 52, 3) := by decide +kernel
theorem dJ2_getChar_3b067_21 : decode cJ2_getChar_3b067 21 = .ok (.dup, 1) := by decide +kernel
theorem dJ2_getChar_3b067_22 : decode cJ2_getChar_3b067 22 = .ok (.ldc 54, 2) := by decide +kernel
theorem dJ2_getChar_3b067_24 : decode cJ2_getChar_3b067 24 = .ok (.invokespecial 56, 3) := by decide +kernel
theorem dJ2_getChar_3b067_27 : decode cJ2_getChar_3b067 27 = .ok (.athrow, 1) := by decide +kernel
theorem dJ2_getChar_3b067_28 : decode cJ2_getChar_3b067 28 = .ok (.iload_n 1, 1) := by decide +kernel
theorem dJ2_getChar_3b067_29 : decode cJ2_getChar_3b067 29 = .ok (.iconst 1, 1) := by decide +kernel
theorem dJ2_getChar_3b067_30 : decode cJ2_getChar_3b067 30 = .ok (.ishl, 1) := by decide +kernel
theorem dJ2_getChar_3b067_31 : decode cJ2_getChar_3b067 31 = .ok (.istore_n 1, 1) := by decide +kernel
theorem dJ2_getChar_3b067_32 : decode cJ2_getChar_3b067 32 = .ok (.aload_n 0, 1) := by decide +kernel
theorem dJ2_getChar_3b067_33 : decode cJ2_getChar_3b067 33 = .ok (.iload_n 1, 1) := by decide +kernel
theorem dJ2_getChar_3b067_34 : decode cJ2_getChar_3b067 34 = .ok (.iinc 1 1, 3) := by decide +kernel
theorem dJ2_getChar_3b067_37 : decode cJ2_getChar_3b067 37 = .ok (.baload, 1) := by decide +kernel
theorem dJ2_getChar_3b067_38 : decode cJ2_getChar_3b067 38 = .ok (.sipush 255, 3) := by decide +kernel
theorem dJ2_getChar_3b067_41 : decode cJ2_getChar_3b067 41 = .ok (.iand, 1) := by decide +kernel
theorem dJ2_getChar_3b067_42 : decode cJ2_getChar_3b067 42 = .ok (.getstatic 59, 3) := by decide +kernel
theorem dJ2_getChar_3b067_45 : decode cJ2_getChar_3b067 45 = .ok (.ishl, 1) := by decide +kernel
theorem dJ2_getChar_3b067_46 : decode cJ2_getChar_3b067 46 = .ok (.aload_n 0, 1) := by decide +kernel
theorem dJ2_getChar_3b067_47 : decode cJ2_getChar_3b067 47 = .ok (.iload_n 1, 1) := by decide +kernel
theorem dJ2_getChar_3b067_48 : decode cJ2_getChar_3b067 48 = .ok (.baload, 1) := by decide +kernel
theorem dJ2_getChar_3b067_49 : decode cJ2_getChar_3b067 49 = .ok (.sipush 255, 3) := by decide +kernel
theorem dJ2_getChar_3b067_52 : decode cJ2_getChar_3b067 52 = .ok (.iand, 1) := by decide +kernel
theorem dJ2_getChar_3b067_53 : decode cJ2_getChar_3b067 53 = .ok (.getstatic 63, 3) := by decide +kernel
theorem dJ2_getChar_3b067_56 : decode cJ2_getChar_3b067 56 = .ok (.ishl, 1) := by decide +kernel
theorem dJ2_getChar_3b067_57 : decode cJ2_getChar_3b067 57 = .ok (.ior, 1) := by decide +kernel
theorem dJ2_getChar_3b067_58 : decode cJ2_getChar_3b067 58 = .ok (.i2c, 1) := by decide +kernel
theorem dJ2_getChar_3b067_59 : decode cJ2_getChar_3b067 59 = .ok (.ireturn, 1) := by decide +kernel
theorem dJ2_length_9d52b_0 : decode cJ2_length_9d52b 0 = .ok (.aload_n 0, 1) := by decide +kernel
theorem dJ2_length_9d52b_1 : decode cJ2_length_9d52b 1 = .ok (.arraylength, 1) := by decide +kernel
theorem dJ2_length_9d52b_2 : decode cJ2_length_9d52b 2 = .ok (.iconst 1, 1) := by decide +kernel
theorem dJ2_length_9d52b_3 : decode cJ2_length_9d52b 3 = .ok (.ishr, 1) := by decide +kernel
theorem dJ2_length_9d52b_4 : decode cJ2_length_9d52b 4 = .ok (.ireturn, 1) := by decide +kernel
theorem dJ2_charAt_3b067_0 : decode cJ2_charAt_3b067 0 = .ok (.iload_n 1, 1) := by decide +kernel
theorem dJ2_charAt_3b067_1 : decode cJ2_charAt_3b067 1 = .ok (.aload_n 0, 1) := by decide +kernel
theorem dJ2_charAt_3b067_2 : decode cJ2_charAt_3b067 2 = .ok (.invokestatic 67, 3) := by decide +kernel
theorem dJ2_charAt_3b067_5 : decode cJ2_charAt_3b067 5 = .ok (.aload_n 0, 1) := by decide +kernel
theorem dJ2_charAt_3b067_6 : decode cJ2_charAt_3b067 6 = .ok (.iload_n 1, 1) := by decide +kernel
theorem dJ2_charAt_3b067_7 : decode cJ2_charAt_3b067 7 = .ok (.invokestatic 71, 3) := by decide +kernel
theorem dJ2_charAt_3b067_10 : decode cJ2_charAt_3b067 10 = .ok (.ireturn, 1) := by decide +kernel
theorem dJ2_checkIndex_2214a_0 : decode cJ2_checkIndex_2214a 0 = .ok (.iload_n 0, 1) := by decide +kernel
theorem dJ2_checkIndex_2214a_1 : decode cJ2_checkIndex_2214a 1 = .ok (.aload_n 1, 1) := by decide +kernel
theorem dJ2_checkIndex_2214a_2 : decode cJ2_checkIndex_2214a 2 = .ok (.invokestatic 48, 3) := by decide +kernel
theorem dJ2_checkIndex_2214a_5 : decode cJ2_checkIndex_2214a 5 = .ok (.invokestatic 414, 3) := by decide +kernel
theorem dJ2_checkIndex_2214a_8 : decode cJ2_checkIndex_2214a 8 = .ok (.return_, 1) := by decide +kernel
theorem dJ3_checkIndex_8e157_0 : decode cJ3_checkIndex_8e157 0 = .ok (.iload_n 0, 1) := by decide +kernel
theorem dJ3_checkIndex_8e157_1 : decode cJ3_checkIndex_8e157 1 = .ok (.ifCond .lt 8, 3) := by decide +kernel
theorem dJ3_checkIndex_8e157_4 : decode cJ3_checkIndex_8e157 4 = .ok (.iload_n 0, 1) := by decide +kernel
theorem dJ3_checkIndex_8e157_5 : decode cJ3_checkIndex_8e157 5 = .ok (.iload_n 1, 1) := by decide +kernel
theorem dJ3_checkIndex_8e157_6 : decode cJ3_checkIndex_8e157 6 = .ok (.if_icmp .lt 10, 3) := by decide +kernel
theorem dJ3_checkIndex_8e157_9 : decode cJ3_checkIndex_8e157 9 = .ok (.aload_n 2, 1) := by decide +kernel
theorem dJ3_checkIndex_8e157_10 : decode cJ3_checkIndex_8e157 10 = .ok (.iload_n 0, 1) := by decide +kernel
theorem dJ3_checkIndex_8e157_11 : decode cJ3_checkIndex_8e157 11 = .ok (.iload_n 1, 1) := by decide +kernel
theorem dJ3_checkIndex_8e157_12 : decode cJ3_checkIndex_8e157 12 = .ok (.invokestatic 95, 3) := by decide +kernel
theorem dJ3_checkIndex_8e157_15 : decode cJ3_checkIndex_8e157 15 = .ok (.athrow, 1) := by decide +kernel
theorem dJ3_checkIndex_8e157_16 : decode cJ3_checkIndex_8e157 16 = .ok (.iload_n 0, 1) := by decide +kernel
theorem dJ3_checkIndex_8e157_17 : decode cJ3_checkIndex_8e157 17 = .ok (.ireturn, 1) := by decide +kernel
abbrev vwCl : List vw_C := [(RX0, TX0, 11), (RX1, TX1, 3), (RX2, TX2, 7), (RX3, TX3, 4), (RX4, TX4, 16), (RX5, TX5, 16), (RX6, TX6, 38)]
end
section
/-! My own layer: records of an object's ints and rows, worlds as lists of objects, one contract shape, one row a kind of instruction. -/
def TBL : List Cond := lw_tbl.filter goodWord
theorem tbl_in {w : Cond} (h : w ∈ lw_tbl) (hg : goodWord w = true) : w ∈ TBL := List.mem_filter.mpr ⟨h, hg⟩
theorem tbl_lw {w : Cond} (h : w ∈ TBL) : w ∈ lw_tbl := (List.mem_filter.mp h).1
theorem tbl_good : GoodIn TBL TBL := fun _ h => ⟨h, good_of_word (List.mem_filter.mp h).2⟩
theorem tab_in {w : Cond} (h : w ∈ tables_1) : w ∈ lw_tbl := List.mem_append_right _ h
theorem tk_0 {w : Cond} (i : Nat) (h : (k2_sels lw_privs)[i]? = some w) (hg : goodWord w = true) : w ∈ TBL := tbl_in (List.mem_append_left _ (List.mem_of_getElem? h)) hg
theorem tk_1 {w : Cond} (i : Nat) (h : tables_1_1[i]? = some w) (hg : goodWord w = true) : w ∈ TBL := tbl_in (tab_in (List.mem_append_left _ (List.mem_of_getElem? h))) hg
theorem tk_2 {w : Cond} (i : Nat) (h : tables_1_2[i]? = some w) (hg : goodWord w = true) : w ∈ TBL := tbl_in (tab_in (List.mem_append_right _ (List.mem_append_left _ (List.mem_of_getElem? h)))) hg
theorem tk_3 {w : Cond} (i : Nat) (h : tables_1_3[i]? = some w) (hg : goodWord w = true) : w ∈ TBL := tbl_in (tab_in (List.mem_append_right _ (List.mem_append_right _ (List.mem_append_left _ (List.mem_of_getElem? h))))) hg
theorem tk_4 {w : Cond} (i : Nat) (h : tables_1_4[i]? = some w) (hg : goodWord w = true) : w ∈ TBL := tbl_in (tab_in (List.mem_append_right _ (List.mem_append_right _ (List.mem_append_right _ (List.mem_append_left _ (List.mem_of_getElem? h)))))) hg
theorem tk_5 {w : Cond} (i : Nat) (h : tables_1_5[i]? = some w) (hg : goodWord w = true) : w ∈ TBL := tbl_in (tab_in (List.mem_append_right _ (List.mem_append_right _ (List.mem_append_right _ (List.mem_append_right _ (List.mem_append_left _ (List.mem_of_getElem? h))))))) hg
theorem tk_6 {w : Cond} (i : Nat) (h : tables_1_6[i]? = some w) (hg : goodWord w = true) : w ∈ TBL := tbl_in (tab_in (List.mem_append_right _ (List.mem_append_right _ (List.mem_append_right _ (List.mem_append_right _ (List.mem_append_right _ (List.mem_of_getElem? h))))))) hg
/-- an object: its ints by slot, its rows by slot -/
abbrev ob : Type := (Nat → Int32) × (Nat → Nat → Int32)
def sI (o : ob) (k : Nat) (v : Int32) : ob := (va_up o.1 k v, o.2)
def sA (o : ob) (k i : Nat) (v : Int32) : ob := (o.1, va_up o.2 k (upd (o.2 k) i v))
def sR (o : ob) (k : Nat) (r : Nat → Int32) : ob := (o.1, va_up o.2 k r)
def lt {α β : Type} (x : α) (f : α → β) : β := f x
def gd {α : Type} (b : Bool) (x : Option α) : Option α := if b = true then x else none
def vin (i : Int32) (n : Nat) : Bool := !(decide (i < 0) || decide (n ≤ i.toNatClampNeg))
def bz (x : Int32) : Bool := x == 0 || x == 1
theorem vin_ok {i : Int32} {n : Nat} (h : vin i n = true) : vp_in i n := by
  intro q
  simp only [vin, Bool.not_eq_true', Bool.or_eq_false_iff, decide_eq_false_iff_not] at h
  rcases q with q | q
  · exact h.1 q
  · exact h.2 q
theorem bz_or {x : Int32} (h : bz x = true) : x = 0 ∨ x = 1 := by simpa [bz] using h
theorem bz_n {x : Int32} (h : bz x = true) : narrow .boolean (.int x) = .int x := by
  rcases bz_or h with rfl | rfl <;> rfl
theorem bz_f {x : Int32} (h : bz x = true) : fits .boolean (.int x) = true := by
  rcases bz_or h with rfl | rfl <;> rfl
theorem bz_v {x : Int32} (h : bz x = true) : vp_nar .boolean x = x := by
  rcases bz_or h with rfl | rfl <;> rfl
section PURE
variable {α β γ : Type}
theorem tob {x : Option α} {r : α} (h : x = some r) : x.bind some = some r := by rw [h]; rfl
theorem ltb {x y : β} {f : β → Option α} {F : α → Option γ} {r : γ} (h : (lt x f).bind F = some r) (e : y = x) : (f y).bind F = some r := by subst e; exact h
theorem gdb {b : Bool} {x : Option α} {F : α → Option γ} {r : γ} (h : (gd b x).bind F = some r) : b = true ∧ x.bind F = some r := by
  cases b with
  | true => exact ⟨rfl, h⟩
  | false => cases h
theorem ifp {c : Prop} [Decidable c] {x y : Option α} {F : α → Option γ} {r : γ} (h : (if c then x else y).bind F = some r) (hc : c) : x.bind F = some r := by rw [if_pos hc] at h; exact h
theorem ifn {c : Prop} [Decidable c] {x y : Option α} {F : α → Option γ} {r : γ} (h : (if c then x else y).bind F = some r) (hc : ¬ c) : y.bind F = some r := by rw [if_neg hc] at h; exact h
theorem asb {x : Option β} {f : β → Option α} {F : α → Option γ} {r : γ} (h : (x.bind f).bind F = some r) : ∃ q, x = some q ∧ (f q).bind F = some r := by
  cases x with
  | none => cases h
  | some q => exact ⟨q, rfl, h⟩
theorem rgn {x : Option β} {f : β → Option α} {F : α → Option γ} {r : γ} (h : (x.bind f).bind F = some r) : ∃ J : β → Option γ, (J = fun q => (f q).bind F) ∧ x.bind J = some r := by
  refine ⟨_, rfl, ?_⟩
  cases x with
  | none => cases h
  | some q => exact h
theorem jof {J K : β → Option γ} {q : β} {r : γ} (e : J = K) (h : J q = some r) : K q = some r := by rw [← e]; exact h
theorem sob {x : α} {F : α → Option γ} {r : γ} (h : (some x).bind F = some r) : F x = some r := h
theorem sor {x r : α} (h : (some x).bind some = some r) : r = x := (Option.some.inj h).symm
/-- a loop: from state to state by steps; 0 goes on, another number is a way out -/
def iter (step : α → Option (Nat × α)) : Nat → α → Option (Nat × α)
  | 0, _ => none
  | n + 1, s => match step s with
    | none => none
    | some (0, t) => iter step n t
    | some (k + 1, t) => some (k + 1, t)
noncomputable def wh (step : α → Option (Nat × α)) (s : α) : Option (Nat × α) :=
  @dite (Option (Nat × α)) (∃ q, ∃ n, iter step n s = some q) (Classical.propDecidable _) (fun h => some (Classical.choose h)) (fun _ => none)
theorem iter_det {step : α → Option (Nat × α)} : ∀ {n m : Nat} {s : α} {q r : Nat × α}, iter step n s = some q → iter step m s = some r → q = r
  | 0, _, _, _, _, h, _ => by simp [iter] at h
  | n + 1, 0, _, _, _, _, h => by simp [iter] at h
  | n + 1, m + 1, s, q, r, h1, h2 => by
    simp only [iter] at h1 h2
    cases hs : step s with
    | none => rw [hs] at h1; cases h1
    | some u =>
      rw [hs] at h1 h2
      obtain ⟨k, t⟩ := u
      cases k with
      | zero => exact iter_det h1 h2
      | succ k => simp only [Option.some.injEq] at h1 h2; rw [← h1, ← h2]
theorem wh_out {step : α → Option (Nat × α)} {s : α} {q : Nat × α} (h : wh step s = some q) : ∃ n, iter step n s = some q := by
  unfold wh at h
  by_cases hx : ∃ q, ∃ n, iter step n s = some q
  · rw [dif_pos hx] at h
    have e := Option.some.inj h
    obtain ⟨n, hn⟩ := Classical.choose_spec hx
    exact ⟨n, by rw [← e]; exact hn⟩
  · rw [dif_neg hx] at h; cases h
theorem wh_in {step : α → Option (Nat × α)} {s : α} {q : Nat × α} {n : Nat} (h : iter step n s = some q) : wh step s = some q := by
  unfold wh
  have hx : ∃ q, ∃ n, iter step n s = some q := ⟨q, n, h⟩
  rw [dif_pos hx]
  obtain ⟨m, hm⟩ := Classical.choose_spec hx
  rw [iter_det hm h]
/-- what one step gives: on, or out -/
def itr (step : α → Option (Nat × α)) (n : Nat) (u q : Nat × α) : Prop := (u.1 = 0 → iter step n u.2 = some q) ∧ (u.1 ≠ 0 → q = u)
theorem iter_0 {step : α → Option (Nat × α)} {s : α} {q : Nat × α} (h : iter step 0 s = some q) : False := by simp [iter] at h
theorem iter_s {step : α → Option (Nat × α)} {n : Nat} {s : α} {q : Nat × α} (h : iter step (n + 1) s = some q) : ∃ u, step s = some u ∧ itr step n u q := by
  simp only [iter] at h
  cases hs : step s with
  | none => rw [hs] at h; cases h
  | some u =>
    rw [hs] at h
    refine ⟨u, rfl, ?_⟩
    obtain ⟨k, t⟩ := u
    cases k with
    | zero => exact ⟨fun _ => h, fun h2 => absurd rfl h2⟩
    | succ k => exact ⟨fun h2 => (Nat.succ_ne_zero k h2).elim, fun _ => (Option.some.inj h).symm⟩
theorem itr_c {step : α → Option (Nat × α)} {n : Nat} {t : α} {u q : Nat × α} (h : itr step n u q) (e : u = (0, t)) : iter step n t = some q := by subst e; exact h.1 rfl
theorem itr_x {step : α → Option (Nat × α)} {n k : Nat} {t : α} {u q : Nat × α} (h : itr step n u q) (e : u = (k + 1, t)) : q = (k + 1, t) := by subst e; exact h.2 (Nat.succ_ne_zero k)
theorem iter_on {step : α → Option (Nat × α)} {n : Nat} {s t : α} {q : Nat × α} (hs : step s = some (0, t)) (h : iter step n t = some q) : iter step (n + 1) s = some q := by simp only [iter, hs]; exact h
theorem iter_off {step : α → Option (Nat × α)} {n k : Nat} {s t : α} (hs : step s = some (k + 1, t)) : iter step (n + 1) s = some (k + 1, t) := by simp only [iter, hs]
theorem wh_on {step : α → Option (Nat × α)} {s t : α} (hs : step s = some (0, t)) : wh step s = wh step t := by
  cases ht : wh step t with
  | some q => obtain ⟨n, hn⟩ := wh_out ht; exact wh_in (iter_on hs hn)
  | none =>
    cases hq : wh step s with
    | none => rfl
    | some q =>
      obtain ⟨n, hn⟩ := wh_out hq
      cases n with
      | zero => exact (iter_0 hn).elim
      | succ n =>
        obtain ⟨u, hu, hi⟩ := iter_s hn
        rw [hs] at hu
        have := wh_in (itr_c hi (Option.some.inj hu).symm)
        rw [ht] at this; cases this
theorem wh_off {step : α → Option (Nat × α)} {k : Nat} {s t : α} (hs : step s = some (k + 1, t)) : wh step s = some (k + 1, t) := wh_in (n := 1) (iter_off hs)
end PURE
/-! worlds: a list of objects, each a list of cells -/
def WL (S : List va_W) : va_W := S.flatten
def pick (S : List va_W) (is : List Nat) : List va_W := is.map (fun i => S.getD i [])
theorem pick_range (S : List va_W) : pick S (List.range S.length) = S := by
  unfold pick
  apply List.ext_getElem
  · simp
  · intro i h1 h2
    simp [List.getD_eq_getElem?_getD, h2]
theorem pick_perm {S : List va_W} {is : List Nat} (h : is.isPerm (List.range S.length) = true) : (WL (pick S is)).Perm (WL S) := by
  have h1 : is.Perm (List.range S.length) := List.isPerm_iff.mp h
  have h2 : (pick S is).Perm (pick S (List.range S.length)) := h1.map _
  rw [pick_range] at h2
  exact h2.flatten
theorem P_of_mem {D : va_G} {cl : List vw_C} {w1 w2 : va_W} {H : Heap} (h : ∀ q ∈ w2, q ∈ w1) (hP : va_P D cl w1 H) : va_P D cl w2 H := by
  intro k q hk
  obtain ⟨i, hi⟩ := List.getElem?_of_mem (h q (List.mem_of_getElem? hk))
  exact hP i q hi
theorem P_perm {D : va_G} {cl : List vw_C} {w1 w2 : va_W} {H : Heap} (h : w1.Perm w2) (hP : va_P D cl w1 H) : va_P D cl w2 H := P_of_mem (fun _ hq => h.mem_iff.mpr hq) hP
theorem D_iff {A : Nat → Prop} {w : va_W} : va_D A w ↔ (w.map Prod.fst).Nodup ∧ ∀ q ∈ w, A q.1 := by
  constructor
  · intro h
    refine ⟨?_, fun q hq => ?_⟩
    · rw [List.nodup_iff_pairwise_ne, List.pairwise_iff_getElem]
      intro i j hi hj hij he
      have hi' : i < w.length := by simpa using hi
      have hj' : j < w.length := by simpa using hj
      have := h.1 i j w[i] w[j] (List.getElem?_eq_getElem hi') (List.getElem?_eq_getElem hj') (by simpa using he)
      omega
    · obtain ⟨k, hk⟩ := List.getElem?_of_mem hq
      exact h.2 k q hk
  · intro h
    refine ⟨fun i j p q hi hj hpq => ?_, fun k q hk => h.2 q (List.mem_of_getElem? hk)⟩
    obtain ⟨hi', ei⟩ := List.getElem?_eq_some_iff.mp hi
    obtain ⟨hj', ej⟩ := List.getElem?_eq_some_iff.mp hj
    have hn := h.1
    rw [List.nodup_iff_pairwise_ne, List.pairwise_iff_getElem] at hn
    rcases Nat.lt_trichotomy i j with h1 | h1 | h1
    · exact absurd (by rw [List.getElem_map, List.getElem_map, ei, ej]; exact hpq) (hn i j (by simpa using hi') (by simpa using hj') h1)
    · exact h1
    · exact absurd (by rw [List.getElem_map, List.getElem_map, ei, ej]; exact hpq.symm) (hn j i (by simpa using hj') (by simpa using hi') h1)
theorem D_perm {A : Nat → Prop} {w1 w2 : va_W} (h : w1.Perm w2) (hD : va_D A w1) : va_D A w2 := by
  rw [D_iff] at hD ⊢
  exact ⟨(h.map _).nodup_iff.mp hD.1, fun q hq => hD.2 q (h.mem_iff.mpr hq)⟩
theorem join2 {A0 : Nat → Prop} {D : va_G} {cl : List vw_C} {wc wr w1 : va_W} {H H1 : Heap} (hP : va_P D cl (wc ++ wr) H) (hD : va_D A0 (wc ++ wr))
    (hk : ∀ q : Nat, q < H.size → ¬ va_A wc H.size q → H1[q]? = H[q]?) (hF : ∀ q, va_A wc H.size q → A0 q) (hP1 : va_P D cl w1 H1) (hD1 : va_D (va_A wc H.size) w1) : va_P D cl (w1 ++ wr) H1 ∧ va_D A0 (w1 ++ wr) := by
  have hC : (List.range wc.length).map (fun i => (wc ++ wr)[i]?) = wc.map some := by
    apply List.ext_getElem
    · simp
    · intro i h1 h2
      have : i < wc.length := by simpa using h2
      simp [List.getElem?_append_left this, this]
  have hR : (List.range' wc.length wr.length).map (fun i => (wc ++ wr)[i]?) = wr.map some := by
    apply List.ext_getElem
    · simp
    · intro i h1 h2
      have : i < wr.length := by simpa using h2
      simp [List.getElem?_append_right, this]
  have hn : va_nd (List.range' wc.length wr.length) = true := by
    have key : ∀ (n k : Nat), va_nd (List.range' k n) = true := by
      intro n
      induction n with
      | zero => intro k; rfl
      | succ n ih =>
        intro k
        rw [List.range'_succ]
        simp only [va_nd, ih, Bool.and_true, decide_eq_true_eq]
        intro h
        have := List.mem_range'_1.mp h
        omega
    exact key _ _
  have hdis : ∀ i ∈ List.range' wc.length wr.length, i ∉ List.range wc.length := by
    intro i hi hi2
    have h1 := List.mem_range'_1.mp hi
    have h2 := List.mem_range.mp hi2
    omega
  obtain ⟨g1, g2⟩ := va_join (wr := wr) (w1 := w1) hP hD _ _ hC hR hn hdis hk hF hP1 hD1
  have hp : (wr ++ w1).Perm (w1 ++ wr) := List.perm_append_comm
  exact ⟨P_perm hp g1, D_perm hp g2⟩
/-! what a method's body stands on -/
abbrev tys (K : Nat → ClassId) : List (ClassId × FieldType) := [(K 0, .int), (K 1, .boolean), (K 2, .char), (K 3, .object RX4)]
def nests : List (String × Nat × MethodName) := [(RX5, 11, yX3_init), (RX5, 18, yX4_init), (RX5, 35, yX0_init), (RX5, 48, yX2_init), (RX5, 55, yX1_init), (RX0, 111, yX5_lettersIn), (RX0, 115, yX5_firstLetter), (RX0, 121, yX5_secondLetter), (RX0, 97, yX5_edgeAt), (RX1, 51, yX5_lettersIn), (RX1, 55, yX5_firstLetter), (RX1, 61, yX5_secondLetter), (RX2, 85, yX5_lettersIn), (RX2, 89, yX5_firstLetter), (RX2, 92, yX5_secondLetter), (RX3, 93, yX5_wordOf), (RX4, 68, yX5_lettersIn), (RX4, 76, yX5_secondLetter), (RX4, 83, yX5_firstLetter)]
def NW (U : State) : Prop := ∀ q ∈ nests, va_Nw (.methodLinkNest q.1 q.2.1 q.2.2 RX5) U
theorem NW.warm {s U : State} (hW : s.WarmedH U.vm) (h : NW s) : NW U := fun q hq => va_Nw.warmM hW (h q hq)
theorem NW.same {s U : State} (hW : s.vm = U.vm) (h : NW s) : NW U := fun q hq => va_Nw.same rfl hW (h q hq)
def FX (p : Program) (s : State) (m : MethodId) (args : Array Value) (meth : Method) (c : Code) (cc : ByteArray) (own : String) (nL : Nat) (ret : Option FieldType) (D : va_G) (K : Nat → ClassId) : Prop :=
  p.tables.exec = Jvm.exec ∧ c.code = cc ∧ c.maxLocals = nL ∧ s.vm.findClass own = some m.cls ∧ (∀ w ∈ TBL, w.before args s = true) ∧ va_K D vwCl (tys K) s ∧ NW s ∧ meth.sig.returnType = ret ∧ meth.locks = false
def WD (D : va_G) (A : Nat → Prop) (H0 H : Heap) (locs : List Loc) (S : List va_W) : Prop := va_P D vwCl (WL S) H ∧ va_D A (WL S) ∧ va_S A H0 H locs ∧ ∀ q, H0.size ≤ q → A q
/-- contracts: from the objects S0 to the objects S1 -/
def PcS (D : va_G) (K : Nat → ClassId) (av : List Value) (S0 : List va_W) (sz : Nat) : Array Value → State → Prop := va_Pc av (fun U => U.heap.size = sz ∧ va_P D vwCl (WL S0) U.heap ∧ va_K D vwCl (tys K) U ∧ va_D (fun _ => True) (WL S0) ∧ NW U)
def QiS (D : va_G) (A : Nat → Prop) (S1 : List va_W) (r : Int32) : Array Value → State → Outcome → State → Prop := va_Qi (fun (r' : Int32) (_ : Unit) => r' = r) (fun _ t => va_P D vwCl (WL S1) t.heap ∧ va_D A (WL S1)) A
def QvS (D : va_G) (A : Nat → Prop) (S1 : List va_W) : Array Value → State → Outcome → State → Prop := va_Qv (fun (_ : Unit) => True) (fun _ t => va_P D vwCl (WL S1) t.heap ∧ va_D A (WL S1)) A
abbrev rmS (fr lo : Nat) : Room := { frames := fr, cells := 0, slots := 0, locals := lo }
def CTi (l : Launch) (y : MethodName) (b : ByteArray) (nL : Nat) (ret : Option FieldType) (fr lo : Nat) (D : va_G) (K : Nat → ClassId) (av : List Value) (S0 S1 : List va_W) (r : Int32) : Prop :=
  ∀ sz, Met l y (.code y b nL ret :: TBL) (rmS fr lo) (PcS D K av S0 sz) (QiS D (va_A (WL S0) sz) S1 r) 0 0 (va_A (WL S0) sz)
def CTv (l : Launch) (y : MethodName) (b : ByteArray) (nL : Nat) (fr lo : Nat) (D : va_G) (K : Nat → ClassId) (av : List Value) (S0 S1 : List va_W) : Prop :=
  ∀ sz, Met l y (.code y b nL none :: TBL) (rmS fr lo) (PcS D K av S0 sz) (QvS D (va_A (WL S0) sz) S1) 0 0 (va_A (WL S0) sz)
theorem ent0 {l : Launch} {y : MethodName} {b : ByteArray} {nL : Nat} {ret : Option FieldType} {fr lo : Nat} {D : va_G} {K : Nat → ClassId} {av : List Value} {S0 : List va_W} {sz : Nat} {Q : (Nat → Prop) → Array Value → State → Outcome → State → Prop} (hy : plainName y.cls = true) (hn : (lg_sl av).length ≤ nL)
    (body : ∀ (p : Program) (e : Env) (s : State) (m : MethodId) (args : Array Value) (below : List Frame) (meth : Method) (c : Code) (A : Nat → Prop) (ls : Array Slot), FX p s m args meth c b y.cls nL ret D K → WD D A s.heap s.heap [] S0 → lv_has ls nL (lv_args 0 av) → (y.name = "<init>" → meth.name = "<init>") →
      W p l e (rmS fr lo) s m args below meth c s.heap [] 0 0 (MQ below (Q A) args s 0 0 A) (F0 m 0 ls [])) : Met l y (.code y b nL ret :: TBL) (rmS fr lo) (PcS D K av S0 sz) (Q (va_A (WL S0) sz)) 0 0 (va_A (WL S0) sz) := by
  refine Met.ofW (cc := b) (maxL := nL) (ret := ret) hy rfl ?_
  intro p e s m args below meth c s₁ B hml hv
  obtain ⟨rfl, hsz, hP, hK, hD0, hN⟩ := hv
  have hts := atoms_spec (ws := .code y b nL ret :: TBL) B.pre
  have hown : s.vm.findClass y.cls = some m.cls := findClass_of_methodNamed B.named
  have hlocks := B.notSynchronized
  subst hsz
  have hD := hD0.self (sz := s.heap.size)
  have hA : ∀ q : Nat, s.heap.size ≤ q → va_A (WL S0) s.heap.size q := fun q h => Or.inr h
  have hl := lv_entry av hn
  have F : FX p s m av.toArray meth c b y.cls nL ret D K := ⟨B.exec, B.bytes, hml, hown, fun w hw => hts w (List.mem_cons_of_mem _ hw), hK, hN, B.returns, hlocks⟩
  rw [lg_entry_eq]
  exact body p e s m av.toArray below meth c _ _ F ⟨hP, hD, va_S.rf, hA⟩ hl (fun hn => by rw [← hn]; exact (name_of_methodNamed B.named B.method).1)
theorem entI {l : Launch} {y : MethodName} {b : ByteArray} {nL : Nat} {ret : Option FieldType} {fr lo : Nat} {D : va_G} {K : Nat → ClassId} {av : List Value} {S0 S1 : List va_W} {r : Int32} (hy : plainName y.cls = true) (hn : (lg_sl av).length ≤ nL)
    (body : ∀ (p : Program) (e : Env) (s : State) (m : MethodId) (args : Array Value) (below : List Frame) (meth : Method) (c : Code) (A : Nat → Prop) (ls : Array Slot), FX p s m args meth c b y.cls nL ret D K → WD D A s.heap s.heap [] S0 → lv_has ls nL (lv_args 0 av) → (y.name = "<init>" → meth.name = "<init>") →
      W p l e (rmS fr lo) s m args below meth c s.heap [] 0 0 (MQ below (QiS D A S1 r) args s 0 0 A) (F0 m 0 ls [])) : CTi l y b nL ret fr lo D K av S0 S1 r := fun _ => ent0 (Q := fun A => QiS D A S1 r) hy hn body
theorem entV {l : Launch} {y : MethodName} {b : ByteArray} {nL : Nat} {fr lo : Nat} {D : va_G} {K : Nat → ClassId} {av : List Value} {S0 S1 : List va_W} (hy : plainName y.cls = true) (hn : (lg_sl av).length ≤ nL)
    (body : ∀ (p : Program) (e : Env) (s : State) (m : MethodId) (args : Array Value) (below : List Frame) (meth : Method) (c : Code) (A : Nat → Prop) (ls : Array Slot), FX p s m args meth c b y.cls nL none D K → WD D A s.heap s.heap [] S0 → lv_has ls nL (lv_args 0 av) → (y.name = "<init>" → meth.name = "<init>") →
      W p l e (rmS fr lo) s m args below meth c s.heap [] 0 0 (MQ below (QvS D A S1) args s 0 0 A) (F0 m 0 ls [])) : CTv l y b nL fr lo D K av S0 S1 := fun _ => ent0 (Q := fun A => QvS D A S1) hy hn body
theorem WD.perm {D : va_G} {A : Nat → Prop} {H0 H : Heap} {locs : List Loc} {S S2 : List va_W} (h : WD D A H0 H locs S) (hp : (WL S).Perm (WL S2)) : WD D A H0 H locs S2 := ⟨P_perm hp h.1, D_perm hp h.2.1, h.2.2⟩
section ROWS
variable {p : Program} {l : Launch} {e : Env} {R : Room} {s : State} {m : MethodId} {args : Array Value} {below : List Frame} {meth : Method} {c : Code} {H : Heap} {locs : List Loc} {cells slots : Nat} {Q : State → Prop}
variable {pc : Nat} {ls : Array Slot} {rest : List Value} {cc : ByteArray} {own : String} {nL : Nat} {ret : Option FieldType} {D : va_G} {K : Nat → ClassId} {A : Nat → Prop} {H0 : Heap} {S : List va_W}
theorem seg_at {S : List va_W} {seg : va_W} {i j : Nat} {x : Nat × va_E} (hs : S[i]? = some seg) (hj : seg[j]? = some x) : ∃ q0, (WL S)[q0]? = some x ∧ ∀ y, (WL S).set q0 y = WL (S.set i (seg.set j y)) := by
  induction S generalizing i with
  | nil => simp at hs
  | cons w S ih =>
    cases i with
    | zero =>
      simp only [List.getElem?_cons_zero, Option.some.injEq] at hs
      subst hs
      have hl := (List.getElem?_eq_some_iff.mp hj).1
      refine ⟨j, ?_, fun y => ?_⟩
      · show (w ++ S.flatten)[j]? = _
        rw [List.getElem?_append_left hl]; exact hj
      · show (w ++ S.flatten).set j y = (w.set j y) ++ S.flatten
        rw [List.set_append_left _ _ hl]
    | succ i =>
      rw [List.getElem?_cons_succ] at hs
      obtain ⟨q0, h1, h2⟩ := ih hs
      refine ⟨w.length + q0, ?_, fun y => ?_⟩
      · show (w ++ WL S)[_]? = _
        rw [List.getElem?_append_right (by omega), Nat.add_sub_cancel_left]; exact h1
      · show (w ++ WL S).set _ y = w ++ WL (S.set i (seg.set j y))
        rw [List.set_append_right _ _ (by omega), Nat.add_sub_cancel_left, h2]
theorem r_iald (F : FX p s m args meth c cc own nL ret D K) (h : WD D A H0 H locs S) {i j n a : Nat} {seg : va_W} {f : Nat → Int32} {ix : Int32} (hs : S[i]? = some seg) (hj : seg[j]? = some (a, .inl (K 0, n, .inl f))) (hin : vp_in ix n) (hdg : decode cc pc = .ok (.iaload, 1))
    (kk : W p l e R s m args below meth c H locs cells slots Q (F0 m (pc + 1) ls (.int (f ix.toNatClampNeg) :: rest))) : W p l e R s m args below meth c H locs cells slots Q (F0 m pc ls (.int ix :: .ref a :: rest)) := by
  obtain ⟨q0, h1, -⟩ := seg_at hs hj
  exact va_iald F.1 F.2.1 F.2.2.2.2.2.1 h.1 q0 0 h1 rfl hin hdg kk
theorem r_zald (F : FX p s m args meth c cc own nL ret D K) (h : WD D A H0 H locs S) {i j n a : Nat} {seg : va_W} {f : Nat → Int32} {ix : Int32} (hs : S[i]? = some seg) (hj : seg[j]? = some (a, .inl (K 1, n, .inl f))) (hin : vp_in ix n) (hdg : decode cc pc = .ok (.baload, 1))
    (kk : W p l e R s m args below meth c H locs cells slots Q (F0 m (pc + 1) ls (.int (f ix.toNatClampNeg) :: rest))) : W p l e R s m args below meth c H locs cells slots Q (F0 m pc ls (.int ix :: .ref a :: rest)) := by
  obtain ⟨q0, h1, -⟩ := seg_at hs hj
  exact va_zald F.1 F.2.1 F.2.2.2.2.2.1 h.1 q0 1 h1 rfl hin hdg kk
theorem r_cald (F : FX p s m args meth c cc own nL ret D K) (h : WD D A H0 H locs S) {i j n a : Nat} {seg : va_W} {f : Nat → Int32} {ix : Int32} (hs : S[i]? = some seg) (hj : seg[j]? = some (a, .inl (K 2, n, .inl f))) (hin : vp_in ix n) (hdg : decode cc pc = .ok (.caload, 1))
    (kk : W p l e R s m args below meth c H locs cells slots Q (F0 m (pc + 1) ls (.int (f ix.toNatClampNeg) :: rest))) : W p l e R s m args below meth c H locs cells slots Q (F0 m pc ls (.int ix :: .ref a :: rest)) := by
  obtain ⟨q0, h1, -⟩ := seg_at hs hj
  exact va_cald F.1 F.2.1 F.2.2.2.2.2.1 h.1 q0 2 h1 rfl hin hdg kk
theorem r_alen (F : FX p s m args meth c cc own nL ret D K) (h : WD D A H0 H locs S) {i j t0 a : Nat} {seg : va_W} {cA : ClassId} {x : vp_A} {ty : FieldType} {v : Int32} (hs : S[i]? = some seg) (hj : seg[j]? = some (a, .inl (cA, x))) (ht : (tys K)[t0]? = some (cA, ty)) (hv : Int32.ofNat x.1 = v) (hdg : decode cc pc = .ok (.arraylength, 1))
    (kk : W p l e R s m args below meth c H locs cells slots Q (F0 m (pc + 1) ls (.int v :: rest))) : W p l e R s m args below meth c H locs cells slots Q (F0 m pc ls (.ref a :: rest)) := by
  obtain ⟨q0, h1, -⟩ := seg_at hs hj
  exact va_alen F.1 F.2.1 F.2.2.2.2.2.1 h.1 q0 t0 h1 ht hv hdg kk
theorem WD.set {i j q0 : Nat} {seg : va_W} {x y : Nat × va_E} {o1 : ob} {w : ob → va_W} {S' : ob → List va_W} {H1 : Heap} {locs1 : List Loc} (h2 : ∀ y, (WL S).set q0 y = WL (S.set i (seg.set j y))) (hset : seg.set j y = w o1) (hS : ∀ t, S.set i (w t) = S' t) (hA : ∀ q, H0.size ≤ q → A q) (a1 : va_P D vwCl ((WL S).set q0 y) H1) (a2 : va_D A ((WL S).set q0 y)) (a3 : va_S A H0 H1 locs1) : WD D A H0 H1 locs1 (S' o1) := by
  rw [h2, hset, hS] at a1 a2
  exact ⟨a1, a2, a3, hA⟩
theorem r_iast (F : FX p s m args meth c cc own nL ret D K) (h : WD D A H0 H locs S) {i j n a : Nat} {seg : va_W} {f : Nat → Int32} {ix x : Int32} {o1 : ob} {w : ob → va_W} {S' : ob → List va_W} (hs : S[i]? = some seg) (hj : seg[j]? = some (a, .inl (K 0, n, .inl f))) (hin : vp_in ix n) (hset : seg.set j (a, .inl (K 0, n, .inl (upd f ix.toNatClampNeg x))) = w o1) (hS : ∀ t, S.set i (w t) = S' t) (hdg : decode cc pc = .ok (.iastore, 1))
    (kk : ∀ t, t = o1 → ∀ (H1 : Heap) (locs1 : List Loc), WD D A H0 H1 locs1 (S' t) → W p l e R s m args below meth c H1 locs1 cells slots Q (F0 m (pc + 1) ls rest)) : W p l e R s m args below meth c H locs cells slots Q (F0 m pc ls (.int x :: .int ix :: .ref a :: rest)) := by
  obtain ⟨q0, h1, h2⟩ := seg_at hs hj
  refine va_iast F.1 F.2.1 F.2.2.2.2.2.1 h.1 h.2.1 h.2.2.1 q0 0 h1 rfl hin hdg fun H1 locs1 a1 a2 a3 => kk o1 rfl H1 locs1 (WD.set (x := (a, .inl (K 0, n, .inl f))) h2 hset hS h.2.2.2 a1 a2 a3)
theorem r_zast (F : FX p s m args meth c cc own nL ret D K) (h : WD D A H0 H locs S) {i j n a : Nat} {seg : va_W} {f : Nat → Int32} {ix x : Int32} {o1 : ob} {w : ob → va_W} {S' : ob → List va_W} (hs : S[i]? = some seg) (hj : seg[j]? = some (a, .inl (K 1, n, .inl f))) (hin : vp_in ix n) (hx : bz x = true) (hset : seg.set j (a, .inl (K 1, n, .inl (upd f ix.toNatClampNeg x))) = w o1) (hS : ∀ t, S.set i (w t) = S' t) (hdg : decode cc pc = .ok (.bastore, 1))
    (kk : ∀ t, t = o1 → ∀ (H1 : Heap) (locs1 : List Loc), WD D A H0 H1 locs1 (S' t) → W p l e R s m args below meth c H1 locs1 cells slots Q (F0 m (pc + 1) ls rest)) : W p l e R s m args below meth c H locs cells slots Q (F0 m pc ls (.int x :: .int ix :: .ref a :: rest)) := by
  obtain ⟨q0, h1, h2⟩ := seg_at hs hj
  refine va_zast F.1 F.2.1 F.2.2.2.2.2.1 h.1 h.2.1 h.2.2.1 q0 1 h1 rfl hin hdg fun H1 locs1 a1 a2 a3 => ?_
  rw [bz_v hx] at a1 a2
  exact kk o1 rfl H1 locs1 (WD.set (x := (a, .inl (K 1, n, .inl f))) h2 hset hS h.2.2.2 a1 a2 a3)
theorem r_cast (F : FX p s m args meth c cc own nL ret D K) (h : WD D A H0 H locs S) {i j n a : Nat} {seg : va_W} {f : Nat → Int32} {ix x : Int32} {o1 : ob} {w : ob → va_W} {S' : ob → List va_W} (hs : S[i]? = some seg) (hj : seg[j]? = some (a, .inl (K 2, n, .inl f))) (hin : vp_in ix n) (hset : seg.set j (a, .inl (K 2, n, .inl (upd f ix.toNatClampNeg (vp_nar .char x)))) = w o1) (hS : ∀ t, S.set i (w t) = S' t) (hdg : decode cc pc = .ok (.castore, 1))
    (kk : ∀ t, t = o1 → ∀ (H1 : Heap) (locs1 : List Loc), WD D A H0 H1 locs1 (S' t) → W p l e R s m args below meth c H1 locs1 cells slots Q (F0 m (pc + 1) ls rest)) : W p l e R s m args below meth c H locs cells slots Q (F0 m pc ls (.int x :: .int ix :: .ref a :: rest)) := by
  obtain ⟨q0, h1, h2⟩ := seg_at hs hj
  refine va_cast F.1 F.2.1 F.2.2.2.2.2.1 h.1 h.2.1 h.2.2.1 q0 2 h1 rfl hin hdg fun H1 locs1 a1 a2 a3 => kk o1 rfl H1 locs1 (WD.set (x := (a, .inl (K 2, n, .inl f))) h2 hset hS h.2.2.2 a1 a2 a3)
theorem r_get (F : FX p s m args meth c cc own nL ret D K) (h : WD D A H0 H locs S) {i a ci N index : Nat} {seg : va_W} {C : String} {T : u_T} {fs : List Value} {k : Nat} (v : Value) (hin : ∀ w ∈ u_ws C T N, w ∈ TBL) (hc : vwCl[ci]? = some (C, T, N)) (hk : k < N) (hl : Cond.fieldLink own index (T k).1 (T k).2.1 (T k).2.2.1 ∈ TBL) (hs : S[i]? = some seg) (hj : seg[0]? = some (a, .inr (ci, fs))) (hv : fs[k]? = some v) (hdg : decode cc pc = .ok (.getfield index, 3))
    (kk : W p l e R s m args below meth c H locs cells slots Q (F0 m (pc + 3) ls (v :: rest))) : W p l e R s m args below meth c H locs cells slots Q (F0 m pc ls (.ref a :: rest)) := by
  obtain ⟨q0, h1, -⟩ := seg_at hs hj
  exact va_get F.1 F.2.1 F.2.2.2.2.1 hin F.2.2.2.1 F.2.2.2.2.2.1 h.1 q0 h1 hc k hk (F.2.2.2.2.1 _ hl) (fun _ h9 => h9) hv hdg kk
theorem r_put (F : FX p s m args meth c cc own nL ret D K) (h : WD D A H0 H locs S) {i a ci N index : Nat} {seg : va_W} {C : String} {T : u_T} {fs : List Value} {k : Nat} {v : Value} {o1 : ob} {w : ob → va_W} {S' : ob → List va_W} {ty : Nat → FieldType} (hin : ∀ w ∈ u_ws C T N, w ∈ TBL) (hty : ∀ k, k < N → parseFieldDescriptor (T k).2.2.1 = some (ty k)) (hnm : ∀ a, a < N → ∀ b, b < N → a ≠ b → (T a).2.1 ≠ (T b).2.1) (hc : vwCl[ci]? = some (C, T, N)) (hk : k < N) (hl : Cond.fieldLink own index (T k).1 (T k).2.1 (T k).2.2.1 ∈ TBL) (hfin : (T k).2.2.2 = false) (hn : narrow (ty k) v = v) (hfit : fits (ty k) v = true) (hs : S[i]? = some seg) (hj : seg[0]? = some (a, .inr (ci, fs))) (hlen : k < fs.length) (hset : seg.set 0 (a, .inr (ci, fs.set k v)) = w o1) (hS : ∀ t, S.set i (w t) = S' t) (hdg : decode cc pc = .ok (.putfield index, 3))
    (kk : ∀ t, t = o1 → ∀ (H1 : Heap) (locs1 : List Loc), WD D A H0 H1 locs1 (S' t) → W p l e R s m args below meth c H1 locs1 cells slots Q (F0 m (pc + 3) ls rest)) : W p l e R s m args below meth c H locs cells slots Q (F0 m pc ls (v :: .ref a :: rest)) := by
  obtain ⟨q0, h1, h2⟩ := seg_at hs hj
  exact va_put F.1 F.2.1 F.2.2.2.2.1 hin ty hty hnm F.2.2.2.1 F.2.2.2.2.2.1 h.1 h.2.1 h.2.2.1 q0 h1 hc k hk (F.2.2.2.2.1 _ hl) (fun _ h9 => h9) hfin (hty k hk) hn hfit hlen hdg fun H1 locs1 a1 a2 a3 => kk o1 rfl H1 locs1 (WD.set (x := (a, .inr (ci, fs))) h2 hset hS h.2.2.2 a1 a2 a3)
theorem r_ldc (F : FX p s m args meth c cc own nL ret D K) {index : Nat} (v : Int32) (hl : Cond.constant own index v ∈ TBL) (hdg : decode cc pc = .ok (.ldc index, 2)) (kk : W p l e R s m args below meth c H locs cells slots Q (F0 m (pc + 2) ls (.int v :: rest))) : W p l e R s m args below meth c H locs cells slots Q (F0 m pc ls rest) :=
  lv_ldc F.1 F.2.1 F.2.2.2.1 (F.2.2.2.2.1 _ hl) hdg kk
theorem r_ldc2 (F : FX p s m args meth c cc own nL ret D K) {index : Nat} (v : Int64) (hl : Cond.constantLong own index v ∈ TBL) (hdg : decode cc pc = .ok (.ldc2_w index, 3)) (kk : W p l e R s m args below meth c H locs cells slots Q (F0 m (pc + 3) ls (.long v :: rest))) : W p l e R s m args below meth c H locs cells slots Q (F0 m pc ls rest) :=
  lv_ldc2 F.1 F.2.1 F.2.2.2.1 (F.2.2.2.2.1 _ hl) hdg kk
theorem r_reti {r : Int32} {S1 : List va_W} (F : FX p s m args meth c cc own nL (some .int) D K) (h : WD D A s.heap H locs S1) (hdg : decode cc pc = .ok (.ireturn, 1)) : W p l e R s m args below meth c H locs cells slots (MQ below (QiS D A S1 r) args s cells slots A) (F0 m pc ls [.int r]) :=
  W.iret F.1 F.2.1 F.2.2.2.2.2.2.2.1 (fun t ht _ => ⟨⟨r, (), rfl, rfl, by rw [ht]; exact h.1, h.2.1⟩, h.2.2.1.F ht⟩) h.2.2.1.2.2 hdg F.2.2.2.2.2.2.2.2
theorem r_retz {r : Int32} {S1 : List va_W} (F : FX p s m args meth c cc own nL (some .boolean) D K) (h : WD D A s.heap H locs S1) (hr : bz r = true) (hdg : decode cc pc = .ok (.ireturn, 1)) : W p l e R s m args below meth c H locs cells slots (MQ below (QiS D A S1 r) args s cells slots A) (F0 m pc ls [.int r]) :=
  W.zret F.1 F.2.1 F.2.2.2.2.2.2.2.1 (bz_n hr) (fun t ht _ => ⟨⟨r, (), rfl, rfl, by rw [ht]; exact h.1, h.2.1⟩, h.2.2.1.F ht⟩) h.2.2.1.2.2 hdg F.2.2.2.2.2.2.2.2
theorem r_retv {S1 : List va_W} (F : FX p s m args meth c cc own nL none D K) (h : WD D A s.heap H locs S1) (hdg : decode cc pc = .ok (.return_, 1)) : W p l e R s m args below meth c H locs cells slots (MQ below (QvS D A S1) args s cells slots A) (F0 m pc ls []) :=
  W.vret F.1 F.2.1 F.2.2.2.2.2.2.2.1 (fun t ht _ => ⟨⟨(), rfl, trivial, by rw [ht]; exact h.1, h.2.1⟩, h.2.2.1.F ht⟩) h.2.2.1.2.2 hdg F.2.2.2.2.2.2.2.2
/-! calls -/
theorem good_code {y : MethodName} {b : ByteArray} {n : Nat} {r : Option FieldType} (h : Cond.code y b n r ∈ TBL) : GoodIn TBL (.code y b n r :: TBL) := by
  intro w hw
  rcases List.mem_cons.mp hw with rfl | hw
  · exact tbl_good _ h
  · exact tbl_good w hw
theorem PcS_blind {av : List Value} {S0 : List va_W} {sz : Nat} : FrameBlind (PcS D K av S0 sz) := by
  rintro a U g mk ⟨q0, q1, q2, q3, q4, q5⟩
  exact ⟨q0, q1, q2, va_K.moved (u := U) (U := U.calling g mk a) (Vm.Alike.refl U.vm) q3, q4, NW.same rfl q5⟩
theorem PcS_in {av : List Value} {S0 : List va_W} (hK : va_K D vwCl (tys K) s) (hN : NW s) (hP : va_P D vwCl (WL S0) H) (hD : va_D A (WL S0)) (U : State) (hU : U.heap = H) (hW : s.WarmedH U.vm) : PcS D K av S0 H.size av.toArray U :=
  ⟨rfl, by rw [hU], by rw [hU]; exact hP, va_K.moved hW.alike hK, hD.weaken (fun _ _ _ _ => trivial), NW.warm hW hN⟩
/-- the objects for the callee, and behind it -/
theorem split_call {S S' C0 C1 Rr : List va_W} {is : List Nat} (h : WD D A H0 H locs S) (hp : is.isPerm (List.range S.length) = true) (h0 : pick S is = C0 ++ Rr) (h1 : pick S' is = C1 ++ Rr) (hlen : S'.length = S.length) :
    va_P D vwCl (WL C0) H ∧ va_D A (WL C0) ∧ (∀ q, va_A (WL C0) H.size q → A q) ∧ ∀ (H1 : Heap) (locs1 : List Loc), va_P D vwCl (WL C1) H1 → va_D (va_A (WL C0) H.size) (WL C1) → (∀ q : Nat, q < H.size → ¬ va_A (WL C0) H.size q → H1[q]? = H[q]?) → va_S A H0 H1 locs1 → WD D A H0 H1 locs1 S' := by
  have g := h.perm (pick_perm hp).symm
  rw [h0] at g
  have eC : ∀ C : List va_W, WL (C ++ Rr) = WL C ++ WL Rr := fun C => List.flatten_append
  obtain ⟨gP, gD, gS, gA⟩ := g
  rw [eC] at gP gD
  have hF : ∀ q, va_A (WL C0) H.size q → A q := by
    intro q hq
    rcases hq with ⟨k, e, hk⟩ | hq
    · exact (D_iff.mp gD).2 (q, e) (List.mem_append_left _ (List.mem_of_getElem? hk))
    · exact gA q (Nat.le_trans gS.1 hq)
  have hDC : va_D A (WL C0) := by
    rw [D_iff] at gD ⊢
    rw [List.map_append, List.nodup_append] at gD
    exact ⟨gD.1.1, fun q hq => gD.2 q (List.mem_append_left _ hq)⟩
  refine ⟨P_of_mem (fun _ hq => List.mem_append_left _ hq) gP, hDC, hF, fun H1 locs1 hP1 hD1 hk hS1 => ?_⟩
  obtain ⟨jP, jD⟩ := join2 gP gD hk hF hP1 hD1
  have hp' : is.isPerm (List.range S'.length) = true := by rw [hlen]; exact hp
  have pp := pick_perm hp'
  rw [h1, eC] at pp
  exact ⟨P_perm pp jP, D_perm pp jD, hS1, gA⟩
theorem r_callVi {As : List Value} {y : MethodName} {b : ByteArray} {nL' fr lo n index a i ci : Nat} {rt : Option FieldType} {S' C0 C1 Rr : List va_W} {is : List Nat} {r : Int32} {fs : List Value} {seg : va_W} {q : vw_C} {lv : List (Nat × Value)} (F : FX p s m args meth c cc own nL ret D K) (h : WD D A H0 H locs S) (hlv : lv_has ls nL lv) (hM : CTi l y b nL' rt fr lo D K (.ref a :: As) C0 C1 r)
    (is : List Nat) (hp : is.isPerm (List.range S.length) = true) (h0 : pick S is = C0 ++ Rr) (h1 : pick S' is = C1 ++ Rr) (hlen : S'.length = S.length) (hq : vwCl[ci]? = some q) (hs : S[i]? = some seg) (hj : seg[0]? = some (a, .inr (ci, fs))) (hcode : Cond.code y b nL' rt ∈ TBL) (hw : Cond.methodLink own index y ∈ TBL ∧ Cond.instanceMethod y ∈ TBL ∧ Cond.selects q.1 y y ∈ TBL ∧ Cond.initialized q.1 ∈ TBL)
    (hd : y.cls = q.1 ∧ y.cls ≠ "java/lang/invoke/MethodHandle" ∧ y.cls ≠ "java/lang/invoke/VarHandle" ∧ (parseMethodDescriptor y.desc).map (fun d => d.parameters.length) = some As.length) (hR : fr + 1 ≤ R.frames ∧ 8 + (nL' + 11) + lo ≤ R.locals) (hcs : cells ≤ R.cells ∧ slots ≤ R.slots) (hrest : (rest.map fun v => v.category).sum ≤ 8) (hdg : decode cc pc = .ok (.invokevirtual index, 3))
    (kk : ∀ (H1 : Heap) (locs1 : List Loc), WD D A H0 H1 locs1 S' → W p l e R s m args below meth c H1 locs1 cells slots Q (F0 m (pc + 3) ls (.int r :: rest))) : W p l e R s m args below meth c H locs cells slots Q (F0 m pc ls (As.reverse ++ .ref a :: rest)) := by
  obtain ⟨cP, cD, cF, back⟩ := split_call h hp h0 h1 hlen
  have hts := F.2.2.2.2.1
  have hG : GoodIn TBL (wsV own index q.1 y (.code y b nL' rt :: TBL)) := by
    intro w hw9
    rcases List.mem_append.mp (show w ∈ ([.methodLink own index y, .instanceMethod y, .selects q.1 y y, .initialized q.1] : List Cond) ++ _ from hw9) with h9 | h9
    · simp only [List.mem_cons, List.not_mem_nil, or_false] at h9
      rcases h9 with rfl | rfl | rfl | rfl
      · exact tbl_good _ hw.1
      · exact tbl_good _ hw.2.1
      · exact tbl_good _ hw.2.2.1
      · exact tbl_good _ hw.2.2.2
    · exact good_code hcode w h9
  obtain ⟨q0, e1, -⟩ := seg_at hs hj
  have cw : CallW R s args own q.1 index y b nL' rt (.code y b nL' rt :: TBL) (rmS fr lo) 0 0 As.length := cwV As.length hts hG rfl rfl rfl hd hR
  refine va_calli (va_runV (As := As) (rest := rest) ⟨F.1, F.2.1, F.2.2.1, F.2.2.2.1, hts⟩ (hM H.size) cw ⟨PcS_blind, va_recv F.2.2.2.2.2.1 h.1 hq e1, fun U hU hW => PcS_in F.2.2.2.2.2.1 F.2.2.2.2.2.2.1 cP cD U hU hW⟩ rfl rfl hlv.1 rfl (lv_room hrest) hdg ⟨hcs.1, hcs.2⟩) h.2.2.1 (fun q _ h9 => cF q h9) cF (fun r' u t H1 locs1 ht hvm hw hB hz1 hk1 hS1 => ?_)
  have hw : r' = r := hw
  subst hw
  obtain ⟨b1, b2⟩ := hB
  rw [ht] at b1
  exact kk H1 locs1 (back H1 locs1 b1 b2 hk1 hS1)
end ROWS
end
