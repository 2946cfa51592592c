section
-- ===== PART A: goes FIRST, ahead of the names: the tables' words, and 'selects' of the private methods out of them =====
/-- a private method of a class that the tables say can be made, by its rows of tables_1 -/
def lw_okq (q : MethodName × Nat) : Prop := (q.1.cls ≠ "java/lang/invoke/MethodHandle" ∧ q.1.cls ≠ "java/lang/invoke/VarHandle") ∧ Cond.instantiable q.1.cls q.2 ∈ tables_1 ∧ Cond.privateMethod q.1 ∈ tables_1 ∧ Cond.instanceMethod q.1 ∈ tables_1
theorem lw_p0 : lw_okq (⟨"WokenOnce$BellReader", "beginPart", "(I)V"⟩, 6) := ⟨⟨by decide +kernel, by decide +kernel⟩, List.mem_of_getElem? (i := 41) (by decide +kernel), List.mem_of_getElem? (i := 316) (by decide +kernel), List.mem_of_getElem? (i := 317) (by decide +kernel)⟩
theorem lw_p1 : lw_okq (⟨"WokenOnce$BellReader", "takesDash", "(I)Z"⟩, 6) := ⟨⟨by decide +kernel, by decide +kernel⟩, List.mem_of_getElem? (i := 41) (by decide +kernel), List.mem_of_getElem? (i := 334) (by decide +kernel), List.mem_of_getElem? (i := 335) (by decide +kernel)⟩
theorem lw_p2 : lw_okq (⟨"WokenOnce$BellReader", "takesLetter", "(I)Z"⟩, 6) := ⟨⟨by decide +kernel, by decide +kernel⟩, List.mem_of_getElem? (i := 41) (by decide +kernel), List.mem_of_getElem? (i := 338) (by decide +kernel), List.mem_of_getElem? (i := 339) (by decide +kernel)⟩
theorem lw_p3 : lw_okq (⟨"WokenOnce$BellReader", "takesSlash", "(I)Z"⟩, 6) := ⟨⟨by decide +kernel, by decide +kernel⟩, List.mem_of_getElem? (i := 41) (by decide +kernel), List.mem_of_getElem? (i := 342) (by decide +kernel), List.mem_of_getElem? (i := 343) (by decide +kernel)⟩
theorem lw_p4 : lw_okq (⟨"WokenOnce$BellReader", "takesDigit", "(I)Z"⟩, 6) := ⟨⟨by decide +kernel, by decide +kernel⟩, List.mem_of_getElem? (i := 41) (by decide +kernel), List.mem_of_getElem? (i := 346) (by decide +kernel), List.mem_of_getElem? (i := 347) (by decide +kernel)⟩
theorem lw_p5 : lw_okq (⟨"WokenOnce$RuleReader", "takesPlus", "(I)Z"⟩, 6) := ⟨⟨by decide +kernel, by decide +kernel⟩, List.mem_of_getElem? (i := 71) (by decide +kernel), List.mem_of_getElem? (i := 353) (by decide +kernel), List.mem_of_getElem? (i := 354) (by decide +kernel)⟩
theorem lw_p6 : lw_okq (⟨"WokenOnce$RuleReader", "takesSleeper", "(I)Z"⟩, 6) := ⟨⟨by decide +kernel, by decide +kernel⟩, List.mem_of_getElem? (i := 71) (by decide +kernel), List.mem_of_getElem? (i := 357) (by decide +kernel), List.mem_of_getElem? (i := 358) (by decide +kernel)⟩
theorem lw_p7 : lw_okq (⟨"WokenOnce$RuleReader", "takesTens", "(I)Z"⟩, 6) := ⟨⟨by decide +kernel, by decide +kernel⟩, List.mem_of_getElem? (i := 71) (by decide +kernel), List.mem_of_getElem? (i := 361) (by decide +kernel), List.mem_of_getElem? (i := 362) (by decide +kernel)⟩
theorem lw_p8 : lw_okq (⟨"WokenOnce", "aboutThing", "(II)I"⟩, 12) := ⟨⟨by decide +kernel, by decide +kernel⟩, List.mem_of_getElem? (i := 18) (by decide +kernel), List.mem_of_getElem? (i := 477) (by decide +kernel), List.mem_of_getElem? (i := 478) (by decide +kernel)⟩
theorem lw_p9 : lw_okq (⟨"WokenOnce", "mayAll", "(I)Z"⟩, 12) := ⟨⟨by decide +kernel, by decide +kernel⟩, List.mem_of_getElem? (i := 18) (by decide +kernel), List.mem_of_getElem? (i := 516) (by decide +kernel), List.mem_of_getElem? (i := 517) (by decide +kernel)⟩
theorem lw_p10 : lw_okq (⟨"WokenOnce", "makePlan", "()V"⟩, 12) := ⟨⟨by decide +kernel, by decide +kernel⟩, List.mem_of_getElem? (i := 18) (by decide +kernel), List.mem_of_getElem? (i := 546) (by decide +kernel), List.mem_of_getElem? (i := 547) (by decide +kernel)⟩
theorem lw_p11 : lw_okq (⟨"WokenOnce", "planThing", "(IIJ)V"⟩, 12) := ⟨⟨by decide +kernel, by decide +kernel⟩, List.mem_of_getElem? (i := 18) (by decide +kernel), List.mem_of_getElem? (i := 561) (by decide +kernel), List.mem_of_getElem? (i := 562) (by decide +kernel)⟩
theorem lw_p12 : lw_okq (⟨"WokenOnce$Choices", "add", "(LWokenOnce$House;II)V"⟩, 6) := ⟨⟨by decide +kernel, by decide +kernel⟩, List.mem_of_getElem? (i := 216) (by decide +kernel), List.mem_of_getElem? (i := 579) (by decide +kernel), List.mem_of_getElem? (i := 580) (by decide +kernel)⟩
theorem lw_p13 : lw_okq (⟨"WokenOnce", "asleep", "()I"⟩, 12) := ⟨⟨by decide +kernel, by decide +kernel⟩, List.mem_of_getElem? (i := 18) (by decide +kernel), List.mem_of_getElem? (i := 599) (by decide +kernel), List.mem_of_getElem? (i := 600) (by decide +kernel)⟩
theorem lw_p14 : lw_okq (⟨"WokenOnce", "plannedSet", "(III)I"⟩, 12) := ⟨⟨by decide +kernel, by decide +kernel⟩, List.mem_of_getElem? (i := 18) (by decide +kernel), List.mem_of_getElem? (i := 613) (by decide +kernel), List.mem_of_getElem? (i := 614) (by decide +kernel)⟩
theorem lw_p15 : lw_okq (⟨"WokenOnce", "expectNothing", "(I)V"⟩, 12) := ⟨⟨by decide +kernel, by decide +kernel⟩, List.mem_of_getElem? (i := 18) (by decide +kernel), List.mem_of_getElem? (i := 621) (by decide +kernel), List.mem_of_getElem? (i := 622) (by decide +kernel)⟩
def lw_privs_1 : List (MethodName × Nat) := [(⟨"WokenOnce$BellReader", "beginPart", "(I)V"⟩, 6), (⟨"WokenOnce$BellReader", "takesDash", "(I)Z"⟩, 6), (⟨"WokenOnce$BellReader", "takesLetter", "(I)Z"⟩, 6), (⟨"WokenOnce$BellReader", "takesSlash", "(I)Z"⟩, 6), (⟨"WokenOnce$BellReader", "takesDigit", "(I)Z"⟩, 6), (⟨"WokenOnce$RuleReader", "takesPlus", "(I)Z"⟩, 6), (⟨"WokenOnce$RuleReader", "takesSleeper", "(I)Z"⟩, 6), (⟨"WokenOnce$RuleReader", "takesTens", "(I)Z"⟩, 6), (⟨"WokenOnce", "aboutThing", "(II)I"⟩, 12), (⟨"WokenOnce", "mayAll", "(I)Z"⟩, 12), (⟨"WokenOnce", "makePlan", "()V"⟩, 12), (⟨"WokenOnce", "planThing", "(IIJ)V"⟩, 12), (⟨"WokenOnce$Choices", "add", "(LWokenOnce$House;II)V"⟩, 6), (⟨"WokenOnce", "asleep", "()I"⟩, 12), (⟨"WokenOnce", "plannedSet", "(III)I"⟩, 12), (⟨"WokenOnce", "expectNothing", "(I)V"⟩, 12)]
theorem lw_r1 : ∀ q ∈ lw_privs_1, lw_okq q := List.forall_mem_cons.mpr ⟨lw_p0, List.forall_mem_cons.mpr ⟨lw_p1, List.forall_mem_cons.mpr ⟨lw_p2, List.forall_mem_cons.mpr ⟨lw_p3, List.forall_mem_cons.mpr ⟨lw_p4, List.forall_mem_cons.mpr ⟨lw_p5, List.forall_mem_cons.mpr ⟨lw_p6, List.forall_mem_cons.mpr ⟨lw_p7, List.forall_mem_cons.mpr ⟨lw_p8, List.forall_mem_cons.mpr ⟨lw_p9, List.forall_mem_cons.mpr ⟨lw_p10, List.forall_mem_cons.mpr ⟨lw_p11, List.forall_mem_cons.mpr ⟨lw_p12, List.forall_mem_cons.mpr ⟨lw_p13, List.forall_mem_cons.mpr ⟨lw_p14, List.forall_mem_cons.mpr ⟨lw_p15, fun _ h => absurd h List.not_mem_nil⟩⟩⟩⟩⟩⟩⟩⟩⟩⟩⟩⟩⟩⟩⟩⟩
theorem lw_p16 : lw_okq (⟨"WokenOnce", "fearThing", "(II)V"⟩, 12) := ⟨⟨by decide +kernel, by decide +kernel⟩, List.mem_of_getElem? (i := 18) (by decide +kernel), List.mem_of_getElem? (i := 626) (by decide +kernel), List.mem_of_getElem? (i := 627) (by decide +kernel)⟩
theorem lw_p17 : lw_okq (⟨"WokenOnce", "expectThing", "(II)V"⟩, 12) := ⟨⟨by decide +kernel, by decide +kernel⟩, List.mem_of_getElem? (i := 18) (by decide +kernel), List.mem_of_getElem? (i := 645) (by decide +kernel), List.mem_of_getElem? (i := 646) (by decide +kernel)⟩
theorem lw_p18 : lw_okq (⟨"WokenOnce", "beginWays", "(II)V"⟩, 12) := ⟨⟨by decide +kernel, by decide +kernel⟩, List.mem_of_getElem? (i := 18) (by decide +kernel), List.mem_of_getElem? (i := 654) (by decide +kernel), List.mem_of_getElem? (i := 655) (by decide +kernel)⟩
theorem lw_p19 : lw_okq (⟨"WokenOnce", "weighHour", "(I)J"⟩, 12) := ⟨⟨by decide +kernel, by decide +kernel⟩, List.mem_of_getElem? (i := 18) (by decide +kernel), List.mem_of_getElem? (i := 658) (by decide +kernel), List.mem_of_getElem? (i := 659) (by decide +kernel)⟩
theorem lw_p20 : lw_okq (⟨"WokenOnce", "weighThings", "(IIJ)J"⟩, 12) := ⟨⟨by decide +kernel, by decide +kernel⟩, List.mem_of_getElem? (i := 18) (by decide +kernel), List.mem_of_getElem? (i := 662) (by decide +kernel), List.mem_of_getElem? (i := 663) (by decide +kernel)⟩
theorem lw_p21 : lw_okq (⟨"WokenOnce", "ruledSet", "(III)I"⟩, 12) := ⟨⟨by decide +kernel, by decide +kernel⟩, List.mem_of_getElem? (i := 18) (by decide +kernel), List.mem_of_getElem? (i := 666) (by decide +kernel), List.mem_of_getElem? (i := 667) (by decide +kernel)⟩
theorem lw_p22 : lw_okq (⟨"WokenOnce", "isBetterRoster", "(II)Z"⟩, 12) := ⟨⟨by decide +kernel, by decide +kernel⟩, List.mem_of_getElem? (i := 18) (by decide +kernel), List.mem_of_getElem? (i := 688) (by decide +kernel), List.mem_of_getElem? (i := 689) (by decide +kernel)⟩
theorem lw_p23 : lw_okq (⟨"WokenOnce", "waysTo", "(III)J"⟩, 12) := ⟨⟨by decide +kernel, by decide +kernel⟩, List.mem_of_getElem? (i := 18) (by decide +kernel), List.mem_of_getElem? (i := 701) (by decide +kernel), List.mem_of_getElem? (i := 702) (by decide +kernel)⟩
theorem lw_p24 : lw_okq (⟨"WokenOnce", "goOn", "(IIJI)V"⟩, 12) := ⟨⟨by decide +kernel, by decide +kernel⟩, List.mem_of_getElem? (i := 18) (by decide +kernel), List.mem_of_getElem? (i := 705) (by decide +kernel), List.mem_of_getElem? (i := 706) (by decide +kernel)⟩
theorem lw_p25 : lw_okq (⟨"WokenOnce", "drawNight", "(II)I"⟩, 12) := ⟨⟨by decide +kernel, by decide +kernel⟩, List.mem_of_getElem? (i := 18) (by decide +kernel), List.mem_of_getElem? (i := 717) (by decide +kernel), List.mem_of_getElem? (i := 718) (by decide +kernel)⟩
theorem lw_p26 : lw_okq (⟨"WokenOnce", "digestOfHouse", "(J)J"⟩, 12) := ⟨⟨by decide +kernel, by decide +kernel⟩, List.mem_of_getElem? (i := 18) (by decide +kernel), List.mem_of_getElem? (i := 759) (by decide +kernel), List.mem_of_getElem? (i := 760) (by decide +kernel)⟩
theorem lw_p27 : lw_okq (⟨"WokenOnceModel", "bellFault", "()I"⟩, 38) := ⟨⟨by decide +kernel, by decide +kernel⟩, List.mem_of_getElem? (i := 774) (by decide +kernel), List.mem_of_getElem? (i := 908) (by decide +kernel), List.mem_of_getElem? (i := 909) (by decide +kernel)⟩
theorem lw_p28 : lw_okq (⟨"WokenOnceModel", "goBell", "(I)Z"⟩, 38) := ⟨⟨by decide +kernel, by decide +kernel⟩, List.mem_of_getElem? (i := 774) (by decide +kernel), List.mem_of_getElem? (i := 912) (by decide +kernel), List.mem_of_getElem? (i := 913) (by decide +kernel)⟩
theorem lw_p29 : lw_okq (⟨"WokenOnceModel", "readTenths", "()I"⟩, 38) := ⟨⟨by decide +kernel, by decide +kernel⟩, List.mem_of_getElem? (i := 774) (by decide +kernel), List.mem_of_getElem? (i := 921) (by decide +kernel), List.mem_of_getElem? (i := 922) (by decide +kernel)⟩
theorem lw_p30 : lw_okq (⟨"WokenOnceModel", "ruleFault", "()I"⟩, 38) := ⟨⟨by decide +kernel, by decide +kernel⟩, List.mem_of_getElem? (i := 774) (by decide +kernel), List.mem_of_getElem? (i := 927) (by decide +kernel), List.mem_of_getElem? (i := 928) (by decide +kernel)⟩
theorem lw_p31 : lw_okq (⟨"WokenOnceModel", "goRule", "(I)Z"⟩, 38) := ⟨⟨by decide +kernel, by decide +kernel⟩, List.mem_of_getElem? (i := 774) (by decide +kernel), List.mem_of_getElem? (i := 931) (by decide +kernel), List.mem_of_getElem? (i := 932) (by decide +kernel)⟩
def lw_privs_2 : List (MethodName × Nat) := [(⟨"WokenOnce", "fearThing", "(II)V"⟩, 12), (⟨"WokenOnce", "expectThing", "(II)V"⟩, 12), (⟨"WokenOnce", "beginWays", "(II)V"⟩, 12), (⟨"WokenOnce", "weighHour", "(I)J"⟩, 12), (⟨"WokenOnce", "weighThings", "(IIJ)J"⟩, 12), (⟨"WokenOnce", "ruledSet", "(III)I"⟩, 12), (⟨"WokenOnce", "isBetterRoster", "(II)Z"⟩, 12), (⟨"WokenOnce", "waysTo", "(III)J"⟩, 12), (⟨"WokenOnce", "goOn", "(IIJI)V"⟩, 12), (⟨"WokenOnce", "drawNight", "(II)I"⟩, 12), (⟨"WokenOnce", "digestOfHouse", "(J)J"⟩, 12), (⟨"WokenOnceModel", "bellFault", "()I"⟩, 38), (⟨"WokenOnceModel", "goBell", "(I)Z"⟩, 38), (⟨"WokenOnceModel", "readTenths", "()I"⟩, 38), (⟨"WokenOnceModel", "ruleFault", "()I"⟩, 38), (⟨"WokenOnceModel", "goRule", "(I)Z"⟩, 38)]
theorem lw_r2 : ∀ q ∈ lw_privs_2, lw_okq q := List.forall_mem_cons.mpr ⟨lw_p16, List.forall_mem_cons.mpr ⟨lw_p17, List.forall_mem_cons.mpr ⟨lw_p18, List.forall_mem_cons.mpr ⟨lw_p19, List.forall_mem_cons.mpr ⟨lw_p20, List.forall_mem_cons.mpr ⟨lw_p21, List.forall_mem_cons.mpr ⟨lw_p22, List.forall_mem_cons.mpr ⟨lw_p23, List.forall_mem_cons.mpr ⟨lw_p24, List.forall_mem_cons.mpr ⟨lw_p25, List.forall_mem_cons.mpr ⟨lw_p26, List.forall_mem_cons.mpr ⟨lw_p27, List.forall_mem_cons.mpr ⟨lw_p28, List.forall_mem_cons.mpr ⟨lw_p29, List.forall_mem_cons.mpr ⟨lw_p30, List.forall_mem_cons.mpr ⟨lw_p31, fun _ h => absurd h List.not_mem_nil⟩⟩⟩⟩⟩⟩⟩⟩⟩⟩⟩⟩⟩⟩⟩⟩
theorem lw_p32 : lw_okq (⟨"WokenOnceModel", "isSleeper", "(I)Z"⟩, 38) := ⟨⟨by decide +kernel, by decide +kernel⟩, List.mem_of_getElem? (i := 774) (by decide +kernel), List.mem_of_getElem? (i := 936) (by decide +kernel), List.mem_of_getElem? (i := 937) (by decide +kernel)⟩
theorem lw_p33 : lw_okq (⟨"WokenOnceModel", "tellSleeper", "(II)I"⟩, 38) := ⟨⟨by decide +kernel, by decide +kernel⟩, List.mem_of_getElem? (i := 774) (by decide +kernel), List.mem_of_getElem? (i := 972) (by decide +kernel), List.mem_of_getElem? (i := 973) (by decide +kernel)⟩
theorem lw_p34 : lw_okq (⟨"WokenOnceModel", "mends", "(III)I"⟩, 38) := ⟨⟨by decide +kernel, by decide +kernel⟩, List.mem_of_getElem? (i := 774) (by decide +kernel), List.mem_of_getElem? (i := 978) (by decide +kernel), List.mem_of_getElem? (i := 979) (by decide +kernel)⟩
theorem lw_p35 : lw_okq (⟨"WokenOnceModel", "mayWake", "(III)Z"⟩, 38) := ⟨⟨by decide +kernel, by decide +kernel⟩, List.mem_of_getElem? (i := 774) (by decide +kernel), List.mem_of_getElem? (i := 982) (by decide +kernel), List.mem_of_getElem? (i := 983) (by decide +kernel)⟩
theorem lw_p36 : lw_okq (⟨"WokenOnceModel", "mayAll", "(III)Z"⟩, 38) := ⟨⟨by decide +kernel, by decide +kernel⟩, List.mem_of_getElem? (i := 774) (by decide +kernel), List.mem_of_getElem? (i := 998) (by decide +kernel), List.mem_of_getElem? (i := 999) (by decide +kernel)⟩
theorem lw_p37 : lw_okq (⟨"WokenOnceModel", "mendedBy", "(III)I"⟩, 38) := ⟨⟨by decide +kernel, by decide +kernel⟩, List.mem_of_getElem? (i := 774) (by decide +kernel), List.mem_of_getElem? (i := 1002) (by decide +kernel), List.mem_of_getElem? (i := 1003) (by decide +kernel)⟩
theorem lw_p38 : lw_okq (⟨"WokenOnceModel", "goneBy", "(II)I"⟩, 38) := ⟨⟨by decide +kernel, by decide +kernel⟩, List.mem_of_getElem? (i := 774) (by decide +kernel), List.mem_of_getElem? (i := 1006) (by decide +kernel), List.mem_of_getElem? (i := 1007) (by decide +kernel)⟩
theorem lw_p39 : lw_okq (⟨"WokenOnceModel", "tellBest", "(I)J"⟩, 38) := ⟨⟨by decide +kernel, by decide +kernel⟩, List.mem_of_getElem? (i := 774) (by decide +kernel), List.mem_of_getElem? (i := 1021) (by decide +kernel), List.mem_of_getElem? (i := 1022) (by decide +kernel)⟩
theorem lw_p40 : lw_okq (⟨"WokenOnceModel", "layBests", "()V"⟩, 38) := ⟨⟨by decide +kernel, by decide +kernel⟩, List.mem_of_getElem? (i := 774) (by decide +kernel), List.mem_of_getElem? (i := 1025) (by decide +kernel), List.mem_of_getElem? (i := 1026) (by decide +kernel)⟩
theorem lw_p41 : lw_okq (⟨"WokenOnceModel", "bestSet", "(III)I"⟩, 38) := ⟨⟨by decide +kernel, by decide +kernel⟩, List.mem_of_getElem? (i := 774) (by decide +kernel), List.mem_of_getElem? (i := 1029) (by decide +kernel), List.mem_of_getElem? (i := 1030) (by decide +kernel)⟩
theorem lw_p42 : lw_okq (⟨"WokenOnceModel", "worstOf", "()I"⟩, 38) := ⟨⟨by decide +kernel, by decide +kernel⟩, List.mem_of_getElem? (i := 774) (by decide +kernel), List.mem_of_getElem? (i := 1045) (by decide +kernel), List.mem_of_getElem? (i := 1046) (by decide +kernel)⟩
theorem lw_p43 : lw_okq (⟨"WokenOnceModel", "knownOf", "(I)I"⟩, 38) := ⟨⟨by decide +kernel, by decide +kernel⟩, List.mem_of_getElem? (i := 774) (by decide +kernel), List.mem_of_getElem? (i := 1057) (by decide +kernel), List.mem_of_getElem? (i := 1058) (by decide +kernel)⟩
theorem lw_p44 : lw_okq (⟨"WokenOnceModel", "tellRule", "(I)J"⟩, 38) := ⟨⟨by decide +kernel, by decide +kernel⟩, List.mem_of_getElem? (i := 774) (by decide +kernel), List.mem_of_getElem? (i := 1069) (by decide +kernel), List.mem_of_getElem? (i := 1070) (by decide +kernel)⟩
theorem lw_p45 : lw_okq (⟨"WokenOnceModel", "byRuleOne", "(III)I"⟩, 38) := ⟨⟨by decide +kernel, by decide +kernel⟩, List.mem_of_getElem? (i := 774) (by decide +kernel), List.mem_of_getElem? (i := 1073) (by decide +kernel), List.mem_of_getElem? (i := 1074) (by decide +kernel)⟩
theorem lw_p46 : lw_okq (⟨"WokenOnceModel", "rosterOf", "(I)I"⟩, 38) := ⟨⟨by decide +kernel, by decide +kernel⟩, List.mem_of_getElem? (i := 774) (by decide +kernel), List.mem_of_getElem? (i := 1087) (by decide +kernel), List.mem_of_getElem? (i := 1088) (by decide +kernel)⟩
theorem lw_p47 : lw_okq (⟨"WokenOnceModel", "isSet", "(I)Z"⟩, 38) := ⟨⟨by decide +kernel, by decide +kernel⟩, List.mem_of_getElem? (i := 774) (by decide +kernel), List.mem_of_getElem? (i := 1095) (by decide +kernel), List.mem_of_getElem? (i := 1096) (by decide +kernel)⟩
def lw_privs_3 : List (MethodName × Nat) := [(⟨"WokenOnceModel", "isSleeper", "(I)Z"⟩, 38), (⟨"WokenOnceModel", "tellSleeper", "(II)I"⟩, 38), (⟨"WokenOnceModel", "mends", "(III)I"⟩, 38), (⟨"WokenOnceModel", "mayWake", "(III)Z"⟩, 38), (⟨"WokenOnceModel", "mayAll", "(III)Z"⟩, 38), (⟨"WokenOnceModel", "mendedBy", "(III)I"⟩, 38), (⟨"WokenOnceModel", "goneBy", "(II)I"⟩, 38), (⟨"WokenOnceModel", "tellBest", "(I)J"⟩, 38), (⟨"WokenOnceModel", "layBests", "()V"⟩, 38), (⟨"WokenOnceModel", "bestSet", "(III)I"⟩, 38), (⟨"WokenOnceModel", "worstOf", "()I"⟩, 38), (⟨"WokenOnceModel", "knownOf", "(I)I"⟩, 38), (⟨"WokenOnceModel", "tellRule", "(I)J"⟩, 38), (⟨"WokenOnceModel", "byRuleOne", "(III)I"⟩, 38), (⟨"WokenOnceModel", "rosterOf", "(I)I"⟩, 38), (⟨"WokenOnceModel", "isSet", "(I)Z"⟩, 38)]
theorem lw_r3 : ∀ q ∈ lw_privs_3, lw_okq q := List.forall_mem_cons.mpr ⟨lw_p32, List.forall_mem_cons.mpr ⟨lw_p33, List.forall_mem_cons.mpr ⟨lw_p34, List.forall_mem_cons.mpr ⟨lw_p35, List.forall_mem_cons.mpr ⟨lw_p36, List.forall_mem_cons.mpr ⟨lw_p37, List.forall_mem_cons.mpr ⟨lw_p38, List.forall_mem_cons.mpr ⟨lw_p39, List.forall_mem_cons.mpr ⟨lw_p40, List.forall_mem_cons.mpr ⟨lw_p41, List.forall_mem_cons.mpr ⟨lw_p42, List.forall_mem_cons.mpr ⟨lw_p43, List.forall_mem_cons.mpr ⟨lw_p44, List.forall_mem_cons.mpr ⟨lw_p45, List.forall_mem_cons.mpr ⟨lw_p46, List.forall_mem_cons.mpr ⟨lw_p47, fun _ h => absurd h List.not_mem_nil⟩⟩⟩⟩⟩⟩⟩⟩⟩⟩⟩⟩⟩⟩⟩⟩
theorem lw_p48 : lw_okq (⟨"WokenOnceModel", "laySeen", "(I)I"⟩, 38) := ⟨⟨by decide +kernel, by decide +kernel⟩, List.mem_of_getElem? (i := 774) (by decide +kernel), List.mem_of_getElem? (i := 1099) (by decide +kernel), List.mem_of_getElem? (i := 1100) (by decide +kernel)⟩
theorem lw_p49 : lw_okq (⟨"WokenOnceModel", "isSeen", "(II)Z"⟩, 38) := ⟨⟨by decide +kernel, by decide +kernel⟩, List.mem_of_getElem? (i := 774) (by decide +kernel), List.mem_of_getElem? (i := 1103) (by decide +kernel), List.mem_of_getElem? (i := 1104) (by decide +kernel)⟩
theorem lw_p50 : lw_okq (⟨"WokenOnceModel", "drawnThing", "(I)I"⟩, 38) := ⟨⟨by decide +kernel, by decide +kernel⟩, List.mem_of_getElem? (i := 774) (by decide +kernel), List.mem_of_getElem? (i := 1116) (by decide +kernel), List.mem_of_getElem? (i := 1117) (by decide +kernel)⟩
theorem lw_p51 : lw_okq (⟨"WokenOnceModel", "draw", "(I)I"⟩, 38) := ⟨⟨by decide +kernel, by decide +kernel⟩, List.mem_of_getElem? (i := 774) (by decide +kernel), List.mem_of_getElem? (i := 1120) (by decide +kernel), List.mem_of_getElem? (i := 1121) (by decide +kernel)⟩
theorem lw_p52 : lw_okq (⟨"WokenOnceModel", "countOf", "(I)I"⟩, 38) := ⟨⟨by decide +kernel, by decide +kernel⟩, List.mem_of_getElem? (i := 774) (by decide +kernel), List.mem_of_getElem? (i := 1140) (by decide +kernel), List.mem_of_getElem? (i := 1141) (by decide +kernel)⟩
theorem lw_p53 : lw_okq (⟨"WokenOnceModel", "say", "(J)V"⟩, 38) := ⟨⟨by decide +kernel, by decide +kernel⟩, List.mem_of_getElem? (i := 774) (by decide +kernel), List.mem_of_getElem? (i := 1149) (by decide +kernel), List.mem_of_getElem? (i := 1150) (by decide +kernel)⟩
theorem lw_p54 : lw_okq (⟨"WokenOnceModel", "saySleeper", "(I)V"⟩, 38) := ⟨⟨by decide +kernel, by decide +kernel⟩, List.mem_of_getElem? (i := 774) (by decide +kernel), List.mem_of_getElem? (i := 1154) (by decide +kernel), List.mem_of_getElem? (i := 1155) (by decide +kernel)⟩
def lw_privs_4 : List (MethodName × Nat) := [(⟨"WokenOnceModel", "laySeen", "(I)I"⟩, 38), (⟨"WokenOnceModel", "isSeen", "(II)Z"⟩, 38), (⟨"WokenOnceModel", "drawnThing", "(I)I"⟩, 38), (⟨"WokenOnceModel", "draw", "(I)I"⟩, 38), (⟨"WokenOnceModel", "countOf", "(I)I"⟩, 38), (⟨"WokenOnceModel", "say", "(J)V"⟩, 38), (⟨"WokenOnceModel", "saySleeper", "(I)V"⟩, 38)]
theorem lw_r4 : ∀ q ∈ lw_privs_4, lw_okq q := List.forall_mem_cons.mpr ⟨lw_p48, List.forall_mem_cons.mpr ⟨lw_p49, List.forall_mem_cons.mpr ⟨lw_p50, List.forall_mem_cons.mpr ⟨lw_p51, List.forall_mem_cons.mpr ⟨lw_p52, List.forall_mem_cons.mpr ⟨lw_p53, List.forall_mem_cons.mpr ⟨lw_p54, fun _ h => absurd h List.not_mem_nil⟩⟩⟩⟩⟩⟩⟩
def lw_privs : List (MethodName × Nat) := lw_privs_1 ++ (lw_privs_2 ++ (lw_privs_3 ++ (lw_privs_4)))
def lw_tbl : List Cond := k2_sels lw_privs ++ tables_1
theorem lw_privs_ok : ∀ q ∈ lw_privs, lw_okq q := by
  show ∀ q ∈ lw_privs_1 ++ (lw_privs_2 ++ (lw_privs_3 ++ (lw_privs_4))), lw_okq q
  exact List.forall_mem_append.mpr ⟨lw_r1, List.forall_mem_append.mpr ⟨lw_r2, List.forall_mem_append.mpr ⟨lw_r3, lw_r4⟩⟩⟩
end
section
def RX0 : String := "WokenOnce$Bell"
def TX0 : u_T := fun k => match k with
  | 0 => ("WokenOnce$Bell", "chances", "[I", true)
  | _ => ("WokenOnce$Bell", "pairs", "I", false)
def tyX0 : Nat → FieldType := fun k => match k with
  | 0 => .array .int
  | _ => .int
theorem nmX0 : ∀ a, a < 2 → ∀ b, b < 2 → a ≠ b → (TX0 a).2.1 ≠ (TX0 b).2.1 := by decide +kernel
theorem tyX0_ok : ∀ k, k < 2 → parseFieldDescriptor (TX0 k).2.2.1 = some (tyX0 k) := by decide +kernel
def RX1 : String := "WokenOnce$BellReader"
def TX1 : u_T := fun k => match k with
  | 0 => ("WokenOnce$BellReader", "chances", "[I", true)
  | 1 => ("WokenOnce$BellReader", "pairs", "I", false)
  | 2 => ("WokenOnce$BellReader", "hour", "I", false)
  | 3 => ("WokenOnce$BellReader", "thing", "I", false)
  | 4 => ("WokenOnce$BellReader", "sum", "I", false)
  | _ => ("WokenOnce$BellReader", "place", "I", false)
def tyX1 : Nat → FieldType := fun k => match k with
  | 0 => .array .int
  | 1 => .int
  | 2 => .int
  | 3 => .int
  | 4 => .int
  | _ => .int
theorem nmX1 : ∀ a, a < 6 → ∀ b, b < 6 → a ≠ b → (TX1 a).2.1 ≠ (TX1 b).2.1 := by decide +kernel
theorem tyX1_ok : ∀ k, k < 6 → parseFieldDescriptor (TX1 k).2.2.1 = some (tyX1 k) := by decide +kernel
def RX2 : String := "WokenOnce$Choices"
def TX2 : u_T := fun k => match k with
  | 0 => ("WokenOnce$Choices", "sets", "[I", true)
  | 1 => ("WokenOnce$Choices", "spent", "[I", true)
  | 2 => ("WokenOnce$Choices", "gains", "[J", true)
  | 3 => ("WokenOnce$Choices", "alone", "[I", true)
  | 4 => ("WokenOnce$Choices", "size", "I", false)
  | _ => ("WokenOnce$Choices", "picked", "I", false)
def tyX2 : Nat → FieldType := fun k => match k with
  | 0 => .array .int
  | 1 => .array .int
  | 2 => .array .long
  | 3 => .array .int
  | 4 => .int
  | _ => .int
theorem nmX2 : ∀ a, a < 6 → ∀ b, b < 6 → a ≠ b → (TX2 a).2.1 ≠ (TX2 b).2.1 := by decide +kernel
theorem tyX2_ok : ∀ k, k < 6 → parseFieldDescriptor (TX2 k).2.2.1 = some (tyX2 k) := by decide +kernel
def RX3 : String := "WokenOnce$House"
def TX3 : u_T := fun k => match k with
  | 0 => ("WokenOnce$House", "kinds", "[I", true)
  | 1 => ("WokenOnce$House", "costs", "[I", true)
  | 2 => ("WokenOnce$House", "skills", "[I", true)
  | 3 => ("WokenOnce$House", "harms", "[I", true)
  | 4 => ("WokenOnce$House", "size", "I", false)
  | _ => ("WokenOnce$House", "nurses", "I", false)
def tyX3 : Nat → FieldType := fun k => match k with
  | 0 => .array .int
  | 1 => .array .int
  | 2 => .array .int
  | 3 => .array .int
  | 4 => .int
  | _ => .int
theorem nmX3 : ∀ a, a < 6 → ∀ b, b < 6 → a ≠ b → (TX3 a).2.1 ≠ (TX3 b).2.1 := by decide +kernel
theorem tyX3_ok : ∀ k, k < 6 → parseFieldDescriptor (TX3 k).2.2.1 = some (tyX3 k) := by decide +kernel
def RX4 : String := "WokenOnce$Image"
def TX4 : u_T := fun k => match k with
  | 0 => ("WokenOnce$Image", "skills", "[I", true)
  | 1 => ("WokenOnce$Image", "harms", "[I", true)
  | 2 => ("WokenOnce$Image", "size", "I", false)
  | 3 => ("WokenOnce$Image", "hour", "I", false)
  | 4 => ("WokenOnce$Image", "woken", "I", false)
  | 5 => ("WokenOnce$Image", "mended", "I", false)
  | _ => ("WokenOnce$Image", "left", "I", false)
def tyX4 : Nat → FieldType := fun k => match k with
  | 0 => .array .int
  | 1 => .array .int
  | 2 => .int
  | 3 => .int
  | 4 => .int
  | 5 => .int
  | _ => .int
theorem nmX4 : ∀ a, a < 7 → ∀ b, b < 7 → a ≠ b → (TX4 a).2.1 ≠ (TX4 b).2.1 := by decide +kernel
theorem tyX4_ok : ∀ k, k < 7 → parseFieldDescriptor (TX4 k).2.2.1 = some (tyX4 k) := by decide +kernel
def RX5 : String := "WokenOnce$Night"
def TX5 : u_T := fun k => match k with
  | 0 => ("WokenOnce$Night", "hour", "I", false)
  | 1 => ("WokenOnce$Night", "woken", "I", false)
  | 2 => ("WokenOnce$Night", "mended", "I", false)
  | _ => ("WokenOnce$Night", "left", "I", false)
def tyX5 : Nat → FieldType := fun k => match k with
  | 0 => .int
  | 1 => .int
  | 2 => .int
  | _ => .int
theorem nmX5 : ∀ a, a < 4 → ∀ b, b < 4 → a ≠ b → (TX5 a).2.1 ≠ (TX5 b).2.1 := by decide +kernel
theorem tyX5_ok : ∀ k, k < 4 → parseFieldDescriptor (TX5 k).2.2.1 = some (tyX5 k) := by decide +kernel
def RX6 : String := "WokenOnce$Page"
def TX6 : u_T := fun k => match k with
  | 0 => ("WokenOnce$Page", "codes", "[I", true)
  | _ => ("WokenOnce$Page", "length", "I", false)
def tyX6 : Nat → FieldType := fun k => match k with
  | 0 => .array .int
  | _ => .int
theorem nmX6 : ∀ a, a < 2 → ∀ b, b < 2 → a ≠ b → (TX6 a).2.1 ≠ (TX6 b).2.1 := by decide +kernel
theorem tyX6_ok : ∀ k, k < 2 → parseFieldDescriptor (TX6 k).2.2.1 = some (tyX6 k) := by decide +kernel
def RX8 : String := "WokenOnce$Rule"
def TX8 : u_T := fun k => match k with
  | 0 => ("WokenOnce$Rule", "order", "[I", true)
  | 1 => ("WokenOnce$Rule", "size", "I", false)
  | _ => ("WokenOnce$Rule", "tens", "I", false)
def tyX8 : Nat → FieldType := fun k => match k with
  | 0 => .array .int
  | 1 => .int
  | _ => .int
theorem nmX8 : ∀ a, a < 3 → ∀ b, b < 3 → a ≠ b → (TX8 a).2.1 ≠ (TX8 b).2.1 := by decide +kernel
theorem tyX8_ok : ∀ k, k < 3 → parseFieldDescriptor (TX8 k).2.2.1 = some (tyX8 k) := by decide +kernel
def RX9 : String := "WokenOnce$RuleReader"
def TX9 : u_T := fun k => match k with
  | 0 => ("WokenOnce$RuleReader", "order", "[I", true)
  | 1 => ("WokenOnce$RuleReader", "size", "I", false)
  | 2 => ("WokenOnce$RuleReader", "tens", "I", false)
  | 3 => ("WokenOnce$RuleReader", "sleepers", "I", false)
  | 4 => ("WokenOnce$RuleReader", "named", "I", false)
  | _ => ("WokenOnce$RuleReader", "place", "I", false)
def tyX9 : Nat → FieldType := fun k => match k with
  | 0 => .array .int
  | 1 => .int
  | 2 => .int
  | 3 => .int
  | 4 => .int
  | _ => .int
theorem nmX9 : ∀ a, a < 6 → ∀ b, b < 6 → a ≠ b → (TX9 a).2.1 ≠ (TX9 b).2.1 := by decide +kernel
theorem tyX9_ok : ∀ k, k < 6 → parseFieldDescriptor (TX9 k).2.2.1 = some (tyX9 k) := by decide +kernel
def RX10 : String := "WokenOnce$Table"
def TX10 : u_T := fun k => match k with
  | _ => ("WokenOnce$Table", "values", "[J", true)
def tyX10 : Nat → FieldType := fun k => match k with
  | _ => .array .long
theorem nmX10 : ∀ a, a < 1 → ∀ b, b < 1 → a ≠ b → (TX10 a).2.1 ≠ (TX10 b).2.1 := by decide +kernel
theorem tyX10_ok : ∀ k, k < 1 → parseFieldDescriptor (TX10 k).2.2.1 = some (tyX10 k) := by decide +kernel
def RX11 : String := "WokenOnce"
def TX11 : u_T := fun k => match k with
  | 0 => ("WokenOnce", "page", "LWokenOnce$Page;", true)
  | 1 => ("WokenOnce", "bellReader", "LWokenOnce$BellReader;", true)
  | 2 => ("WokenOnce", "ruleReader", "LWokenOnce$RuleReader;", true)
  | 3 => ("WokenOnce", "bell", "LWokenOnce$Bell;", true)
  | 4 => ("WokenOnce", "rule", "LWokenOnce$Rule;", true)
  | 5 => ("WokenOnce", "house", "LWokenOnce$House;", true)
  | 6 => ("WokenOnce", "night", "LWokenOnce$Night;", true)
  | 7 => ("WokenOnce", "image", "LWokenOnce$Image;", true)
  | 8 => ("WokenOnce", "choices", "LWokenOnce$Choices;", true)
  | 9 => ("WokenOnce", "plan", "LWokenOnce$Table;", true)
  | 10 => ("WokenOnce", "work", "LWokenOnce$Table;", true)
  | _ => ("WokenOnce", "planReady", "Z", false)
def tyX11 : Nat → FieldType := fun k => match k with
  | 0 => .object "WokenOnce$Page"
  | 1 => .object "WokenOnce$BellReader"
  | 2 => .object "WokenOnce$RuleReader"
  | 3 => .object "WokenOnce$Bell"
  | 4 => .object "WokenOnce$Rule"
  | 5 => .object "WokenOnce$House"
  | 6 => .object "WokenOnce$Night"
  | 7 => .object "WokenOnce$Image"
  | 8 => .object "WokenOnce$Choices"
  | 9 => .object "WokenOnce$Table"
  | 10 => .object "WokenOnce$Table"
  | _ => .boolean
theorem nmX11 : ∀ a, a < 12 → ∀ b, b < 12 → a ≠ b → (TX11 a).2.1 ≠ (TX11 b).2.1 := by decide +kernel
theorem tyX11_ok : ∀ k, k < 12 → parseFieldDescriptor (TX11 k).2.2.1 = some (tyX11 k) := by decide +kernel
def RX12 : String := "WokenOnceModel"
def TX12 : u_T := fun k => match k with
  | 0 => ("WokenOnceModel", "page", "[I", true)
  | 1 => ("WokenOnceModel", "pageMany", "I", false)
  | 2 => ("WokenOnceModel", "bellRows", "[I", true)
  | 3 => ("WokenOnceModel", "bellMany", "I", false)
  | 4 => ("WokenOnceModel", "readBell", "[I", true)
  | 5 => ("WokenOnceModel", "readHour", "I", false)
  | 6 => ("WokenOnceModel", "readThing", "I", false)
  | 7 => ("WokenOnceModel", "readPairs", "I", false)
  | 8 => ("WokenOnceModel", "state", "I", false)
  | 9 => ("WokenOnceModel", "ruleMany", "I", false)
  | 10 => ("WokenOnceModel", "ruleTens", "I", false)
  | 11 => ("WokenOnceModel", "rule", "[I", true)
  | 12 => ("WokenOnceModel", "readRuleMany", "I", false)
  | 13 => ("WokenOnceModel", "readTens", "I", false)
  | 14 => ("WokenOnceModel", "readRule", "[I", true)
  | 15 => ("WokenOnceModel", "sleepers", "I", false)
  | 16 => ("WokenOnceModel", "hourNow", "I", false)
  | 17 => ("WokenOnceModel", "woken", "I", false)
  | 18 => ("WokenOnceModel", "mendedAll", "I", false)
  | 19 => ("WokenOnceModel", "leftAll", "I", false)
  | 20 => ("WokenOnceModel", "kinds", "[I", true)
  | 21 => ("WokenOnceModel", "costs", "[I", true)
  | 22 => ("WokenOnceModel", "skills", "[I", true)
  | 23 => ("WokenOnceModel", "harms", "[I", true)
  | 24 => ("WokenOnceModel", "bests", "[J", true)
  | 25 => ("WokenOnceModel", "powers", "[J", true)
  | 26 => ("WokenOnceModel", "worsts", "[I", true)
  | 27 => ("WokenOnceModel", "ruled", "[J", true)
  | 28 => ("WokenOnceModel", "cameIn", "[I", true)
  | 29 => ("WokenOnceModel", "seedNow", "I", false)
  | 30 => ("WokenOnceModel", "keptHour", "I", false)
  | 31 => ("WokenOnceModel", "keptSleepers", "I", false)
  | 32 => ("WokenOnceModel", "keptWoken", "I", false)
  | 33 => ("WokenOnceModel", "keptMended", "I", false)
  | 34 => ("WokenOnceModel", "keptLeft", "I", false)
  | 35 => ("WokenOnceModel", "keptHarms", "[I", true)
  | 36 => ("WokenOnceModel", "keptSkills", "[I", true)
  | _ => ("WokenOnceModel", "hash", "J", false)
def tyX12 : Nat → FieldType := fun k => match k with
  | 0 => .array .int
  | 1 => .int
  | 2 => .array .int
  | 3 => .int
  | 4 => .array .int
  | 5 => .int
  | 6 => .int
  | 7 => .int
  | 8 => .int
  | 9 => .int
  | 10 => .int
  | 11 => .array .int
  | 12 => .int
  | 13 => .int
  | 14 => .array .int
  | 15 => .int
  | 16 => .int
  | 17 => .int
  | 18 => .int
  | 19 => .int
  | 20 => .array .int
  | 21 => .array .int
  | 22 => .array .int
  | 23 => .array .int
  | 24 => .array .long
  | 25 => .array .long
  | 26 => .array .int
  | 27 => .array .long
  | 28 => .array .int
  | 29 => .int
  | 30 => .int
  | 31 => .int
  | 32 => .int
  | 33 => .int
  | 34 => .int
  | 35 => .array .int
  | 36 => .array .int
  | _ => .long
theorem nmX12 : ∀ a, a < 38 → ∀ b, b < 38 → a ≠ b → (TX12 a).2.1 ≠ (TX12 b).2.1 := by decide +kernel
theorem tyX12_ok : ∀ k, k < 38 → parseFieldDescriptor (TX12 k).2.2.1 = some (tyX12 k) := by decide +kernel
abbrev vwCl : List vw_C := [(RX0, TX0, 2), (RX1, TX1, 6), (RX2, TX2, 6), (RX3, TX3, 6), (RX4, TX4, 7), (RX5, TX5, 4), (RX6, TX6, 2), (RX8, TX8, 3), (RX9, TX9, 6), (RX10, TX10, 1), (RX11, TX11, 12), (RX12, TX12, 38)]
/-- every word that travels -/
def me_GT : List Cond := lw_tbl.filter goodWord
def me_mnL : List MethodName := [⟨"WokenOnce$Bell", "<init>", "()V"⟩, ⟨"WokenOnce$Bell", "take", "(LWokenOnce$BellReader;)V"⟩, ⟨"WokenOnce$Bell", "chance", "(II)I"⟩, ⟨"WokenOnce$Bell", "thingBy", "(II)I"⟩, ⟨"WokenOnce$BellReader", "<init>", "()V"⟩, ⟨"WokenOnce$BellReader", "begin", "()V"⟩, ⟨"WokenOnce$BellReader", "beginPart", "(I)V"⟩, ⟨"WokenOnce$BellReader", "takes", "(I)Z"⟩, ⟨"WokenOnce$BellReader", "isWhole", "()Z"⟩, ⟨"WokenOnce$BellReader", "takesDash", "(I)Z"⟩, ⟨"WokenOnce$BellReader", "takesSlash", "(I)Z"⟩, ⟨"WokenOnce$BellReader", "takesLetter", "(I)Z"⟩, ⟨"WokenOnce$BellReader", "takesDigit", "(I)Z"⟩, ⟨"WokenOnce$Choices", "<init>", "()V"⟩, ⟨"WokenOnce$Choices", "gather", "(LWokenOnce$House;II)V"⟩, ⟨"WokenOnce$Choices", "add", "(LWokenOnce$House;II)V"⟩, ⟨"WokenOnce$Choices", "most", "(LWokenOnce$Table;IIJ)J"⟩, ⟨"WokenOnce$House", "<init>", "()V"⟩, ⟨"WokenOnce$House", "isKind", "(I)Z"⟩, ⟨"WokenOnce$House", "add", "(II)V"⟩, ⟨"WokenOnce$House", "has", "(I)Z"⟩, ⟨"WokenOnce$House", "kindOf", "(I)I"⟩, ⟨"WokenOnce$House", "costOf", "(I)I"⟩, ⟨"WokenOnce$House", "isOf", "(II)Z"⟩, ⟨"WokenOnce$House", "told", "(II)I"⟩, ⟨"WokenOnce$House", "tell", "(III)V"⟩, ⟨"WokenOnce$House", "harmOf", "(I)I"⟩, ⟨"WokenOnce$House", "setHarm", "(II)V"⟩, ⟨"WokenOnce$House", "everybody", "()I"⟩, ⟨"WokenOnce$House", "isSet", "(I)Z"⟩, ⟨"WokenOnce$House", "isSetToWake", "(I)Z"⟩, ⟨"WokenOnce$House", "spent", "(I)I"⟩, ⟨"WokenOnce$House", "costOfSet", "(I)I"⟩, ⟨"WokenOnce$House", "mayBeWoken", "(III)Z"⟩, ⟨"WokenOnce$House", "mends", "(III)I"⟩, ⟨"WokenOnce$House", "mendedBy", "(III)I"⟩, ⟨"WokenOnce$Image", "<init>", "()V"⟩, ⟨"WokenOnce$Image", "keep", "(LWokenOnce$House;LWokenOnce$Night;)V"⟩, ⟨"WokenOnce$Image", "giveBack", "(LWokenOnce$House;LWokenOnce$Night;)V"⟩, ⟨"WokenOnce$Night", "<init>", "()V"⟩, ⟨"WokenOnce$Night", "woke", "(I)Z"⟩, ⟨"WokenOnce$Night", "pass", "(III)V"⟩, ⟨"WokenOnce$Page", "<init>", "()V"⟩, ⟨"WokenOnce$Page", "add", "(I)V"⟩, ⟨"WokenOnce$Page", "codeAt", "(I)I"⟩, ⟨"WokenOnce$Page", "readBy", "(LWokenOnce$Reader;)I"⟩, ⟨"WokenOnce$Reader", "<init>", "()V"⟩, ⟨"WokenOnce$Rule", "<init>", "()V"⟩, ⟨"WokenOnce$Rule", "take", "(LWokenOnce$RuleReader;)V"⟩, ⟨"WokenOnce$Rule", "at", "(I)I"⟩, ⟨"WokenOnce$RuleReader", "<init>", "()V"⟩, ⟨"WokenOnce$RuleReader", "begin", "(I)V"⟩, ⟨"WokenOnce$RuleReader", "takes", "(I)Z"⟩, ⟨"WokenOnce$RuleReader", "isWhole", "()Z"⟩, ⟨"WokenOnce$RuleReader", "takesPlus", "(I)Z"⟩, ⟨"WokenOnce$RuleReader", "takesSleeper", "(I)Z"⟩, ⟨"WokenOnce$RuleReader", "takesTens", "(I)Z"⟩, ⟨"WokenOnce$Table", "<init>", "()V"⟩, ⟨"WokenOnce$Table", "at", "(II)J"⟩, ⟨"WokenOnce$Table", "put", "(IIJ)V"⟩, ⟨"WokenOnce$Table", "add", "(IIJ)V"⟩, ⟨"WokenOnce$Table", "clear", "(I)V"⟩, ⟨"WokenOnce$Table", "has", "(II)Z"⟩, ⟨"WokenOnce", "<init>", "()V"⟩, ⟨"WokenOnce", "letters", "(J)I"⟩, ⟨"WokenOnce", "blank", "()I"⟩, ⟨"WokenOnce", "fault", "(I)I"⟩, ⟨"WokenOnce", "bell", "()I"⟩, ⟨"WokenOnce", "rule", "()I"⟩, ⟨"WokenOnce", "tenths", "(II)I"⟩, ⟨"WokenOnce", "sleeper", "(II)I"⟩, ⟨"WokenOnce", "skill", "(III)I"⟩, ⟨"WokenOnce", "harm", "(II)I"⟩, ⟨"WokenOnce", "about", "(II)I"⟩, ⟨"WokenOnce", "as", "(II)I"⟩, ⟨"WokenOnce", "come", "(II)I"⟩, ⟨"WokenOnce", "evening", "()I"⟩, ⟨"WokenOnce", "best", "(I)J"⟩, ⟨"WokenOnce", "whom", "(I)I"⟩, ⟨"WokenOnce", "worst", "()I"⟩, ⟨"WokenOnce", "known", "(I)I"⟩, ⟨"WokenOnce", "byRule", "(I)J"⟩, ⟨"WokenOnce", "worth", "(II)J"⟩, ⟨"WokenOnce", "roster", "(I)I"⟩, ⟨"WokenOnce", "seen", "(I)I"⟩, ⟨"WokenOnce", "sure", "(II)I"⟩, ⟨"WokenOnce", "night", "(II)I"⟩, ⟨"WokenOnce", "image", "()I"⟩, ⟨"WokenOnce", "restore", "()I"⟩, ⟨"WokenOnce", "count", "(I)I"⟩, ⟨"WokenOnce", "digest", "()J"⟩, ⟨"WokenOnce", "isHour", "(I)Z"⟩, ⟨"WokenOnce", "isThing", "(I)Z"⟩, ⟨"WokenOnce", "isUpTo99", "(I)Z"⟩, ⟨"WokenOnce", "isPart", "(I)Z"⟩, ⟨"WokenOnce", "powerOfTen", "(I)J"⟩, ⟨"WokenOnce", "powerOfFive", "(I)I"⟩, ⟨"WokenOnce", "figureOf", "(II)I"⟩, ⟨"WokenOnce", "byteOf", "(JI)I"⟩, ⟨"WokenOnce", "lettersIn", "(J)I"⟩, ⟨"WokenOnce", "mix", "(JJ)J"⟩, ⟨"WokenOnce", "greatestDivisor", "(JJ)J"⟩, ⟨"WokenOnce", "partOf", "(JJI)J"⟩, ⟨"WokenOnce", "nextSeed", "(I)I"⟩, ⟨"WokenOnce", "asleep", "()I"⟩, ⟨"WokenOnce", "mayAll", "(I)Z"⟩, ⟨"WokenOnce", "aboutThing", "(II)I"⟩, ⟨"WokenOnce", "digestOfHouse", "(J)J"⟩, ⟨"WokenOnce", "makePlan", "()V"⟩, ⟨"WokenOnce", "planThing", "(IIJ)V"⟩, ⟨"WokenOnce", "plannedSet", "(III)I"⟩, ⟨"WokenOnce", "isBetterRoster", "(II)Z"⟩, ⟨"WokenOnce", "expectNothing", "(I)V"⟩, ⟨"WokenOnce", "expectThing", "(II)V"⟩, ⟨"WokenOnce", "fearThing", "(II)V"⟩, ⟨"WokenOnce", "ruledSet", "(III)I"⟩, ⟨"WokenOnce", "beginWays", "(II)V"⟩, ⟨"WokenOnce", "weighHour", "(I)J"⟩, ⟨"WokenOnce", "weighThings", "(IIJ)J"⟩, ⟨"WokenOnce", "waysTo", "(III)J"⟩, ⟨"WokenOnce", "goOn", "(IIJI)V"⟩, ⟨"WokenOnce", "drawNight", "(II)I"⟩, ⟨"WokenOnceModel", "<init>", "()V"⟩, ⟨"WokenOnceModel", "in", "(JJJ)Z"⟩, ⟨"WokenOnceModel", "letters", "(J)I"⟩, ⟨"WokenOnceModel", "blank", "()I"⟩, ⟨"WokenOnceModel", "readTenths", "()I"⟩, ⟨"WokenOnceModel", "goBell", "(I)Z"⟩, ⟨"WokenOnceModel", "bellFault", "()I"⟩, ⟨"WokenOnceModel", "goRule", "(I)Z"⟩, ⟨"WokenOnceModel", "ruleFault", "()I"⟩, ⟨"WokenOnceModel", "fault", "(I)I"⟩, ⟨"WokenOnceModel", "bell", "()I"⟩, ⟨"WokenOnceModel", "rule", "()I"⟩, ⟨"WokenOnceModel", "tenths", "(II)I"⟩, ⟨"WokenOnceModel", "isSleeper", "(I)Z"⟩, ⟨"WokenOnceModel", "sleeper", "(II)I"⟩, ⟨"WokenOnceModel", "skill", "(III)I"⟩, ⟨"WokenOnceModel", "harm", "(II)I"⟩, ⟨"WokenOnceModel", "mends", "(III)I"⟩, ⟨"WokenOnceModel", "mayWake", "(III)Z"⟩, ⟨"WokenOnceModel", "tellSleeper", "(II)I"⟩, ⟨"WokenOnceModel", "about", "(II)I"⟩, ⟨"WokenOnceModel", "as", "(II)I"⟩, ⟨"WokenOnceModel", "ones", "(I)I"⟩, ⟨"WokenOnceModel", "mayAll", "(III)Z"⟩, ⟨"WokenOnceModel", "mendedBy", "(III)I"⟩, ⟨"WokenOnceModel", "goneBy", "(II)I"⟩, ⟨"WokenOnceModel", "come", "(II)I"⟩, ⟨"WokenOnceModel", "evening", "()I"⟩, ⟨"WokenOnceModel", "bestSet", "(III)I"⟩, ⟨"WokenOnceModel", "layBests", "()V"⟩, ⟨"WokenOnceModel", "term", "(JJI)J"⟩, ⟨"WokenOnceModel", "isPart", "(I)Z"⟩, ⟨"WokenOnceModel", "tellBest", "(I)J"⟩, ⟨"WokenOnceModel", "best", "(I)J"⟩, ⟨"WokenOnceModel", "whom", "(I)I"⟩, ⟨"WokenOnceModel", "worstOf", "()I"⟩, ⟨"WokenOnceModel", "worst", "()I"⟩, ⟨"WokenOnceModel", "figure", "(II)I"⟩, ⟨"WokenOnceModel", "knownOf", "(I)I"⟩, ⟨"WokenOnceModel", "fives", "(I)I"⟩, ⟨"WokenOnceModel", "known", "(I)I"⟩, ⟨"WokenOnceModel", "byRuleOne", "(III)I"⟩, ⟨"WokenOnceModel", "tellRule", "(I)J"⟩, ⟨"WokenOnceModel", "byRule", "(I)J"⟩, ⟨"WokenOnceModel", "worth", "(II)J"⟩, ⟨"WokenOnceModel", "rosterOf", "(I)I"⟩, ⟨"WokenOnceModel", "roster", "(I)I"⟩, ⟨"WokenOnceModel", "isSeen", "(II)Z"⟩, ⟨"WokenOnceModel", "laySeen", "(I)I"⟩, ⟨"WokenOnceModel", "isSet", "(I)Z"⟩, ⟨"WokenOnceModel", "seen", "(I)I"⟩, ⟨"WokenOnceModel", "sure", "(II)I"⟩, ⟨"WokenOnceModel", "draw", "(I)I"⟩, ⟨"WokenOnceModel", "drawnThing", "(I)I"⟩, ⟨"WokenOnceModel", "night", "(II)I"⟩, ⟨"WokenOnceModel", "image", "()I"⟩, ⟨"WokenOnceModel", "restore", "()I"⟩, ⟨"WokenOnceModel", "countOf", "(I)I"⟩, ⟨"WokenOnceModel", "count", "(I)I"⟩, ⟨"WokenOnceModel", "say", "(J)V"⟩, ⟨"WokenOnceModel", "saySleeper", "(I)V"⟩, ⟨"WokenOnceModel", "digest", "()J"⟩, ⟨"java/lang/Integer", "bitCount", "(I)I"⟩, ⟨"java/lang/Math", "min", "(II)I"⟩, ⟨"java/lang/Math", "min", "(JJ)J"⟩]
def me_mbL : List ByteArray := [prog_2_method_1_code, prog_2_method_2_code, prog_2_method_3_code, prog_2_method_4_code, prog_3_method_1_code, prog_3_method_2_code, prog_3_method_3_code, prog_3_method_4_code, prog_3_method_5_code, prog_3_method_6_code, prog_3_method_7_code, prog_3_method_8_code, prog_3_method_9_code, prog_4_method_1_code, prog_4_method_2_code, prog_4_method_3_code, prog_4_method_4_code, prog_5_method_1_code, prog_5_method_2_code, prog_5_method_3_code, prog_5_method_4_code, prog_5_method_5_code, prog_5_method_6_code, prog_5_method_7_code, prog_5_method_8_code, prog_5_method_9_code, prog_5_method_10_code, prog_5_method_11_code, prog_5_method_12_code, prog_5_method_13_code, prog_5_method_14_code, prog_5_method_15_code, prog_5_method_16_code, prog_5_method_17_code, prog_5_method_18_code, prog_5_method_19_code, prog_6_method_1_code, prog_6_method_2_code, prog_6_method_3_code, prog_7_method_1_code, prog_7_method_2_code, prog_7_method_3_code, prog_8_method_1_code, prog_8_method_2_code, prog_8_method_3_code, prog_8_method_4_code, prog_9_method_1_code, prog_10_method_1_code, prog_10_method_2_code, prog_10_method_3_code, prog_11_method_1_code, prog_11_method_2_code, prog_11_method_3_code, prog_11_method_4_code, prog_11_method_5_code, prog_11_method_6_code, prog_11_method_7_code, prog_12_method_1_code, prog_12_method_2_code, prog_12_method_3_code, prog_12_method_4_code, prog_12_method_5_code, prog_12_method_6_code, prog_1_method_1_code, prog_1_method_2_code, prog_1_method_3_code, prog_1_method_4_code, prog_1_method_5_code, prog_1_method_6_code, prog_1_method_7_code, prog_1_method_8_code, prog_1_method_9_code, prog_1_method_10_code, prog_1_method_11_code, prog_1_method_12_code, prog_1_method_13_code, prog_1_method_14_code, prog_1_method_15_code, prog_1_method_16_code, prog_1_method_17_code, prog_1_method_18_code, prog_1_method_19_code, prog_1_method_20_code, prog_1_method_21_code, prog_1_method_22_code, prog_1_method_23_code, prog_1_method_24_code, prog_1_method_25_code, prog_1_method_26_code, prog_1_method_27_code, prog_1_method_28_code, prog_1_method_29_code, prog_1_method_30_code, prog_1_method_31_code, prog_1_method_32_code, prog_1_method_33_code, prog_1_method_34_code, prog_1_method_35_code, prog_1_method_36_code, prog_1_method_37_code, prog_1_method_38_code, prog_1_method_39_code, prog_1_method_40_code, prog_1_method_41_code, prog_1_method_42_code, prog_1_method_43_code, prog_1_method_44_code, prog_1_method_45_code, prog_1_method_46_code, prog_1_method_47_code, prog_1_method_48_code, prog_1_method_49_code, prog_1_method_50_code, prog_1_method_51_code, prog_1_method_52_code, prog_1_method_53_code, prog_1_method_54_code, prog_1_method_55_code, prog_1_method_56_code, prog_1_method_57_code, prog_1_method_58_code, prog_1_method_59_code, prog_14_method_1_code, prog_14_method_2_code, prog_14_method_3_code, prog_14_method_4_code, prog_14_method_5_code, prog_14_method_6_code, prog_14_method_7_code, prog_14_method_8_code, prog_14_method_9_code, prog_14_method_10_code, prog_14_method_11_code, prog_14_method_12_code, prog_14_method_13_code, prog_14_method_14_code, prog_14_method_15_code, prog_14_method_16_code, prog_14_method_17_code, prog_14_method_18_code, prog_14_method_19_code, prog_14_method_20_code, prog_14_method_21_code, prog_14_method_22_code, prog_14_method_23_code, prog_14_method_24_code, prog_14_method_25_code, prog_14_method_26_code, prog_14_method_27_code, prog_14_method_28_code, prog_14_method_29_code, prog_14_method_30_code, prog_14_method_31_code, prog_14_method_32_code, prog_14_method_33_code, prog_14_method_34_code, prog_14_method_35_code, prog_14_method_36_code, prog_14_method_37_code, prog_14_method_38_code, prog_14_method_39_code, prog_14_method_40_code, prog_14_method_41_code, prog_14_method_42_code, prog_14_method_43_code, prog_14_method_44_code, prog_14_method_45_code, prog_14_method_46_code, prog_14_method_47_code, prog_14_method_48_code, prog_14_method_49_code, prog_14_method_50_code, prog_14_method_51_code, prog_14_method_52_code, prog_14_method_53_code, prog_14_method_54_code, prog_14_method_55_code, prog_14_method_56_code, prog_14_method_57_code, prog_14_method_58_code, prog_14_method_59_code, prog_14_method_60_code, prog_14_method_61_code, prog_14_method_62_code, prog_15_method_49_code, prog_16_method_69_code, prog_16_method_70_code]
def me_mLL : List Nat := [1, 2, 3, 5, 1, 2, 2, 2, 1, 2, 2, 3, 4, 1, 8, 4, 11, 1, 1, 3, 2, 2, 2, 4, 3, 4, 2, 3, 1, 2, 2, 2, 4, 4, 5, 6, 1, 3, 3, 1, 2, 4, 1, 2, 2, 3, 1, 1, 2, 2, 1, 2, 2, 1, 2, 3, 3, 1, 3, 5, 5, 3, 2, 1, 5, 2, 2, 1, 1, 3, 3, 5, 4, 3, 3, 4, 1, 2, 2, 3, 4, 5, 4, 5, 2, 5, 3, 1, 1, 2, 4, 1, 1, 1, 1, 1, 1, 3, 3, 5, 4, 11, 7, 1, 1, 3, 3, 7, 5, 8, 4, 5, 3, 4, 7, 6, 4, 7, 11, 8, 8, 9, 2, 6, 9, 2, 3, 4, 2, 4, 2, 2, 2, 2, 3, 2, 4, 5, 4, 5, 4, 3, 3, 4, 3, 6, 6, 5, 4, 1, 11, 9, 11, 1, 2, 2, 2, 8, 1, 4, 8, 3, 2, 5, 10, 2, 3, 10, 2, 6, 5, 4, 2, 5, 2, 5, 8, 2, 2, 2, 2, 3, 3, 2, 1, 2, 4]
def me_mrL : List (Option FieldType) := [none, none, (some .int), (some .int), none, none, none, (some .boolean), (some .boolean), (some .boolean), (some .boolean), (some .boolean), (some .boolean), none, none, none, (some .long), none, (some .boolean), none, (some .boolean), (some .int), (some .int), (some .boolean), (some .int), none, (some .int), none, (some .int), (some .boolean), (some .boolean), (some .int), (some .int), (some .boolean), (some .int), (some .int), none, none, none, none, (some .boolean), none, none, none, (some .int), (some .int), none, none, none, (some .int), none, none, (some .boolean), (some .boolean), (some .boolean), (some .boolean), (some .boolean), none, (some .long), none, none, none, (some .boolean), none, (some .int), (some .int), (some .int), (some .int), (some .int), (some .int), (some .int), (some .int), (some .int), (some .int), (some .int), (some .int), (some .int), (some .long), (some .int), (some .int), (some .int), (some .long), (some .long), (some .int), (some .int), (some .int), (some .int), (some .int), (some .int), (some .int), (some .long), (some .boolean), (some .boolean), (some .boolean), (some .boolean), (some .long), (some .int), (some .int), (some .int), (some .int), (some .long), (some .long), (some .long), (some .int), (some .int), (some .boolean), (some .int), (some .long), none, none, (some .int), (some .boolean), none, none, none, (some .int), none, (some .long), (some .long), (some .long), none, (some .int), none, (some .boolean), (some .int), (some .int), (some .int), (some .boolean), (some .int), (some .boolean), (some .int), (some .int), (some .int), (some .int), (some .int), (some .boolean), (some .int), (some .int), (some .int), (some .int), (some .boolean), (some .int), (some .int), (some .int), (some .int), (some .boolean), (some .int), (some .int), (some .int), (some .int), (some .int), none, (some .long), (some .boolean), (some .long), (some .long), (some .int), (some .int), (some .int), (some .int), (some .int), (some .int), (some .int), (some .int), (some .long), (some .long), (some .long), (some .int), (some .int), (some .boolean), (some .int), (some .boolean), (some .int), (some .int), (some .int), (some .int), (some .int), (some .int), (some .int), (some .int), (some .int), none, none, (some .long), (some .int), (some .int), (some .long)]
def me_mfL : List (Nat × Nat) := [(0, 0), (1, 26), (1, 20), (2, 42), (1, 20), (1, 21), (0, 0), (2, 42), (0, 0), (0, 0), (1, 21), (0, 0), (0, 0), (0, 0), (2, 46), (1, 21), (2, 43), (0, 0), (0, 0), (0, 0), (0, 0), (0, 0), (0, 0), (1, 21), (0, 0), (0, 0), (1, 20), (1, 20), (0, 0), (1, 20), (2, 41), (0, 0), (1, 21), (1, 21), (1, 22), (2, 46), (0, 0), (1, 26), (1, 26), (0, 0), (0, 0), (0, 0), (0, 0), (0, 0), (0, 0), (3, 63), (0, 0), (0, 0), (1, 26), (0, 0), (1, 20), (0, 0), (1, 22), (0, 0), (0, 0), (0, 0), (0, 0), (0, 0), (1, 21), (1, 21), (2, 45), (2, 45), (0, 0), (2, 40), (2, 46), (0, 0), (4, 85), (4, 85), (4, 85), (2, 42), (1, 22), (1, 23), (2, 42), (3, 68), (2, 44), (3, 71), (0, 0), (5, 124), (5, 124), (4, 99), (4, 96), (5, 127), (5, 124), (5, 124), (5, 125), (5, 125), (5, 124), (2, 48), (2, 48), (1, 20), (6, 151), (0, 0), (0, 0), (0, 0), (0, 0), (0, 0), (0, 0), (1, 20), (0, 0), (1, 22), (0, 0), (0, 0), (1, 30), (0, 0), (1, 20), (2, 44), (2, 46), (4, 90), (4, 100), (3, 73), (3, 73), (2, 43), (2, 45), (3, 73), (3, 73), (2, 46), (3, 67), (4, 101), (3, 71), (4, 98), (3, 71), (4, 96), (0, 0), (0, 0), (0, 0), (0, 0), (0, 0), (1, 25), (2, 48), (2, 46), (3, 69), (4, 90), (3, 69), (4, 90), (1, 25), (1, 25), (1, 25), (2, 46), (1, 25), (0, 0), (0, 0), (1, 25), (2, 47), (2, 46), (0, 0), (1, 23), (1, 24), (0, 0), (2, 49), (0, 0), (2, 49), (3, 79), (0, 0), (1, 25), (4, 107), (5, 128), (4, 107), (2, 49), (3, 76), (0, 0), (2, 49), (0, 0), (3, 76), (1, 24), (4, 107), (5, 136), (4, 107), (4, 107), (5, 136), (2, 48), (3, 73), (1, 25), (4, 97), (4, 97), (0, 0), (1, 21), (4, 107), (0, 0), (0, 0), (1, 22), (2, 43), (0, 0), (2, 47), (5, 136), (0, 0), (0, 0), (0, 0)]
def me_mjL : List (Nat × Nat × Nat × Nat × Nat) := [(157, 61, 9999, 156, 9999), (434, 61, 9999, 432, 433), (464, 61, 9999, 462, 463), (785, 61, 9999, 783, 784), (99, 59, 9999, 98, 9999), (369, 59, 9999, 367, 368), (373, 59, 9999, 372, 0), (387, 59, 9999, 386, 9999), (430, 59, 9999, 428, 429), (391, 59, 9999, 390, 1), (399, 59, 9999, 398, 3), (395, 59, 9999, 394, 2), (403, 59, 9999, 402, 4), (274, 66, 9999, 273, 9999), (627, 66, 9999, 625, 626), (636, 66, 9999, 635, 12), (642, 66, 9999, 640, 641), (189, 63, 9999, 188, 9999), (473, 63, 472, 9999, 9999), (480, 63, 9999, 478, 479), (488, 63, 9999, 486, 487), (517, 63, 9999, 515, 516), (521, 63, 9999, 519, 520), (551, 63, 9999, 549, 550), (492, 63, 9999, 490, 491), (496, 63, 9999, 494, 495), (504, 63, 9999, 502, 503), (509, 63, 9999, 507, 508), (563, 63, 9999, 561, 562), (559, 63, 9999, 557, 558), (753, 63, 9999, 751, 752), (583, 63, 9999, 581, 582), (740, 63, 9999, 738, 739), (529, 63, 9999, 527, 528), (538, 63, 9999, 536, 537), (577, 63, 9999, 575, 576), (245, 65, 9999, 244, 9999), (794, 65, 9999, 792, 793), (803, 65, 9999, 801, 802), (218, 64, 9999, 217, 9999), (525, 64, 9999, 523, 524), (587, 64, 9999, 585, 586), (84, 57, 9999, 83, 9999), (357, 57, 9999, 355, 356), (381, 57, 9999, 379, 380), (377, 57, 9999, 375, 376), (102, 58, 9999, 101, 9999), (171, 62, 9999, 170, 9999), (449, 62, 9999, 447, 448), (727, 62, 9999, 725, 726), (129, 60, 9999, 128, 9999), (422, 60, 9999, 420, 421), (406, 60, 9999, 405, 9999), (445, 60, 9999, 443, 444), (410, 60, 9999, 409, 5), (414, 60, 9999, 413, 6), (418, 60, 9999, 417, 7), (301, 67, 9999, 300, 9999), (646, 67, 9999, 644, 645), (611, 67, 9999, 609, 610), (650, 67, 9999, 648, 649), (607, 67, 9999, 605, 606), (614, 67, 613, 9999, 9999), (76, 56, 9999, 75, 9999), (347, 56, 9999, 345, 346), (361, 56, 9999, 359, 360), (365, 56, 9999, 363, 364), (426, 56, 9999, 424, 425), (441, 56, 9999, 439, 440), (454, 56, 9999, 452, 453), (470, 56, 9999, 468, 469), (484, 56, 9999, 482, 483), (500, 56, 9999, 498, 499), (513, 56, 9999, 511, 512), (547, 56, 9999, 545, 546), (555, 56, 9999, 553, 554), (591, 56, 9999, 589, 590), (595, 56, 9999, 593, 594), (666, 56, 9999, 664, 665), (674, 56, 9999, 672, 673), (690, 56, 9999, 688, 689), (706, 56, 9999, 704, 705), (731, 56, 9999, 729, 730), (736, 56, 9999, 734, 735), (749, 56, 9999, 747, 748), (766, 56, 9999, 764, 765), (770, 56, 9999, 768, 769), (790, 56, 9999, 788, 789), (799, 56, 9999, 797, 798), (807, 56, 9999, 805, 806), (811, 56, 9999, 809, 810), (457, 56, 456, 9999, 9999), (460, 56, 459, 9999, 9999), (476, 56, 475, 9999, 9999), (598, 56, 597, 9999, 9999), (621, 56, 620, 9999, 9999), (693, 56, 692, 9999, 9999), (698, 56, 697, 9999, 9999), (353, 56, 352, 9999, 9999), (350, 56, 349, 9999, 9999), (819, 56, 818, 9999, 9999), (662, 56, 661, 9999, 9999), (659, 56, 658, 9999, 9999), (777, 56, 776, 9999, 9999), (656, 56, 9999, 655, 13), (573, 56, 9999, 572, 9), (534, 56, 9999, 533, 8), (816, 56, 9999, 815, 26), (603, 56, 9999, 602, 10), (618, 56, 9999, 617, 11), (670, 56, 9999, 669, 14), (745, 56, 9999, 744, 22), (678, 56, 9999, 677, 15), (702, 56, 9999, 701, 17), (683, 56, 9999, 682, 16), (723, 56, 9999, 722, 21), (711, 56, 9999, 710, 18), (715, 56, 9999, 714, 19), (719, 56, 9999, 718, 20), (758, 56, 9999, 757, 23), (762, 56, 9999, 761, 24), (774, 56, 9999, 773, 25), (832, 68, 9999, 831, 9999), (974, 68, 973, 9999, 9999), (952, 68, 9999, 950, 951), (957, 68, 9999, 955, 956), (978, 68, 9999, 977, 29), (969, 68, 9999, 968, 28), (965, 68, 9999, 964, 27), (988, 68, 9999, 987, 31), (984, 68, 9999, 983, 30), (961, 68, 9999, 959, 960), (997, 68, 9999, 995, 996), (1001, 68, 9999, 999, 1000), (1005, 68, 9999, 1003, 1004), (993, 68, 9999, 992, 32), (1011, 68, 9999, 1009, 1010), (1017, 68, 9999, 1015, 1016), (1021, 68, 9999, 1019, 1020), (1035, 68, 9999, 1034, 34), (1039, 68, 9999, 1038, 35), (1029, 68, 9999, 1028, 33), (1025, 68, 9999, 1023, 1024), (1043, 68, 9999, 1041, 1042), (1051, 68, 1050, 9999, 9999), (1055, 68, 9999, 1054, 36), (1059, 68, 9999, 1058, 37), (1063, 68, 9999, 1062, 38), (1047, 68, 9999, 1045, 1046), (1067, 68, 9999, 1065, 1066), (1086, 68, 9999, 1085, 41), (1082, 68, 9999, 1081, 40), (1089, 68, 1088, 9999, 9999), (1074, 68, 1073, 9999, 9999), (1078, 68, 9999, 1077, 39), (1071, 68, 9999, 1069, 1070), (1094, 68, 9999, 1092, 1093), (1102, 68, 9999, 1101, 42), (1098, 68, 9999, 1096, 1097), (1117, 68, 1116, 9999, 9999), (1114, 68, 9999, 1113, 43), (1110, 68, 1109, 9999, 9999), (1107, 68, 9999, 1105, 1106), (1130, 68, 9999, 1129, 45), (1126, 68, 9999, 1125, 44), (1121, 68, 9999, 1119, 1120), (1134, 68, 9999, 1132, 1133), (1144, 68, 9999, 1143, 46), (1139, 68, 9999, 1137, 1138), (1160, 68, 9999, 1159, 49), (1156, 68, 9999, 1155, 48), (1152, 68, 9999, 1151, 47), (1148, 68, 9999, 1146, 1147), (1164, 68, 9999, 1162, 1163), (1177, 68, 9999, 1176, 51), (1173, 68, 9999, 1172, 50), (1168, 68, 9999, 1166, 1167), (1185, 68, 9999, 1183, 1184), (1189, 68, 9999, 1187, 1188), (1197, 68, 9999, 1196, 52), (1193, 68, 9999, 1191, 1192), (1206, 68, 9999, 1205, 53), (1211, 68, 9999, 1210, 54), (1201, 68, 9999, 1199, 1200), (566, 71, 565, 9999, 9999), (543, 70, 542, 9999, 9999), (686, 70, 685, 9999, 9999)]
def me_mpL : List Nat := [0, 1, 2, 2, 0, 0, 1, 1, 0, 1, 1, 1, 1, 0, 3, 3, 4, 0, 1, 2, 1, 1, 1, 2, 2, 3, 1, 2, 0, 1, 1, 1, 1, 3, 3, 3, 0, 2, 2, 0, 1, 3, 0, 1, 1, 1, 0, 0, 1, 1, 0, 1, 1, 0, 1, 1, 1, 0, 2, 3, 3, 1, 2, 0, 1, 0, 1, 0, 0, 2, 2, 3, 2, 2, 2, 2, 0, 1, 1, 0, 1, 1, 2, 1, 1, 2, 2, 0, 0, 1, 0, 1, 1, 1, 1, 1, 1, 2, 2, 1, 2, 2, 3, 1, 0, 1, 2, 1, 0, 3, 3, 2, 1, 2, 2, 3, 2, 1, 3, 3, 4, 2, 0, 3, 1, 0, 0, 1, 0, 1, 0, 1, 0, 0, 2, 1, 2, 3, 2, 3, 3, 2, 2, 2, 1, 3, 3, 2, 2, 0, 3, 0, 3, 1, 1, 1, 1, 0, 0, 2, 1, 1, 1, 3, 1, 1, 2, 1, 1, 2, 1, 1, 1, 2, 1, 1, 2, 0, 0, 1, 1, 1, 1, 0, 1, 2, 2]
def me_mn (y : Nat) : MethodName := me_mnL[y]?.getD ⟨"", "", ""⟩
def me_mb (y : Nat) : ByteArray := me_mbL[y]?.getD ⟨#[]⟩
def me_mL (y : Nat) : Nat := me_mLL[y]?.getD 0
def me_mr (y : Nat) : Option FieldType := me_mrL[y]?.getD none
def me_mf (y : Nat) : Nat × Nat := me_mfL[y]?.getD (0, 0)
def me_mj (y : Nat) : Nat × Nat × Nat × Nat × Nat := me_mjL[y]?.getD (9999, 9999, 9999, 9999, 9999)
def me_mp (y : Nat) : Nat := me_mpL[y]?.getD 0
end
section
/-! A SMALL MACHINE OVER THE KIT'S: the whole world (both objects, all their rows) is one pair of tables of numbers; a method's contract is said over such worlds; the judgement me_W is the kit's W at any heap that holds the world -/
/-- a world: the ints and the longs of each cell, by place -/
abbrev Om : Type := (Nat → Nat → Int32) × (Nat → Nat → Int64)
def ui (ω : Om) (i k : Nat) (v : Int32) : Om := (fun a => if a = i then upd (ω.1 i) k v else ω.1 a, ω.2)
def ul (ω : Om) (i k : Nat) (v : Int64) : Om := (ω.1, fun a => if a = i then vp_updL (ω.2 i) k v else ω.2 a)
def ur (ω : Om) (i : Nat) (f : Nat → Int32) : Om := (fun a => if a = i then f else ω.1 a, ω.2)
/-- the 46 cells: class and kinds of the fields (0 an int, 1 a long, n + 2 the cell n); 100: a row of ints, 101: of longs, with its length -/
def me_lay : List (Nat × List Nat) := [(10, [3, 5, 7, 9, 11, 13, 18, 19, 22, 27, 29, 0]), (6, [4, 0]), (100, [55]), (1, [6, 0, 0, 0, 0, 0]), (100, [24]), (8, [8, 0, 0, 0, 0, 0]), (100, [7]), (0, [10, 0]), (100, [24]), (7, [12, 0, 0]), (100, [7]), (3, [14, 15, 16, 17, 0, 0]), (100, [7]), (100, [7]), (100, [28]), (100, [4]), (5, [0, 0, 0, 0]), (4, [20, 21, 0, 0, 0, 0, 0]), (100, [28]), (100, [4]), (2, [23, 24, 25, 26, 0, 0]), (100, [28]), (100, [28]), (101, [28]), (100, [7]), (9, [28]), (101, [896]), (9, [30]), (101, [896]),
  (11, [32, 0, 33, 0, 34, 0, 0, 0, 0, 0, 0, 35, 0, 0, 36, 0, 0, 0, 0, 0, 37, 38, 39, 40, 41, 42, 43, 44, 45, 0, 0, 0, 0, 0, 0, 46, 47, 1]), (100, [55]), (100, [24]), (100, [24]), (100, [7]), (100, [7]), (100, [7]), (100, [7]), (100, [28]), (100, [4]), (101, [896]), (101, [7]), (100, [896]), (101, [896]), (100, [6]), (100, [4]), (100, [28])]
def me_fv (ad : Nat → Nat) (fi : Nat → Int32) (fl : Nat → Int64) (k x : Nat) : Value := match x with
  | 0 => .int (fi k)
  | 1 => .long (fl k)
  | n + 2 => .ref (ad n)
def me_ce (cI cJ : ClassId) (ad : Nat → Nat) (fi : Nat → Int32) (fl : Nat → Int64) (q : Nat × List Nat) : va_E :=
  if q.1 = 100 then .inl (cI, q.2.headD 0, .inl fi) else if q.1 = 101 then .inl (cJ, q.2.headD 0, .inr (.inl fl)) else .inr (q.1, q.2.mapIdx (me_fv ad fi fl))
def me_cc (cI cJ : ClassId) (ad : Nat → Nat) (ω : Om) : va_W := me_lay.mapIdx (fun i q => (ad i, me_ce cI cJ ad (ω.1 i) (ω.2 i) q))
theorem me_cc_at {cI cJ : ClassId} {ad : Nat → Nat} {ω : Om} {i : Nat} {q : Nat × List Nat} (h : me_lay[i]? = some q) : (me_cc cI cJ ad ω)[i]? = some (ad i, me_ce cI cJ ad (ω.1 i) (ω.2 i) q) := by
  simp [me_cc, List.getElem?_mapIdx, h]
theorem me_cc_inv {cI cJ : ClassId} {ad : Nat → Nat} {ω : Om} {i : Nat} {x : Nat × va_E} (h : (me_cc cI cJ ad ω)[i]? = some x) : i < me_lay.length ∧ x.1 = ad i := by
  simp only [me_cc, List.getElem?_mapIdx, Option.map_eq_some_iff] at h
  obtain ⟨q, h1, rfl⟩ := h
  exact ⟨(List.getElem?_eq_some_iff.mp h1).1, rfl⟩
theorem me_cc_set {cI cJ : ClassId} {ad : Nat → Nat} {ω ω' : Om} {i : Nat} {q : Nat × List Nat} {e : va_E} (h : me_lay[i]? = some q) (h1 : ∀ a, a ≠ i → ω'.1 a = ω.1 a) (h2 : ∀ a, a ≠ i → ω'.2 a = ω.2 a) (he : me_ce cI cJ ad (ω'.1 i) (ω'.2 i) q = e) : (me_cc cI cJ ad ω).set i (ad i, e) = me_cc cI cJ ad ω' := by
  refine List.ext_getElem? fun j => ?_
  rw [List.getElem?_set]
  by_cases hj : i = j
  · subst hj
    have hl : i < (me_cc cI cJ ad ω).length := (List.getElem?_eq_some_iff.mp (me_cc_at (cI := cI) (cJ := cJ) (ad := ad) (ω := ω) h)).1
    rw [if_pos rfl, if_pos hl, me_cc_at h, he]
  · rw [if_neg hj]
    simp only [me_cc, List.getElem?_mapIdx]
    rw [h1 j (Ne.symm hj), h2 j (Ne.symm hj)]
def me_A (ad : Nat → Nat) (q : Nat) : Prop := ∃ i, i < me_lay.length ∧ q = ad i
def me_AD (ad : Nat → Nat) : Prop := ∀ i j, i < me_lay.length → j < me_lay.length → ad i = ad j → i = j
theorem me_D {cI cJ : ClassId} {ad : Nat → Nat} {ω : Om} (h : me_AD ad) : va_D (me_A ad) (me_cc cI cJ ad ω) := by
  refine ⟨fun i j p q hi hj hpq => ?_, fun k q hk => ?_⟩
  · obtain ⟨a1, a2⟩ := me_cc_inv hi
    obtain ⟨b1, b2⟩ := me_cc_inv hj
    exact h i j a1 b1 (by rw [← a2, ← b2]; exact hpq)
  · obtain ⟨a1, a2⟩ := me_cc_inv hk
    exact ⟨k, a1, a2⟩
/-- the two rows of constants -/
def me_ten (j : Nat) : Value := .long (Int64.ofNat (10 ^ j))
def me_five (j : Nat) : Value := .int (Int32.ofNat (5 ^ j))
def me_St (ad : Nat → Nat) (U : State) : Prop := va_Z "WokenOnce" "POWERS_OF_TEN" "[J" (.ref (ad 46)) (me_A ad) U U.heap ∧ va_T .long (ad 46) 7 me_ten (me_A ad) U U.heap ∧ va_Z "WokenOnce" "POWERS_OF_FIVE" "[I" (.ref (ad 47)) (me_A ad) U U.heap ∧ va_T .int (ad 47) 7 me_five (me_A ad) U U.heap
abbrev me_ty (cI cJ : ClassId) : List (ClassId × FieldType) := [(cI, .int), (cJ, .long)]
/-- words that don't travel by themselves: links of nest mates, a declared method -/
def me_isn : Cond → Bool
  | .methodLinkNest _ _ _ _ => true
  | .declares _ => true
  | _ => false
def me_nw : List Cond := lw_tbl.filter me_isn
def me_Nw (U : State) : Prop := ∀ w ∈ me_nw, va_Nw w U
theorem me_Nw.warm {s U : State} (hW : s.WarmedH U.vm) (h : me_Nw s) : me_Nw U := by
  intro w hw
  have h1 := h w hw
  have h2 := (List.mem_filter.mp hw).2
  unfold me_isn at h2
  split at h2
  · exact va_Nw.warmM hW h1
  · exact va_Nw.warmD hW h1
  · cases h2
theorem me_Nw.same {s U : State} (hv : s.vm = U.vm) (h : me_Nw s) : me_Nw U := by
  intro w hw
  have h1 := h w hw
  have h2 := (List.mem_filter.mp hw).2
  unfold me_isn at h2
  split at h2
  · exact va_Nw.same rfl hv h1
  · exact va_Nw.same rfl hv h1
  · cases h2
def me_En (G : va_G) (cI cJ : ClassId) (ad : Nat → Nat) (U : State) : Prop := va_K G vwCl (me_ty cI cJ) U ∧ me_AD ad ∧ me_St ad U ∧ me_Nw U
theorem me_En.to {G : va_G} {cI cJ : ClassId} {ad : Nat → Nat} {s U : State} (h : me_En G cI cJ ad s) (hvm : s.vm.Alike U.vm) (hk : ∀ q : Nat, q < s.heap.size → ¬ me_A ad q → U.heap[q]? = s.heap[q]?) (hn : me_Nw U) : me_En G cI cJ ad U := by
  obtain ⟨h1, h2, ⟨h3, h4, h5, h6⟩, -⟩ := h
  exact ⟨va_K.moved hvm h1, h2, ⟨va_Z.kept (va_Z.moved hvm h3) hk, va_T.kept (va_T.moved hvm h4) hk, va_Z.kept (va_Z.moved hvm h5) hk, va_T.kept (va_T.moved hvm h6) hk⟩, hn⟩
/-- a reference of the small machine is a cell's number -/
def me_rn (ad : Nat → Nat) (v : Value) : Value := match v with
  | .ref k => .ref (ad k)
  | v => v
theorem me_rn_cat (ad : Nat → Nat) (v : Value) : (me_rn ad v).category = v.category := by cases v <;> rfl
theorem me_rn_sum (ad : Nat → Nat) (st : List Value) : ((st.map (me_rn ad)).map fun v => v.category).sum = (st.map fun v => v.category).sum := by
  rw [List.map_map]
  congr 1
  exact List.map_congr_left fun v _ => me_rn_cat ad v
def me_Pre (G : va_G) (cI cJ : ClassId) (ad : Nat → Nat) (args : List Value) (ω : Om) : Array Value → State → Prop := fun v U => v = (args.map (me_rn ad)).toArray ∧ va_P G vwCl (me_cc cI cJ ad ω) U.heap ∧ me_En G cI cJ ad U
def me_Post (G : va_G) (cI cJ : ClassId) (ad : Nat → Nat) (P : Option Value → Om → Prop) : Array Value → State → Outcome → State → Prop := fun _ st o t => (∃ (r : Option Value) (ω' : Om), o = .returned r ∧ P r ω' ∧ va_P G vwCl (me_cc cI cJ ad ω') t.heap) ∧ va_F (me_A ad) st t
def me_ws (y : Nat) : List Cond := .code (me_mn y) (me_mb y) (me_mL y) (me_mr y) :: me_GT
def me_rm (y : Nat) : Room := { frames := (me_mf y).1, cells := 0, slots := 0, locals := (me_mf y).2 }
/-- THE CONTRACT of method y at these arguments and this world -/
def me_Ct (y : Nat) (args : List Value) (ω : Om) (P : Option Value → Om → Prop) : Prop := ∀ (l : Launch) (G : va_G) (cI cJ : ClassId) (ad : Nat → Nat), Met l (me_mn y) (me_ws y) (me_rm y) (me_Pre G cI cJ ad args ω) (me_Post G cI cJ ad P) 0 0 (me_A ad)
/-- what is known of the locals -/
def me_ll : Nat → List (Option Value) → List (Nat × Value)
  | _, [] => []
  | i, none :: t => me_ll (i + 1) t
  | i, some v :: t => (i, v) :: me_ll (i + 1) t
theorem me_ll_mem : ∀ (L : List (Option Value)) (i j : Nat) (v : Value), (j, v) ∈ me_ll i L ↔ ∃ k, j = i + k ∧ L[k]? = some (some v)
  | [], i, j, v => by simp [me_ll]
  | none :: t, i, j, v => by
    rw [me_ll, me_ll_mem t (i + 1) j v]
    constructor
    · rintro ⟨k, h1, h2⟩
      exact ⟨k + 1, by omega, by simpa using h2⟩
    · rintro ⟨k, h1, h2⟩
      match k, h2 with
      | 0, h2 => simp at h2
      | k + 1, h2 => exact ⟨k, by omega, by simpa using h2⟩
  | some w :: t, i, j, v => by
    rw [me_ll, List.mem_cons, me_ll_mem t (i + 1) j v]
    constructor
    · rintro (h | ⟨k, h1, h2⟩)
      · cases h
        exact ⟨0, by omega, rfl⟩
      · exact ⟨k + 1, by omega, by simpa using h2⟩
    · rintro ⟨k, h1, h2⟩
      match k, h2 with
      | 0, h2 =>
        left
        simp at h2
        rw [h1, h2]; rfl
      | k + 1, h2 => exact Or.inr ⟨k, by omega, by simpa using h2⟩
def me_lv (ls : Array Slot) (n : Nat) (ad : Nat → Nat) (L : List (Option Value)) : Prop := lv_has ls n ((me_ll 0 L).map fun q => (q.1, me_rn ad q.2))
theorem me_lv.get {ls : Array Slot} {n : Nat} {ad : Nat → Nat} {L : List (Option Value)} (h : me_lv ls n ad L) {i : Nat} {v : Value} (hi : L[i]? = some (some v)) : ls[i]? = some (.val (me_rn ad v)) := by
  refine h.2.2 (i, me_rn ad v) (List.mem_map.mpr ⟨(i, v), ?_, rfl⟩)
  rw [me_ll_mem]
  exact ⟨i, by omega, hi⟩
/-- fewer known locals -/
theorem me_lv.sub {ls : Array Slot} {n : Nat} {ad : Nat → Nat} {L L' : List (Option Value)} (h : me_lv ls n ad L) (hs : ∀ (i : Nat) (v : Value), L'[i]? = some (some v) → L[i]? = some (some v)) : me_lv ls n ad L' := by
  refine ⟨h.1, h.2.1, fun q hq => ?_⟩
  obtain ⟨⟨i, v⟩, h1, rfl⟩ := List.mem_map.mp hq
  rw [me_ll_mem] at h1
  obtain ⟨k, e, h2⟩ := h1
  obtain rfl : i = k := by omega
  exact h.get (hs i v h2)
/-- storing -/
def me_k (L : List (Option Value)) (i : Nat) : List (Option Value) := match i with
  | 0 => L
  | k + 1 => match L[k]? with
    | some (some w) => if w.category = 2 then L.set k none else L
    | _ => L
def me_s1 (L : List (Option Value)) (i : Nat) (v : Value) : List (Option Value) := (me_k L i).set i (some v)
def me_s2 (L : List (Option Value)) (i : Nat) (v : Value) : List (Option Value) := ((me_k L i).set i (some v)).set (i + 1) none
theorem me_k_sub {L : List (Option Value)} {i j : Nat} {v : Value} (h : (me_k L i)[j]? = some (some v)) : L[j]? = some (some v) ∧ ¬ (j + 1 = i ∧ v.category = 2) := by
  match i, h with
  | 0, h => exact ⟨h, fun q => by omega⟩
  | k + 1, h =>
    unfold me_k at h
    cases hk : L[k]? with
    | none =>
      simp only [hk] at h
      refine ⟨h, fun q => ?_⟩
      obtain rfl : j = k := by omega
      rw [hk] at h; cases h
    | some w =>
      cases w with
      | none =>
        simp only [hk] at h
        refine ⟨h, fun q => ?_⟩
        obtain rfl : j = k := by omega
        rw [hk] at h; cases h
      | some w =>
        simp only [hk] at h
        by_cases hc : w.category = 2
        · rw [if_pos hc, List.getElem?_set] at h
          by_cases hj : k = j
          · rw [if_pos hj] at h
            split at h <;> cases h
          · rw [if_neg hj] at h
            exact ⟨h, fun q => hj (by omega)⟩
        · rw [if_neg hc] at h
          refine ⟨h, fun q => ?_⟩
          obtain rfl : j = k := by omega
          rw [hk] at h
          cases h
          exact hc q.2
theorem me_lv.s1 {ls : Array Slot} {n : Nat} {ad : Nat → Nat} {L : List (Option Value)} {i : Nat} {v : Value} (h : lv_has ls n ((i, me_rn ad v) :: ((me_ll 0 L).map fun q => (q.1, me_rn ad q.2)).filter (fun q => !(q.1 == i) && !(q.1 + 1 == i && q.2.category == 2)))) : me_lv ls n ad (me_s1 L i v) := by
  refine ⟨h.1, h.2.1, fun q hq => ?_⟩
  obtain ⟨⟨j, w⟩, h1, rfl⟩ := List.mem_map.mp hq
  rw [me_ll_mem] at h1
  obtain ⟨k, e, h2⟩ := h1
  obtain rfl : j = k := by omega
  rw [me_s1, List.getElem?_set] at h2
  by_cases hj : i = j
  · rw [if_pos hj] at h2
    split at h2
    · cases h2
      subst hj
      exact h.2.2 _ List.mem_cons_self
    · cases h2
  · rw [if_neg hj] at h2
    obtain ⟨h3, h4⟩ := me_k_sub h2
    refine h.2.2 (j, me_rn ad w) (List.mem_cons_of_mem _ (List.mem_filter.mpr ⟨List.mem_map.mpr ⟨(j, w), ?_, rfl⟩, ?_⟩))
    · rw [me_ll_mem]; exact ⟨j, by omega, h3⟩
    · simp only [me_rn_cat]
      have : ¬ j = i := fun q => hj q.symm
      simp [this]
      exact Decidable.not_and_iff_or_not.mp h4
theorem me_lv.s2 {ls : Array Slot} {n : Nat} {ad : Nat → Nat} {L : List (Option Value)} {i : Nat} {v : Value} (h : lv_has ls n ((i, me_rn ad v) :: ((me_ll 0 L).map fun q => (q.1, me_rn ad q.2)).filter (fun q => !(q.1 == i) && (!(q.1 == i + 1) && !(q.1 + 1 == i && q.2.category == 2))))) : me_lv ls n ad (me_s2 L i v) := by
  refine ⟨h.1, h.2.1, fun q hq => ?_⟩
  obtain ⟨⟨j, w⟩, h1, rfl⟩ := List.mem_map.mp hq
  rw [me_ll_mem] at h1
  obtain ⟨k, e, h2⟩ := h1
  obtain rfl : j = k := by omega
  rw [me_s2, List.getElem?_set] at h2
  by_cases hj1 : i + 1 = j
  · rw [if_pos hj1] at h2
    split at h2 <;> cases h2
  · rw [if_neg hj1, List.getElem?_set] at h2
    by_cases hj : i = j
    · rw [if_pos hj] at h2
      split at h2
      · cases h2
        subst hj
        exact h.2.2 _ List.mem_cons_self
      · cases h2
    · rw [if_neg hj] at h2
      obtain ⟨h3, h4⟩ := me_k_sub h2
      refine h.2.2 (j, me_rn ad w) (List.mem_cons_of_mem _ (List.mem_filter.mpr ⟨List.mem_map.mpr ⟨(j, w), ?_, rfl⟩, ?_⟩))
      · rw [me_ll_mem]; exact ⟨j, by omega, h3⟩
      · simp only [me_rn_cat]
        have e1 : ¬ j = i := fun q => hj q.symm
        have e2 : ¬ j = i + 1 := fun q => hj1 q.symm
        simp [e1, e2]
        exact Decidable.not_and_iff_or_not.mp h4
/-- what holds inside a method -/
def me_At (y : Nat) (p : Program) (s : State) (m : MethodId) (args : Array Value) (meth : Method) (c : Code) (G : va_G) (cI cJ : ClassId) (ad : Nat → Nat) : Prop :=
  p.tables.exec = Jvm.exec ∧ c.code = me_mb y ∧ meth.sig.returnType = me_mr y ∧ c.maxLocals = me_mL y ∧ s.vm.findClass (me_mn y).cls = some m.cls ∧ (∀ w ∈ me_ws y, w.before args s = true) ∧ meth.locks = false ∧ me_En G cI cJ ad s
/-- THE JUDGEMENT: at this place, with these locals and operands and this world, the method comes to its end with P -/
def me_W (y pc : Nat) (L : List (Option Value)) (st : List Value) (ω : Om) (P : Option Value → Om → Prop) : Prop :=
  ∀ (p : Program) (l : Launch) (e : Env) (s : State) (m : MethodId) (args : Array Value) (below : List Frame) (meth : Method) (c : Code) (G : va_G) (cI cJ : ClassId) (ad : Nat → Nat) (H : Heap) (locs : List Loc) (ls : Array Slot),
    me_At y p s m args meth c G cI cJ ad → va_P G vwCl (me_cc cI cJ ad ω) H → va_S (me_A ad) s.heap H locs → me_lv ls (me_mL y) ad L →
    W p l e (me_rm y) s m args below meth c H locs 0 0 (MQ below (me_Post G cI cJ ad P) args s 0 0 (me_A ad)) (F0 m pc ls (st.map (me_rn ad)))
theorem me_W.sub {y pc : Nat} {L L' : List (Option Value)} {st : List Value} {ω : Om} {P : Option Value → Om → Prop} (h : me_W y pc L' st ω P) (hs : ∀ (i : Nat) (v : Value), L'[i]? = some (some v) → L[i]? = some (some v)) : me_W y pc L st ω P :=
  fun p l e s m args below meth c G cI cJ ad H locs ls hAt hP hS hl => h p l e s m args below meth c G cI cJ ad H locs ls hAt hP hS (hl.sub hs)
end
section
/-! ONE INSTRUCTION of the small machine, as what must hold before it -/
abbrev me_K : Type := Nat → List (Option Value) → List Value → Om → Prop
abbrev me_E : Type := Nat × Instr × Nat × Nat × Nat × Int
def me_CtI (z : Nat) (args : List Value) (ω : Om) (Q : Int32 → Om → Prop) : Prop := me_Ct z args ω (fun r ω' => ∃ v : Int32, r = some (.int v) ∧ Q v ω')
def me_CtJ (z : Nat) (args : List Value) (ω : Om) (Q : Int64 → Om → Prop) : Prop := me_Ct z args ω (fun r ω' => ∃ v : Int64, r = some (.long v) ∧ Q v ω')
def me_CtV (z : Nat) (args : List Value) (ω : Om) (Q : Om → Prop) : Prop := me_Ct z args ω (fun r ω' => r = none ∧ Q ω')
def me_li (L : List (Option Value)) (i : Nat) (k : Int32 → Prop) : Prop := match L[i]? with
  | some (some (.int v)) => k v
  | _ => False
def me_lj (L : List (Option Value)) (i : Nat) (k : Int64 → Prop) : Prop := match L[i]? with
  | some (some (.long v)) => k v
  | _ => False
def me_lr (L : List (Option Value)) (i : Nat) (k : Nat → Prop) : Prop := match L[i]? with
  | some (some (.ref v)) => k v
  | _ => False
def me_i1 (st : List Value) (k : Int32 → List Value → Prop) : Prop := match st with
  | .int a :: r => k a r
  | _ => False
def me_i2 (st : List Value) (k : Int32 → Int32 → List Value → Prop) : Prop := match st with
  | .int b :: .int a :: r => k a b r
  | _ => False
def me_j1 (st : List Value) (k : Int64 → List Value → Prop) : Prop := match st with
  | .long a :: r => k a r
  | _ => False
def me_j2 (st : List Value) (k : Int64 → Int64 → List Value → Prop) : Prop := match st with
  | .long b :: .long a :: r => k a b r
  | _ => False
def me_ji (st : List Value) (k : Int64 → Int32 → List Value → Prop) : Prop := match st with
  | .int b :: .long a :: r => k a b r
  | _ => False
def me_r1 (st : List Value) (k : Nat → List Value → Prop) : Prop := match st with
  | .ref a :: r => k a r
  | _ => False
def me_ir (st : List Value) (k : Int32 → Nat → List Value → Prop) : Prop := match st with
  | .int b :: .ref a :: r => k b a r
  | _ => False
/-- the list is laid out before it goes on -/
def me_fc : List (Option Value) → (List (Option Value) → Prop) → Prop
  | [], k => k []
  | x :: t, k => me_fc t (fun t' => k (x :: t'))
theorem me_fc_ok : ∀ {L : List (Option Value)} {k : List (Option Value) → Prop}, me_fc L k → k L
  | [], _, h => h
  | x :: t, k, h => me_fc_ok (L := t) (k := fun t' => k (x :: t')) h
def me_br (c t f : Prop) : Prop := (c → t) ∧ (¬ c → f)
def me_tg (pc : Nat) (off : Int) : Nat := ((pc : Int) + off).toNat
def me_sw (pc : Nat) (x : Int32) (d : Int) (k : Nat → Prop) : List (Int × Int) → Prop
  | [] => k (me_tg pc d)
  | (v, o) :: t => me_br (x = Int32.ofInt v) (k (me_tg pc o)) (me_sw pc x d k t)
def me_ps : Int → List Int → List (Int × Int)
  | _, [] => []
  | lo, o :: t => (lo, o) :: me_ps (lo + 1) t
/-- the class of a method among the worlds' classes -/
def me_cl (z : Nat) : Nat := if z < 4 then 0 else if z < 13 then 1 else if z < 17 then 2 else if z < 36 then 3 else if z < 39 then 4 else if z < 42 then 5 else if z < 46 then 6 else if z < 47 then 99 else if z < 50 then 7 else if z < 57 then 8 else if z < 63 then 9 else if z < 122 then 10 else if z < 184 then 11 else 99
def me_iscl (k c : Nat) : Bool := match me_lay[k]? with
  | some q => q.1 == c
  | none => false
def me_cat8 (r : List Value) : Bool := Nat.ble ((r.map fun v => v.category).sum) 8
/-- behind a call -/
def me_af (z : Nat) (args : List Value) (ω : Om) (pc : Nat) (L : List (Option Value)) (r : List Value) (K : me_K) : Prop := match me_mr z with
  | none => me_CtV z args ω (fun ω' => K (pc + 3) L r ω')
  | some .long => me_CtJ z args ω (fun v ω' => K (pc + 3) L (.long v :: r) ω')
  | some _ => me_CtI z args ω (fun v ω' => K (pc + 3) L (.int v :: r) ω')
def me_cs (z n : Nat) (st : List Value) (ω : Om) (pc : Nat) (L : List (Option Value)) (K : me_K) : Prop := if Nat.ble n st.length && me_cat8 (st.drop n) then me_af z (st.take n).reverse ω pc L (st.drop n) K else False
def me_cv (z n : Nat) (st : List Value) (ω : Om) (pc : Nat) (L : List (Option Value)) (K : me_K) : Prop := match st.drop n with
  | .ref k :: r => if Nat.ble n st.length && (me_cat8 r && me_iscl k (me_cl z)) then me_af z (.ref k :: (st.take n).reverse) ω pc L r K else False
  | _ => False
def me_cu (z1 z2 : Nat) (st : List Value) (ω : Om) (pc : Nat) (L : List (Option Value)) (K : me_K) : Prop := match st with
  | .int v :: .ref k :: r => if me_cat8 r && me_iscl k 1 then me_af z1 [.ref k, .int v] ω pc L r K else if me_cat8 r && me_iscl k 8 then me_af z2 [.ref k, .int v] ω pc L r K else False
  | _ => False
def me_cp (st : List Value) (ω : Om) (pc : Nat) (L : List (Option Value)) (K : me_K) : Prop := match st with
  | .int n :: .int dp :: .ref a1 :: .int sp :: .ref a0 :: r => match me_lay[a0]?, me_lay[a1]? with
    | some (100, N0 :: _), some (100, N1 :: _) => if me_cat8 r then (¬ sp < 0 ∧ ¬ dp < 0 ∧ ¬ n < 0 ∧ sp.toNatClampNeg + n.toNatClampNeg ≤ N0 ∧ dp.toNatClampNeg + n.toNatClampNeg ≤ N1) ∧ K (pc + 3) L r (ur ω a1 (va_cpy (ω.1 a0) (ω.1 a1) sp.toNatClampNeg dp.toNatClampNeg n.toNatClampNeg)) else False
    | _, _ => False
  | _ => False
def me_gf (i ci k : Nat) (ω : Om) (f : Value → Prop) : Prop := match me_lay[i]? with
  | some (c, ks) => if c == ci then (match ks[k]? with
    | some 0 => f (.int (ω.1 i k))
    | some 1 => f (.long (ω.2 i k))
    | some (n + 2) => f (.ref n)
    | none => False) else False
  | none => False
def me_pf (st : List Value) (ci k : Nat) (ω : Om) (f : List Value → Om → Prop) : Prop := match st with
  | .int v :: .ref i :: r => (match me_lay[i]? with
    | some (c, ks) => if c == ci && ks[k]? == some 0 then (if ci == 10 then (v = 0 ∨ v = 1) ∧ f r (ui ω i k v) else f r (ui ω i k v)) else False
    | none => False)
  | .long v :: .ref i :: r => (match me_lay[i]? with
    | some (c, ks) => if c == ci && ks[k]? == some 1 then f r (ul ω i k v) else False
    | none => False)
  | _ => False
def me_ial (i : Int32) (k : Nat) (ω : Om) (f : Int32 → Prop) : Prop := if k == 47 then vp_in i 7 ∧ f (Int32.ofNat (5 ^ i.toNatClampNeg)) else match me_lay[k]? with
  | some (100, N :: _) => vp_in i N ∧ f (ω.1 k i.toNatClampNeg)
  | _ => False
def me_lal (i : Int32) (k : Nat) (ω : Om) (f : Int64 → Prop) : Prop := if k == 46 then vp_in i 7 ∧ f (Int64.ofNat (10 ^ i.toNatClampNeg)) else match me_lay[k]? with
  | some (101, N :: _) => vp_in i N ∧ f (ω.2 k i.toNatClampNeg)
  | _ => False
def me_ias (st : List Value) (ω : Om) (f : List Value → Om → Prop) : Prop := match st with
  | .int x :: .int i :: .ref k :: r => (match me_lay[k]? with
    | some (100, N :: _) => vp_in i N ∧ f r (ui ω k i.toNatClampNeg x)
    | _ => False)
  | _ => False
def me_las (st : List Value) (ω : Om) (f : List Value → Om → Prop) : Prop := match st with
  | .long x :: .int i :: .ref k :: r => (match me_lay[k]? with
    | some (101, N :: _) => vp_in i N ∧ f r (ul ω k i.toNatClampNeg x)
    | _ => False)
  | _ => False
def me_du (st : List Value) (f : List Value → Prop) : Prop := match st with
  | v :: r => if v.category == 1 then f (v :: v :: r) else False
  | _ => False
def me_d2 (st : List Value) (f : List Value → Prop) : Prop := match st with
  | v :: w :: r => if v.category == 1 && w.category == 1 then f (v :: w :: v :: w :: r) else False
  | _ => False
def me_p2 (st : List Value) (f : List Value → Prop) : Prop := match st with
  | v :: r => if v.category == 2 then f r else False
  | _ => False
def me_ri (st : List Value) (b : Nat) (P : Option Value → Prop) : Prop := match st with
  | [.int v] => if b == 1 then (v = 0 ∨ v = 1) ∧ P (some (.int v)) else P (some (.int v))
  | _ => False
def me_rj (st : List Value) (P : Option Value → Prop) : Prop := match st with
  | [.long v] => P (some (.long v))
  | _ => False
def me_rv (st : List Value) (P : Option Value → Prop) : Prop := match st with
  | [] => P none
  | _ => False
def me_st (x : me_E) (pc : Nat) (L : List (Option Value)) (st : List Value) (ω : Om) (P : Option Value → Om → Prop) (K : me_K) : Prop := match x.2.1 with
  | .aload_n n => me_lr L n.val fun v => K (pc + 1) L (.ref v :: st) ω
  | .iload_n n => me_li L n.val fun v => K (pc + 1) L (.int v :: st) ω
  | .iload n => me_li L n fun v => K (pc + 2) L (.int v :: st) ω
  | .lload_n n => me_lj L n.val fun v => K (pc + 1) L (.long v :: st) ω
  | .lload n => me_lj L n fun v => K (pc + 2) L (.long v :: st) ω
  | .istore_n n => me_i1 st fun v r => me_fc (me_s1 L n.val (.int v)) fun L' => K (pc + 1) L' r ω
  | .istore n => me_i1 st fun v r => me_fc (me_s1 L n (.int v)) fun L' => K (pc + 2) L' r ω
  | .lstore_n n => me_j1 st fun v r => me_fc (me_s2 L n.val (.long v)) fun L' => K (pc + 1) L' r ω
  | .lstore n => me_j1 st fun v r => me_fc (me_s2 L n (.long v)) fun L' => K (pc + 2) L' r ω
  | .iinc n z => me_li L n fun v => me_fc (me_s1 L n (.int (v + Int32.ofInt z))) fun L' => K (pc + 3) L' st ω
  | .iconst z => K (pc + 1) L (.int (Int32.ofInt z) :: st) ω
  | .bipush z => K (pc + 2) L (.int ((Int8.ofInt z).toInt32) :: st) ω
  | .sipush z => K (pc + 3) L (.int ((Int16.ofInt z).toInt32) :: st) ω
  | .lconst n => K (pc + 1) L (.long (Int64.ofNat (n : Nat)) :: st) ω
  | .ldc _ => K (pc + 2) L (.int (Int32.ofInt x.2.2.2.2.2) :: st) ω
  | .ldc_w _ => K (pc + 3) L (.int (Int32.ofInt x.2.2.2.2.2) :: st) ω
  | .ldc2_w _ => K (pc + 3) L (.long (Int64.ofInt x.2.2.2.2.2) :: st) ω
  | .iadd => me_i2 st fun a b r => K (pc + 1) L (.int (a + b) :: r) ω
  | .isub => me_i2 st fun a b r => K (pc + 1) L (.int (a - b) :: r) ω
  | .imul => me_i2 st fun a b r => K (pc + 1) L (.int (a * b) :: r) ω
  | .iand => me_i2 st fun a b r => K (pc + 1) L (.int (a &&& b) :: r) ω
  | .ior => me_i2 st fun a b r => K (pc + 1) L (.int (a ||| b) :: r) ω
  | .ixor => me_i2 st fun a b r => K (pc + 1) L (.int (a ^^^ b) :: r) ω
  | .ishl => me_i2 st fun a b r => K (pc + 1) L (.int (a <<< (b &&& 31)) :: r) ω
  | .ishr => me_i2 st fun a b r => K (pc + 1) L (.int (a >>> (b &&& 31)) :: r) ω
  | .iushr => me_i2 st fun a b r => K (pc + 1) L (.int ((a.toUInt32 >>> (b.toUInt32 &&& Int32.toUInt32 31)).toInt32) :: r) ω
  | .idiv => me_i2 st fun a b r => ¬ b = 0 ∧ K (pc + 1) L (.int (a / b) :: r) ω
  | .irem => me_i2 st fun a b r => ¬ b = 0 ∧ K (pc + 1) L (.int (a - a / b * b) :: r) ω
  | .ladd => me_j2 st fun a b r => K (pc + 1) L (.long (a + b) :: r) ω
  | .lsub => me_j2 st fun a b r => K (pc + 1) L (.long (a - b) :: r) ω
  | .lmul => me_j2 st fun a b r => K (pc + 1) L (.long (a * b) :: r) ω
  | .land => me_j2 st fun a b r => K (pc + 1) L (.long (a &&& b) :: r) ω
  | .ldiv => me_j2 st fun a b r => ¬ b = 0 ∧ K (pc + 1) L (.long (a / b) :: r) ω
  | .lrem => me_j2 st fun a b r => ¬ b = 0 ∧ K (pc + 1) L (.long (a - a / b * b) :: r) ω
  | .lneg => me_j1 st fun a r => K (pc + 1) L (.long (-a) :: r) ω
  | .lcmp => me_j2 st fun a b r => K (pc + 1) L (.int (lg_cmp a b) :: r) ω
  | .lushr => me_ji st fun a b r => K (pc + 1) L (.long ((a.toUInt64 >>> (b.toInt64.toUInt64 &&& Int64.toUInt64 63)).toInt64) :: r) ω
  | .i2l => me_i1 st fun a r => K (pc + 1) L (.long a.toInt64 :: r) ω
  | .l2i => me_j1 st fun a r => K (pc + 1) L (.int a.toInt32 :: r) ω
  | .dup => me_du st fun r => K (pc + 1) L r ω
  | .dup2 => me_d2 st fun r => K (pc + 1) L r ω
  | .pop2 => me_p2 st fun r => K (pc + 1) L r ω
  | .goto o => K (me_tg pc o) L st ω
  | .ifCond .eq o => me_i1 st fun a r => me_br (a = 0) (K (me_tg pc o) L r ω) (K (pc + 3) L r ω)
  | .ifCond .ne o => me_i1 st fun a r => me_br (a = 0) (K (pc + 3) L r ω) (K (me_tg pc o) L r ω)
  | .ifCond .lt o => me_i1 st fun a r => me_br (a < 0) (K (me_tg pc o) L r ω) (K (pc + 3) L r ω)
  | .ifCond .ge o => me_i1 st fun a r => me_br (0 ≤ a) (K (me_tg pc o) L r ω) (K (pc + 3) L r ω)
  | .ifCond .gt o => me_i1 st fun a r => me_br (0 < a) (K (me_tg pc o) L r ω) (K (pc + 3) L r ω)
  | .ifCond .le o => me_i1 st fun a r => me_br (a ≤ 0) (K (me_tg pc o) L r ω) (K (pc + 3) L r ω)
  | .if_icmp .eq o => me_i2 st fun a b r => me_br (a = b) (K (me_tg pc o) L r ω) (K (pc + 3) L r ω)
  | .if_icmp .ne o => me_i2 st fun a b r => me_br (a = b) (K (pc + 3) L r ω) (K (me_tg pc o) L r ω)
  | .if_icmp .lt o => me_i2 st fun a b r => me_br (a < b) (K (me_tg pc o) L r ω) (K (pc + 3) L r ω)
  | .if_icmp .ge o => me_i2 st fun a b r => me_br (b ≤ a) (K (me_tg pc o) L r ω) (K (pc + 3) L r ω)
  | .if_icmp .gt o => me_i2 st fun a b r => me_br (b < a) (K (me_tg pc o) L r ω) (K (pc + 3) L r ω)
  | .if_icmp .le o => me_i2 st fun a b r => me_br (a ≤ b) (K (me_tg pc o) L r ω) (K (pc + 3) L r ω)
  | .tableswitch d lo _ offs => me_i1 st fun a r => me_sw pc a d (fun t => K t L r ω) (me_ps lo offs.toList)
  | .lookupswitch d ps => me_i1 st fun a r => me_sw pc a d (fun t => K t L r ω) ps.toList
  | .getfield _ => me_r1 st fun i r => me_gf i x.2.2.1 x.2.2.2.1 ω fun v => K (pc + 3) L (v :: r) ω
  | .putfield _ => me_pf st x.2.2.1 x.2.2.2.1 ω fun r ω' => K (pc + 3) L r ω'
  | .getstatic _ => K (pc + 3) L (.ref x.2.2.1 :: st) ω
  | .arraylength => me_r1 st fun i r => if i == 46 || i == 47 then K (pc + 1) L (.int 7 :: r) ω else False
  | .iaload => me_ir st fun i k r => me_ial i k ω fun v => K (pc + 1) L (.int v :: r) ω
  | .laload => me_ir st fun i k r => me_lal i k ω fun v => K (pc + 1) L (.long v :: r) ω
  | .iastore => me_ias st ω fun r ω' => K (pc + 1) L r ω'
  | .lastore => me_las st ω fun r ω' => K (pc + 1) L r ω'
  | .invokevirtual _ => if x.2.2.2.1 == 3 then me_cu x.2.2.1 x.2.2.2.2.2.toNat st ω pc L K else me_cv x.2.2.1 (me_mp x.2.2.1) st ω pc L K
  | .invokestatic _ => if x.2.2.2.1 == 4 then me_cp st ω pc L K else if x.2.2.2.1 == 5 then me_i2 st (fun a b r => if me_cat8 r then K (pc + 3) L (.int (if b < a then b else a) :: r) ω else False) else if x.2.2.2.1 == 6 then me_j2 st (fun a b r => if me_cat8 r then K (pc + 3) L (.long (if b < a then b else a) :: r) ω else False) else me_cs x.2.2.1 (me_mp x.2.2.1) st ω pc L K
  | .ireturn => me_ri st x.2.2.1 fun r => P r ω
  | .lreturn => me_rj st fun r => P r ω
  | .return_ => me_rv st fun r => P r ω
  | _ => False
/-- what the program checks once of each row of a method's code -/
def me_ln : Instr → Nat
  | .iload _ | .lload _ | .istore _ | .lstore _ | .bipush _ | .ldc _ => 2
  | .iinc _ _ | .sipush _ | .ldc_w _ | .ldc2_w _ | .goto _ | .ifCond _ _ | .if_icmp _ _ | .getfield _ | .putfield _ | .getstatic _ | .invokevirtual _ | .invokestatic _ => 3
  | _ => 1
def me_isw : Instr → Bool
  | .tableswitch _ _ _ _ | .lookupswitch _ _ => true
  | _ => false
def me_dc (b : ByteArray) (pc : Nat) (i : Instr) : Bool := match decode b pc with
  | .ok (j, n) => decide (j = i) && (n == me_ln i || me_isw i)
  | _ => false
def me_wd (j : Nat) (w : Cond) : Bool := decide (lw_tbl[j]? = some w) && goodWord w
def me_T (a b : Nat) : String × String × String × Bool := match vwCl[a]? with
  | some q => q.2.1 b
  | none => ("", "", "", false)
def me_N (a : Nat) : Nat := match vwCl[a]? with
  | some q => q.2.2
  | none => 0
def me_rmk (y z : Nat) : Bool := decide ((me_mf z).1 + 1 ≤ (me_mf y).1) && decide (8 + (me_mL z + 11) + (me_mf z).2 ≤ (me_mf y).2)
def me_fn (a b : Nat) : Bool := (me_T a b).2.2.2 == false && ((me_T a b).2.2.1 == (if a == 10 then "Z" else if a == 11 && b == 37 then "J" else "I"))
def me_vi (z : Nat) : Bool := me_wd (me_mj z).2.2.2.1 (.instanceMethod (me_mn z)) && me_wd (me_mj z).2.2.2.2 (.selects (me_mn z).cls (me_mn z) (me_mn z)) && decide ((vwCl[me_cl z]?).map (fun q => q.1) = some (me_mn z).cls)
def me_jp (pc : Nat) (o : Int) : Bool := decide (0 ≤ (pc : Int) + o)
def me_ck (y : Nat) (e : me_E) : Bool := me_dc (me_mb y) e.1 e.2.1 && (match e.2.1 with
  | .getfield i => decide (e.2.2.1 < 12) && decide (e.2.2.2.1 < me_N e.2.2.1) && me_wd e.2.2.2.2.1 (.fieldLink (me_mn y).cls i (me_T e.2.2.1 e.2.2.2.1).1 (me_T e.2.2.1 e.2.2.2.1).2.1 (me_T e.2.2.1 e.2.2.2.1).2.2.1)
  | .putfield i => decide (e.2.2.1 < 12) && decide (e.2.2.2.1 < me_N e.2.2.1) && me_fn e.2.2.1 e.2.2.2.1 && me_wd e.2.2.2.2.1 (.fieldLink (me_mn y).cls i (me_T e.2.2.1 e.2.2.2.1).1 (me_T e.2.2.1 e.2.2.2.1).2.1 (me_T e.2.2.1 e.2.2.2.1).2.2.1)
  | .getstatic i => (e.2.2.1 == 46 && me_wd e.2.2.2.2.1 (.fieldLink (me_mn y).cls i "WokenOnce" "POWERS_OF_TEN" "[J")) || (e.2.2.1 == 47 && me_wd e.2.2.2.2.1 (.fieldLink (me_mn y).cls i "WokenOnce" "POWERS_OF_FIVE" "[I"))
  | .ldc i => me_wd e.2.2.2.2.1 (.constant (me_mn y).cls i (Int32.ofInt e.2.2.2.2.2))
  | .ldc_w i => me_wd e.2.2.2.2.1 (.constant (me_mn y).cls i (Int32.ofInt e.2.2.2.2.2))
  | .ldc2_w i => me_wd e.2.2.2.2.1 (.constantLong (me_mn y).cls i (Int64.ofInt e.2.2.2.2.2))
  | .ifCond _ o => me_jp e.1 o
  | .if_icmp _ o => me_jp e.1 o
  | .goto o => me_jp e.1 o
  | .tableswitch d lo hi offs => me_jp e.1 d && offs.toList.all (me_jp e.1) && decide (hi = lo + offs.size - 1) && decide (-1000000 < lo) && decide (hi < 1000000) && decide (lo ≤ hi)
  | .lookupswitch d ps => me_jp e.1 d && ps.toList.all (fun q => me_jp e.1 q.2 && decide ((Int32.ofInt q.1).toInt = q.1)) && (ps.toList.zip (ps.toList.drop 1)).all (fun (a, next) => a.1 < next.1)
  | .istore i => decide (i < me_mL y)
  | .istore_n i => decide (i.val < me_mL y)
  | .iinc i _ => decide (i < me_mL y)
  | .lstore i => decide (i + 1 < me_mL y)
  | .lstore_n i => decide (i.val + 1 < me_mL y)
  | .invokevirtual i => if e.2.2.2.1 == 3 then me_wd e.2.2.2.2.1 (.methodLink (me_mn y).cls i ⟨"WokenOnce$Reader", "takes", "(I)Z"⟩) && (e.2.2.1 == 7 && (e.2.2.2.2.2.toNat == 52 && (me_rmk y 7 && me_rmk y 52)))
      else decide (e.2.2.1 < 185) && me_rmk y e.2.2.1 && me_wd e.2.2.2.2.1 (.methodLink (me_mn y).cls i (me_mn e.2.2.1)) && me_vi e.2.2.1
  | .invokestatic i => if e.2.2.2.1 == 4 then me_wd e.2.2.2.2.1 (.methodLink (me_mn y).cls i arraycopyName) && decide (1 ≤ (me_mf y).1) && decide (26 ≤ (me_mf y).2)
      else if e.2.2.2.1 == 5 then me_wd e.2.2.2.2.1 (.methodLink (me_mn y).cls i Lib.Math.min.name) && decide (1 ≤ (me_mf y).1) && decide (21 ≤ (me_mf y).2)
      else if e.2.2.2.1 == 6 then me_wd e.2.2.2.2.1 (.methodLink (me_mn y).cls i Lib.MathLoose.min_long.x) && decide (1 ≤ (me_mf y).1) && decide (23 ≤ (me_mf y).2)
      else decide (e.2.2.1 < 185) && me_rmk y e.2.2.1 && me_wd (me_mj e.2.2.1).2.2.1 (.static (me_mn e.2.2.1)) && (if e.2.2.2.1 == 2 then decide (lw_tbl[e.2.2.2.2.1]? = some (.methodLinkNest (me_mn y).cls i (me_mn e.2.2.1) "WokenOnce")) else me_wd e.2.2.2.2.1 (.methodLink (me_mn y).cls i (me_mn e.2.2.1)))
  | .ireturn => (e.2.2.1 == 1 && decide (me_mr y = some .boolean)) || (e.2.2.1 == 0 && decide (me_mr y = some .int))
  | .lreturn => decide (me_mr y = some .long)
  | .return_ => decide (me_mr y = none)
  | _ => true)
/-- .. and once of each method -/
def me_cm (z : Nat) : Bool := me_wd (me_mj z).2.1 (.initialized (me_mn z).cls) && plainName (me_mn z).cls
  && decide ((parseMethodDescriptor (me_mn z).desc).map (fun d => d.parameters.length) = some (me_mp z)) && decide ((me_mn z).cls ≠ "java/lang/invoke/MethodHandle") && decide ((me_mn z).cls ≠ "java/lang/invoke/VarHandle")
def me_cz (z : Nat) : Prop := lw_tbl[(me_mj z).1]? = some (.code (me_mn z) (me_mb z) (me_mL z) (me_mr z)) ∧ me_cm z = true
end
section
theorem me_x_aload_n {y pc : Nat} {L : List (Option Value)} {st : List Value} {ω : Om} {P : Option Value → Om → Prop} {K : me_K} (hK : ∀ pc L st ω, K pc L st ω → me_W y pc L st ω P) {n : Fin 4} (hd : decode (me_mb y) pc = .ok (.aload_n n, 1)) (h : me_lr L n.val fun v => K (pc + 1) L (.ref v :: st) ω) : me_W y pc L st ω P := by
  unfold me_lr at h
  split at h
  next v hv =>
    intro p l e s m args below meth c G cI cJ ad H locs ls hAt hP hS hl
    obtain ⟨hx, hb, hr, hml, hown, hts, hlk, hE⟩ := id hAt
    exact lv_aload_n hx hb hd rfl (hl.get hv) (hK _ _ _ _ h p l e s m args below meth c G cI cJ ad H locs ls hAt hP hS hl)
  next => exact h.elim
theorem me_x_iload_n {y pc : Nat} {L : List (Option Value)} {st : List Value} {ω : Om} {P : Option Value → Om → Prop} {K : me_K} (hK : ∀ pc L st ω, K pc L st ω → me_W y pc L st ω P) {n : Fin 4} (hd : decode (me_mb y) pc = .ok (.iload_n n, 1)) (h : me_li L n.val fun v => K (pc + 1) L (.int v :: st) ω) : me_W y pc L st ω P := by
  unfold me_li at h
  split at h
  next v hv =>
    intro p l e s m args below meth c G cI cJ ad H locs ls hAt hP hS hl
    obtain ⟨hx, hb, hr, hml, hown, hts, hlk, hE⟩ := id hAt
    exact lv_iload_n hx hb hd rfl (hl.get hv) (hK _ _ _ _ h p l e s m args below meth c G cI cJ ad H locs ls hAt hP hS hl)
  next => exact h.elim
theorem me_x_iload {y pc : Nat} {L : List (Option Value)} {st : List Value} {ω : Om} {P : Option Value → Om → Prop} {K : me_K} (hK : ∀ pc L st ω, K pc L st ω → me_W y pc L st ω P) {n : Nat} (hd : decode (me_mb y) pc = .ok (.iload n, 2)) (h : me_li L n fun v => K (pc + 2) L (.int v :: st) ω) : me_W y pc L st ω P := by
  unfold me_li at h
  split at h
  next v hv =>
    intro p l e s m args below meth c G cI cJ ad H locs ls hAt hP hS hl
    obtain ⟨hx, hb, hr, hml, hown, hts, hlk, hE⟩ := id hAt
    exact lv_iload hx hb hd (hl.get hv) (hK _ _ _ _ h p l e s m args below meth c G cI cJ ad H locs ls hAt hP hS hl)
  next => exact h.elim
theorem me_x_lload_n {y pc : Nat} {L : List (Option Value)} {st : List Value} {ω : Om} {P : Option Value → Om → Prop} {K : me_K} (hK : ∀ pc L st ω, K pc L st ω → me_W y pc L st ω P) {n : Fin 4} (hd : decode (me_mb y) pc = .ok (.lload_n n, 1)) (h : me_lj L n.val fun v => K (pc + 1) L (.long v :: st) ω) : me_W y pc L st ω P := by
  unfold me_lj at h
  split at h
  next v hv =>
    intro p l e s m args below meth c G cI cJ ad H locs ls hAt hP hS hl
    obtain ⟨hx, hb, hr, hml, hown, hts, hlk, hE⟩ := id hAt
    exact lv_lload_n hx hb hd rfl (hl.get hv) (hK _ _ _ _ h p l e s m args below meth c G cI cJ ad H locs ls hAt hP hS hl)
  next => exact h.elim
theorem me_x_lload {y pc : Nat} {L : List (Option Value)} {st : List Value} {ω : Om} {P : Option Value → Om → Prop} {K : me_K} (hK : ∀ pc L st ω, K pc L st ω → me_W y pc L st ω P) {n : Nat} (hd : decode (me_mb y) pc = .ok (.lload n, 2)) (h : me_lj L n fun v => K (pc + 2) L (.long v :: st) ω) : me_W y pc L st ω P := by
  unfold me_lj at h
  split at h
  next v hv =>
    intro p l e s m args below meth c G cI cJ ad H locs ls hAt hP hS hl
    obtain ⟨hx, hb, hr, hml, hown, hts, hlk, hE⟩ := id hAt
    exact lv_lload hx hb hd (hl.get hv) (hK _ _ _ _ h p l e s m args below meth c G cI cJ ad H locs ls hAt hP hS hl)
  next => exact h.elim
theorem me_x_istore_n {y pc : Nat} {L : List (Option Value)} {st : List Value} {ω : Om} {P : Option Value → Om → Prop} {K : me_K} (hK : ∀ pc L st ω, K pc L st ω → me_W y pc L st ω P) {n : Fin 4} (hd : decode (me_mb y) pc = .ok (.istore_n n, 1)) (hn : n.val < me_mL y) (h : me_i1 st fun v r => me_fc (me_s1 L n.val (.int v)) fun L' => K (pc + 1) L' r ω) : me_W y pc L st ω P := by
  unfold me_i1 at h
  split at h
  next v r =>
    intro p l e s m args below meth c G cI cJ ad H locs ls hAt hP hS hl
    obtain ⟨hx, hb, hr, hml, hown, hts, hlk, hE⟩ := id hAt
    exact lv_istore_n hx hb hd rfl hl hn rfl (fun ls' hl' => hK _ _ _ _ (me_fc_ok h) p l e s m args below meth c G cI cJ ad H locs ls' hAt hP hS (me_lv.s1 (v := .int v) hl'))
  next => exact h.elim
theorem me_x_istore {y pc : Nat} {L : List (Option Value)} {st : List Value} {ω : Om} {P : Option Value → Om → Prop} {K : me_K} (hK : ∀ pc L st ω, K pc L st ω → me_W y pc L st ω P) {n : Nat} (hd : decode (me_mb y) pc = .ok (.istore n, 2)) (hn : n < me_mL y) (h : me_i1 st fun v r => me_fc (me_s1 L n (.int v)) fun L' => K (pc + 2) L' r ω) : me_W y pc L st ω P := by
  unfold me_i1 at h
  split at h
  next v r =>
    intro p l e s m args below meth c G cI cJ ad H locs ls hAt hP hS hl
    obtain ⟨hx, hb, hr, hml, hown, hts, hlk, hE⟩ := id hAt
    exact lv_istore hx hb hd hl hn rfl (fun ls' hl' => hK _ _ _ _ (me_fc_ok h) p l e s m args below meth c G cI cJ ad H locs ls' hAt hP hS (me_lv.s1 (v := .int v) hl'))
  next => exact h.elim
theorem me_x_lstore_n {y pc : Nat} {L : List (Option Value)} {st : List Value} {ω : Om} {P : Option Value → Om → Prop} {K : me_K} (hK : ∀ pc L st ω, K pc L st ω → me_W y pc L st ω P) {n : Fin 4} (hd : decode (me_mb y) pc = .ok (.lstore_n n, 1)) (hn : n.val + 1 < me_mL y) (h : me_j1 st fun v r => me_fc (me_s2 L n.val (.long v)) fun L' => K (pc + 1) L' r ω) : me_W y pc L st ω P := by
  unfold me_j1 at h
  split at h
  next v r =>
    intro p l e s m args below meth c G cI cJ ad H locs ls hAt hP hS hl
    obtain ⟨hx, hb, hr, hml, hown, hts, hlk, hE⟩ := id hAt
    exact lv_lstore_n hx hb hd rfl hl hn rfl (fun ls' hl' => hK _ _ _ _ (me_fc_ok h) p l e s m args below meth c G cI cJ ad H locs ls' hAt hP hS (me_lv.s2 (v := .long v) hl'))
  next => exact h.elim
theorem me_x_lstore {y pc : Nat} {L : List (Option Value)} {st : List Value} {ω : Om} {P : Option Value → Om → Prop} {K : me_K} (hK : ∀ pc L st ω, K pc L st ω → me_W y pc L st ω P) {n : Nat} (hd : decode (me_mb y) pc = .ok (.lstore n, 2)) (hn : n + 1 < me_mL y) (h : me_j1 st fun v r => me_fc (me_s2 L n (.long v)) fun L' => K (pc + 2) L' r ω) : me_W y pc L st ω P := by
  unfold me_j1 at h
  split at h
  next v r =>
    intro p l e s m args below meth c G cI cJ ad H locs ls hAt hP hS hl
    obtain ⟨hx, hb, hr, hml, hown, hts, hlk, hE⟩ := id hAt
    exact lv_lstore hx hb hd hl hn rfl (fun ls' hl' => hK _ _ _ _ (me_fc_ok h) p l e s m args below meth c G cI cJ ad H locs ls' hAt hP hS (me_lv.s2 (v := .long v) hl'))
  next => exact h.elim
theorem me_x_iinc {y pc : Nat} {L : List (Option Value)} {st : List Value} {ω : Om} {P : Option Value → Om → Prop} {K : me_K} (hK : ∀ pc L st ω, K pc L st ω → me_W y pc L st ω P) {n : Nat} {z : Int} (hd : decode (me_mb y) pc = .ok (.iinc n z, 3)) (hn : n < me_mL y) (h : me_li L n fun v => me_fc (me_s1 L n (.int (v + Int32.ofInt z))) fun L' => K (pc + 3) L' st ω) : me_W y pc L st ω P := by
  unfold me_li at h
  split at h
  next v hv =>
    intro p l e s m args below meth c G cI cJ ad H locs ls hAt hP hS hl
    obtain ⟨hx, hb, hr, hml, hown, hts, hlk, hE⟩ := id hAt
    have hm : (n, Value.int v) ∈ (me_ll 0 L).map fun q => (q.1, me_rn ad q.2) := List.mem_map.mpr ⟨(n, .int v), (me_ll_mem _ _ _ _).mpr ⟨n, by omega, hv⟩, rfl⟩
    obtain ⟨k, hk⟩ := List.getElem?_of_mem hm
    exact lv_iinc hx hb hd hl hk rfl hn rfl (fun ls' hl' => hK _ _ _ _ (me_fc_ok h) p l e s m args below meth c G cI cJ ad H locs ls' hAt hP hS (me_lv.s1 (v := .int (v + Int32.ofInt z)) hl'))
  next => exact h.elim
theorem me_x_iconst {y pc : Nat} {L : List (Option Value)} {st : List Value} {ω : Om} {P : Option Value → Om → Prop} {K : me_K} (hK : ∀ pc L st ω, K pc L st ω → me_W y pc L st ω P) {z : Int} (hd : decode (me_mb y) pc = .ok (.iconst z, 1)) (h : K (pc + 1) L (.int (Int32.ofInt z) :: st) ω) : me_W y pc L st ω P := by
  intro p l e s m args below meth c G cI cJ ad H locs ls hAt hP hS hl
  obtain ⟨hx, hb, hr, hml, hown, hts, hlk, hE⟩ := id hAt
  exact lv_iconst hx hb hd rfl (hK _ _ _ _ h p l e s m args below meth c G cI cJ ad H locs ls hAt hP hS hl)
theorem me_x_bipush {y pc : Nat} {L : List (Option Value)} {st : List Value} {ω : Om} {P : Option Value → Om → Prop} {K : me_K} (hK : ∀ pc L st ω, K pc L st ω → me_W y pc L st ω P) {z : Int} (hd : decode (me_mb y) pc = .ok (.bipush z, 2)) (h : K (pc + 2) L (.int ((Int8.ofInt z).toInt32) :: st) ω) : me_W y pc L st ω P := by
  intro p l e s m args below meth c G cI cJ ad H locs ls hAt hP hS hl
  obtain ⟨hx, hb, hr, hml, hown, hts, hlk, hE⟩ := id hAt
  exact lv_bipush hx hb hd rfl (hK _ _ _ _ h p l e s m args below meth c G cI cJ ad H locs ls hAt hP hS hl)
theorem me_x_sipush {y pc : Nat} {L : List (Option Value)} {st : List Value} {ω : Om} {P : Option Value → Om → Prop} {K : me_K} (hK : ∀ pc L st ω, K pc L st ω → me_W y pc L st ω P) {z : Int} (hd : decode (me_mb y) pc = .ok (.sipush z, 3)) (h : K (pc + 3) L (.int ((Int16.ofInt z).toInt32) :: st) ω) : me_W y pc L st ω P := by
  intro p l e s m args below meth c G cI cJ ad H locs ls hAt hP hS hl
  obtain ⟨hx, hb, hr, hml, hown, hts, hlk, hE⟩ := id hAt
  exact lv_sipush hx hb hd rfl (hK _ _ _ _ h p l e s m args below meth c G cI cJ ad H locs ls hAt hP hS hl)
theorem me_x_lconst {y pc : Nat} {L : List (Option Value)} {st : List Value} {ω : Om} {P : Option Value → Om → Prop} {K : me_K} (hK : ∀ pc L st ω, K pc L st ω → me_W y pc L st ω P) {z : Fin 2} (hd : decode (me_mb y) pc = .ok (.lconst z, 1)) (h : K (pc + 1) L (.long (Int64.ofNat (z : Nat)) :: st) ω) : me_W y pc L st ω P := by
  intro p l e s m args below meth c G cI cJ ad H locs ls hAt hP hS hl
  obtain ⟨hx, hb, hr, hml, hown, hts, hlk, hE⟩ := id hAt
  exact lv_lconst hx hb hd rfl (hK _ _ _ _ h p l e s m args below meth c G cI cJ ad H locs ls hAt hP hS hl)
theorem me_x_ldc {y pc : Nat} {L : List (Option Value)} {st : List Value} {ω : Om} {P : Option Value → Om → Prop} {K : me_K} (hK : ∀ pc L st ω, K pc L st ω → me_W y pc L st ω P) {i : Nat} {z : Int} (hd : decode (me_mb y) pc = .ok (.ldc i, 2)) (hw : Cond.constant (me_mn y).cls i (Int32.ofInt z) ∈ me_GT) (h : K (pc + 2) L (.int (Int32.ofInt z) :: st) ω) : me_W y pc L st ω P := by
  intro p l e s m args below meth c G cI cJ ad H locs ls hAt hP hS hl
  obtain ⟨hx, hb, hr, hml, hown, hts, hlk, hE⟩ := id hAt
  exact lv_ldc hx hb hown (hts _ (List.mem_cons_of_mem _ hw)) hd (hK _ _ _ _ h p l e s m args below meth c G cI cJ ad H locs ls hAt hP hS hl)
theorem me_x_ldc_w {y pc : Nat} {L : List (Option Value)} {st : List Value} {ω : Om} {P : Option Value → Om → Prop} {K : me_K} (hK : ∀ pc L st ω, K pc L st ω → me_W y pc L st ω P) {i : Nat} {z : Int} (hd : decode (me_mb y) pc = .ok (.ldc_w i, 3)) (hw : Cond.constant (me_mn y).cls i (Int32.ofInt z) ∈ me_GT) (h : K (pc + 3) L (.int (Int32.ofInt z) :: st) ω) : me_W y pc L st ω P := by
  intro p l e s m args below meth c G cI cJ ad H locs ls hAt hP hS hl
  obtain ⟨hx, hb, hr, hml, hown, hts, hlk, hE⟩ := id hAt
  exact lv_ldcw hx hb hown (hts _ (List.mem_cons_of_mem _ hw)) hd (hK _ _ _ _ h p l e s m args below meth c G cI cJ ad H locs ls hAt hP hS hl)
theorem me_x_ldc2_w {y pc : Nat} {L : List (Option Value)} {st : List Value} {ω : Om} {P : Option Value → Om → Prop} {K : me_K} (hK : ∀ pc L st ω, K pc L st ω → me_W y pc L st ω P) {i : Nat} {z : Int} (hd : decode (me_mb y) pc = .ok (.ldc2_w i, 3)) (hw : Cond.constantLong (me_mn y).cls i (Int64.ofInt z) ∈ me_GT) (h : K (pc + 3) L (.long (Int64.ofInt z) :: st) ω) : me_W y pc L st ω P := by
  intro p l e s m args below meth c G cI cJ ad H locs ls hAt hP hS hl
  obtain ⟨hx, hb, hr, hml, hown, hts, hlk, hE⟩ := id hAt
  exact lv_ldc2 hx hb hown (hts _ (List.mem_cons_of_mem _ hw)) hd (hK _ _ _ _ h p l e s m args below meth c G cI cJ ad H locs ls hAt hP hS hl)
theorem me_x_iadd {y pc : Nat} {L : List (Option Value)} {st : List Value} {ω : Om} {P : Option Value → Om → Prop} {K : me_K} (hK : ∀ pc L st ω, K pc L st ω → me_W y pc L st ω P) (hd : decode (me_mb y) pc = .ok (.iadd, 1)) (h : me_i2 st fun a b r => K (pc + 1) L (.int (a + b) :: r) ω) : me_W y pc L st ω P := by
  unfold me_i2 at h
  split at h
  next b a r =>
    intro p l e s m args below meth c G cI cJ ad H locs ls hAt hP hS hl
    obtain ⟨hx, hb, hr, hml, hown, hts, hlk, hE⟩ := id hAt
    exact lv_iadd hx hb hd (hK _ _ _ _ h p l e s m args below meth c G cI cJ ad H locs ls hAt hP hS hl)
  next => exact h.elim
theorem me_x_isub {y pc : Nat} {L : List (Option Value)} {st : List Value} {ω : Om} {P : Option Value → Om → Prop} {K : me_K} (hK : ∀ pc L st ω, K pc L st ω → me_W y pc L st ω P) (hd : decode (me_mb y) pc = .ok (.isub, 1)) (h : me_i2 st fun a b r => K (pc + 1) L (.int (a - b) :: r) ω) : me_W y pc L st ω P := by
  unfold me_i2 at h
  split at h
  next b a r =>
    intro p l e s m args below meth c G cI cJ ad H locs ls hAt hP hS hl
    obtain ⟨hx, hb, hr, hml, hown, hts, hlk, hE⟩ := id hAt
    exact lv_isub hx hb hd (hK _ _ _ _ h p l e s m args below meth c G cI cJ ad H locs ls hAt hP hS hl)
  next => exact h.elim
theorem me_x_imul {y pc : Nat} {L : List (Option Value)} {st : List Value} {ω : Om} {P : Option Value → Om → Prop} {K : me_K} (hK : ∀ pc L st ω, K pc L st ω → me_W y pc L st ω P) (hd : decode (me_mb y) pc = .ok (.imul, 1)) (h : me_i2 st fun a b r => K (pc + 1) L (.int (a * b) :: r) ω) : me_W y pc L st ω P := by
  unfold me_i2 at h
  split at h
  next b a r =>
    intro p l e s m args below meth c G cI cJ ad H locs ls hAt hP hS hl
    obtain ⟨hx, hb, hr, hml, hown, hts, hlk, hE⟩ := id hAt
    exact lv_imul hx hb hd (hK _ _ _ _ h p l e s m args below meth c G cI cJ ad H locs ls hAt hP hS hl)
  next => exact h.elim
theorem me_x_iand {y pc : Nat} {L : List (Option Value)} {st : List Value} {ω : Om} {P : Option Value → Om → Prop} {K : me_K} (hK : ∀ pc L st ω, K pc L st ω → me_W y pc L st ω P) (hd : decode (me_mb y) pc = .ok (.iand, 1)) (h : me_i2 st fun a b r => K (pc + 1) L (.int (a &&& b) :: r) ω) : me_W y pc L st ω P := by
  unfold me_i2 at h
  split at h
  next b a r =>
    intro p l e s m args below meth c G cI cJ ad H locs ls hAt hP hS hl
    obtain ⟨hx, hb, hr, hml, hown, hts, hlk, hE⟩ := id hAt
    exact lv_iand hx hb hd (hK _ _ _ _ h p l e s m args below meth c G cI cJ ad H locs ls hAt hP hS hl)
  next => exact h.elim
theorem me_x_ior {y pc : Nat} {L : List (Option Value)} {st : List Value} {ω : Om} {P : Option Value → Om → Prop} {K : me_K} (hK : ∀ pc L st ω, K pc L st ω → me_W y pc L st ω P) (hd : decode (me_mb y) pc = .ok (.ior, 1)) (h : me_i2 st fun a b r => K (pc + 1) L (.int (a ||| b) :: r) ω) : me_W y pc L st ω P := by
  unfold me_i2 at h
  split at h
  next b a r =>
    intro p l e s m args below meth c G cI cJ ad H locs ls hAt hP hS hl
    obtain ⟨hx, hb, hr, hml, hown, hts, hlk, hE⟩ := id hAt
    exact lv_ior hx hb hd (hK _ _ _ _ h p l e s m args below meth c G cI cJ ad H locs ls hAt hP hS hl)
  next => exact h.elim
theorem me_x_ixor {y pc : Nat} {L : List (Option Value)} {st : List Value} {ω : Om} {P : Option Value → Om → Prop} {K : me_K} (hK : ∀ pc L st ω, K pc L st ω → me_W y pc L st ω P) (hd : decode (me_mb y) pc = .ok (.ixor, 1)) (h : me_i2 st fun a b r => K (pc + 1) L (.int (a ^^^ b) :: r) ω) : me_W y pc L st ω P := by
  unfold me_i2 at h
  split at h
  next b a r =>
    intro p l e s m args below meth c G cI cJ ad H locs ls hAt hP hS hl
    obtain ⟨hx, hb, hr, hml, hown, hts, hlk, hE⟩ := id hAt
    exact lv_ixor hx hb hd (hK _ _ _ _ h p l e s m args below meth c G cI cJ ad H locs ls hAt hP hS hl)
  next => exact h.elim
theorem me_x_ishl {y pc : Nat} {L : List (Option Value)} {st : List Value} {ω : Om} {P : Option Value → Om → Prop} {K : me_K} (hK : ∀ pc L st ω, K pc L st ω → me_W y pc L st ω P) (hd : decode (me_mb y) pc = .ok (.ishl, 1)) (h : me_i2 st fun a b r => K (pc + 1) L (.int (a <<< (b &&& 31)) :: r) ω) : me_W y pc L st ω P := by
  unfold me_i2 at h
  split at h
  next b a r =>
    intro p l e s m args below meth c G cI cJ ad H locs ls hAt hP hS hl
    obtain ⟨hx, hb, hr, hml, hown, hts, hlk, hE⟩ := id hAt
    exact lv_ishl hx hb hd (hK _ _ _ _ h p l e s m args below meth c G cI cJ ad H locs ls hAt hP hS hl)
  next => exact h.elim
theorem me_x_ishr {y pc : Nat} {L : List (Option Value)} {st : List Value} {ω : Om} {P : Option Value → Om → Prop} {K : me_K} (hK : ∀ pc L st ω, K pc L st ω → me_W y pc L st ω P) (hd : decode (me_mb y) pc = .ok (.ishr, 1)) (h : me_i2 st fun a b r => K (pc + 1) L (.int (a >>> (b &&& 31)) :: r) ω) : me_W y pc L st ω P := by
  unfold me_i2 at h
  split at h
  next b a r =>
    intro p l e s m args below meth c G cI cJ ad H locs ls hAt hP hS hl
    obtain ⟨hx, hb, hr, hml, hown, hts, hlk, hE⟩ := id hAt
    exact lv_ishr hx hb hd (hK _ _ _ _ h p l e s m args below meth c G cI cJ ad H locs ls hAt hP hS hl)
  next => exact h.elim
theorem me_x_iushr {y pc : Nat} {L : List (Option Value)} {st : List Value} {ω : Om} {P : Option Value → Om → Prop} {K : me_K} (hK : ∀ pc L st ω, K pc L st ω → me_W y pc L st ω P) (hd : decode (me_mb y) pc = .ok (.iushr, 1)) (h : me_i2 st fun a b r => K (pc + 1) L (.int ((a.toUInt32 >>> (b.toUInt32 &&& Int32.toUInt32 31)).toInt32) :: r) ω) : me_W y pc L st ω P := by
  unfold me_i2 at h
  split at h
  next b a r =>
    intro p l e s m args below meth c G cI cJ ad H locs ls hAt hP hS hl
    obtain ⟨hx, hb, hr, hml, hown, hts, hlk, hE⟩ := id hAt
    exact lv_iushr hx hb hd rfl (hK _ _ _ _ h p l e s m args below meth c G cI cJ ad H locs ls hAt hP hS hl)
  next => exact h.elim
theorem me_x_idiv {y pc : Nat} {L : List (Option Value)} {st : List Value} {ω : Om} {P : Option Value → Om → Prop} {K : me_K} (hK : ∀ pc L st ω, K pc L st ω → me_W y pc L st ω P) (hd : decode (me_mb y) pc = .ok (.idiv, 1)) (h : me_i2 st fun a b r => ¬ b = 0 ∧ K (pc + 1) L (.int (a / b) :: r) ω) : me_W y pc L st ω P := by
  unfold me_i2 at h
  split at h
  next b a r =>
    intro p l e s m args below meth c G cI cJ ad H locs ls hAt hP hS hl
    obtain ⟨hx, hb, hr, hml, hown, hts, hlk, hE⟩ := id hAt
    exact lv_idiv hx hb hd h.1 (hK _ _ _ _ h.2 p l e s m args below meth c G cI cJ ad H locs ls hAt hP hS hl)
  next => exact h.elim
theorem me_x_irem {y pc : Nat} {L : List (Option Value)} {st : List Value} {ω : Om} {P : Option Value → Om → Prop} {K : me_K} (hK : ∀ pc L st ω, K pc L st ω → me_W y pc L st ω P) (hd : decode (me_mb y) pc = .ok (.irem, 1)) (h : me_i2 st fun a b r => ¬ b = 0 ∧ K (pc + 1) L (.int (a - a / b * b) :: r) ω) : me_W y pc L st ω P := by
  unfold me_i2 at h
  split at h
  next b a r =>
    intro p l e s m args below meth c G cI cJ ad H locs ls hAt hP hS hl
    obtain ⟨hx, hb, hr, hml, hown, hts, hlk, hE⟩ := id hAt
    exact lv_irem hx hb hd h.1 (hK _ _ _ _ h.2 p l e s m args below meth c G cI cJ ad H locs ls hAt hP hS hl)
  next => exact h.elim
theorem me_x_ladd {y pc : Nat} {L : List (Option Value)} {st : List Value} {ω : Om} {P : Option Value → Om → Prop} {K : me_K} (hK : ∀ pc L st ω, K pc L st ω → me_W y pc L st ω P) (hd : decode (me_mb y) pc = .ok (.ladd, 1)) (h : me_j2 st fun a b r => K (pc + 1) L (.long (a + b) :: r) ω) : me_W y pc L st ω P := by
  unfold me_j2 at h
  split at h
  next b a r =>
    intro p l e s m args below meth c G cI cJ ad H locs ls hAt hP hS hl
    obtain ⟨hx, hb, hr, hml, hown, hts, hlk, hE⟩ := id hAt
    exact lv_ladd hx hb hd (hK _ _ _ _ h p l e s m args below meth c G cI cJ ad H locs ls hAt hP hS hl)
  next => exact h.elim
theorem me_x_lsub {y pc : Nat} {L : List (Option Value)} {st : List Value} {ω : Om} {P : Option Value → Om → Prop} {K : me_K} (hK : ∀ pc L st ω, K pc L st ω → me_W y pc L st ω P) (hd : decode (me_mb y) pc = .ok (.lsub, 1)) (h : me_j2 st fun a b r => K (pc + 1) L (.long (a - b) :: r) ω) : me_W y pc L st ω P := by
  unfold me_j2 at h
  split at h
  next b a r =>
    intro p l e s m args below meth c G cI cJ ad H locs ls hAt hP hS hl
    obtain ⟨hx, hb, hr, hml, hown, hts, hlk, hE⟩ := id hAt
    exact lv_lsub hx hb hd (hK _ _ _ _ h p l e s m args below meth c G cI cJ ad H locs ls hAt hP hS hl)
  next => exact h.elim
theorem me_x_lmul {y pc : Nat} {L : List (Option Value)} {st : List Value} {ω : Om} {P : Option Value → Om → Prop} {K : me_K} (hK : ∀ pc L st ω, K pc L st ω → me_W y pc L st ω P) (hd : decode (me_mb y) pc = .ok (.lmul, 1)) (h : me_j2 st fun a b r => K (pc + 1) L (.long (a * b) :: r) ω) : me_W y pc L st ω P := by
  unfold me_j2 at h
  split at h
  next b a r =>
    intro p l e s m args below meth c G cI cJ ad H locs ls hAt hP hS hl
    obtain ⟨hx, hb, hr, hml, hown, hts, hlk, hE⟩ := id hAt
    exact lv_lmul hx hb hd (hK _ _ _ _ h p l e s m args below meth c G cI cJ ad H locs ls hAt hP hS hl)
  next => exact h.elim
theorem me_x_land {y pc : Nat} {L : List (Option Value)} {st : List Value} {ω : Om} {P : Option Value → Om → Prop} {K : me_K} (hK : ∀ pc L st ω, K pc L st ω → me_W y pc L st ω P) (hd : decode (me_mb y) pc = .ok (.land, 1)) (h : me_j2 st fun a b r => K (pc + 1) L (.long (a &&& b) :: r) ω) : me_W y pc L st ω P := by
  unfold me_j2 at h
  split at h
  next b a r =>
    intro p l e s m args below meth c G cI cJ ad H locs ls hAt hP hS hl
    obtain ⟨hx, hb, hr, hml, hown, hts, hlk, hE⟩ := id hAt
    exact lv_land hx hb hd (hK _ _ _ _ h p l e s m args below meth c G cI cJ ad H locs ls hAt hP hS hl)
  next => exact h.elim
theorem me_x_ldiv {y pc : Nat} {L : List (Option Value)} {st : List Value} {ω : Om} {P : Option Value → Om → Prop} {K : me_K} (hK : ∀ pc L st ω, K pc L st ω → me_W y pc L st ω P) (hd : decode (me_mb y) pc = .ok (.ldiv, 1)) (h : me_j2 st fun a b r => ¬ b = 0 ∧ K (pc + 1) L (.long (a / b) :: r) ω) : me_W y pc L st ω P := by
  unfold me_j2 at h
  split at h
  next b a r =>
    intro p l e s m args below meth c G cI cJ ad H locs ls hAt hP hS hl
    obtain ⟨hx, hb, hr, hml, hown, hts, hlk, hE⟩ := id hAt
    exact lv_ldiv hx hb hd h.1 (hK _ _ _ _ h.2 p l e s m args below meth c G cI cJ ad H locs ls hAt hP hS hl)
  next => exact h.elim
theorem me_x_lrem {y pc : Nat} {L : List (Option Value)} {st : List Value} {ω : Om} {P : Option Value → Om → Prop} {K : me_K} (hK : ∀ pc L st ω, K pc L st ω → me_W y pc L st ω P) (hd : decode (me_mb y) pc = .ok (.lrem, 1)) (h : me_j2 st fun a b r => ¬ b = 0 ∧ K (pc + 1) L (.long (a - a / b * b) :: r) ω) : me_W y pc L st ω P := by
  unfold me_j2 at h
  split at h
  next b a r =>
    intro p l e s m args below meth c G cI cJ ad H locs ls hAt hP hS hl
    obtain ⟨hx, hb, hr, hml, hown, hts, hlk, hE⟩ := id hAt
    exact lv_lrem hx hb hd h.1 (hK _ _ _ _ h.2 p l e s m args below meth c G cI cJ ad H locs ls hAt hP hS hl)
  next => exact h.elim
theorem me_x_lneg {y pc : Nat} {L : List (Option Value)} {st : List Value} {ω : Om} {P : Option Value → Om → Prop} {K : me_K} (hK : ∀ pc L st ω, K pc L st ω → me_W y pc L st ω P) (hd : decode (me_mb y) pc = .ok (.lneg, 1)) (h : me_j1 st fun a r => K (pc + 1) L (.long (-a) :: r) ω) : me_W y pc L st ω P := by
  unfold me_j1 at h
  split at h
  next a r =>
    intro p l e s m args below meth c G cI cJ ad H locs ls hAt hP hS hl
    obtain ⟨hx, hb, hr, hml, hown, hts, hlk, hE⟩ := id hAt
    exact lv_lneg hx hb hd (hK _ _ _ _ h p l e s m args below meth c G cI cJ ad H locs ls hAt hP hS hl)
  next => exact h.elim
theorem me_x_lcmp {y pc : Nat} {L : List (Option Value)} {st : List Value} {ω : Om} {P : Option Value → Om → Prop} {K : me_K} (hK : ∀ pc L st ω, K pc L st ω → me_W y pc L st ω P) (hd : decode (me_mb y) pc = .ok (.lcmp, 1)) (h : me_j2 st fun a b r => K (pc + 1) L (.int (lg_cmp a b) :: r) ω) : me_W y pc L st ω P := by
  unfold me_j2 at h
  split at h
  next b a r =>
    intro p l e s m args below meth c G cI cJ ad H locs ls hAt hP hS hl
    obtain ⟨hx, hb, hr, hml, hown, hts, hlk, hE⟩ := id hAt
    exact W.lcmp hx hb hd (hK _ _ _ _ h p l e s m args below meth c G cI cJ ad H locs ls hAt hP hS hl)
  next => exact h.elim
theorem me_x_lushr {y pc : Nat} {L : List (Option Value)} {st : List Value} {ω : Om} {P : Option Value → Om → Prop} {K : me_K} (hK : ∀ pc L st ω, K pc L st ω → me_W y pc L st ω P) (hd : decode (me_mb y) pc = .ok (.lushr, 1)) (h : me_ji st fun a b r => K (pc + 1) L (.long ((a.toUInt64 >>> (b.toInt64.toUInt64 &&& Int64.toUInt64 63)).toInt64) :: r) ω) : me_W y pc L st ω P := by
  unfold me_ji at h
  split at h
  next b a r =>
    intro p l e s m args below meth c G cI cJ ad H locs ls hAt hP hS hl
    obtain ⟨hx, hb, hr, hml, hown, hts, hlk, hE⟩ := id hAt
    exact lv_lushr hx hb hd rfl (hK _ _ _ _ h p l e s m args below meth c G cI cJ ad H locs ls hAt hP hS hl)
  next => exact h.elim
theorem me_x_i2l {y pc : Nat} {L : List (Option Value)} {st : List Value} {ω : Om} {P : Option Value → Om → Prop} {K : me_K} (hK : ∀ pc L st ω, K pc L st ω → me_W y pc L st ω P) (hd : decode (me_mb y) pc = .ok (.i2l, 1)) (h : me_i1 st fun a r => K (pc + 1) L (.long a.toInt64 :: r) ω) : me_W y pc L st ω P := by
  unfold me_i1 at h
  split at h
  next a r =>
    intro p l e s m args below meth c G cI cJ ad H locs ls hAt hP hS hl
    obtain ⟨hx, hb, hr, hml, hown, hts, hlk, hE⟩ := id hAt
    exact lv_i2l hx hb hd rfl (hK _ _ _ _ h p l e s m args below meth c G cI cJ ad H locs ls hAt hP hS hl)
  next => exact h.elim
theorem me_x_l2i {y pc : Nat} {L : List (Option Value)} {st : List Value} {ω : Om} {P : Option Value → Om → Prop} {K : me_K} (hK : ∀ pc L st ω, K pc L st ω → me_W y pc L st ω P) (hd : decode (me_mb y) pc = .ok (.l2i, 1)) (h : me_j1 st fun a r => K (pc + 1) L (.int a.toInt32 :: r) ω) : me_W y pc L st ω P := by
  unfold me_j1 at h
  split at h
  next a r =>
    intro p l e s m args below meth c G cI cJ ad H locs ls hAt hP hS hl
    obtain ⟨hx, hb, hr, hml, hown, hts, hlk, hE⟩ := id hAt
    exact lv_l2i hx hb hd rfl (hK _ _ _ _ h p l e s m args below meth c G cI cJ ad H locs ls hAt hP hS hl)
  next => exact h.elim
theorem me_x_dup {y pc : Nat} {L : List (Option Value)} {st : List Value} {ω : Om} {P : Option Value → Om → Prop} {K : me_K} (hK : ∀ pc L st ω, K pc L st ω → me_W y pc L st ω P) (hd : decode (me_mb y) pc = .ok (.dup, 1)) (h : me_du st fun r => K (pc + 1) L r ω) : me_W y pc L st ω P := by
  unfold me_du at h
  split at h
  next v r =>
    intro p l e s m args below meth c G cI cJ ad H locs ls hAt hP hS hl
    obtain ⟨hx, hb, hr, hml, hown, hts, hlk, hE⟩ := id hAt
    split at h
    next hc => exact lv_dup hx hb hd (by rw [me_rn_cat]; exact eq_of_beq hc) (hK _ _ _ _ h p l e s m args below meth c G cI cJ ad H locs ls hAt hP hS hl)
    next => exact h.elim
  next => exact h.elim
theorem me_x_dup2 {y pc : Nat} {L : List (Option Value)} {st : List Value} {ω : Om} {P : Option Value → Om → Prop} {K : me_K} (hK : ∀ pc L st ω, K pc L st ω → me_W y pc L st ω P) (hd : decode (me_mb y) pc = .ok (.dup2, 1)) (h : me_d2 st fun r => K (pc + 1) L r ω) : me_W y pc L st ω P := by
  unfold me_d2 at h
  split at h
  next v w r =>
    intro p l e s m args below meth c G cI cJ ad H locs ls hAt hP hS hl
    obtain ⟨hx, hb, hr, hml, hown, hts, hlk, hE⟩ := id hAt
    split at h
    next hc =>
      simp only [Bool.and_eq_true] at hc
      exact lv_dup2_11 hx hb hd (by rw [me_rn_cat]; exact eq_of_beq hc.1) (by rw [me_rn_cat]; exact eq_of_beq hc.2) (hK _ _ _ _ h p l e s m args below meth c G cI cJ ad H locs ls hAt hP hS hl)
    next => exact h.elim
  next => exact h.elim
theorem me_x_pop2 {y pc : Nat} {L : List (Option Value)} {st : List Value} {ω : Om} {P : Option Value → Om → Prop} {K : me_K} (hK : ∀ pc L st ω, K pc L st ω → me_W y pc L st ω P) (hd : decode (me_mb y) pc = .ok (.pop2, 1)) (h : me_p2 st fun r => K (pc + 1) L r ω) : me_W y pc L st ω P := by
  unfold me_p2 at h
  split at h
  next v r =>
    intro p l e s m args below meth c G cI cJ ad H locs ls hAt hP hS hl
    obtain ⟨hx, hb, hr, hml, hown, hts, hlk, hE⟩ := id hAt
    split at h
    next hc => exact lv_pop2_2 hx hb hd (by rw [me_rn_cat]; exact eq_of_beq hc) (hK _ _ _ _ h p l e s m args below meth c G cI cJ ad H locs ls hAt hP hS hl)
    next => exact h.elim
  next => exact h.elim
theorem me_tg_ok {pc : Nat} {o : Int} (h : 0 ≤ (pc : Int) + o) : (pc : Int) + o = ((me_tg pc o : Nat) : Int) := by
  unfold me_tg
  omega
theorem me_x_goto {y pc : Nat} {L : List (Option Value)} {st : List Value} {ω : Om} {P : Option Value → Om → Prop} {K : me_K} (hK : ∀ pc L st ω, K pc L st ω → me_W y pc L st ω P) {o : Int} (hd : decode (me_mb y) pc = .ok (.goto o, 3)) (ht : 0 ≤ (pc : Int) + o) (h : K (me_tg pc o) L st ω) : me_W y pc L st ω P := by
  intro p l e s m args below meth c G cI cJ ad H locs ls hAt hP hS hl
  obtain ⟨hx, hb, hr, hml, hown, hts, hlk, hE⟩ := id hAt
  exact lv_goto hx hb hd (me_tg_ok ht) (hK _ _ _ _ h p l e s m args below meth c G cI cJ ad H locs ls hAt hP hS hl)
theorem me_x_if_eq {y pc : Nat} {L : List (Option Value)} {st : List Value} {ω : Om} {P : Option Value → Om → Prop} {K : me_K} (hK : ∀ pc L st ω, K pc L st ω → me_W y pc L st ω P) {o : Int} (hd : decode (me_mb y) pc = .ok (.ifCond .eq o, 3)) (ht : 0 ≤ (pc : Int) + o) (h : me_i1 st fun a r => me_br (a = 0) (K (me_tg pc o) L r ω) (K (pc + 3) L r ω)) : me_W y pc L st ω P := by
  unfold me_i1 at h
  split at h
  next a r =>
    intro p l e s m args below meth c G cI cJ ad H locs ls hAt hP hS hl
    obtain ⟨hx, hb, hr, hml, hown, hts, hlk, hE⟩ := id hAt
    exact lv_if_eq hx hb hd (me_tg_ok ht) (fun q => hK _ _ _ _ (h.1 q) p l e s m args below meth c G cI cJ ad H locs ls hAt hP hS hl) (fun q => hK _ _ _ _ (h.2 q) p l e s m args below meth c G cI cJ ad H locs ls hAt hP hS hl)
  next => exact h.elim
theorem me_x_if_ne {y pc : Nat} {L : List (Option Value)} {st : List Value} {ω : Om} {P : Option Value → Om → Prop} {K : me_K} (hK : ∀ pc L st ω, K pc L st ω → me_W y pc L st ω P) {o : Int} (hd : decode (me_mb y) pc = .ok (.ifCond .ne o, 3)) (ht : 0 ≤ (pc : Int) + o) (h : me_i1 st fun a r => me_br (a = 0) (K (pc + 3) L r ω) (K (me_tg pc o) L r ω)) : me_W y pc L st ω P := by
  unfold me_i1 at h
  split at h
  next a r =>
    intro p l e s m args below meth c G cI cJ ad H locs ls hAt hP hS hl
    obtain ⟨hx, hb, hr, hml, hown, hts, hlk, hE⟩ := id hAt
    exact lv_if_ne hx hb hd (me_tg_ok ht) (fun q => hK _ _ _ _ (h.2 q) p l e s m args below meth c G cI cJ ad H locs ls hAt hP hS hl) (fun q => hK _ _ _ _ (h.1 q) p l e s m args below meth c G cI cJ ad H locs ls hAt hP hS hl)
  next => exact h.elim
theorem me_x_if_lt {y pc : Nat} {L : List (Option Value)} {st : List Value} {ω : Om} {P : Option Value → Om → Prop} {K : me_K} (hK : ∀ pc L st ω, K pc L st ω → me_W y pc L st ω P) {o : Int} (hd : decode (me_mb y) pc = .ok (.ifCond .lt o, 3)) (ht : 0 ≤ (pc : Int) + o) (h : me_i1 st fun a r => me_br (a < 0) (K (me_tg pc o) L r ω) (K (pc + 3) L r ω)) : me_W y pc L st ω P := by
  unfold me_i1 at h
  split at h
  next a r =>
    intro p l e s m args below meth c G cI cJ ad H locs ls hAt hP hS hl
    obtain ⟨hx, hb, hr, hml, hown, hts, hlk, hE⟩ := id hAt
    exact lv_if_lt hx hb hd (me_tg_ok ht) (fun q => hK _ _ _ _ (h.1 q) p l e s m args below meth c G cI cJ ad H locs ls hAt hP hS hl) (fun q => hK _ _ _ _ (h.2 q) p l e s m args below meth c G cI cJ ad H locs ls hAt hP hS hl)
  next => exact h.elim
theorem me_x_if_ge {y pc : Nat} {L : List (Option Value)} {st : List Value} {ω : Om} {P : Option Value → Om → Prop} {K : me_K} (hK : ∀ pc L st ω, K pc L st ω → me_W y pc L st ω P) {o : Int} (hd : decode (me_mb y) pc = .ok (.ifCond .ge o, 3)) (ht : 0 ≤ (pc : Int) + o) (h : me_i1 st fun a r => me_br (0 ≤ a) (K (me_tg pc o) L r ω) (K (pc + 3) L r ω)) : me_W y pc L st ω P := by
  unfold me_i1 at h
  split at h
  next a r =>
    intro p l e s m args below meth c G cI cJ ad H locs ls hAt hP hS hl
    obtain ⟨hx, hb, hr, hml, hown, hts, hlk, hE⟩ := id hAt
    exact lv_if_ge hx hb hd (me_tg_ok ht) (fun q => hK _ _ _ _ (h.1 q) p l e s m args below meth c G cI cJ ad H locs ls hAt hP hS hl) (fun q => hK _ _ _ _ (h.2 q) p l e s m args below meth c G cI cJ ad H locs ls hAt hP hS hl)
  next => exact h.elim
theorem me_x_if_gt {y pc : Nat} {L : List (Option Value)} {st : List Value} {ω : Om} {P : Option Value → Om → Prop} {K : me_K} (hK : ∀ pc L st ω, K pc L st ω → me_W y pc L st ω P) {o : Int} (hd : decode (me_mb y) pc = .ok (.ifCond .gt o, 3)) (ht : 0 ≤ (pc : Int) + o) (h : me_i1 st fun a r => me_br (0 < a) (K (me_tg pc o) L r ω) (K (pc + 3) L r ω)) : me_W y pc L st ω P := by
  unfold me_i1 at h
  split at h
  next a r =>
    intro p l e s m args below meth c G cI cJ ad H locs ls hAt hP hS hl
    obtain ⟨hx, hb, hr, hml, hown, hts, hlk, hE⟩ := id hAt
    exact lv_if_gt hx hb hd (me_tg_ok ht) (fun q => hK _ _ _ _ (h.1 q) p l e s m args below meth c G cI cJ ad H locs ls hAt hP hS hl) (fun q => hK _ _ _ _ (h.2 q) p l e s m args below meth c G cI cJ ad H locs ls hAt hP hS hl)
  next => exact h.elim
theorem me_x_if_le {y pc : Nat} {L : List (Option Value)} {st : List Value} {ω : Om} {P : Option Value → Om → Prop} {K : me_K} (hK : ∀ pc L st ω, K pc L st ω → me_W y pc L st ω P) {o : Int} (hd : decode (me_mb y) pc = .ok (.ifCond .le o, 3)) (ht : 0 ≤ (pc : Int) + o) (h : me_i1 st fun a r => me_br (a ≤ 0) (K (me_tg pc o) L r ω) (K (pc + 3) L r ω)) : me_W y pc L st ω P := by
  unfold me_i1 at h
  split at h
  next a r =>
    intro p l e s m args below meth c G cI cJ ad H locs ls hAt hP hS hl
    obtain ⟨hx, hb, hr, hml, hown, hts, hlk, hE⟩ := id hAt
    exact lv_if_le hx hb hd (me_tg_ok ht) (fun q => hK _ _ _ _ (h.1 q) p l e s m args below meth c G cI cJ ad H locs ls hAt hP hS hl) (fun q => hK _ _ _ _ (h.2 q) p l e s m args below meth c G cI cJ ad H locs ls hAt hP hS hl)
  next => exact h.elim
theorem me_x_icmp_eq {y pc : Nat} {L : List (Option Value)} {st : List Value} {ω : Om} {P : Option Value → Om → Prop} {K : me_K} (hK : ∀ pc L st ω, K pc L st ω → me_W y pc L st ω P) {o : Int} (hd : decode (me_mb y) pc = .ok (.if_icmp .eq o, 3)) (ht : 0 ≤ (pc : Int) + o) (h : me_i2 st fun a b r => me_br (a = b) (K (me_tg pc o) L r ω) (K (pc + 3) L r ω)) : me_W y pc L st ω P := by
  unfold me_i2 at h
  split at h
  next b a r =>
    intro p l e s m args below meth c G cI cJ ad H locs ls hAt hP hS hl
    obtain ⟨hx, hb, hr, hml, hown, hts, hlk, hE⟩ := id hAt
    exact lv_icmp_eq hx hb hd (me_tg_ok ht) (fun q => hK _ _ _ _ (h.1 q) p l e s m args below meth c G cI cJ ad H locs ls hAt hP hS hl) (fun q => hK _ _ _ _ (h.2 q) p l e s m args below meth c G cI cJ ad H locs ls hAt hP hS hl)
  next => exact h.elim
theorem me_x_icmp_ne {y pc : Nat} {L : List (Option Value)} {st : List Value} {ω : Om} {P : Option Value → Om → Prop} {K : me_K} (hK : ∀ pc L st ω, K pc L st ω → me_W y pc L st ω P) {o : Int} (hd : decode (me_mb y) pc = .ok (.if_icmp .ne o, 3)) (ht : 0 ≤ (pc : Int) + o) (h : me_i2 st fun a b r => me_br (a = b) (K (pc + 3) L r ω) (K (me_tg pc o) L r ω)) : me_W y pc L st ω P := by
  unfold me_i2 at h
  split at h
  next b a r =>
    intro p l e s m args below meth c G cI cJ ad H locs ls hAt hP hS hl
    obtain ⟨hx, hb, hr, hml, hown, hts, hlk, hE⟩ := id hAt
    exact lv_icmp_ne hx hb hd (me_tg_ok ht) (fun q => hK _ _ _ _ (h.2 q) p l e s m args below meth c G cI cJ ad H locs ls hAt hP hS hl) (fun q => hK _ _ _ _ (h.1 q) p l e s m args below meth c G cI cJ ad H locs ls hAt hP hS hl)
  next => exact h.elim
theorem me_x_icmp_lt {y pc : Nat} {L : List (Option Value)} {st : List Value} {ω : Om} {P : Option Value → Om → Prop} {K : me_K} (hK : ∀ pc L st ω, K pc L st ω → me_W y pc L st ω P) {o : Int} (hd : decode (me_mb y) pc = .ok (.if_icmp .lt o, 3)) (ht : 0 ≤ (pc : Int) + o) (h : me_i2 st fun a b r => me_br (a < b) (K (me_tg pc o) L r ω) (K (pc + 3) L r ω)) : me_W y pc L st ω P := by
  unfold me_i2 at h
  split at h
  next b a r =>
    intro p l e s m args below meth c G cI cJ ad H locs ls hAt hP hS hl
    obtain ⟨hx, hb, hr, hml, hown, hts, hlk, hE⟩ := id hAt
    exact lv_icmp_lt hx hb hd (me_tg_ok ht) (fun q => hK _ _ _ _ (h.1 q) p l e s m args below meth c G cI cJ ad H locs ls hAt hP hS hl) (fun q => hK _ _ _ _ (h.2 q) p l e s m args below meth c G cI cJ ad H locs ls hAt hP hS hl)
  next => exact h.elim
theorem me_x_icmp_ge {y pc : Nat} {L : List (Option Value)} {st : List Value} {ω : Om} {P : Option Value → Om → Prop} {K : me_K} (hK : ∀ pc L st ω, K pc L st ω → me_W y pc L st ω P) {o : Int} (hd : decode (me_mb y) pc = .ok (.if_icmp .ge o, 3)) (ht : 0 ≤ (pc : Int) + o) (h : me_i2 st fun a b r => me_br (b ≤ a) (K (me_tg pc o) L r ω) (K (pc + 3) L r ω)) : me_W y pc L st ω P := by
  unfold me_i2 at h
  split at h
  next b a r =>
    intro p l e s m args below meth c G cI cJ ad H locs ls hAt hP hS hl
    obtain ⟨hx, hb, hr, hml, hown, hts, hlk, hE⟩ := id hAt
    exact lv_icmp_ge hx hb hd (me_tg_ok ht) (fun q => hK _ _ _ _ (h.1 q) p l e s m args below meth c G cI cJ ad H locs ls hAt hP hS hl) (fun q => hK _ _ _ _ (h.2 q) p l e s m args below meth c G cI cJ ad H locs ls hAt hP hS hl)
  next => exact h.elim
theorem me_x_icmp_gt {y pc : Nat} {L : List (Option Value)} {st : List Value} {ω : Om} {P : Option Value → Om → Prop} {K : me_K} (hK : ∀ pc L st ω, K pc L st ω → me_W y pc L st ω P) {o : Int} (hd : decode (me_mb y) pc = .ok (.if_icmp .gt o, 3)) (ht : 0 ≤ (pc : Int) + o) (h : me_i2 st fun a b r => me_br (b < a) (K (me_tg pc o) L r ω) (K (pc + 3) L r ω)) : me_W y pc L st ω P := by
  unfold me_i2 at h
  split at h
  next b a r =>
    intro p l e s m args below meth c G cI cJ ad H locs ls hAt hP hS hl
    obtain ⟨hx, hb, hr, hml, hown, hts, hlk, hE⟩ := id hAt
    exact lv_icmp_gt hx hb hd (me_tg_ok ht) (fun q => hK _ _ _ _ (h.1 q) p l e s m args below meth c G cI cJ ad H locs ls hAt hP hS hl) (fun q => hK _ _ _ _ (h.2 q) p l e s m args below meth c G cI cJ ad H locs ls hAt hP hS hl)
  next => exact h.elim
theorem me_x_icmp_le {y pc : Nat} {L : List (Option Value)} {st : List Value} {ω : Om} {P : Option Value → Om → Prop} {K : me_K} (hK : ∀ pc L st ω, K pc L st ω → me_W y pc L st ω P) {o : Int} (hd : decode (me_mb y) pc = .ok (.if_icmp .le o, 3)) (ht : 0 ≤ (pc : Int) + o) (h : me_i2 st fun a b r => me_br (a ≤ b) (K (me_tg pc o) L r ω) (K (pc + 3) L r ω)) : me_W y pc L st ω P := by
  unfold me_i2 at h
  split at h
  next b a r =>
    intro p l e s m args below meth c G cI cJ ad H locs ls hAt hP hS hl
    obtain ⟨hx, hb, hr, hml, hown, hts, hlk, hE⟩ := id hAt
    exact lv_icmp_le hx hb hd (me_tg_ok ht) (fun q => hK _ _ _ _ (h.1 q) p l e s m args below meth c G cI cJ ad H locs ls hAt hP hS hl) (fun q => hK _ _ _ _ (h.2 q) p l e s m args below meth c G cI cJ ad H locs ls hAt hP hS hl)
  next => exact h.elim
end
